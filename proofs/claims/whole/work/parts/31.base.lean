/-! BASICS: bits (out of the rows to paste), answers, ranges -/
def bt (x : Int32) (i : Nat) : Bool := x.toBitVec.getLsbD i
theorem b_ext {x y : Int32} (h : ∀ i, i < 32 → bt x i = bt y i) : x = y := Int32.toBitVec_inj.mp (BitVec.eq_of_getLsbD_eq (fun i hi => h i hi))
theorem b_or (x y : Int32) (i : Nat) : bt (x ||| y) i = (bt x i || bt y i) := by unfold bt; rw [Int32.toBitVec_or, BitVec.getLsbD_or]
theorem b_and (x y : Int32) (i : Nat) : bt (x &&& y) i = (bt x i && bt y i) := by unfold bt; rw [Int32.toBitVec_and, BitVec.getLsbD_and]
theorem b_xor (x y : Int32) (i : Nat) : bt (x ^^^ y) i = (bt x i ^^ bt y i) := by unfold bt; rw [Int32.toBitVec_xor, BitVec.getLsbD_xor]
theorem b_big {x : Int32} {i : Nat} (h : 32 ≤ i) : bt x i = false := BitVec.getLsbD_of_ge _ _ h
theorem b_m1 : ∀ i, i < 32 → bt (-1) i = true := by decide +kernel
theorem b_0 (i : Nat) : bt 0 i = false := BitVec.getLsbD_zero
theorem s_l : ∀ n, n < 32 → ((nI n &&& 31).toBitVec.smod 32).toNat = n := by decide +kernel
theorem s_u : ∀ n, n < 32 → (((nI n).toUInt32 &&& Int32.toUInt32 31).toBitVec % 32).toNat = n := by decide +kernel
theorem b_shl (n : Nat) (hn : n < 32) (x : Int32) {i : Nat} (hi : i < 32) : bt (x <<< (nI n &&& 31)) i = (decide (n ≤ i) && bt x (i - n)) := by
  unfold bt
  rw [Int32.toBitVec_shiftLeft]
  show (x.toBitVec <<< ((nI n &&& 31).toBitVec.smod 32).toNat).getLsbD i = _
  rw [s_l n hn, BitVec.getLsbD_shiftLeft]
  rcases Nat.lt_or_ge i n with h | h
  · simp [h, Nat.not_le.mpr h]
  · simp [hi, h, Nat.not_lt.mpr h]
theorem b_ushr (n : Nat) (hn : n < 32) (x : Int32) (i : Nat) : bt ((x.toUInt32 >>> ((nI n).toUInt32 &&& Int32.toUInt32 31)).toInt32) i = bt x (n + i) := by
  show (x.toUInt32 >>> ((nI n).toUInt32 &&& Int32.toUInt32 31)).toBitVec.getLsbD i = x.toUInt32.toBitVec.getLsbD (n + i)
  rw [UInt32.toBitVec_shiftRight]
  show (x.toUInt32.toBitVec >>> (((nI n).toUInt32 &&& Int32.toUInt32 31).toBitVec % 32).toNat).getLsbD i = _
  rw [s_u n hn, BitVec.getLsbD_ushiftRight]
theorem b_sshr (n : Nat) (hn : n < 32) (x : Int32) {i : Nat} (hi : i < 32) : bt (x >>> (nI n &&& 31)) i = if n + i < 32 then bt x (n + i) else bt x 31 := by
  unfold bt
  rw [Int32.toBitVec_shiftRight]
  show (x.toBitVec.sshiftRight ((nI n &&& 31).toBitVec.smod 32).toNat).getLsbD i = _
  rw [s_l n hn, BitVec.getLsbD_sshiftRight, BitVec.msb_eq_getLsbD_last]
  simp [hi]
theorem pb_i (pc : Nat) (L st : List Value) (h : PHp) (cs ss : Nat) (v : Value) (h' : PHp) : pm_back (pc, L, st, h, cs, ss) (some v, h') = (pc, L, v :: st, h', cs, ss) := rfl
theorem pb_n (pc : Nat) (L st : List Value) (h : PHp) (cs ss : Nat) (h' : PHp) : pm_back (pc, L, st, h, cs, ss) (none, h') = (pc, L, st, h', cs, ss) := rfl
def bI (p : Prop) [Decidable p] : Int32 := if p then 1 else 0
theorem bI_t {p : Prop} [Decidable p] (h : p) : bI p = 1 := if_pos h
theorem bI_f {p : Prop} [Decidable p] (h : ¬ p) : bI p = 0 := if_neg h
theorem bI_0 {p : Prop} [Decidable p] : bI p = 0 ↔ ¬ p := by
  unfold bI
  by_cases h : p
  · rw [if_pos h]; exact ⟨fun e => absurd e (by decide), fun e => absurd h e⟩
  · rw [if_neg h]; exact ⟨fun _ => h, fun _ => rfl⟩
theorem bI_nar (p : Prop) [Decidable p] : pm_nar 2 (bI p) = bI p := by
  unfold bI; by_cases h : p
  · rw [if_pos h]; decide
  · rw [if_neg h]; decide
theorem bI_cong {p q : Prop} [Decidable p] [Decidable q] (h : p ↔ q) : bI p = bI q := by
  unfold bI; by_cases hp : p
  · rw [if_pos hp, if_pos (h.mp hp)]
  · rw [if_neg hp, if_neg (fun e => hp (h.mpr e))]
theorem x_lt {a b : Int32} : a < b ↔ a.toInt < b.toInt := Int32.lt_iff_toInt_lt
theorem x_le {a b : Int32} : a ≤ b ↔ a.toInt ≤ b.toInt := Int32.le_iff_toInt_le
theorem pin_ex {i : Int32} {n : Nat} (hn : n < 2 ^ 31) (h : pin i n) : ∃ k, k < n ∧ i = nI k := by
  refine ⟨i.toInt.toNat, by have := h.1; have := h.2; omega, ?_⟩
  apply Int32.toInt_inj.mp
  rw [nI_toInt (by have := h.1; have := h.2; omega)]
  have := h.1; omega
theorem x_bit {s : Int32} {n : Nat} (hn : n < 32) : ((s >>> (nI n &&& 31)) &&& 1) = bI (bt s n = true) := by
  apply b_ext
  intro i hi
  rw [b_and, b_sshr n hn s hi]
  have h1 : bt 1 i = decide (i = 0) := by
    have := (by decide +kernel : ∀ j, j < 32 → bt 1 j = decide (j = 0))
    exact this i hi
  rw [h1]
  by_cases h : i = 0
  · subst h
    simp only [Nat.add_zero, hn, if_true, decide_true, Bool.and_true]
    cases hb : bt s n
    · rw [bI_f (by decide), b_0]
    · rw [bI_t rfl]; decide
  · simp only [h, decide_false, Bool.and_false]
    cases hb : bt s n
    · rw [bI_f (by decide), b_0]
    · rw [bI_t rfl]; rw [h1]; simp [h]
theorem x_one {n i : Nat} (hn : n < 32) (hi : i < 32) : bt ((1 : Int32) <<< (nI n &&& 31)) i = decide (i = n) := by
  rw [b_shl n hn 1 hi]
  have := (by decide +kernel : ∀ j, j < 32 → bt 1 j = decide (j = 0)) (i - n) (by omega)
  rw [this]
  by_cases h : i = n
  · subst h; simp
  · by_cases h2 : n ≤ i
    · have : ¬ i - n = 0 := by omega
      simp [h, this]
    · simp [h, h2]
theorem x_cmp1 (a b : Int64) : lg_cmp a b < 0 ↔ a.toInt < b.toInt := by
  rw [← Int64.lt_iff_toInt_lt]
  unfold lg_cmp
  have hlt : ∀ x y : Int64, x < y ↔ x.toInt < y.toInt := fun x y => Int64.lt_iff_toInt_lt
  by_cases h1 : a > b
  · rw [if_pos h1]
    have h1' : b.toInt < a.toInt := (hlt _ _).mp h1
    exact ⟨fun e => absurd e (by decide), fun e => by have := (hlt _ _).mp e; omega⟩
  · rw [if_neg h1]
    by_cases h2 : a = b
    · rw [if_pos h2]; subst h2
      exact ⟨fun e => absurd e (by decide), fun e => by have := (hlt _ _).mp e; omega⟩
    · rw [if_neg h2]
      refine ⟨fun _ => ?_, fun _ => by decide⟩
      have h1' : ¬ b.toInt < a.toInt := fun e => h1 ((hlt _ _).mpr e)
      have h2' : a.toInt ≠ b.toInt := fun e => h2 (Int64.toInt_inj.mp e)
      exact (hlt _ _).mpr (by omega)
theorem x_cmp2 (a b : Int64) : 0 < lg_cmp a b ↔ b.toInt < a.toInt := by
  have hlt : ∀ x y : Int64, x < y ↔ x.toInt < y.toInt := fun x y => Int64.lt_iff_toInt_lt
  unfold lg_cmp
  by_cases h1 : a > b
  · rw [if_pos h1]
    exact ⟨fun _ => (hlt _ _).mp h1, fun _ => by decide⟩
  · rw [if_neg h1]
    have h1' : ¬ b.toInt < a.toInt := fun e => h1 ((hlt _ _).mpr e)
    by_cases h2 : a = b
    · rw [if_pos h2]; exact ⟨fun e => absurd e (by decide), fun e => absurd e h1'⟩
    · rw [if_neg h2]; exact ⟨fun e => absurd e (by decide), fun e => absurd e h1'⟩
/-! the small methods -/
theorem c_within {X : Nat × (Nat → Int32)} {Mi : MI} {Ml : ML} (a b : Int32) {n : Nat} (hb : b.toInt = (n : Int)) : pD X m_CT_within [.int a, .int b] (sh0, Mi, Ml, mr0) = some (some (.int (bI (pin a n))), (sh0, Mi, Ml, mr0)) := by
  rw [d_CT_within]
  by_cases h1 : a < 0
  · rw [if_pos h1, bI_f]
    intro h; have := x_lt.mp h1; have e : (0 : Int32).toInt = 0 := rfl; have := h.1; omega
  · rw [if_neg h1]
    have h1' : ¬ a.toInt < 0 := fun e => h1 (x_lt.mpr e)
    by_cases h2 : a < b
    · rw [if_pos h2, bI_t]
      have := x_lt.mp h2; exact ⟨by omega, by omega⟩
    · rw [if_neg h2, bI_f]
      intro h; exact h2 (x_lt.mpr (by have := h.2; omega))
theorem c_isDay {X : Nat × (Nat → Int32)} {Mi : MI} {Ml : ML} (a : Int32) : pD X m_CT_isDay [.int a] (sh0, Mi, Ml, mr0) = some (some (.int (bI (pin a 20001))), (sh0, Mi, Ml, mr0)) := by
  rw [d_CT_isDay, c_within a 20001 (n := 20001) rfl, Option.bind_some, pb_i, e_CT_isDay_7, if_pos (bI_nar _)]
theorem x_set (a : Int32) : (a &&& (-1073741824)) = 0 ↔ pin a 1073741824 := by
  constructor
  · intro h
    have h2 : a = a &&& 1073741823 := by
      apply b_ext; intro i hi
      have e : bt (a &&& (-1073741824)) i = false := by rw [h, b_0]
      rw [b_and] at e ⊢
      have q : bt (-1073741824) i = !(bt 1073741823 i) := by
        have := (by decide +kernel : ∀ j, j < 32 → bt (-1073741824) j = !(bt 1073741823 j))
        exact this i hi
      rw [q] at e
      revert e; cases bt a i <;> cases bt 1073741823 i <;> simp
    have h3 : a.toBitVec.toNat < 1073741824 := by
      rw [h2, Int32.toBitVec_and, BitVec.toNat_and]
      exact Nat.lt_of_le_of_lt Nat.and_le_right (by decide)
    have h4 : a.toInt = (a.toBitVec.toNat : Int) := by
      show a.toBitVec.toInt = _
      rw [BitVec.toInt_eq_toNat_of_lt (by omega)]
    exact ⟨by omega, by omega⟩
  · intro h
    have h4 : a.toBitVec.toNat < 1073741824 := by
      obtain ⟨k, hk, e⟩ := pin_ex (by decide) h
      rw [e]; show (BitVec.ofNat 32 k).toNat < _
      rw [BitVec.toNat_ofNat]; exact Nat.lt_of_le_of_lt (Nat.mod_le _ _) hk
    apply Int32.toBitVec_inj.mp
    apply BitVec.eq_of_getLsbD_eq
    intro i hi
    rw [Int32.toBitVec_and, BitVec.getLsbD_and]
    have q : bt (-1073741824) i = decide (30 ≤ i) := by
      have := (by decide +kernel : ∀ j, j < 32 → bt (-1073741824) j = decide (30 ≤ j))
      exact this i hi
    have z : (0 : Int32).toBitVec.getLsbD i = false := b_0 i
    rw [z]
    by_cases h30 : 30 ≤ i
    · have : a.toBitVec.getLsbD i = false := by
        unfold BitVec.getLsbD
        exact Nat.testBit_lt_two_pow (Nat.lt_of_lt_of_le h4 (Nat.pow_le_pow_right (n := 2) (by decide) h30))
      rw [this]; rfl
    · have : (-1073741824 : Int32).toBitVec.getLsbD i = false := by
        have := q; unfold bt at this; rw [this]; simp [h30]
      rw [this, Bool.and_false]
theorem c_areF {X : Nat × (Nat → Int32)} {Mi : MI} {Ml : ML} (a : Int32) : pD X m_CT_areFeatures [.int a] (sh0, Mi, Ml, mr0) = some (some (.int (bI (pin a 1073741824))), (sh0, Mi, Ml, mr0)) := by
  rw [d_CT_areFeatures]
  by_cases h : (a &&& (-1073741824)) = 0
  · rw [if_pos h, bI_t ((x_set a).mp h)]
  · rw [if_neg h, bI_f (fun e => h ((x_set a).mpr e))]
theorem c_in {X : Nat × (Nat → Int32)} {Mi : MI} {Ml : ML} (a b c : Int64) : pD X m_M_in [.long a, .long b, .long c] (sh0, Mi, Ml, mr0) = some (some (.int (bI (b.toInt ≤ a.toInt ∧ a.toInt ≤ c.toInt))), (sh0, Mi, Ml, mr0)) := by
  rw [d_M_in]
  by_cases h1 : lg_cmp a b < 0
  · rw [if_pos h1, bI_f]; intro h; have := (x_cmp1 _ _).mp h1; omega
  · rw [if_neg h1]
    have h1' : ¬ a.toInt < b.toInt := fun e => h1 ((x_cmp1 _ _).mpr e)
    by_cases h2 : 0 < lg_cmp a c
    · rw [if_pos h2, bI_f]; intro h; have := (x_cmp2 _ _).mp h2; omega
    · rw [if_neg h2, bI_t]
      have h2' : ¬ c.toInt < a.toInt := fun e => h2 ((x_cmp2 _ _).mpr e)
      exact ⟨by omega, by omega⟩
theorem c_inP {X : Nat × (Nat → Int32)} {Mi : MI} {Ml : ML} (a : Int32) (c : Int64) {n : Nat} (hc : c.toInt + 1 = (n : Int)) : pD X m_M_in [.long (Int32.toInt64 a), .long 0, .long c] (sh0, Mi, Ml, mr0) = some (some (.int (bI (pin a n))), (sh0, Mi, Ml, mr0)) := by
  rw [c_in]
  have e : (Int32.toInt64 a).toInt = a.toInt := Int32.toInt_toInt64 a
  have z : (0 : Int64).toInt = 0 := rfl
  rw [e, z, bI_cong (q := pin a n) (by unfold pin; omega)]
theorem c_isFeature {X : Nat × (Nat → Int32)} {Mi : MI} {Ml : ML} (a : Int32) : pD X m_M_isFeature [.int a] (sh0, Mi, Ml, mr0) = some (some (.int (bI (pin a 30))), (sh0, Mi, Ml, mr0)) := by
  rw [d_M_isFeature, c_inP a 29 (n := 30) rfl, Option.bind_some, pb_i, e_M_isFeature_9, if_pos (bI_nar _)]
theorem c_isSet {X : Nat × (Nat → Int32)} {Mi : MI} {Ml : ML} (a : Int32) : pD X m_M_isSet [.int a] (sh0, Mi, Ml, mr0) = some (some (.int (bI (pin a 1073741824))), (sh0, Mi, Ml, mr0)) := by
  rw [d_M_isSet, c_inP a 1073741823 (n := 1073741824) rfl, Option.bind_some, pb_i, e_M_isSet_9, if_pos (bI_nar _)]
theorem c_isField {X : Nat × (Nat → Int32)} {Mi : MI} {Ml : ML} (a : Int32) : pD X m_M_isField [.int a] (sh0, Mi, Ml, mr0) = some (some (.int (bI (pin a 5))), (sh0, Mi, Ml, mr0)) := by
  rw [d_M_isField, c_inP a 4 (n := 5) rfl, Option.bind_some, pb_i, e_M_isField_9, if_pos (bI_nar _)]
theorem c_isDayM {X : Nat × (Nat → Int32)} {Mi : MI} {Ml : ML} (a : Int32) : pD X m_M_isDay [.int a] (sh0, Mi, Ml, mr0) = some (some (.int (bI (pin a 20001))), (sh0, Mi, Ml, mr0)) := by
  rw [d_M_isDay, c_inP a 20000 (n := 20001) rfl, Option.bind_some, pb_i, e_M_isDay_9, if_pos (bI_nar _)]
theorem c_isLand {X : Nat × (Nat → Int32)} {Mi : MI} {Ml : ML} (a : Int32) : pD X m_M_isLand [.int a] (sh0, Mi, Ml, mr0) = some (some (.int (bI (pin a 4))), (sh0, Mi, Ml, mr0)) := by
  rw [d_M_isLand, c_inP a 3 (n := 4) rfl, Option.bind_some, pb_i, e_M_isLand_9, if_pos (bI_nar _)]
