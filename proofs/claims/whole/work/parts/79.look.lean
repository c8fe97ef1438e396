/-! SUBSETS: as the machines make them -/
def tnI (x : Int32) : Nat := x.toBitVec.toNat
theorem tnI_lt (x : Int32) : tnI x < 2 ^ 32 := x.toBitVec.isLt
theorem bt_tn (x : Int32) (i : Nat) : bt x i = (tnI x).testBit i := by unfold bt tnI; rw [BitVec.testBit_toNat]
theorem bt_fun (x : Int32) : (bt x) = (fun j => (tnI x).testBit j) := by funext i; exact bt_tn x i
theorem nI_tn (x : Int32) : nI (tnI x) = x := Int32.toBitVec_inj.mp (by show BitVec.ofNat 32 x.toBitVec.toNat = _; simp)
theorem tn_nI {n : Nat} (h : n < 2 ^ 32) : tnI (nI n) = n := by
  show (BitVec.ofNat 32 n).toNat = n
  rw [BitVec.toNat_ofNat, Nat.mod_eq_of_lt h]
theorem tn_inj {x y : Int32} (h : tnI x = tnI y) : x = y := by rw [← nI_tn x, ← nI_tn y, h]
def dep (L : Int32) (n : Nat) : Int32 := nI (pd 32 (tnI L) n)
theorem dep_bt (L : Int32) (n : Nat) {i : Nat} (hi : i < 32) : bt (dep L n) i = (bt L i && n.testBit (fb_ct (bt L) i)) := by
  unfold dep
  rw [bt_nI hi, pd_bt 32 _ _ i hi, bt_tn, bt_fun]
theorem dep_inc (L : Int32) (n : Nat) : (dep L n - L) &&& L = dep L (n + 1) := by
  apply tn_inj
  have e : tnI (dep L n) = pd 32 (tnI L) n := tn_nI (pd_lt 32 _ _)
  show ((dep L n).toBitVec - L.toBitVec &&& L.toBitVec).toNat = _
  rw [BitVec.toNat_and, BitVec.toNat_sub]
  show ((2 ^ 32 - tnI L + tnI (dep L n)) % 2 ^ 32) &&& tnI L = tnI (dep L (n + 1))
  rw [e, Nat.add_comm, pd_inc 32 _ _ (tnI_lt L)]
  exact (tn_nI (pd_lt 32 _ _)).symm
theorem dep_0 (L : Int32) : dep L 0 = 0 := b_ext (fun i hi => by rw [dep_bt L 0 hi, Nat.zero_testBit, Bool.and_false, b_0])
theorem dep_ct (L : Int32) (n : Nat) : fb_ct (bt (dep L n)) 32 = fb_ct (fun j => n.testBit j) (fb_ct (bt L) 32) := by
  rw [← rk_dep (bt L) n 32]
  exact fb_ct_cong (fun i hi => dep_bt L n hi)
theorem clr_b (x : Int32) {i : Nat} (hi : i < 32) : bt (x &&& (x - 1)) i = (bt x i && decide (0 < fb_ct (bt x) i)) := by
  have e : tnI (x &&& (x - 1)) = ((tnI x + (2 ^ 32 - 1)) % 2 ^ 32) &&& tnI x := by
    show (x.toBitVec &&& (x.toBitVec - (1 : Int32).toBitVec)).toNat = _
    rw [BitVec.toNat_and, BitVec.toNat_sub, Nat.and_comm, Nat.add_comm]; rfl
  rw [bt_tn, e, clr_bt 32 _ i (tnI_lt x) hi, bt_tn x i, bt_fun]
theorem c_low_go {X : Nat × (Nat → Int32)} {Mi : MI} {Ml : ML} (S : Int32) {K : Nat} (hK : K ≤ 12) : ∀ m t (R : Int32), t + m = K → (∀ i, i < 32 → bt R i = (bt S i && decide (t ≤ fb_ct (bt S) i))) → ∃ L : Int32, pdn X m_CT_lowest (4, [.int S, .int (nI K), .int R, .int (nI t)], [], (sh0, Mi, Ml, mr0), 0, 0) = some (some (.int L), (sh0, Mi, Ml, mr0)) ∧ ∀ i, i < 32 → bt L i = (bt S i && decide (fb_ct (bt S) i < K)) := by
  intro m
  induction m with
  | zero =>
    intro t R ht hR
    obtain rfl : t = K := by omega
    refine ⟨_, by rw [e_CT_lowest_4, if_neg (by rw [nI_lt' (by omega) (by omega)]; omega)], fun i hi => ?_⟩
    rw [b_and, b_inv _ hi, hR i hi]
    cases bt S i
    · rfl
    · by_cases q : t ≤ fb_ct (bt S) i
      · rw [decide_eq_true q, decide_eq_false (by omega)]; rfl
      · rw [decide_eq_false q, decide_eq_true (by omega)]; rfl
  | succ m ih =>
    intro t R ht hR
    rw [e_CT_lowest_4, if_pos (by rw [nI_lt' (by omega) (by omega)]; omega), nI_1]
    refine ih (t + 1) _ (by omega) (fun i hi => ?_)
    have e : fb_ct (bt R) i = fb_ct (bt S) i - t := by
      rw [← rk_from (bt S) t i]; exact fb_ct_cong (fun j hj => hR j (by omega))
    rw [clr_b R hi, hR i hi, e]
    cases bt S i
    · rfl
    · by_cases q : t + 1 ≤ fb_ct (bt S) i
      · rw [decide_eq_true (show t ≤ fb_ct (bt S) i by omega), decide_eq_true (show 0 < fb_ct (bt S) i - t by omega), decide_eq_true q]; rfl
      · rw [decide_eq_false (show ¬ 0 < fb_ct (bt S) i - t by omega), decide_eq_false q, Bool.and_false]; rfl
theorem c_lowest {X : Nat × (Nat → Int32)} {Mi : MI} {Ml : ML} (S : Int32) {K : Nat} (hK : K ≤ 12) : ∃ L : Int32, pD X m_CT_lowest [.int S, .int (nI K)] (sh0, Mi, Ml, mr0) = some (some (.int L), (sh0, Mi, Ml, mr0)) ∧ ∀ i, i < 32 → bt L i = (bt S i && decide (fb_ct (bt S) i < K)) := by
  rw [d_CT_lowest]
  exact c_low_go S hK K 0 S (by omega) (fun i _ => by rw [decide_eq_true (Nat.zero_le _), Bool.and_true])
/-- the places of the first bits -/
def Lkd (M : MI) (S : Int32) (n f : Nat) : Prop := ∀ k, k < n → ∃ i, i < f ∧ M 78 k = nI i ∧ bt S i = true ∧ fb_ct (bt S) i = k
theorem c_look_go {X : Nat × (Nat → Int32)} {Ml : ML} (S : Int32) {K : Nat} (hK : K ≤ 12) : ∀ m f (M : MI), f + m = 30 → Lkd M S (min (fb_ct (bt S) f) K) f → ∃ M' : MI, pdn X m_M_look (5, [.ref 54, .int S, .int (nI K), .int (nI (min (fb_ct (bt S) f) K)), .int (nI f)], [], (sh0, M, Ml, mr0), 0, 0) = some (some (.int (nI (min (fb_ct (bt S) 30) K))), (sh0, M', Ml, mr0)) ∧ (∀ j, j ≠ 78 → M' j = M j) ∧ Lkd M' S (min (fb_ct (bt S) 30) K) 30 := by
  intro m
  induction m with
  | zero =>
    intro f M hf hL
    obtain rfl : f = 30 := by omega
    refine ⟨M, ?_, fun _ _ => rfl, hL⟩
    rw [e_M_look_5, if_neg (by decide)]
  | succ m ih =>
    intro f M hf hL
    have hs := fb_ct_succ (bt S) f
    rw [e_M_look_5, if_pos ((x_nlt (n := 30) rfl (by omega)).mpr (by omega))]
    by_cases q : min (fb_ct (bt S) f) K < K
    · rw [if_pos (by rw [nI_lt' (by omega) (by omega)]; exact q), x_bit (show f < 32 by omega), nI_1, nI_1]
      by_cases r : bt S f = true
      · have em : min (fb_ct (bt S) (f + 1)) K = min (fb_ct (bt S) f) K + 1 := by rw [hs, if_pos r]; omega
        rw [if_pos (bI_t r), if_pos (pin_nI (by omega) (by decide)), nI_clamp (by omega), ← em]
        obtain ⟨M', g1, g2, g3⟩ := ih (f + 1) (pm_up M 78 (min (fb_ct (bt S) f) K) (nI f)) (by omega) (fun k hk => by
          rw [em] at hk
          by_cases e : k = min (fb_ct (bt S) f) K
          · subst e
            exact ⟨f, by omega, by rw [up_ok], r, by omega⟩
          · obtain ⟨i, h1, h2, h3, h4⟩ := hL k (by omega)
            exact ⟨i, by omega, by rw [up_kk e]; exact h2, h3, h4⟩)
        exact ⟨M', g1, fun j hj => (g2 j hj).trans (up_off hj), g3⟩
      · have em : min (fb_ct (bt S) (f + 1)) K = min (fb_ct (bt S) f) K := by rw [hs, if_neg r]; omega
        rw [if_neg (by rw [bI_f r]; decide), ← em]
        exact ih (f + 1) M (by omega) (fun k hk => by
          rw [em] at hk
          obtain ⟨i, h1, h2, h3, h4⟩ := hL k hk
          exact ⟨i, by omega, h2, h3, h4⟩)
    · have hm := fb_ct_mono (bt S) (show f ≤ 30 by omega)
      have e : min (fb_ct (bt S) 30) K = min (fb_ct (bt S) f) K := by omega
      refine ⟨M, ?_, fun _ _ => rfl, fun k hk => ?_⟩
      · rw [if_neg (by rw [nI_lt' (by omega) (by omega)]; exact q), e]
      · obtain ⟨i, h1, h2, h3, h4⟩ := hL k (by omega)
        exact ⟨i, by omega, h2, h3, h4⟩
theorem c_look {X : Nat × (Nat → Int32)} {Ml : ML} (S : Int32) {K : Nat} (hK : K ≤ 12) (M : MI) : ∃ M' : MI, pD X m_M_look [.ref 54, .int S, .int (nI K)] (sh0, M, Ml, mr0) = some (some (.int (nI (min (fb_ct (bt S) 30) K))), (sh0, M', Ml, mr0)) ∧ (∀ j, j ≠ 78 → M' j = M j) ∧ Lkd M' S (min (fb_ct (bt S) 30) K) 30 := by
  have e : min (fb_ct (bt S) 0) K = 0 := by show min 0 K = 0; omega
  have t := c_look_go (X := X) (Ml := Ml) S hK 30 0 M (by omega) (fun k hk => by omega)
  rw [e] at t
  rw [d_M_look]; exact t
theorem rk_inj {S : Nat → Bool} {i j : Nat} (hi : S i = true) (hj : S j = true) (h : fb_ct S i = fb_ct S j) : i = j := by
  have up : ∀ a b, a < b → S a = true → fb_ct S a < fb_ct S b := fun a b hab ha => by
    have h1 := fb_ct_succ S a
    rw [if_pos ha] at h1
    have h2 := fb_ct_mono S (show a + 1 ≤ b by omega)
    omega
  by_cases q : i < j
  · have := up i j q hi; omega
  · by_cases r : j < i
    · have := up j i r hj; omega
    · omega
theorem c_lset_go {X : Nat × (Nat → Int32)} {M : MI} {Ml : ML} {S : Int32} {n mask : Nat} (hn : n ≤ 12) (hm : mask < 2 ^ 31) (hL : Lkd M S n 30) : ∀ m t (R : Int32), t + m = n → (∀ i, i < 32 → (bt R i = true ↔ (bt S i = true ∧ i < 30 ∧ fb_ct (bt S) i < t ∧ mask.testBit (fb_ct (bt S) i) = true))) → ∃ R' : Int32, pdn X m_M_lookedSet (5, [.ref 54, .int (nI mask), .int (nI n), .int R, .int (nI t)], [], (sh0, M, Ml, mr0), 0, 0) = some (some (.int R'), (sh0, M, Ml, mr0)) ∧ (∀ i, i < 32 → (bt R' i = true ↔ (bt S i = true ∧ i < 30 ∧ fb_ct (bt S) i < n ∧ mask.testBit (fb_ct (bt S) i) = true))) := by
  intro m
  induction m with
  | zero =>
    intro t R ht hR
    obtain rfl : t = n := by omega
    exact ⟨R, by rw [e_M_lookedSet_5, if_neg (by rw [nI_lt' (by omega) (by omega)]; omega)], hR⟩
  | succ m ih =>
    intro t R ht hR
    obtain ⟨p, hp, e78, hb, hk⟩ := hL t (by omega)
    rw [e_M_lookedSet_5, if_pos (by rw [nI_lt' (by omega) (by omega)]; omega), if_pos (pin_nI (by omega) (by decide)), nI_clamp (by omega), e78, x_bit (show t < 32 by omega), nI_1, bt_nI (show t < 32 by omega)]
    refine ih (t + 1) _ (by omega) (fun i hi => ?_)
    rw [b_or, Bool.or_eq_true, hR i hi]
    by_cases q : mask.testBit t = true
    · rw [bI_t q, x_one (show p < 32 by omega) hi, decide_eq_true_iff]
      constructor
      · rintro (⟨h1, h2, h3, h4⟩ | h1)
        · exact ⟨h1, h2, by omega, h4⟩
        · rw [h1]; exact ⟨hb, hp, by omega, by rw [hk]; exact q⟩
      · rintro ⟨h1, h2, h3, h4⟩
        by_cases e : fb_ct (bt S) i = t
        · exact Or.inr (rk_inj h1 hb (by rw [e, hk]))
        · exact Or.inl ⟨h1, h2, by omega, h4⟩
    · rw [bI_f q, b_shl p (show p < 32 by omega) 0 hi, b_0, Bool.and_false]
      constructor
      · rintro (⟨h1, h2, h3, h4⟩ | h1)
        · exact ⟨h1, h2, by omega, h4⟩
        · exact absurd h1 (by decide)
      · rintro ⟨h1, h2, h3, h4⟩
        by_cases e : fb_ct (bt S) i = t
        · rw [e] at h4; exact absurd h4 q
        · exact Or.inl ⟨h1, h2, by omega, h4⟩
theorem c_lookedSet {X : Nat × (Nat → Int32)} {M : MI} {Ml : ML} {S L : Int32} {K mask : Nat} (hK : K ≤ 12) (hm : mask < 2 ^ 31) (hS : ∀ i, 30 ≤ i → bt S i = false) (hL : Lkd M S (min (fb_ct (bt S) 30) K) 30) (hl : ∀ i, i < 32 → bt L i = (bt S i && decide (fb_ct (bt S) i < K))) : pD X m_M_lookedSet [.ref 54, .int (nI mask), .int (nI (min (fb_ct (bt S) 30) K))] (sh0, M, Ml, mr0) = some (some (.int (dep L mask)), (sh0, M, Ml, mr0)) := by
  obtain ⟨R, h1, h2⟩ := c_lset_go (X := X) (Ml := Ml) (mask := mask) (show min (fb_ct (bt S) 30) K ≤ 12 by omega) hm hL (min (fb_ct (bt S) 30) K) 0 0 (by omega) (fun i hi => by
    rw [b_0]
    exact ⟨fun h => absurd h (by decide), fun h => absurd h.2.2.1 (Nat.not_lt_zero _)⟩)
  have e : R = dep L mask := by
    apply b_ext
    intro i hi
    rw [Bool.eq_iff_iff, h2 i hi, dep_bt L mask hi, hl i hi]
    have er : ∀ j, j < 32 → fb_ct (bt L) j = min (fb_ct (bt S) j) K := fun j hj => by
      rw [← rk_upto (bt S) K j]; exact fb_ct_cong (fun t ht => hl t (by omega))
    rw [er i hi, Bool.and_eq_true, Bool.and_eq_true, decide_eq_true_iff]
    constructor
    · rintro ⟨a1, a2, a3, a4⟩
      refine ⟨⟨a1, by omega⟩, ?_⟩
      rw [Nat.min_eq_left (by omega)]; exact a4
    · rintro ⟨⟨a1, a2⟩, a3⟩
      rw [Nat.min_eq_left (by omega)] at a3
      have i30 : i < 30 := by
        by_cases q : i < 30
        · exact q
        · rw [hS i (by omega)] at a1; exact absurd a1 (by decide)
      have h4 := fb_ct_succ (bt S) i
      rw [if_pos a1] at h4
      have h5 := fb_ct_mono (bt S) (show i + 1 ≤ 30 by omega)
      exact ⟨a1, i30, by omega, a3⟩
  rw [d_M_lookedSet]
  rw [e] at h1
  exact h1
theorem low_ct {S L : Int32} {K : Nat} (hS : ∀ i, 30 ≤ i → bt S i = false) (hl : ∀ i, i < 32 → bt L i = (bt S i && decide (fb_ct (bt S) i < K))) : fb_ct (bt L) 32 = min (fb_ct (bt S) 30) K := by
  have e : fb_ct (bt L) 32 = min (fb_ct (bt S) 32) K := by
    rw [← rk_upto (bt S) K 32]; exact fb_ct_cong (fun t ht => hl t (by omega))
  rw [e]
  have : fb_ct (bt S) 32 = fb_ct (bt S) 30 := by
    rw [fb_ct_succ, fb_ct_succ, hS 30 (by omega), hS 31 (by omega)]; rfl
  rw [this]
