/-! CLOSURE: what a set has, by kinds -/
theorem x_nlt {i n : Nat} {b : Int32} (hb : b.toInt = (n : Int)) (hi : i < 2 ^ 31) : nI i < b ↔ i < n := by
  rw [x_lt, nI_toInt hi, hb]; omega
def clN (hs : Nat → Int32) (s : Int32) : Nat → Int32
  | 0 => 0
  | n + 1 => if bt s n = true then clN hs s n ||| hs n else clN hs s n
def cl (hs : Nat → Int32) (s : Int32) : Int32 := clN hs s 30
theorem clN_bt (hs : Nat → Int32) (s : Int32) (g : Nat) : ∀ n, bt (clN hs s n) g = true ↔ ∃ f, f < n ∧ bt s f = true ∧ bt (hs f) g = true := by
  intro n
  induction n with
  | zero => exact ⟨fun h => by rw [clN, b_0] at h; exact absurd h (by decide), fun ⟨f, hf, _⟩ => absurd hf (Nat.not_lt_zero f)⟩
  | succ n ih =>
    rw [clN]
    by_cases h : bt s n = true
    · rw [if_pos h, b_or, Bool.or_eq_true, ih]
      constructor
      · rintro (⟨f, hf, h1, h2⟩ | h2)
        · exact ⟨f, by omega, h1, h2⟩
        · exact ⟨n, by omega, h, h2⟩
      · rintro ⟨f, hf, h1, h2⟩
        by_cases hfn : f = n
        · subst hfn; exact Or.inr h2
        · exact Or.inl ⟨f, by omega, h1, h2⟩
    · rw [if_neg h, ih]
      constructor
      · rintro ⟨f, hf, h1, h2⟩; exact ⟨f, by omega, h1, h2⟩
      · rintro ⟨f, hf, h1, h2⟩
        by_cases hfn : f = n
        · subst hfn; exact absurd h1 h
        · exact ⟨f, by omega, h1, h2⟩
theorem cl_bt (hs : Nat → Int32) (s : Int32) (g : Nat) : bt (cl hs s) g = true ↔ ∃ f, f < 30 ∧ bt s f = true ∧ bt (hs f) g = true := clN_bt hs s g 30
theorem c_closed_go {X : Nat × (Nat → Int32)} {Mi : MI} {Ml : ML} (s : Int32) : ∀ (n i : Nat), i + n = 30 → pdn X m_Features_closed (4, [.ref 2, .int s, .int (clN (Mi 3) s i), .int (nI i)], [], (sh0, Mi, Ml, mr0), 0, 0) = some (some (.int (cl (Mi 3) s)), (sh0, Mi, Ml, mr0)) := by
  intro n
  induction n with
  | zero =>
    intro i hi
    obtain rfl : i = 30 := by omega
    rw [e_Features_closed_4, if_neg (by decide)]; rfl
  | succ n ih =>
    intro i hi
    rw [e_Features_closed_4, if_pos ((x_nlt (n := 30) rfl (by omega)).mpr (by omega)), x_bit (by omega), nI_1, nI_clamp (by omega)]
    have := ih (i + 1) (by omega)
    rw [clN] at this
    by_cases h : bt s i = true
    · rw [if_neg (by rw [bI_0]; exact fun e => e h), if_pos (pin_nI (by omega) (by decide))]
      rw [if_pos h] at this; exact this
    · rw [if_pos (bI_0.mpr h)]
      rw [if_neg h] at this; exact this
theorem c_closed {X : Nat × (Nat → Int32)} {Mi : MI} {Ml : ML} (s : Int32) : pD X m_Features_closed [.ref 2, .int s] (sh0, Mi, Ml, mr0) = some (some (.int (cl (Mi 3) s)), (sh0, Mi, Ml, mr0)) := by
  rw [d_Features_closed]; exact c_closed_go s 30 0 rfl
/-! the reference: by steps over kinds -/
def itK (K : Nat → Int32) : Nat → Nat → Option Nat
  | 0, f => some f
  | n + 1, f => (itK K n f).bind (fun g => if (K g) < 0 then none else some (K g).toNatClampNeg)
def RK (K : Nat → Int32) (f g : Nat) : Prop := ∃ n, itK K n f = some g
theorem RK_here {K : Nat → Int32} (f : Nat) : RK K f f := ⟨0, rfl⟩
theorem RK_up {K : Nat → Int32} {f g : Nat} (h : RK K f g) (hn : ¬ (K g) < 0) : RK K f (K g).toNatClampNeg := by
  obtain ⟨n, h⟩ := h
  exact ⟨n + 1, by rw [itK, h, Option.bind_some, if_neg hn]⟩
theorem RK_ind {K : Nat → Int32} {f : Nat} {P : Nat → Prop} (h0 : P f) (h1 : ∀ g, RK K f g → P g → ¬ (K g) < 0 → P (K g).toNatClampNeg) {g : Nat} (h : RK K f g) : P g := by
  obtain ⟨n, h⟩ := h
  induction n generalizing g with
  | zero => have : some f = some g := h; cases this; exact h0
  | succ n ih =>
    rw [itK] at h
    cases hx : itK K n f with
    | none => rw [hx] at h; exact absurd h (by simp)
    | some x =>
      rw [hx, Option.bind_some] at h
      by_cases hn : (K x) < 0
      · rw [if_pos hn] at h; exact absurd h (by simp)
      · rw [if_neg hn] at h
        have e : (K x).toNatClampNeg = g := Option.some.inj h
        rw [← e]; exact h1 x ⟨n, hx⟩ (ih hx) hn
def KOk (K : Nat → Int32) : Prop := ∀ f, f < 30 → (K f) < 0 ∨ pin (K f) 30
theorem RK_lt {K : Nat → Int32} (hK : KOk K) {f g : Nat} (h : RK K f g) (hf : f < 30) : g < 30 := by
  refine RK_ind (P := fun g => g < 30) hf (fun x h ih hn => ?_) h
  rcases hK _ ih with h2 | h2
  · exact absurd h2 hn
  · obtain ⟨k, hk, e⟩ := pin_ex (by decide) h2
    show (K x).toNatClampNeg < 30
    rw [e, nI_clamp (by omega)]; exact hk
theorem RK_tr {K : Nat → Int32} {e f g : Nat} (h1 : RK K e f) (h2 : RK K f g) : RK K e g := by
  exact RK_ind (P := fun g => RK K e g) h1 (fun x _ ih hn => RK_up ih hn) h2
theorem or_le (a b : Int32) : a.toBitVec.toNat ≤ (a ||| b).toBitVec.toNat := by
  rw [Int32.toBitVec_or, BitVec.toNat_or]; exact Nat.left_le_or
/-- one pass of the reference over the features i .. 29, of the set p, from the set a -/
theorem c_wk_in {X : Nat × (Nat → Int32)} {Mi : MI} {Ml : ML} (hK : KOk (Mi 55)) (s p : Int32) : ∀ (n i : Nat) (a : Int32), i + n = 30 → ∃ r : Int32, pdn X m_M_withKinds (14, [.ref 54, .int s, .int a, .int p, .int (nI i)], [], (sh0, Mi, Ml, mr0), 0, 0) = pdn X m_M_withKinds (4, [.ref 54, .int s, .int r, .int p, .int (nI 30)], [], (sh0, Mi, Ml, mr0), 0, 0) ∧ (∀ g, g < 32 → (bt r g = true ↔ bt a g = true ∨ ∃ f, i ≤ f ∧ f < 30 ∧ bt p f = true ∧ ¬ (Mi 55 f) < 0 ∧ g = (Mi 55 f).toNatClampNeg)) := by
  intro n
  induction n with
  | zero =>
    intro i a hi
    obtain rfl : i = 30 := by omega
    refine ⟨a, ?_, fun g _ => ⟨Or.inl, ?_⟩⟩
    · rw [e_M_withKinds_14, if_neg (by decide)]
    · rintro (h | ⟨f, h1, h2, _⟩)
      · exact h
      · omega
  | succ n ih =>
    intro i a hi
    have hlt : nI i < 30 := (x_nlt (n := 30) rfl (by omega)).mpr (by omega)
    have hz : ∀ b : Int32, b ||| 0 = b := fun b => b_ext (fun j _ => by rw [b_or, b_0, Bool.or_false])
    rw [e_M_withKinds_14, if_pos hlt, x_bit (by omega), nI_1, nI_clamp (by omega), hz]
    by_cases hp : bt p i = true
    · rw [if_pos (bI_t hp), if_pos (pin_nI (by omega) (by decide))]
      by_cases hk : (Mi 55 i) < 0
      · rw [if_pos hk]
        obtain ⟨r, hr, hb⟩ := ih (i + 1) a (by omega)
        refine ⟨r, hr, fun g hg => ?_⟩
        rw [hb g hg]
        constructor
        · rintro (h | ⟨f, h1, h2⟩)
          · exact Or.inl h
          · exact Or.inr ⟨f, by omega, h2⟩
        · rintro (h | ⟨f, h1, h2, h3, h4, h5⟩)
          · exact Or.inl h
          · by_cases hfi : f = i
            · subst hfi; exact absurd hk h4
            · exact Or.inr ⟨f, by omega, h2, h3, h4, h5⟩
      · rw [if_neg hk, if_pos (pin_nI (by omega) (by decide))]
        rcases hK i (by omega) with h | h
        · exact absurd h hk
        obtain ⟨k, hk30, ek⟩ := pin_ex (by decide) h
        rw [ek]
        obtain ⟨r, hr, hb⟩ := ih (i + 1) (a ||| (1 <<< (nI k &&& 31))) (by omega)
        refine ⟨r, hr, fun g hg => ?_⟩
        rw [hb g hg, b_or, x_one (by omega) hg, Bool.or_eq_true, decide_eq_true_iff]
        constructor
        · rintro ((h | h) | ⟨f, h1, h2⟩)
          · exact Or.inl h
          · exact Or.inr ⟨i, Nat.le_refl i, by omega, hp, hk, by rw [ek, nI_clamp (by omega)]; exact h⟩
          · exact Or.inr ⟨f, by omega, h2⟩
        · rintro (h | ⟨f, h1, h2, h3, h4, h5⟩)
          · exact Or.inl (Or.inl h)
          · by_cases hfi : f = i
            · subst hfi; rw [ek, nI_clamp (by omega)] at h5; exact Or.inl (Or.inr h5)
            · exact Or.inr ⟨f, by omega, h2, h3, h4, h5⟩
    · rw [if_neg (by rw [bI_f hp]; decide)]
      obtain ⟨r, hr, hb⟩ := ih (i + 1) a (by omega)
      refine ⟨r, hr, fun g hg => ?_⟩
      rw [hb g hg]
      constructor
      · rintro (h | ⟨f, h1, h2⟩)
        · exact Or.inl h
        · exact Or.inr ⟨f, by omega, h2⟩
      · rintro (h | ⟨f, h1, h2, h3, h4⟩)
        · exact Or.inl h
        · by_cases hfi : f = i
          · subst hfi; exact absurd h3 hp
          · exact Or.inr ⟨f, by omega, h2, h3, h4⟩
/-- the passes, till nothing changes: a lies between s and what s reaches; r is closed -/
def RkS (K : Nat → Int32) (s : Int32) (g : Nat) : Prop := ∃ f, f < 30 ∧ bt s f = true ∧ RK K f g
theorem c_wk_out {X : Nat × (Nat → Int32)} {Mi : MI} {Ml : ML} (hK : KOk (Mi 55)) (s : Int32) (hs : ∀ i, 30 ≤ i → bt s i = false) : ∀ (m : Nat) (a : Int32), 4294967296 - a.toBitVec.toNat ≤ m → (∀ g, g < 32 → bt s g = true → bt a g = true) → (∀ g, g < 32 → bt a g = true → RkS (Mi 55) s g) → ∃ r : Int32, pdn X m_M_withKinds (14, [.ref 54, .int s, .int a, .int a, .int 0], [], (sh0, Mi, Ml, mr0), 0, 0) = some (some (.int r), (sh0, Mi, Ml, mr0)) ∧ (∀ g, g < 32 → (bt r g = true ↔ RkS (Mi 55) s g)) := by
  intro m
  induction m with
  | zero => intro a h; have := a.toBitVec.isLt; omega
  | succ m ih =>
    intro a hm h1 h2
    obtain ⟨r, hr, hb⟩ := c_wk_in (X := X) (Mi := Mi) (Ml := Ml) hK s a 30 0 a rfl
    have hr' : pdn X m_M_withKinds (14, [.ref 54, .int s, .int a, .int a, .int 0], [], (sh0, Mi, Ml, mr0), 0, 0) = _ := hr
    rw [hr', e_M_withKinds_4v1]
    have hup : ∀ g, g < 32 → bt r g = true → RkS (Mi 55) s g := by
      intro g hg h
      rcases (hb g hg).mp h with h | ⟨f, _, hf, h3, h4, h5⟩
      · exact h2 g hg h
      · obtain ⟨e, he, h6, h7⟩ := h2 f (by omega) h3
        exact ⟨e, he, h6, h5 ▸ RK_up h7 h4⟩
    by_cases e : r = a
    · rw [if_pos e]
      refine ⟨r, rfl, fun g hg => ⟨hup g hg, ?_⟩⟩
      rintro ⟨f, hf, h3, h4⟩
      clear hg
      have : g < 30 ∧ bt r g = true := by
        refine RK_ind (P := fun g => g < 30 ∧ bt r g = true) ⟨hf, by rw [e]; exact h1 _ (by omega) h3⟩ (fun x h ih2 hn => ?_) h4
        have hg30 := RK_lt hK (RK_up h hn) hf
        refine ⟨hg30, (hb _ (by omega)).mpr (Or.inr ⟨_, Nat.zero_le _, ih2.1, ?_, hn, rfl⟩)⟩
        rw [← e]; exact ih2.2
      exact this.2
    · rw [if_neg e]
      have hsub : ∀ g, g < 32 → bt a g = true → bt r g = true := fun g hg h => (hb g hg).mpr (Or.inl h)
      have hor : r = a ||| r := by
        apply b_ext; intro g hg; rw [b_or]
        have := hsub g hg
        cases h : bt a g
        · simp
        · rw [this h]; rfl
      have hle : a.toBitVec.toNat ≤ r.toBitVec.toNat := by rw [hor]; exact or_le a r
      have hne : a.toBitVec.toNat ≠ r.toBitVec.toNat := fun h => e (Int32.toBitVec_inj.mp (BitVec.eq_of_toNat_eq h.symm))
      have hl := r.toBitVec.isLt
      exact ih r (by omega) (fun g hg h => hsub g hg (h1 g hg h)) hup
theorem RkS_lt {K : Nat → Int32} (hK : KOk K) {s : Int32} {g : Nat} (h : RkS K s g) : g < 30 := by
  obtain ⟨f, hf, _, h2⟩ := h; exact RK_lt hK h2 hf
theorem set_hi {s : Int32} (h : pin s 1073741824) : ∀ i, 30 ≤ i → bt s i = false := by
  intro i hi
  by_cases h32 : i < 32
  · have h0 : bt (s &&& (-1073741824)) i = false := by rw [(x_set s).mpr h, b_0]
    rw [b_and] at h0
    have q : bt (-1073741824) i = true := by
      have := (by decide +kernel : ∀ j, j < 32 → 30 ≤ j → bt (-1073741824) j = true)
      exact this i h32 hi
    rw [q, Bool.and_true] at h0; exact h0
  · exact b_big (by omega)
theorem hi_set {s : Int32} (h : ∀ i, i < 32 → 30 ≤ i → bt s i = false) : pin s 1073741824 := by
  apply (x_set s).mp
  apply b_ext; intro i hi
  rw [b_and, b_0]
  by_cases h30 : 30 ≤ i
  · rw [h i hi h30]; rfl
  · have q : bt (-1073741824) i = false := by
      have := (by decide +kernel : ∀ j, j < 32 → ¬ 30 ≤ j → bt (-1073741824) j = false)
      exact this i hi h30
    rw [q, Bool.and_false]
/-- the class's table hs tells what each feature reaches -/
def HsOk (K hs : Nat → Int32) : Prop := ∀ f, f < 30 → ∀ g, g < 32 → (bt (hs f) g = true ↔ RK K f g)
theorem c_withKinds {X : Nat × (Nat → Int32)} {Mi : MI} {Ml : ML} (hK : KOk (Mi 55)) {hs : Nat → Int32} (hH : HsOk (Mi 55) hs) (s : Int32) (hp : pin s 1073741824) : pD X m_M_withKinds [.ref 54, .int s] (sh0, Mi, Ml, mr0) = some (some (.int (cl hs s)), (sh0, Mi, Ml, mr0)) := by
  have hs30 := set_hi hp
  have hne : s ≠ -1 := by
    intro e
    have h31 := hs30 31 (by decide)
    rw [e] at h31; revert h31; decide +kernel
  rw [d_M_withKinds, e_M_withKinds_4, if_neg hne]
  obtain ⟨r, hr, hb⟩ := c_wk_out (X := X) (Mi := Mi) (Ml := Ml) hK s hs30 _ s (Nat.le_refl _) (fun _ _ h => h) (fun g hg h => by
    by_cases h30 : g < 30
    · exact ⟨g, h30, h, RK_here g⟩
    · rw [hs30 g (by omega)] at h; exact absurd h (by decide))
  rw [hr]
  have : r = cl hs s := by
    apply b_ext; intro g hg
    have h1 := hb g hg
    have h2 := cl_bt hs s g
    have h3 : RkS (Mi 55) s g ↔ ∃ f, f < 30 ∧ bt s f = true ∧ bt (hs f) g = true := by
      constructor
      · rintro ⟨f, hf, h4, h5⟩; exact ⟨f, hf, h4, (hH f hf g hg).mpr h5⟩
      · rintro ⟨f, hf, h4, h5⟩; exact ⟨f, hf, h4, (hH f hf g hg).mp h5⟩
    have h4 : bt r g = true ↔ bt (cl hs s) g = true := by rw [h1, h2, h3]
    exact Bool.eq_iff_iff.mpr h4
  rw [this]
