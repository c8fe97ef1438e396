/-! SUBSETS: the fewest, found either way -/
def BR (good : Nat → Bool) (c : Nat → Nat) (ls : Nat → Int32) (n : Nat) (b : Int32) (fw : Nat) : Prop := ((∀ j, j < n → good j = false) ∧ b = -1 ∧ fw = 30) ∨ ∃ j, j < n ∧ good j = true ∧ b = ls j ∧ fw = c j ∧ (∀ i, i < n → good i = true → c j ≤ c i) ∧ (∀ i, i < j → good i = true → c j < c i)
theorem BR_0 (good : Nat → Bool) (c : Nat → Nat) (ls : Nat → Int32) : BR good c ls 0 (-1) 30 := Or.inl ⟨fun j h => absurd h (Nat.not_lt_zero j), rfl, rfl⟩
theorem BR_no {good : Nat → Bool} {c : Nat → Nat} {ls : Nat → Int32} {n : Nat} {b : Int32} {fw : Nat} (h : BR good c ls n b fw) (hc : c n < 30) (hn : good n = false ∨ fw ≤ c n) : BR good c ls (n + 1) b fw := by
  rcases h with ⟨h1, h2, h3⟩ | ⟨j, h1, h2, h3, h4, h5, h6⟩
  · refine Or.inl ⟨fun j hj => ?_, h2, h3⟩
    by_cases q : j = n
    · subst q
      rcases hn with hn | hn
      · exact hn
      · omega
    · exact h1 j (by omega)
  · refine Or.inr ⟨j, by omega, h2, h3, h4, fun i hi hg => ?_, h6⟩
    by_cases q : i = n
    · subst q
      rcases hn with hn | hn
      · rw [hn] at hg; exact absurd hg (by decide)
      · omega
    · exact h5 i (by omega) hg
theorem BR_yes {good : Nat → Bool} {c : Nat → Nat} {ls : Nat → Int32} {n : Nat} {b : Int32} {fw : Nat} (h : BR good c ls n b fw) (hg : good n = true) (hc : c n < fw) : BR good c ls (n + 1) (ls n) (c n) := by
  refine Or.inr ⟨n, by omega, hg, rfl, rfl, fun i hi hgi => ?_, fun i hi hgi => ?_⟩
  · by_cases q : i = n
    · rw [q]; exact Nat.le_refl _
    · rcases h with ⟨h1, _, _⟩ | ⟨j, h1, h2, h3, h4, h5, h6⟩
      · rw [h1 i (by omega)] at hgi; exact absurd hgi (by decide)
      · have := h5 i (by omega) hgi; omega
  · rcases h with ⟨h1, _, _⟩ | ⟨j, h1, h2, h3, h4, h5, h6⟩
    · rw [h1 i (by omega)] at hgi; exact absurd hgi (by decide)
    · have := h5 i (by omega) hgi; omega
theorem BR_stop {good : Nat → Bool} {c : Nat → Nat} {ls : Nat → Int32} {n N : Nat} {b : Int32} (h : BR good c ls n b 0) (hN : n ≤ N) : BR good c ls N b 0 := by
  rcases h with ⟨_, _, h3⟩ | ⟨j, h1, h2, h3, h4, h5, h6⟩
  · exact absurd h3 (by decide)
  · exact Or.inr ⟨j, by omega, h2, h3, h4, fun i _ _ => by omega, h6⟩
def rfS (good : Nat → Bool) (c : Nat → Nat) (ls : Nat → Int32) (size mask : Nat) : Option Int32 := if c mask = size ∧ good mask = true then some (ls mask) else none
theorem srch_first {α : Type} {g : Nat → Option α} {x : α} {k : Nat} : ∀ {n i : Nat}, i ≤ k → k < i + n → g k = some x → (∀ j, i ≤ j → j < k → g j = none) → srch g n i = some x
  | 0, i, h1, h2, _, _ => by omega
  | n + 1, i, h1, h2, h3, h4 => by
    by_cases q : i = k
    · subst q; exact srch_s h3
    · rw [srch_n (h4 i (Nat.le_refl i) (by omega))]
      exact srch_first (by omega) (by omega) h3 (fun j a b => h4 j (by omega) b)
theorem BR_rf {good : Nat → Bool} {c : Nat → Nat} {ls : Nat → Int32} {N many : Nat} {b : Int32} {fw : Nat} (h : BR good c ls N b fw) (hc : ∀ n, n < N → c n ≤ many) : (srch (fun size => srch (rfS good c ls size) N 0) (many + 1) 0).getD (-1) = b := by
  rcases h with ⟨h1, h2, _⟩ | ⟨j, h1, h2, h3, h4, h5, h6⟩
  · have : srch (fun size => srch (rfS good c ls size) N 0) (many + 1) 0 = none := srch_none.mpr (fun s _ _ => srch_none.mpr (fun m _ hm => by
      unfold rfS
      rw [if_neg (fun q => by rw [h1 m (by omega)] at q; exact absurd q.2 (by decide))]))
    rw [this, h2]; rfl
  · have inner : srch (rfS good c ls (c j)) N 0 = some (ls j) := srch_first (k := j) (by omega) (by omega) (by unfold rfS; rw [if_pos ⟨rfl, h2⟩]) (fun i _ hi => by
      unfold rfS
      rw [if_neg (fun q => by have := h6 i hi q.2; omega)])
    have := srch_first (g := fun size => srch (rfS good c ls size) N 0) (x := ls j) (k := c j) (n := many + 1) (i := 0) (by omega) (by have := hc j h1; omega) inner (fun s _ hs => srch_none.mpr (fun m _ hm => by
      unfold rfS
      rw [if_neg (fun q => by have := h5 m (by omega) q.2; omega)]))
    rw [this, h3]; rfl
def allF (p : Nat → Bool) : Nat → Nat → Bool
  | 0, _ => true
  | n + 1, i => p i && allF p n (i + 1)
theorem allF_iff {p : Nat → Bool} : ∀ {n i : Nat}, allF p n i = true ↔ ∀ k, i ≤ k → k < i + n → p k = true
  | 0, i => ⟨fun _ k h1 h2 => by omega, fun _ => rfl⟩
  | n + 1, i => by
    rw [allF, Bool.and_eq_true, allF_iff]
    refine ⟨fun h k h1 h2 => ?_, fun h => ⟨h i (by omega) (by omega), fun k h1 h2 => h k (by omega) (by omega)⟩⟩
    by_cases q : k = i
    · rw [q]; exact h.1
    · exact h.2 k (by omega) (by omega)
/-- counts of a mask, by bits -/
def cn (n : Nat) : Nat := fb_ct (fun j => n.testBit j) 30
theorem cn_many {n m : Nat} (hm : m ≤ 12) (hn : n < 2 ^ m) : fb_ct (fun j => n.testBit j) m = cn n := by
  unfold cn
  have h := fb_ct_split (fun j => n.testBit j) m (30 - m)
  rw [show m + (30 - m) = 30 by omega] at h
  rw [h]
  have z : fb_ct (fun k => n.testBit (m + k)) (30 - m) = 0 := by
    have : fb_ct (fun k => n.testBit (m + k)) (30 - m) = fb_ct (fun _ => false) (30 - m) := fb_ct_cong (fun k _ => Nat.testBit_lt_two_pow (Nat.lt_of_lt_of_le hn (Nat.pow_le_pow_right (by decide) (by omega))))
    rw [this]
    have zz : ∀ m, fb_ct (fun _ => false) m = 0 := fun m => by
      induction m with
      | zero => rfl
      | succ m ih => rw [fb_ct_succ, ih]; rfl
    exact zz _
  rw [z]; rfl
theorem cn_le {n m : Nat} (hm : m ≤ 12) (hn : n < 2 ^ m) : cn n ≤ m := by
  rw [← cn_many hm hn]; exact fb_ct_le _ _
theorem pw_le {m : Nat} (hm : m ≤ 12) : 2 ^ m ≤ 4096 := Nat.pow_le_pow_right (n := 2) (by decide) hm
theorem one_pw : ∀ m, m < 13 → (1 : Int32) <<< (nI m &&& 31) = nI (2 ^ m) := by decide +kernel
theorem tkn_mono {A B : Int32} (h : ∀ i, i < 32 → bt A i = true → bt B i = true) {L : List Int32} (ht : tkn A L = true) : tkn B L = true := by
  unfold tkn at ht ⊢
  rw [List.any_eq_true] at ht ⊢
  obtain ⟨s, hs, q⟩ := ht
  refine ⟨s, hs, ?_⟩
  rw [decide_eq_true_iff] at q ⊢
  rw [i_zero] at q ⊢
  intro i hi
  have := q i hi
  rw [b_and, b_inv _ hi] at this ⊢
  have h1 := h i hi
  cases a : bt A i <;> cases b : bt B i <;> cases c : bt s i <;> simp_all
theorem cl_mono {hs : Nat → Int32} {a b : Int32} (h : ∀ i, i < 32 → bt a i = true → bt b i = true) : ∀ i, i < 32 → bt (cl hs a) i = true → bt (cl hs b) i = true := by
  intro i hi q
  rw [cl_bt] at q ⊢
  obtain ⟨f, h1, h2, h3⟩ := q
  exact ⟨f, h1, h f (by omega) h2, h3⟩
