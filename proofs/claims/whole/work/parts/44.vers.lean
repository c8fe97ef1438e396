/-! VERSIONS: one more set into a row -/
theorem gD_at {l : List Int32} {i : Nat} (h : i < l.length) : l.getD i 0 = l[i] := by
  unfold List.getD; rw [List.getElem?_eq_getElem h]; rfl
theorem mem_getD {l : List Int32} {s : Int32} : s ∈ l ↔ ∃ i, i < l.length ∧ l.getD i 0 = s := by
  rw [List.mem_iff_getElem]
  constructor
  · rintro ⟨i, hi, e⟩; exact ⟨i, hi, by rw [gD_at hi]; exact e⟩
  · rintro ⟨i, hi, e⟩; exact ⟨i, hi, by rw [gD_at hi] at e; exact e⟩
theorem getD_app {l : List Int32} {s : Int32} {i : Nat} (h : i < l.length) : (l ++ [s]).getD i 0 = l.getD i 0 := by
  rw [gD_at h, gD_at (by rw [List.length_append]; exact Nat.lt_add_right _ h), List.getElem_append_left h]
theorem getD_end (l : List Int32) (s : Int32) : (l ++ [s]).getD l.length 0 = s := by
  rw [gD_at (by rw [List.length_append]; exact Nat.lt_succ_self _), List.getElem_append_right (Nat.le_refl _)]
  simp
def FrV (a b c : Nat) (M M' : MI) : Prop := (∀ k, k ≠ a → k ≠ b → M' k = M k) ∧ (∀ q, q ≠ c → M' a q = M a q) ∧ (∀ i, (i < 8 * c ∨ 8 * c + 8 ≤ i) → M' b i = M b i)
theorem FrV_id (a b c : Nat) (M : MI) : FrV a b c M M := ⟨fun _ _ _ => rfl, fun _ _ => rfl, fun _ _ => rfl⟩
theorem FrV_tr {a b c : Nat} {M M1 M2 : MI} (h : FrV a b c M M1) (h2 : FrV a b c M1 M2) : FrV a b c M M2 := ⟨fun k q1 q2 => (h2.1 k q1 q2).trans (h.1 k q1 q2), fun q e => (h2.2.1 q e).trans (h.2.1 q e), fun i e => (h2.2.2 i e).trans (h.2.2 i e)⟩
theorem FrV_up {a b c : Nat} (hab : a ≠ b) (M : MI) {n : Nat} (hn : n < 8) (s x : Int32) : FrV a b c M (pm_up (pm_up M b (8 * c + n) s) a c x) := by
  refine ⟨fun k q1 q2 => by rw [up_off q1, up_off q2], fun q e => by rw [up_kk e, up_off hab], fun i e => by rw [up_off (Ne.symm hab), up_kk (by omega)]⟩
theorem row_app {a b c : Nat} (hab : a ≠ b) {M : MI} {l : List Int32} (hr : rowA (M a) (M b) c l) (h8 : l.length < 8) (s : Int32) : rowA ((pm_up (pm_up M b (8 * c + l.length) s) a c (nI l.length + 1)) a) ((pm_up (pm_up M b (8 * c + l.length) s) a c (nI l.length + 1)) b) c (l ++ [s]) := by
  refine ⟨?_, by rw [List.length_append]; exact h8, fun i hi => ?_⟩
  · rw [up_ok, nI_1, List.length_append]; rfl
  · rw [up_off (Ne.symm hab)]
    rw [List.length_append] at hi
    have hi' : i < l.length + 1 := hi
    by_cases e : i = l.length
    · subst e; rw [up_ok, getD_end]
    · rw [up_kk (by omega), hr.2.2 i (by omega), getD_app (by omega)]
theorem row_lt {l : List Int32} (h : l.length ≤ 8) : l.length < 2 ^ 31 := by omega
theorem c_putM_go {X : Nat × (Nat → Int32)} {M : MI} {Ml : ML} {c : Nat} (hc : c < 40) {l : List Int32} (hr : rowA (M 76) (M 77) c l) (s : Int32) : ∀ (n i : Nat), i + n = l.length → (∀ j, j < i → l.getD j 0 ≠ s) → ∃ M' : MI, pdn X m_M_putVersion (2, [.ref 54, .int (nI c), .int s, .int (nI i)], [], (sh0, M, Ml, mr0), 0, 0) = some (some (.int (bI ((putv l s).isSome = true))), (sh0, M', Ml, mr0)) ∧ FrV 76 77 c M M' ∧ rowA (M' 76) (M' 77) c ((putv l s).getD l) := by
  have h8 := hr.2.1
  have p40 : pin (nI c) 40 := pin_nI hc (by decide)
  have cc : (nI c).toNatClampNeg = c := nI_clamp (by omega)
  have ix : ∀ i, 8 * nI c + nI i = nI (8 * c + i) := fun i => by rw [show (8 : Int32) = nI 8 from rfl, nI_mul', nI_add]
  intro n
  induction n with
  | zero =>
    intro i hi hj
    obtain rfl : i = l.length := by omega
    have hmem : ¬ s ∈ l := fun q => by obtain ⟨j, hj1, hj2⟩ := mem_getD.mp q; exact hj j hj1 hj2
    rw [e_M_putVersion_2, if_pos p40, cc, hr.1, if_neg (by rw [nI_lt' (by omega) (by omega)]; omega), if_pos p40]
    by_cases h : l.length < 8
    · have e : putv l s = some (l ++ [s]) := by unfold putv; rw [if_neg hmem, if_pos h]
      refine ⟨pm_up (pm_up M 77 (8 * c + l.length) s) 76 c (nI l.length + 1), ?_, FrV_up (by decide) M h s _, ?_⟩
      · rw [if_neg (fun q => by have := (nI_is (m := 8) rfl (by omega) (by decide)).mp q; omega), if_pos p40, ix, if_pos (pin_nI (by omega) (by decide)), if_pos p40, if_pos p40, nI_clamp (by omega), e]
        rfl
      · rw [e]; exact row_app (by decide) hr h s
    · obtain h' : l.length = 8 := by omega
      have e : putv l s = none := by unfold putv; rw [if_neg hmem, if_neg h]
      refine ⟨M, ?_, FrV_id _ _ _ _, ?_⟩
      · rw [if_pos (by rw [h']; rfl), e]; rfl
      · rw [e]; exact hr
  | succ n ih =>
    intro i hi hj
    rw [e_M_putVersion_2, if_pos p40, cc, hr.1, if_pos (by rw [nI_lt' (by omega) (by omega)]; omega), ix, if_pos (pin_nI (by omega) (by decide)), nI_clamp (by omega), hr.2.2 i (by omega), nI_1]
    by_cases h : l.getD i 0 = s
    · have e : putv l s = some l := by unfold putv; rw [if_pos (mem_getD.mpr ⟨i, by omega, h⟩)]
      refine ⟨M, ?_, FrV_id _ _ _ _, ?_⟩
      · rw [if_pos h, e]; rfl
      · rw [e]; exact hr
    · rw [if_neg h]
      exact ih (i + 1) (by omega) (fun j hj2 => by
        by_cases q : j = i
        · rw [q]; exact h
        · exact hj j (by omega))
theorem c_putM {X : Nat × (Nat → Int32)} {M : MI} {Ml : ML} {c : Nat} (hc : c < 40) {l : List Int32} (hr : rowA (M 76) (M 77) c l) (s : Int32) : ∃ M' : MI, pD X m_M_putVersion [.ref 54, .int (nI c), .int s] (sh0, M, Ml, mr0) = some (some (.int (bI ((putv l s).isSome = true))), (sh0, M', Ml, mr0)) ∧ FrV 76 77 c M M' ∧ rowA (M' 76) (M' 77) c ((putv l s).getD l) := by
  rw [d_M_putVersion]; exact c_putM_go hc hr s l.length 0 (by omega) (fun j hj => absurd hj (Nat.not_lt_zero j))
theorem c_putC_go {X : Nat × (Nat → Int32)} {M : MI} {Ml : ML} {c : Nat} (hc : c < 40) {l : List Int32} (hr : rowA (M 27) (M 28) c l) (s : Int32) : ∀ (n i : Nat), i + n = l.length → (∀ j, j < i → l.getD j 0 ≠ s) → ∃ M' : MI, pdn X m_Claims_addVersion (2, [.ref 23, .int (nI c), .int s, .int (nI i)], [], (sh0, M, Ml, mr0), 0, 0) = some (some (.int (bI ((putv l s).isSome = true))), (sh0, M', Ml, mr0)) ∧ FrV 27 28 c M M' ∧ rowA (M' 27) (M' 28) c ((putv l s).getD l) := by
  have h8 := hr.2.1
  have p40 : pin (nI c) 40 := pin_nI hc (by decide)
  have cc : (nI c).toNatClampNeg = c := nI_clamp (by omega)
  have ix : ∀ i, nI c * 8 + nI i = nI (8 * c + i) := fun i => by rw [show (8 : Int32) = nI 8 from rfl, nI_mul', nI_add, Nat.mul_comm]
  intro n
  induction n with
  | zero =>
    intro i hi hj
    obtain rfl : i = l.length := by omega
    have hmem : ¬ s ∈ l := fun q => by obtain ⟨j, hj1, hj2⟩ := mem_getD.mp q; exact hj j hj1 hj2
    rw [e_Claims_addVersion_2, if_pos p40, cc, hr.1, if_neg (by rw [nI_lt' (by omega) (by omega)]; omega), if_pos p40]
    by_cases h : l.length < 8
    · have e : putv l s = some (l ++ [s]) := by unfold putv; rw [if_neg hmem, if_pos h]
      refine ⟨pm_up (pm_up M 28 (8 * c + l.length) s) 27 c (nI l.length + 1), ?_, FrV_up (by decide) M h s _, ?_⟩
      · rw [if_pos ((x_nlt (n := 8) rfl (by omega)).mpr h), if_pos p40, ix, if_pos (pin_nI (by omega) (by decide)), if_pos p40, if_pos p40, nI_clamp (by omega), e]
        rfl
      · rw [e]; exact row_app (by decide) hr h s
    · obtain h' : l.length = 8 := by omega
      have e : putv l s = none := by unfold putv; rw [if_neg hmem, if_neg h]
      refine ⟨M, ?_, FrV_id _ _ _ _, ?_⟩
      · rw [if_neg (fun q => h ((x_nlt (n := 8) rfl (by omega)).mp q)), e]; rfl
      · rw [e]; exact hr
  | succ n ih =>
    intro i hi hj
    rw [e_Claims_addVersion_2, if_pos p40, cc, hr.1, if_pos (by rw [nI_lt' (by omega) (by omega)]; omega), d_Claims_versionAt, ix, if_pos (pin_nI (by omega) (by decide)), nI_clamp (by omega), Option.bind_some, pb_i, e_Claims_addVersion_18, hr.2.2 i (by omega), nI_1]
    by_cases h : l.getD i 0 = s
    · have e : putv l s = some l := by unfold putv; rw [if_pos (mem_getD.mpr ⟨i, by omega, h⟩)]
      refine ⟨M, ?_, FrV_id _ _ _ _, ?_⟩
      · rw [if_pos h, e]; rfl
      · rw [e]; exact hr
    · rw [if_neg h]
      exact ih (i + 1) (by omega) (fun j hj2 => by
        by_cases q : j = i
        · rw [q]; exact h
        · exact hj j (by omega))
theorem c_putC {X : Nat × (Nat → Int32)} {M : MI} {Ml : ML} {c : Nat} (hc : c < 40) {l : List Int32} (hr : rowA (M 27) (M 28) c l) (s : Int32) : ∃ M' : MI, pD X m_Claims_addVersion [.ref 23, .int (nI c), .int s] (sh0, M, Ml, mr0) = some (some (.int (bI ((putv l s).isSome = true))), (sh0, M', Ml, mr0)) ∧ FrV 27 28 c M M' ∧ rowA (M' 27) (M' 28) c ((putv l s).getD l) := by
  rw [d_Claims_addVersion]; exact c_putC_go hc hr s l.length 0 (by omega) (fun j hj => absurd hj (Nat.not_lt_zero j))
