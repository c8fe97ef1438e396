/-! VERSIONS: all rows found anew, whether or not they are too many -/
def bl (mo : Nat → Int32) (np : Nat → Nat) (pr : Nat → Nat → Nat) (W : Nat → List Int32) (q : Nat) : Option (List Int32) := bldv (mo q) ((List.range (np q)).map (fun k => W (pr q k)))
theorem bl_cong {mo : Nat → Int32} {np : Nat → Nat} {pr : Nat → Nat → Nat} {W W' : Nat → List Int32} {q : Nat} (h : ∀ k, k < np q → W (pr q k) = W' (pr q k)) : bl mo np pr W q = bl mo np pr W' q := by
  unfold bl
  congr 1
  exact List.map_congr_left (fun k hk => h k (List.mem_range.mp hk))
theorem allF_cong {p p' : Nat → Bool} : ∀ {n i : Nat}, (∀ k, i ≤ k → k < i + n → p k = p' k) → allF p n i = allF p' n i
  | 0, _, _ => rfl
  | n + 1, i, h => by rw [allF, allF, h i (by omega) (by omega), allF_cong (n := n) (i := i + 1) (fun k h1 h2 => h k (by omega) (by omega))]
theorem c_fw_go {X : Nat × (Nat → Int32)} {Ml : ML} {f s m : Nat} (hf : f < 8) (hm : s + m ≤ 40) {mo : Nat → Int32} {np : Nat → Nat} {pr : Nat → Nat → Nat} : ∀ (n i : Nat) (M : MI) (g : Bool) (W : Nat → List Int32), i + n = s + m → s ≤ i → M 74 f = nI s → M 75 f = nI m → (∀ q, s ≤ q → q < s + m → mo q = M 70 q ||| M 71 q ∧ M 72 q = nI (np q) ∧ np q ≤ 40 ∧ ∀ k, k < np q → s ≤ pr q k ∧ pr q k < q ∧ M 73 (40 * q + k) = nI (pr q k)) → (∀ q, s ≤ q → q < i → rowA (M 76) (M 77) q (W q)) → ∃ (M' : MI) (W' : Nat → List Int32), pdn X m_M_findAll (9, [.ref 54, .int (nI f), .int (bI (g = true)), .int (nI i)], [], (sh0, M, Ml, mr0), 0, 0) = some (some (.int (bI ((g && allF (fun q => (bl mo np pr W' q).isSome) n i) = true))), (sh0, M', Ml, mr0)) ∧ (∀ k, k ≠ 76 → k ≠ 77 → M' k = M k) ∧ (∀ q, s ≤ q → q < s + m → rowA (M' 76) (M' 77) q (W' q)) ∧ (∀ q, q < i → W' q = W q) ∧ (∀ q, i ≤ q → q < s + m → ∀ l, bl mo np pr W' q = some l → W' q = l) := by
  have p8 : pin (nI f) 8 := pin_nI hf (by decide)
  have cf : (nI f).toNatClampNeg = f := nI_clamp (by omega)
  intro n
  induction n with
  | zero =>
    intro i M g W hi hsi h74 h75 hP hR
    obtain rfl : i = s + m := by omega
    refine ⟨M, W, ?_, fun _ _ _ => rfl, hR, fun _ _ => rfl, fun q q1 q2 => by omega⟩
    rw [e_M_findAll_9, if_pos p8, if_pos p8, cf, h74, h75, nI_add, if_neg (by rw [nI_lt' (by omega) (by omega)]; omega), if_pos (bI_nar _)]
    cases g <;> rfl
  | succ n ih =>
    intro i M g W hi hsi h74 h75 hP hR
    obtain ⟨h0, h1, h2, h3⟩ := hP i hsi (by omega)
    obtain ⟨M1, t1, t2, l, t3, t4⟩ := c_findV (X := X) (M := M) (Ml := Ml) (c := i) (np := np i) (by omega) h2 (pr i) W (fun k hk => (h3 k hk).2.1) h1 (fun k hk => (h3 k hk).2.2) (fun k hk => hR (pr i k) (h3 k hk).1 (h3 k hk).2.1)
    rw [← h0] at t1 t4
    have g70 := t2.1 70 (by decide) (by decide)
    have g71 := t2.1 71 (by decide) (by decide)
    have g72 := t2.1 72 (by decide) (by decide)
    have g73 := t2.1 73 (by decide) (by decide)
    have b0 : ∀ W2 : Nat → List Int32, (∀ q, q < i → W2 q = W q) → bl mo np pr W2 i = bl mo np pr W i := fun W2 hW2 => bl_cong (fun k hk => hW2 _ (h3 k hk).2.1)
    have W1e : ∀ q, q < i → (fun q => if q = i then l else W q) q = W q := fun q hq => if_neg (by omega)
    obtain ⟨M', W', u1, u2, u3, u4, u5⟩ := ih (i + 1) M1 (g && (bl mo np pr W i).isSome) (fun q => if q = i then l else W q) (by omega) (by omega) (by rw [t2.1 74 (by decide) (by decide)]; exact h74) (by rw [t2.1 75 (by decide) (by decide)]; exact h75) (by rw [g70, g71, g72, g73]; exact hP) (fun q q1 q2 => by
      by_cases e : q = i
      · subst e; rw [if_pos rfl]; exact t3
      · rw [if_neg e]; exact row_fr t2 e (hR q q1 (by omega)))
    have W'e : ∀ q, q < i → W' q = W q := fun q hq => (u4 q (by omega)).trans (W1e q hq)
    refine ⟨M', W', ?_, fun k q1 q2 => (u2 k q1 q2).trans (t2.1 k q1 q2), u3, W'e, fun q q1 q2 l' hl' => ?_⟩
    · have e31 : pdn X m_M_findAll (9, [.ref 54, .int (nI f), .int (bI (g = true)), .int (nI i)], [], (sh0, M, Ml, mr0), 0, 0) = pdn X m_M_findAll (9, [.ref 54, .int (nI f), .int (bI ((g && (bl mo np pr W i).isSome) = true)), .int (nI (i + 1))], [], (sh0, M1, Ml, mr0), 0, 0) := by
        rw [e_M_findAll_9, if_pos p8, if_pos p8, cf, h74, h75, nI_add, if_pos (by rw [nI_lt' (by omega) (by omega)]; omega), t1, Option.bind_some, pb_i, e_M_findAll_31, nI_1]
        show (if bI ((bl mo np pr W i).isSome = true) = 0 then _ else _) = _
        cases hb : (bl mo np pr W i).isSome
        · rw [if_pos (bI_f (by decide)), Bool.and_false]; rfl
        · rw [if_neg (by rw [bI_t rfl]; decide)]
          cases g
          · rw [if_pos (bI_f (by decide))]; rfl
          · rw [if_neg (by rw [bI_t rfl]; decide)]; rfl
      rw [e31, u1, allF, b0 W' W'e, Bool.and_assoc]
    · by_cases e : q = i
      · subst e
        have : W' q = l := (u4 q (by omega)).trans (if_pos rfl)
        rw [this]
        rw [b0 W' W'e] at hl'
        exact t4 l' hl'
      · exact u5 q (by omega) q2 l' hl'
theorem c_findW {X : Nat × (Nat → Int32)} {Ml : ML} {f s m : Nat} (hf : f < 8) (hm : s + m ≤ 40) {mo : Nat → Int32} {np : Nat → Nat} {pr : Nat → Nat → Nat} (M : MI) (h74 : M 74 f = nI s) (h75 : M 75 f = nI m) (hP : ∀ q, s ≤ q → q < s + m → mo q = M 70 q ||| M 71 q ∧ M 72 q = nI (np q) ∧ np q ≤ 40 ∧ ∀ k, k < np q → s ≤ pr q k ∧ pr q k < q ∧ M 73 (40 * q + k) = nI (pr q k)) : ∃ (M' : MI) (W : Nat → List Int32), pD X m_M_findAll [.ref 54, .int (nI f)] (sh0, M, Ml, mr0) = some (some (.int (bI (allF (fun q => (bl mo np pr W q).isSome) m s = true))), (sh0, M', Ml, mr0)) ∧ (∀ k, k ≠ 76 → k ≠ 77 → M' k = M k) ∧ (∀ q, s ≤ q → q < s + m → rowA (M' 76) (M' 77) q (W q)) ∧ (∀ q, s ≤ q → q < s + m → ∀ l, bl mo np pr W q = some l → W q = l) := by
  rw [d_M_findAll, if_pos (pin_nI hf (by decide)), nI_clamp (by omega), h74]
  obtain ⟨M', W', u1, u2, u3, _, u5⟩ := c_fw_go (X := X) (Ml := Ml) (mo := mo) (np := np) (pr := pr) hf hm m s M true (fun _ => []) rfl (Nat.le_refl s) h74 h75 hP (fun q q1 q2 => by omega)
  exact ⟨M', W', u1.trans (by rw [Bool.true_and]), u2, u3, u5⟩
/-- the class's buildAll from claim c on, given rows W that are built so wherever they can be -/
theorem c_bw_go {X : Nat × (Nat → Int32)} {Ml : ML} {s c e : Nat} (he : e ≤ 40) (hsc : s ≤ c) {mo : Nat → Int32} {np ps : Nat → Nat} {pr : Nat → Nat → Nat} {W : Nat → List Int32} (v1 : Int32) : ∀ (n i : Nat) (M : MI), i + n = e → c ≤ i → (∀ q, c ≤ q → q < e → mo q = M 25 q ||| M 26 q ∧ M 30 q = nI (ps q) ∧ M 31 q = nI (ps q + np q) ∧ ps q + np q ≤ 800 ∧ ∀ k, k < np q → s ≤ pr q k ∧ pr q k < q ∧ M 32 (ps q + k) = nI (pr q k)) → (∀ q, c ≤ q → q < e → ∀ l, bl mo np pr W q = some l → W q = l) → (∀ q, s ≤ q → q < i → rowA (M 27) (M 28) q (W q)) → ∃ M' : MI, pdn X m_Claims_buildAll (2, [.ref 23, .int v1, .int (nI e), .int (nI i)], [], (sh0, M, Ml, mr0), 0, 0) = some (some (.int (bI (allF (fun q => (bl mo np pr W q).isSome) n i = true))), (sh0, M', Ml, mr0)) ∧ (∀ k, k ≠ 27 → k ≠ 28 → M' k = M k) ∧ (∀ q l, (q < i ∨ e ≤ q) → rowA (M 27) (M 28) q l → rowA (M' 27) (M' 28) q l) ∧ (allF (fun q => (bl mo np pr W q).isSome) n i = true → ∀ q, s ≤ q → q < e → rowA (M' 27) (M' 28) q (W q)) := by
  intro n
  induction n with
  | zero =>
    intro i M hi hci hP hW hR
    obtain rfl : i = e := by omega
    refine ⟨M, ?_, fun _ _ _ => rfl, fun _ _ _ h => h, fun _ => hR⟩
    rw [e_Claims_buildAll_2, if_neg (by rw [nI_lt' (by omega) (by omega)]; omega)]; rfl
  | succ n ih =>
    intro i M hi hci hP hW hR
    obtain ⟨h0, h1, h2, h3, h4⟩ := hP i hci (by omega)
    obtain ⟨M1, t1, t2, l, t3, t4⟩ := c_build (X := X) (M := M) (Ml := Ml) (c := i) (np := np i) (s := ps i) (by omega) h3 (pr i) W (fun k hk => (h4 k hk).2.1) h1 h2 (fun k hk => (h4 k hk).2.2) (fun k hk => hR (pr i k) (h4 k hk).1 (h4 k hk).2.1)
    rw [← h0] at t1 t4
    have t1' : pD X m_Claims_build [.ref 23, .int (nI i)] (sh0, M, Ml, mr0) = some (some (.int (bI ((bl mo np pr W i).isSome = true))), (sh0, M1, Ml, mr0)) := t1
    rw [e_Claims_buildAll_2, if_pos (by rw [nI_lt' (by omega) (by omega)]; omega), t1', Option.bind_some, pb_i, e_Claims_buildAll_12, nI_1, allF]
    cases hb : bl mo np pr W i with
    | none =>
      refine ⟨M1, by rw [if_pos (bI_f (by decide))]; rfl, fun k q1 q2 => t2.1 k q1 q2, fun q l' hq hr => row_fr t2 (by omega) hr, fun z => absurd z (by simp)⟩
    | some l' =>
      have el : l = W i := (t4 l' hb).trans (hW i hci (by omega) l' hb).symm
      rw [if_neg (by rw [bI_t (show (some l').isSome = true from rfl)]; decide)]
      obtain ⟨M', u1, u2, u3, u4⟩ := ih (i + 1) M1 (by omega) (by omega) (by rw [t2.1 25 (by decide) (by decide), t2.1 26 (by decide) (by decide), t2.1 30 (by decide) (by decide), t2.1 31 (by decide) (by decide), t2.1 32 (by decide) (by decide)]; exact hP) hW (fun q q1 q2 => by
        by_cases eq : q = i
        · subst eq; rw [← el]; exact t3
        · exact row_fr t2 eq (hR q q1 (by omega)))
      exact ⟨M', u1, fun k q1 q2 => (u2 k q1 q2).trans (t2.1 k q1 q2), fun q l2 hq hr => u3 q l2 (by omega) (row_fr t2 (by omega) hr), fun z => u4 z⟩
