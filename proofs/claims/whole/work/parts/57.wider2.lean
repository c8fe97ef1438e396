/-! wider: the reference's loops, and the operation -/
theorem c_widM_in {X : Nat × (Nat → Int32)} {Mi : MI} {Ml : ML} {c : Nat} (hc : c < 40) (d v : Nat) {l : List Int32} (hr : rowA (Mi 76) (Mi 77) c l) (A : Int32) (g : Bool) : ∀ (n i : Nat) (s : Bool), i + n = l.length → pdn X m_M_wider (82, [.ref 54, .int (nI c), .int (nI d), .int (bI (g = true)), .int (nI v), .int A, .int (bI (s = true)), .int (nI i)], [], (sh0, Mi, Ml, mr0), 0, 0) = pdn X m_M_wider (47, [.ref 54, .int (nI c), .int (nI d), .int (bI ((g && (s || tkn A (l.drop i))) = true)), .int (nI (v + 1)), .int A, .int (bI ((s || tkn A (l.drop i)) = true)), .int (nI l.length)], [], (sh0, Mi, Ml, mr0), 0, 0) := by
  have h8 := hr.2.1
  have p40 : pin (nI c) 40 := pin_nI hc (by decide)
  have cc : (nI c).toNatClampNeg = c := nI_clamp (by omega)
  intro n
  induction n with
  | zero =>
    intro i s hi
    obtain rfl : i = l.length := by omega
    rw [e_M_wider_82, if_pos p40, cc, hr.1, if_neg (by rw [nI_lt' (by omega) (by omega)]; omega), List.drop_length, nI_1]
    cases g <;> cases s <;> rfl
  | succ n ih =>
    intro i s hi
    have ix : 8 * nI c + nI i = nI (8 * c + i) := by rw [show (8 : Int32) = nI 8 from rfl, nI_mul', nI_add]
    rw [e_M_wider_82, if_pos p40, cc, hr.1, if_pos (by rw [nI_lt' (by omega) (by omega)]; omega), tkn_drop (show i < l.length by omega), nI_1]
    cases s with
    | true =>
      rw [if_neg (by rw [bI_t rfl]; decide)]
      exact (ih (i + 1) true (by omega)).trans (by rfl)
    | false =>
      rw [if_pos (bI_f (by decide)), ix, if_pos (pin_nI (by omega) (by decide)), nI_clamp (by omega), c_has, Option.bind_some, pb_i, e_M_wider_115, hr.2.2 i (by omega), nI_1]
      by_cases h : (l.getD i 0 &&& (A ^^^ (-1))) = 0
      · rw [if_neg (by rw [bI_t h]; decide)]
        refine (ih (i + 1) true (by omega)).trans ?_
        rw [decide_eq_true h]; rfl
      · rw [if_pos (bI_f h)]
        refine (ih (i + 1) false (by omega)).trans ?_
        rw [decide_eq_false h]; rfl
theorem c_widM_go {X : Nat × (Nat → Int32)} {Mi : MI} {Ml : ML} (hK : KOk (Mi 55)) {hs : Nat → Int32} (hH : HsOk (Mi 55) hs) {c d : Nat} (hc : c < 40) (hd : d < 40) {l1 l2 : List Int32} (hr1 : rowA (Mi 76) (Mi 77) c l1) (hr2 : rowA (Mi 76) (Mi 77) d l2) (hs2 : ∀ x, x ∈ l2 → pin x 1073741824) : ∀ (n i : Nat) (g : Bool) (w5 w6 w7 : Int32), i + n = l2.length → pdn X m_M_wider (47, [.ref 54, .int (nI c), .int (nI d), .int (bI (g = true)), .int (nI i), .int w5, .int w6, .int w7], [], (sh0, Mi, Ml, mr0), 0, 0) = some (some (.int (bI ((g && wdr hs l1 (l2.drop i)) = true))), (sh0, Mi, Ml, mr0)) := by
  have h8 := hr2.2.1
  have p40 : pin (nI d) 40 := pin_nI hd (by decide)
  have cc : (nI d).toNatClampNeg = d := nI_clamp (by omega)
  intro n
  induction n with
  | zero =>
    intro i g w5 w6 w7 hi
    obtain rfl : i = l2.length := by omega
    rw [e_M_wider_47v1, if_pos p40, cc, hr2.1, if_neg (by rw [nI_lt' (by omega) (by omega)]; omega), List.drop_length]
    cases g <;> rfl
  | succ n ih =>
    intro i g w5 w6 w7 hi
    have ix : 8 * nI d + nI i = nI (8 * d + i) := by rw [show (8 : Int32) = nI 8 from rfl, nI_mul', nI_add]
    have hm : pin (l2.getD i 0) 1073741824 := hs2 _ (mem_getD.mpr ⟨i, by omega, rfl⟩)
    rw [e_M_wider_47v1, if_pos p40, cc, hr2.1, if_pos (by rw [nI_lt' (by omega) (by omega)]; omega), ix, if_pos (pin_nI (by omega) (by decide)), nI_clamp (by omega), hr2.2.2 i (by omega), c_withKinds hK hH _ hm, Option.bind_some, pb_i, e_M_wider_74v1]
    refine (c_widM_in hc d i hr1 (cl hs (l2.getD i 0)) g l1.length 0 false (by omega)).trans ?_
    rw [ih (i + 1) _ _ _ _ (by omega), wdr_drop (show i < l2.length by omega), List.drop_zero, Bool.false_or, Bool.and_assoc]
theorem ls_wider {X : Nat × (Nat → Int32)} {Mi : MI} {Ml : ML} (h : Inv Mi Ml) (a b : Int32) : LStp Inv X m_CT_wider m_M_wider [.int a, .int b] Mi Ml := by
  obtain ⟨n, h40, e1, e2, _⟩ := h.2.2.2.2.2.2.2.2.2
  have w2 : n < 2 ^ 31 := by omega
  have w1 : (Mi 23 9).toInt = (n : Int) := by rw [e1, nI_toInt w2]
  by_cases h1 : pin a n
  · by_cases h2 : pin b n
    · obtain ⟨c, hc, rfl⟩ := pin_ex w2 h1
      obtain ⟨d, hd, rfl⟩ := pin_ex w2 h2
      obtain ⟨V, hV, hM⟩ := claim_V (X := X) h e1 h40
      obtain ⟨M1, t1, t2, t3, _⟩ := hM c hc Mi (fun _ _ _ _ _ _ => rfl)
      obtain ⟨M2, u1, u2, u3, u4⟩ := hM d hd M1 (fun k q1 q2 _ _ _ => t2 k q1 q2)
      have F : ∀ k, k ≠ 76 → k ≠ 77 → M2 k = Mi k := fun k q1 q2 => (u2 k q1 q2).trans (t2 k q1 q2)
      have hI : Inv M2 Ml := Inv_scr h (fun k q1 q2 _ _ _ => F k q1 q2)
      have p40c : pin (nI c) 40 := pin_nI (by omega) (by decide)
      have p40d : pin (nI d) 40 := pin_nI (by omega) (by decide)
      have cc : (nI c).toNatClampNeg = c := nI_clamp (by omega)
      have cd : (nI d).toNatClampNeg = d := nI_clamp (by omega)
      have r1 := u4 c hc t3
      refine LS_mk (r := bI (wdr (Mi 3) (V c) (V d) = true)) (Mi1 := Mi) (Ml1 := Ml) (Mi2 := M2) (Ml2 := Ml) ?_ ?_ hI
      · rw [d_CT_wider, c_within (nI c) (Mi 23 9) (n := n) w1, Option.bind_some, pb_i, e_CT_wider_11, bI_t h1, if_neg (by decide), c_within (nI d) (Mi 23 9) (n := n) w1, Option.bind_some, pb_i, e_CT_wider_25, bI_t h2, if_neg (by decide)]
        exact c_wider_go (by omega) (by omega) (hV c hc).1 (hV d hd).1 (V d).length 0 (by omega)
      · rw [d_M_wider, c_isClaim (nI c) w2 e2, Option.bind_some, pb_i, e_M_wider_5, bI_t h1, if_neg (by decide), c_isClaim (nI d) w2 e2, Option.bind_some, pb_i, e_M_wider_13, bI_t h2, if_neg (by decide), if_pos p40c, cc, t1, Option.bind_some, pb_i, e_M_wider_30, if_pos p40d, cd, t2 69 (by decide) (by decide), u1, Option.bind_some, pb_i, e_M_wider_41]
        have hK : KOk (M2 55) := by rw [F 55 (by decide) (by decide)]; exact h.1.1
        have hH : HsOk (M2 55) (Mi 3) := by rw [F 55 (by decide) (by decide)]; exact h.1.2.1
        refine Eq.trans ?_ (c_widM_go (X := X) hK hH (by omega) (by omega) r1 u3 (hV d hd).2 (V d).length 0 true 0 0 0 (by omega))
        have l8 := u3.2.1
        have ix : 8 * nI d + 0 = nI (8 * d + 0) := by rw [show (8 : Int32) = nI 8 from rfl, nI_mul', show (0 : Int32) = nI 0 from rfl, nI_add]
        show pdn X m_M_wider (47, [.ref 54, .int (nI c), .int (nI d), .int 1, .int 0, pm_nul, pm_nul, pm_nul], [], (sh0, M2, Ml, mr0), 0, 0) = pdn X m_M_wider (47, [.ref 54, .int (nI c), .int (nI d), .int 1, .int 0, .int 0, .int 0, .int 0], [], (sh0, M2, Ml, mr0), 0, 0)
        rw [e_M_wider_47, e_M_wider_47v1, if_pos p40d, if_pos p40d, cd, u3.1]
        by_cases hz : (0 : Int32) < nI (V d).length
        · have hz' : 0 < (V d).length := (nI_lt' (a := 0) (by omega) (by omega)).mp hz
          have hm : pin ((V d).getD 0 0) 1073741824 := (hV d hd).2 _ (mem_getD.mpr ⟨0, hz', rfl⟩)
          rw [if_pos hz, if_pos hz, ix, if_pos (pin_nI (by omega) (by decide)), if_pos (pin_nI (by omega) (by decide)), nI_clamp (by omega), u3.2.2 0 hz', c_withKinds hK hH _ hm, Option.bind_some, Option.bind_some, pb_i, pb_i, e_M_wider_74, e_M_wider_74v1]
        · rw [if_neg hz, if_neg hz]
    · refine LS_mk (r := -1001) (Mi1 := Mi) (Ml1 := Ml) (Mi2 := Mi) (Ml2 := Ml) ?_ ?_ h
      · rw [d_CT_wider, c_within a (Mi 23 9) (n := n) w1, Option.bind_some, pb_i, e_CT_wider_11, bI_t h1, if_neg (by decide), c_within b (Mi 23 9) (n := n) w1, Option.bind_some, pb_i, e_CT_wider_25, if_pos (bI_f h2)]
      · rw [d_M_wider, c_isClaim a w2 e2, Option.bind_some, pb_i, e_M_wider_5, bI_t h1, if_neg (by decide), c_isClaim b w2 e2, Option.bind_some, pb_i, e_M_wider_13, if_pos (bI_f h2)]
  · refine LS_mk (r := -1001) (Mi1 := Mi) (Ml1 := Ml) (Mi2 := Mi) (Ml2 := Ml) ?_ ?_ h
    · rw [d_CT_wider, c_within a (Mi 23 9) (n := n) w1, Option.bind_some, pb_i, e_CT_wider_11, if_pos (bI_f h1)]
    · rw [d_M_wider, c_isClaim a w2 e2, Option.bind_some, pb_i, e_M_wider_5, if_pos (bI_f h1)]
