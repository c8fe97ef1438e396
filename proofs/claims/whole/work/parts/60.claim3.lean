/-! the operation claim -/
theorem sw5 (v : Int32) (a b c d e z : Nat) : pm_sw v [a, b, c, d, e] 0 z = if v = 0 then a else if v = 1 then b else if v = 2 then c else if v = 3 then d else if v = 4 then e else z := rfl
theorem ls_claim {X : Nat × (Nat → Int32)} {Mi : MI} {Ml : ML} (h : Inv Mi Ml) (a b : Int32) : LStp Inv X m_CT_claim m_M_claim [.int a, .int b] Mi Ml := by
  have hC := h.2.2.2.2.2.2.2.2.2
  obtain ⟨n, h40, e1, e2, _, fs, mn, fo, ps, pe, V, hF, hQ⟩ := hC
  have w2 : n < 2 ^ 31 := by omega
  have w1 : (Mi 23 9).toInt = (n : Int) := by rw [e1, nI_toInt w2]
  by_cases h1 : pin a n
  · obtain ⟨c, hc, rfl⟩ := pin_ex w2 h1
    obtain ⟨⟨_, o2, o3, _⟩, ⟨o4, _, o6, _⟩, _⟩ := hQ c hc
    obtain ⟨l, hl, f, hf, g1, g2, hM⟩ := claim_rows (X := X) h e1 h40 hc
    obtain ⟨M', t1, t2, t3⟩ := hM Mi (fun _ _ _ _ _ _ => rfl)
    have l8 := hl.2.1
    have p40 : pin (nI c) 40 := pin_nI (by omega) (by decide)
    have cc : (nI c).toNatClampNeg = c := nI_clamp (by omega)
    have hI : Inv M' Ml := Inv_scr h (fun k q1 q2 _ _ _ => t2 k q1 q2)
    have hA := inv_anc hI (n := n) (by rw [t2 23 (by decide) (by decide)]; exact e1) h40
    have s1 : pD X m_CT_claim [.ref 1, .int (nI c), .int b] (sh0, Mi, Ml, mr0) = pdn X m_CT_claim (pm_sw b [52, 62, 72, 82, 92] 0 101, [.ref 1, .int (nI c), .int b], [], (sh0, Mi, Ml, mr0), 0, 0) := by
      rw [d_CT_claim, c_within (nI c) (Mi 23 9) (n := n) w1, Option.bind_some, pb_i, e_CT_claim_11, bI_t h1, if_neg (by decide)]
    have s2 : pD X m_M_claim [.ref 54, .int (nI c), .int b] (sh0, Mi, Ml, mr0) = pdn X m_M_claim (pm_sw b [60, 67, 74, 81, 88] 0 94, [.ref 54, .int (nI c), .int b], [], (sh0, M', Ml, mr0), 0, 0) := by
      rw [d_M_claim, c_isClaim (nI c) w2 e2, Option.bind_some, pb_i, e_M_claim_5, bI_t h1, if_neg (by decide), if_pos p40, cc, t1, Option.bind_some, pb_i, e_M_claim_22]
    rw [sw5] at s1 s2
    by_cases h2 : b = 0
    · refine LS_mk (r := Mi 24 c) (Mi1 := Mi) (Ml1 := Ml) (Mi2 := M') (Ml2 := Ml) ?_ ?_ hI
      · rw [s1, if_pos h2, e_CT_claim_52, if_pos p40, cc]
      · rw [s2, if_pos h2, e_M_claim_60, if_pos p40, cc, t2 69 (by decide) (by decide), (o3.trans o2.symm)]
    by_cases h3 : b = 1
    · refine LS_mk (r := Mi 25 c) (Mi1 := Mi) (Ml1 := Ml) (Mi2 := M') (Ml2 := Ml) ?_ ?_ hI
      · rw [s1, if_neg h2, if_pos h3, e_CT_claim_62, if_pos p40, cc]
      · rw [s2, if_neg h2, if_pos h3, e_M_claim_67, if_pos p40, cc, t2 70 (by decide) (by decide), o4.symm]
    by_cases h4 : b = 2
    · refine LS_mk (r := Mi 26 c) (Mi1 := Mi) (Ml1 := Ml) (Mi2 := M') (Ml2 := Ml) ?_ ?_ hI
      · rw [s1, if_neg h2, if_neg h3, if_pos h4, e_CT_claim_72, if_pos p40, cc]
      · rw [s2, if_neg h2, if_neg h3, if_pos h4, e_M_claim_74, if_pos p40, cc, t2 71 (by decide) (by decide), o6.symm]
    by_cases h5 : b = 3
    · refine LS_mk (r := Mi 27 c) (Mi1 := Mi) (Ml1 := Ml) (Mi2 := M') (Ml2 := Ml) ?_ ?_ hI
      · rw [s1, if_neg h2, if_neg h3, if_neg h4, if_pos h5, e_CT_claim_82, if_pos p40, cc]
      · rw [s2, if_neg h2, if_neg h3, if_neg h4, if_pos h5, e_M_claim_81, if_pos p40, cc, t3.1, hl.1]
    by_cases h6 : b = 4
    · refine LS_mk (r := nI (fb_ct (fun e => lb (Ml 29 e) c) n)) (Mi1 := Mi) (Ml1 := Ml) (Mi2 := M') (Ml2 := Ml) ?_ ?_ hI
      · rw [s1, if_neg h2, if_neg h3, if_neg h4, if_neg h5, if_pos h6, e_CT_claim_92, d_Claims_hangingOn, show pdn X m_Claims_hangingOn (4, [.ref 23, .int (nI c), .int 0, .int 0], [], (sh0, Mi, Ml, mr0), 0, 0) = _ from c_hang_go (X := X) (Mi := Mi) (Ml := Ml) (show c < 40 by omega) h40 e1 n 0 (by omega), Option.bind_some, pb_i, e_CT_claim_100]
      · rw [s2, if_neg h2, if_neg h3, if_neg h4, if_neg h5, if_pos h6, e_M_claim_88, c_ofIt hc h40 (by rw [t2 54 (by decide) (by decide)]; exact e2) hA, Option.bind_some, pb_i, e_M_claim_93]
    · refine LS_mk (r := -1002) (Mi1 := Mi) (Ml1 := Ml) (Mi2 := M') (Ml2 := Ml) ?_ ?_ hI
      · rw [s1, if_neg h2, if_neg h3, if_neg h4, if_neg h5, if_neg h6, e_CT_claim_101]
      · rw [s2, if_neg h2, if_neg h3, if_neg h4, if_neg h5, if_neg h6, e_M_claim_94]
  · refine LS_mk (r := -1001) (Mi1 := Mi) (Ml1 := Ml) (Mi2 := Mi) (Ml2 := Ml) ?_ ?_ h
    · rw [d_CT_claim, c_within a (Mi 23 9) (n := n) w1, Option.bind_some, pb_i, e_CT_claim_11, if_pos (bI_f h1)]
    · rw [d_M_claim, c_isClaim a w2 e2, Option.bind_some, pb_i, e_M_claim_5, if_pos (bI_f h1)]
