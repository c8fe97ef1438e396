/-! the operations does and by -/
theorem ls_does {X : Nat × (Nat → Int32)} {Mi : MI} {Ml : ML} (h : Inv Mi Ml) (a b c : Int32) : LStp Inv X m_CT_does m_M_does [.int a, .int b, .int c] Mi Ml := by
  obtain ⟨n, h40, e1, e2, _⟩ := h.2.2.2.2.2.2.2.2.2
  obtain ⟨nf, nf8, ef, _, _, _⟩ := h.2.2.2.1
  have w2 : n < 2 ^ 31 := by omega
  have w1 : (Mi 23 9).toInt = (n : Int) := by rw [e1, nI_toInt w2]
  by_cases h1 : pin a n
  · by_cases h3 : pin c 4
    · obtain ⟨q, hq, rfl⟩ := pin_ex w2 h1
      obtain ⟨l', hl', rfl⟩ := pin_ex (by decide) h3
      obtain ⟨l, hl, f0, _, _, _, hM⟩ := claim_rows (X := X) h e1 h40 hq
      obtain ⟨f, hf, g24, g69⟩ := claim_fil h e1 h40 ef nf8 hq
      obtain ⟨M', t1, t2, t3⟩ := hM Mi (fun _ _ _ _ _ _ => rfl)
      have l8 := hl.2.1
      have p40 : pin (nI q) 40 := pin_nI (by omega) (by decide)
      have cc : (nI q).toNatClampNeg = q := nI_clamp (by omega)
      have cl' : (nI l').toNatClampNeg = l' := nI_clamp (by omega)
      have hc : pin (nI l') 4 ∧ 0 < 46 + 2 * l' ∧ 46 + 2 * l' < 2000 := ⟨h3, by omega, by omega⟩
      have w27 : (Mi 27 q).toInt = (l.length : Int) := by rw [hl.1, nI_toInt (by omega)]
      have w76 : (Int32.toInt64 (M' 76 q - 1)).toInt + 1 = (l.length : Int) := by
        rw [show (Int32.toInt64 (M' 76 q - 1)).toInt = (M' 76 q - 1).toInt from Int32.toInt_toInt64 _, t3.1, nI_m1 (by omega)]; omega
      have hI : Inv M' Ml := Inv_scr h (fun k q1 q2 _ _ _ => t2 k q1 q2)
      by_cases h2 : pin b l.length
      · obtain ⟨v, hv, rfl⟩ := pin_ex (by omega) h2
        have i1 : nI q * 8 + nI v = nI (8 * q + v) := by rw [show (8 : Int32) = nI 8 from rfl, nI_mul', nI_add, Nat.mul_comm]
        have i2 : 8 * nI q + nI v = nI (8 * q + v) := by rw [show (8 : Int32) = nI 8 from rfl, nI_mul', nI_add]
        have ci : (nI (8 * q + v)).toNatClampNeg = 8 * q + v := nI_clamp (by omega)
        have p320 : pin (nI (8 * q + v)) 320 := pin_nI (by omega) (by decide)
        have hJ := JW_inv h
        have hJ' := JW_inv hI
        have hA : Agr M' Mi := fun k g => t2 k g.2.1 g.2.2.1
        have ef' : M' 11 11 = nI nf := by rw [hA 11 (by decide)]; exact ef
        have g69' : M' 69 q = nI f := by rw [t2 69 (by decide) (by decide)]; exact g69
        have k1 := c_taker (X := X) (Ml := Ml) hJ ef nf8 hf hl' (l.getD v 0)
        have k2 := j_easyC (X := X) (Ml := Ml) hJ ef nf8 hf hl' (l.getD v 0)
        have k3 := c_takenBy (X := X) (Ml := Ml) hJ' ef' nf8 hf hl' (l.getD v 0)
        have k4 := j_easyM (X := X) (Ml := Ml) hJ' ef' nf8 hf hl' (l.getD v 0)
        rw [tk_ag hA f hl'] at k3
        rw [ez_ag hA f hl'] at k4
        have s1 : pD X m_CT_does [.ref 1, .int (nI q), .int (nI v), .int (nI l')] (sh0, Mi, Ml, mr0) = (if tk Mi f l' (l.getD v 0) = -1 then (if ez Mi f l' (l.getD v 0) = -1 then some (some (.int 0), (sh0, Mi, Ml, mr0)) else some (some (.int 2), (sh0, Mi, Ml, mr0))) else some (some (.int 1), (sh0, Mi, Ml, mr0))) := by
          rw [d_CT_does, c_within (nI q) (Mi 23 9) (n := n) w1, Option.bind_some, pb_i, w_CT_does_11, bI_t h1, if_neg (by decide), c_within (nI l') 4 (n := 4) rfl, Option.bind_some, pb_i, w_CT_does_19, bI_t h3, if_neg (by decide), if_pos p40, cc, c_within (nI v) (Mi 27 q) (n := l.length) w27, Option.bind_some, pb_i, w_CT_does_39, bI_t h2, if_neg (by decide), d_Claims_versionAt, i1, if_pos p320, ci, Option.bind_some, pb_i, hl.2.2 v hv, w_CT_does_53, if_pos p40, cl', land_rd l' hl', if_pos hc, cc, g24, k1, Option.bind_some, pb_i, w_CT_does_79, if_pos p40, cl', land_rd l' hl', if_pos hc, cc, g24, k2, Option.bind_some, pb_i, w_CT_does_109]
        have s2 : pD X m_M_does [.ref 54, .int (nI q), .int (nI v), .int (nI l')] (sh0, Mi, Ml, mr0) = (if tk Mi f l' (l.getD v 0) < 0 then (if ez Mi f l' (l.getD v 0) < 0 then some (some (.int 0), (sh0, M', Ml, mr0)) else some (some (.int 2), (sh0, M', Ml, mr0))) else some (some (.int 1), (sh0, M', Ml, mr0))) := by
          rw [d_M_does, c_isClaim (nI q) w2 e2, Option.bind_some, pb_i, w_M_does_5, bI_t h1, if_neg (by decide), c_isLand, Option.bind_some, pb_i, w_M_does_12, bI_t h3, if_neg (by decide), if_pos p40, cc, t1, Option.bind_some, pb_i, w_M_does_29, if_pos p40, cc, c_inP (nI v) _ (n := l.length) w76, Option.bind_some, pb_i, w_M_does_45, bI_t h2, if_neg (by decide), i2, if_pos p320, if_pos p40, ci, cc, g69', t3.2.2 v hv, k3, Option.bind_some, pb_i, w_M_does_76, if_pos p40, cc, g69', k4, Option.bind_some, pb_i, w_M_does_96]
        have n1 := tk_neg hJ f l' (l.getD v 0)
        have n2 := ez_neg hJ f l' (l.getD v 0)
        by_cases z1 : tk Mi f l' (l.getD v 0) = -1
        · by_cases z2 : ez Mi f l' (l.getD v 0) = -1
          · exact LS_mk (r := 0) (s1.trans (by rw [if_pos z1, if_pos z2])) (s2.trans (by rw [if_pos (n1.mpr z1), if_pos (n2.mpr z2)])) hI
          · exact LS_mk (r := 2) (s1.trans (by rw [if_pos z1, if_neg z2])) (s2.trans (by rw [if_pos (n1.mpr z1), if_neg (fun t => z2 (n2.mp t))])) hI
        · exact LS_mk (r := 1) (s1.trans (by rw [if_neg z1])) (s2.trans (by rw [if_neg (fun t => z1 (n1.mp t))])) hI
      · refine LS_mk (r := -1) (Mi1 := Mi) (Ml1 := Ml) (Mi2 := M') (Ml2 := Ml) ?_ ?_ hI
        · rw [d_CT_does, c_within (nI q) (Mi 23 9) (n := n) w1, Option.bind_some, pb_i, w_CT_does_11, bI_t h1, if_neg (by decide), c_within (nI l') 4 (n := 4) rfl, Option.bind_some, pb_i, w_CT_does_19, bI_t h3, if_neg (by decide), if_pos p40, cc, c_within b (Mi 27 q) (n := l.length) w27, Option.bind_some, pb_i, w_CT_does_39, if_pos (bI_f h2)]
        · rw [d_M_does, c_isClaim (nI q) w2 e2, Option.bind_some, pb_i, w_M_does_5, bI_t h1, if_neg (by decide), c_isLand, Option.bind_some, pb_i, w_M_does_12, bI_t h3, if_neg (by decide), if_pos p40, cc, t1, Option.bind_some, pb_i, w_M_does_29, if_pos p40, cc, c_inP b _ (n := l.length) w76, Option.bind_some, pb_i, w_M_does_45, if_pos (bI_f h2)]
    · refine LS_mk (r := -1001) (Mi1 := Mi) (Ml1 := Ml) (Mi2 := Mi) (Ml2 := Ml) ?_ ?_ h
      · rw [d_CT_does, c_within a (Mi 23 9) (n := n) w1, Option.bind_some, pb_i, w_CT_does_11, bI_t h1, if_neg (by decide), c_within c 4 (n := 4) rfl, Option.bind_some, pb_i, w_CT_does_19, if_pos (bI_f h3)]
      · rw [d_M_does, c_isClaim a w2 e2, Option.bind_some, pb_i, w_M_does_5, bI_t h1, if_neg (by decide), c_isLand, Option.bind_some, pb_i, w_M_does_12, if_pos (bI_f h3)]
  · refine LS_mk (r := -1001) (Mi1 := Mi) (Ml1 := Ml) (Mi2 := Mi) (Ml2 := Ml) ?_ ?_ h
    · rw [d_CT_does, c_within a (Mi 23 9) (n := n) w1, Option.bind_some, pb_i, w_CT_does_11, if_pos (bI_f h1)]
    · rw [d_M_does, c_isClaim a w2 e2, Option.bind_some, pb_i, w_M_does_5, if_pos (bI_f h1)]
theorem ls_by {X : Nat × (Nat → Int32)} {Mi : MI} {Ml : ML} (h : Inv Mi Ml) (a b c : Int32) : LStp Inv X m_CT_by m_M_by [.int a, .int b, .int c] Mi Ml := by
  obtain ⟨n, h40, e1, e2, _⟩ := h.2.2.2.2.2.2.2.2.2
  obtain ⟨nf, nf8, ef, _, _, _⟩ := h.2.2.2.1
  have w2 : n < 2 ^ 31 := by omega
  have w1 : (Mi 23 9).toInt = (n : Int) := by rw [e1, nI_toInt w2]
  by_cases h1 : pin a n
  · by_cases h3 : pin c 4
    · obtain ⟨q, hq, rfl⟩ := pin_ex w2 h1
      obtain ⟨l', hl', rfl⟩ := pin_ex (by decide) h3
      obtain ⟨l, hl, f0, _, _, _, hM⟩ := claim_rows (X := X) h e1 h40 hq
      obtain ⟨f, hf, g24, g69⟩ := claim_fil h e1 h40 ef nf8 hq
      obtain ⟨M', t1, t2, t3⟩ := hM Mi (fun _ _ _ _ _ _ => rfl)
      have l8 := hl.2.1
      have p40 : pin (nI q) 40 := pin_nI (by omega) (by decide)
      have cc : (nI q).toNatClampNeg = q := nI_clamp (by omega)
      have cl' : (nI l').toNatClampNeg = l' := nI_clamp (by omega)
      have hc : pin (nI l') 4 ∧ 0 < 46 + 2 * l' ∧ 46 + 2 * l' < 2000 := ⟨h3, by omega, by omega⟩
      have w27 : (Mi 27 q).toInt = (l.length : Int) := by rw [hl.1, nI_toInt (by omega)]
      have w76 : (Int32.toInt64 (M' 76 q - 1)).toInt + 1 = (l.length : Int) := by
        rw [show (Int32.toInt64 (M' 76 q - 1)).toInt = (M' 76 q - 1).toInt from Int32.toInt_toInt64 _, t3.1, nI_m1 (by omega)]; omega
      have hI : Inv M' Ml := Inv_scr h (fun k q1 q2 _ _ _ => t2 k q1 q2)
      by_cases h2 : pin b l.length
      · obtain ⟨v, hv, rfl⟩ := pin_ex (by omega) h2
        have i1 : nI q * 8 + nI v = nI (8 * q + v) := by rw [show (8 : Int32) = nI 8 from rfl, nI_mul', nI_add, Nat.mul_comm]
        have i2 : 8 * nI q + nI v = nI (8 * q + v) := by rw [show (8 : Int32) = nI 8 from rfl, nI_mul', nI_add]
        have ci : (nI (8 * q + v)).toNatClampNeg = 8 * q + v := nI_clamp (by omega)
        have p320 : pin (nI (8 * q + v)) 320 := pin_nI (by omega) (by decide)
        have hJ := JW_inv h
        have hJ' := JW_inv hI
        have hA : Agr M' Mi := fun k g => t2 k g.2.1 g.2.2.1
        have ef' : M' 11 11 = nI nf := by rw [hA 11 (by decide)]; exact ef
        have g69' : M' 69 q = nI f := by rw [t2 69 (by decide) (by decide)]; exact g69
        have k1 := c_taker (X := X) (Ml := Ml) hJ ef nf8 hf hl' (l.getD v 0)
        have k2 := j_easyC (X := X) (Ml := Ml) hJ ef nf8 hf hl' (l.getD v 0)
        have k3 := c_takenBy (X := X) (Ml := Ml) hJ' ef' nf8 hf hl' (l.getD v 0)
        have k4 := j_easyM (X := X) (Ml := Ml) hJ' ef' nf8 hf hl' (l.getD v 0)
        rw [tk_ag hA f hl'] at k3
        rw [ez_ag hA f hl'] at k4
        have s1 : pD X m_CT_by [.ref 1, .int (nI q), .int (nI v), .int (nI l')] (sh0, Mi, Ml, mr0) = (if tk Mi f l' (l.getD v 0) = -1 then some (some (.int (ez Mi f l' (l.getD v 0))), (sh0, Mi, Ml, mr0)) else some (some (.int (tk Mi f l' (l.getD v 0))), (sh0, Mi, Ml, mr0))) := by
          rw [d_CT_by, c_within (nI q) (Mi 23 9) (n := n) w1, Option.bind_some, pb_i, w_CT_by_11, bI_t h1, if_neg (by decide), c_within (nI l') 4 (n := 4) rfl, Option.bind_some, pb_i, w_CT_by_19, bI_t h3, if_neg (by decide), if_pos p40, cc, c_within (nI v) (Mi 27 q) (n := l.length) w27, Option.bind_some, pb_i, w_CT_by_39, bI_t h2, if_neg (by decide), d_Claims_versionAt, i1, if_pos p320, ci, Option.bind_some, pb_i, hl.2.2 v hv, w_CT_by_53, if_pos p40, cl', land_rd l' hl', if_pos hc, cc, g24, k1, Option.bind_some, pb_i, w_CT_by_79, if_pos p40, cl', land_rd l' hl', if_pos hc, cc, g24, k2, Option.bind_some, pb_i, w_CT_by_116]
        have s2 : pD X m_M_by [.ref 54, .int (nI q), .int (nI v), .int (nI l')] (sh0, Mi, Ml, mr0) = (if tk Mi f l' (l.getD v 0) < 0 then some (some (.int (ez Mi f l' (l.getD v 0))), (sh0, M', Ml, mr0)) else some (some (.int (tk Mi f l' (l.getD v 0))), (sh0, M', Ml, mr0))) := by
          rw [d_M_by, c_isClaim (nI q) w2 e2, Option.bind_some, pb_i, w_M_by_5, bI_t h1, if_neg (by decide), c_isLand, Option.bind_some, pb_i, w_M_by_12, bI_t h3, if_neg (by decide), if_pos p40, cc, t1, Option.bind_some, pb_i, w_M_by_29, if_pos p40, cc, c_inP (nI v) _ (n := l.length) w76, Option.bind_some, pb_i, w_M_by_45, bI_t h2, if_neg (by decide), i2, if_pos p320, if_pos p40, ci, cc, g69', t3.2.2 v hv, k3, Option.bind_some, pb_i, w_M_by_76, if_pos p40, cc, g69', k4, Option.bind_some, pb_i, w_M_by_101]
        have n1 := tk_neg hJ f l' (l.getD v 0)
        have n2 := ez_neg hJ f l' (l.getD v 0)
        by_cases z1 : tk Mi f l' (l.getD v 0) = -1
        · exact LS_mk (r := ez Mi f l' (l.getD v 0)) (s1.trans (by rw [if_pos z1])) (s2.trans (by rw [if_pos (n1.mpr z1)])) hI
        · exact LS_mk (r := tk Mi f l' (l.getD v 0)) (s1.trans (by rw [if_neg z1])) (s2.trans (by rw [if_neg (fun t => z1 (n1.mp t))])) hI
      · refine LS_mk (r := -1) (Mi1 := Mi) (Ml1 := Ml) (Mi2 := M') (Ml2 := Ml) ?_ ?_ hI
        · rw [d_CT_by, c_within (nI q) (Mi 23 9) (n := n) w1, Option.bind_some, pb_i, w_CT_by_11, bI_t h1, if_neg (by decide), c_within (nI l') 4 (n := 4) rfl, Option.bind_some, pb_i, w_CT_by_19, bI_t h3, if_neg (by decide), if_pos p40, cc, c_within b (Mi 27 q) (n := l.length) w27, Option.bind_some, pb_i, w_CT_by_39, if_pos (bI_f h2)]
        · rw [d_M_by, c_isClaim (nI q) w2 e2, Option.bind_some, pb_i, w_M_by_5, bI_t h1, if_neg (by decide), c_isLand, Option.bind_some, pb_i, w_M_by_12, bI_t h3, if_neg (by decide), if_pos p40, cc, t1, Option.bind_some, pb_i, w_M_by_29, if_pos p40, cc, c_inP b _ (n := l.length) w76, Option.bind_some, pb_i, w_M_by_45, if_pos (bI_f h2)]
    · refine LS_mk (r := -1001) (Mi1 := Mi) (Ml1 := Ml) (Mi2 := Mi) (Ml2 := Ml) ?_ ?_ h
      · rw [d_CT_by, c_within a (Mi 23 9) (n := n) w1, Option.bind_some, pb_i, w_CT_by_11, bI_t h1, if_neg (by decide), c_within c 4 (n := 4) rfl, Option.bind_some, pb_i, w_CT_by_19, if_pos (bI_f h3)]
      · rw [d_M_by, c_isClaim a w2 e2, Option.bind_some, pb_i, w_M_by_5, bI_t h1, if_neg (by decide), c_isLand, Option.bind_some, pb_i, w_M_by_12, if_pos (bI_f h3)]
  · refine LS_mk (r := -1001) (Mi1 := Mi) (Ml1 := Ml) (Mi2 := Mi) (Ml2 := Ml) ?_ ?_ h
    · rw [d_CT_by, c_within a (Mi 23 9) (n := n) w1, Option.bind_some, pb_i, w_CT_by_11, if_pos (bI_f h1)]
    · rw [d_M_by, c_isClaim a w2 e2, Option.bind_some, pb_i, w_M_by_5, if_pos (bI_f h1)]
