/-! the operation day -/
theorem claim_fil {Mi : MI} {Ml : ML} (h : Inv Mi Ml) {n nf : Nat} (e : Mi 23 9 = nI n) (hn : n ≤ 40) (ef : Mi 11 11 = nI nf) (hnf : nf ≤ 8) {c : Nat} (hc : c < n) : ∃ f, f < nf ∧ Mi 24 c = nI f ∧ Mi 69 c = nI f := by
  obtain ⟨n', h40, e1, e2, h17, fs, mn, fo, ps, pe, V, hF, hQ⟩ := h.2.2.2.2.2.2.2.2.2
  obtain rfl : n' = n := (nI_eq (by omega) (by omega)).mp (e1.symm.trans e)
  obtain ⟨⟨q1, q2, q3, q4, q5⟩, _⟩ := hQ c hc
  obtain ⟨m1, _, m3, _, _⟩ := hF (fo c) q1
  refine ⟨fo c, ?_, q2, q3⟩
  rcases h17 (fo c) q1 with z | z
  · rw [m1] at z
    have := (nI_is (m := 0) rfl (by omega) (by decide)).mp z
    omega
  · rw [ef, nI_lt' (by omega) (by omega)] at z; exact z
/-- the day of a version, in the class and in the reference (whatever rows stand in its scratch) -/
theorem day_both {X : Nat × (Nat → Int32)} {Mi : MI} {Ml : ML} (h : Inv Mi Ml) {nf f l : Nat} (ef : Mi 11 11 = nI nf) (hnf : nf ≤ 8) (hf : f < nf) (hl : l < 4) (s : Int32) : ∃ d : Int32, pD X m_Filings_versionDay [.ref 11, .int s, .int (nI f), .ref (46 + 2 * l)] (sh0, Mi, Ml, mr0) = some (some (.int d), (sh0, Mi, Ml, mr0)) ∧ ∀ M : MI, (∀ k, k ≠ 76 → k ≠ 77 → k ≠ 78 → k ≠ 83 → k ≠ 45 → M k = Mi k) → pD X m_M_dayOf [.ref 54, .int (nI f), .int s, .int (nI l)] (sh0, M, Ml, mr0) = some (some (.int d), (sh0, M, Ml, mr0)) := by
  obtain ⟨nf', _, e1, _, hp, _⟩ := h.2.2.2.1
  obtain rfl : nf' = nf := (nI_eq (by omega) (by omega)).mp (e1.symm.trans ef)
  obtain ⟨_, _, _, b4, b5, _, _, ⟨E, E3, g1, g2, g3⟩⟩ := hp f hf
  have hr := h.2.2.2.2.2.2.2.1
  refine ⟨_, c_versionDay (land_ho hl) (by omega) E3 g1 s, fun M hM => ?_⟩
  have F := fun k (q : k ≠ 76 ∧ k ≠ 77 ∧ k ≠ 78 ∧ k ≠ 83 ∧ k ≠ 45) => hM k q.1 q.2.1 q.2.2.1 q.2.2.2.1 q.2.2.2.2
  rw [c_dayOf (hs := Mi 3) (by rw [F 55 (by decide)]; exact h.1.1) (by rw [F 55 (by decide)]; exact h.1.2.1) (by omega) hl E3 (by rw [F 63 (by decide)]; exact g2) (fun j hj => by rw [F 64 (by decide), ← (g3 j hj).1]; exact (g3 j hj).2.1) s, F 61 (by decide), F 66 (by decide), F 65 (by decide), F 64 (by decide)]
  have y := IR_at hr hl (show 1 < 6 by decide)
  rw [← y, ← b4, dv_eq (edM := fun j => Mi 65 (3 * f + j)) (ehM := fun j => cl (Mi 3) (Mi 64 (3 * f + j))) (E := E) b5 (IR_ran hr hl).2.1 (fun j hj => by
    obtain ⟨r1, r2, r3, r4, r5⟩ := g3 j hj
    exact ⟨r4, by show Mi 20 (3 * f + j) = cl (Mi 3) (Mi 64 (3 * f + j)); rw [r3, r1], r5⟩) s E 0 (Mi 14 f) (by omega)]
theorem ls_day {X : Nat × (Nat → Int32)} {Mi : MI} {Ml : ML} (h : Inv Mi Ml) (a b c : Int32) : LStp Inv X m_CT_day m_M_day [.int a, .int b, .int c] Mi Ml := by
  obtain ⟨n, h40, e1, e2, _⟩ := h.2.2.2.2.2.2.2.2.2
  obtain ⟨nf, nf8, ef, _, _, _⟩ := h.2.2.2.1
  have w2 : n < 2 ^ 31 := by omega
  have w1 : (Mi 23 9).toInt = (n : Int) := by rw [e1, nI_toInt w2]
  by_cases h1 : pin a n
  · by_cases h3 : pin c 4
    · obtain ⟨q, hq, rfl⟩ := pin_ex w2 h1
      obtain ⟨l', hl', rfl⟩ := pin_ex (by decide) h3
      obtain ⟨l, hl, f0, _, _, _, hM⟩ := claim_rows (X := X) h e1 h40 hq
      obtain ⟨f, hf, g24, g69⟩ := claim_fil h e1 h40 ef nf8 hq
      obtain ⟨M', t1, t2, t3⟩ := hM Mi (fun _ _ _ _ _ _ => rfl)
      have l8 := hl.2.1
      have p40 : pin (nI q) 40 := pin_nI (by omega) (by decide)
      have cc : (nI q).toNatClampNeg = q := nI_clamp (by omega)
      have cl' : (nI l').toNatClampNeg = l' := nI_clamp (by omega)
      have hc : pin (nI l') 4 ∧ 0 < 46 + 2 * l' ∧ 46 + 2 * l' < 2000 := ⟨h3, by omega, by omega⟩
      have w27 : (Mi 27 q).toInt = (l.length : Int) := by rw [hl.1, nI_toInt (by omega)]
      have w76 : (Int32.toInt64 (M' 76 q - 1)).toInt + 1 = (l.length : Int) := by
        rw [show (Int32.toInt64 (M' 76 q - 1)).toInt = (M' 76 q - 1).toInt from Int32.toInt_toInt64 _, t3.1, nI_m1 (by omega)]; omega
      have hI : Inv M' Ml := Inv_scr h (fun k q1 q2 _ _ _ => t2 k q1 q2)
      by_cases h2 : pin b l.length
      · obtain ⟨v, hv, rfl⟩ := pin_ex (by omega) h2
        have i1 : nI q * 8 + nI v = nI (8 * q + v) := by rw [show (8 : Int32) = nI 8 from rfl, nI_mul', nI_add, Nat.mul_comm]
        have i2 : 8 * nI q + nI v = nI (8 * q + v) := by rw [show (8 : Int32) = nI 8 from rfl, nI_mul', nI_add]
        have ci : (nI (8 * q + v)).toNatClampNeg = 8 * q + v := nI_clamp (by omega)
        have p320 : pin (nI (8 * q + v)) 320 := pin_nI (by omega) (by decide)
        obtain ⟨d, d1, d2⟩ := day_both (X := X) h ef nf8 hf hl' (l.getD v 0)
        have d2' := d2 M' (fun k q1 q2 _ _ _ => t2 k q1 q2)
        have g69' : M' 69 q = nI f := by rw [t2 69 (by decide) (by decide)]; exact g69
        refine LS_mk (r := d) (Mi1 := Mi) (Ml1 := Ml) (Mi2 := M') (Ml2 := Ml) ?_ ?_ hI
        · rw [d_CT_day, c_within (nI q) (Mi 23 9) (n := n) w1, Option.bind_some, pb_i, e_CT_day_11, bI_t h1, if_neg (by decide), c_within (nI l') 4 (n := 4) rfl, Option.bind_some, pb_i, e_CT_day_19, bI_t h3, if_neg (by decide), if_pos p40, cc, c_within (nI v) (Mi 27 q) (n := l.length) w27, Option.bind_some, pb_i, e_CT_day_39, bI_t h2, if_neg (by decide), d_Claims_versionAt, i1, if_pos p320, ci, Option.bind_some, pb_i, hl.2.2 v hv, e_CT_day_57, if_pos p40, cl', land_rd l' hl', if_pos hc, cc, g24, d1, Option.bind_some, pb_i, e_CT_day_75]
        · rw [d_M_day, c_isClaim (nI q) w2 e2, Option.bind_some, pb_i, e_M_day_5, bI_t h1, if_neg (by decide), c_isLand, Option.bind_some, pb_i, e_M_day_12, bI_t h3, if_neg (by decide), if_pos p40, cc, t1, Option.bind_some, pb_i, e_M_day_29, if_pos p40, cc, c_inP (nI v) _ (n := l.length) w76, Option.bind_some, pb_i, e_M_day_45, bI_t h2, if_neg (by decide), if_pos p40, i2, if_pos p320, ci, cc, g69', t3.2.2 v hv, d2', Option.bind_some, pb_i, e_M_day_70]
      · refine LS_mk (r := -1) (Mi1 := Mi) (Ml1 := Ml) (Mi2 := M') (Ml2 := Ml) ?_ ?_ hI
        · rw [d_CT_day, c_within (nI q) (Mi 23 9) (n := n) w1, Option.bind_some, pb_i, e_CT_day_11, bI_t h1, if_neg (by decide), c_within (nI l') 4 (n := 4) rfl, Option.bind_some, pb_i, e_CT_day_19, bI_t h3, if_neg (by decide), if_pos p40, cc, c_within b (Mi 27 q) (n := l.length) w27, Option.bind_some, pb_i, e_CT_day_39, if_pos (bI_f h2)]
        · rw [d_M_day, c_isClaim (nI q) w2 e2, Option.bind_some, pb_i, e_M_day_5, bI_t h1, if_neg (by decide), c_isLand, Option.bind_some, pb_i, e_M_day_12, bI_t h3, if_neg (by decide), if_pos p40, cc, t1, Option.bind_some, pb_i, e_M_day_29, if_pos p40, cc, c_inP b _ (n := l.length) w76, Option.bind_some, pb_i, e_M_day_45, if_pos (bI_f h2)]
    · refine LS_mk (r := -1001) (Mi1 := Mi) (Ml1 := Ml) (Mi2 := Mi) (Ml2 := Ml) ?_ ?_ h
      · rw [d_CT_day, c_within a (Mi 23 9) (n := n) w1, Option.bind_some, pb_i, e_CT_day_11, bI_t h1, if_neg (by decide), c_within c 4 (n := 4) rfl, Option.bind_some, pb_i, e_CT_day_19, if_pos (bI_f h3)]
      · rw [d_M_day, c_isClaim a w2 e2, Option.bind_some, pb_i, e_M_day_5, bI_t h1, if_neg (by decide), c_isLand, Option.bind_some, pb_i, e_M_day_12, if_pos (bI_f h3)]
  · refine LS_mk (r := -1001) (Mi1 := Mi) (Ml1 := Ml) (Mi2 := Mi) (Ml2 := Ml) ?_ ?_ h
    · rw [d_CT_day, c_within a (Mi 23 9) (n := n) w1, Option.bind_some, pb_i, e_CT_day_11, if_pos (bI_f h1)]
    · rw [d_M_day, c_isClaim a w2 e2, Option.bind_some, pb_i, e_M_day_5, if_pos (bI_f h1)]
