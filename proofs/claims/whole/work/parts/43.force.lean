/-! force -/
/-- in force, by day of filing, day paid until, and the land's term -/
abbrev frcB (fd pd tm d : Int32) : Prop := ¬ d < fd + 540 ∧ ¬ pd < d ∧ (d - fd) < tm
theorem c_inForce {X : Nat × (Nat → Int32)} {Mi : MI} {Ml : ML} {f l : Nat} (hf : f < 8) (hl : l < 4) (d : Int32) : pD X m_Filings_inForce [.ref 11, .int (nI f), .int (nI l), .int d, .ref (46 + 2 * l)] (sh0, Mi, Ml, mr0) = some (some (.int (bI (frcB (Mi 14 f) (Mi 22 (4 * f + l)) (Mi (46 + 2 * l + 1) 4) d))), (sh0, Mi, Ml, mr0)) := by
  have p8 : pin (nI f) 8 := pin_nI hf (by decide)
  have cf : (nI f).toNatClampNeg = f := nI_clamp (by omega)
  have i1 : nI f * 4 + nI l = nI (4 * f + l) := by rw [show (4 : Int32) = nI 4 from rfl, nI_mul', nI_add, Nat.mul_comm]
  have ci : (nI (4 * f + l)).toNatClampNeg = 4 * f + l := nI_clamp (by omega)
  have p32 : pin (nI (4 * f + l)) 32 := pin_nI (by omega) (by decide)
  have p46 : pin 4 6 := by decide
  have c4 : Int32.toNatClampNeg 4 = 4 := by decide
  rw [d_Filings_inForce _ _ _ (land_ho hl), if_pos p8, cf]
  by_cases h1 : d < Mi 14 f + 540
  · rw [if_pos h1, bI_f (fun q => q.1 h1)]
  · rw [if_neg h1, d_Filings_paidUntil, i1, if_pos p32, ci, Option.bind_some, pb_i, e_Filings_inForce_21 _ _ _ (land_ho hl)]
    by_cases h2 : Mi 22 (4 * f + l) < d
    · rw [if_pos h2, bI_f (fun q => q.2.1 h2)]
    · rw [if_neg h2, if_pos p8, if_pos p46, cf, c4]
      by_cases h3 : (d - Mi 14 f) < Mi (46 + 2 * l + 1) 4
      · rw [if_pos h3, bI_t ⟨h1, h2, h3⟩]
      · rw [if_neg h3, bI_f (fun q => h3 q.2.2)]
theorem c_isForce {X : Nat × (Nat → Int32)} {Mi : MI} {Ml : ML} {f l : Nat} (hf : f < 8) (hl : l < 4) (d : Int32) : pD X m_M_isForce [.ref 54, .int (nI f), .int (nI l), .int d] (sh0, Mi, Ml, mr0) = some (some (.int (bI (frcB (Mi 61 f) (Mi 79 (4 * f + l)) (Mi 66 (6 * l + 4)) d))), (sh0, Mi, Ml, mr0)) := by
  have p8 : pin (nI f) 8 := pin_nI hf (by decide)
  have cf : (nI f).toNatClampNeg = f := nI_clamp (by omega)
  have i1 : 4 * nI f + nI l = nI (4 * f + l) := by rw [show (4 : Int32) = nI 4 from rfl, nI_mul', nI_add]
  have ci : (nI (4 * f + l)).toNatClampNeg = 4 * f + l := nI_clamp (by omega)
  have p32 : pin (nI (4 * f + l)) 32 := pin_nI (by omega) (by decide)
  have i6 : 6 * nI l + 4 = nI (6 * l + 4) := by rw [show (6 : Int32) = nI 6 from rfl, show (4 : Int32) = nI 4 from rfl, nI_mul', nI_add]
  have c6 : (nI (6 * l + 4)).toNatClampNeg = 6 * l + 4 := nI_clamp (by omega)
  have p24 : pin (nI (6 * l + 4)) 24 := pin_nI (by omega) (by decide)
  have t : ∀ x : Int32, (Int32.toInt64 x).toInt = x.toInt := fun x => Int32.toInt_toInt64 x
  rw [d_M_isForce, if_pos p8, i1, if_pos p32, cf, ci, c_in, t, t, t, Option.bind_some, pb_i, e_M_isForce_27]
  by_cases h1 : (Mi 61 f + 540).toInt ≤ d.toInt ∧ d.toInt ≤ (Mi 79 (4 * f + l)).toInt
  · rw [if_neg (by rw [bI_t h1]; decide), if_pos p8, i6, if_pos p24, cf, c6]
    have g1 : ¬ d < Mi 61 f + 540 := by rw [x_lt]; omega
    have g2 : ¬ Mi 79 (4 * f + l) < d := by rw [x_lt]; omega
    by_cases h3 : (d - Mi 61 f) < Mi 66 (6 * l + 4)
    · rw [if_pos h3, bI_t ⟨g1, g2, h3⟩]
    · rw [if_neg h3, bI_f (fun q => h3 q.2.2)]
  · rw [if_pos (bI_f h1), bI_f]
    rintro ⟨q1, q2, _⟩
    rw [x_lt] at q1 q2; omega
theorem ls_force {X : Nat × (Nat → Int32)} {Mi : MI} {Ml : ML} (h : Inv Mi Ml) (a b c : Int32) : LStp Inv X m_CT_force m_M_force [.int a, .int b, .int c] Mi Ml := by
  obtain ⟨n, n8, e1, e2, hp, hz⟩ := h.2.2.2.1
  have w2 : n < 2 ^ 31 := by omega
  have w1 : (Mi 11 11).toInt = (n : Int) := by rw [e1, nI_toInt w2]
  by_cases h1 : pin a n
  · by_cases h2 : pin b 4
    · by_cases h3 : pin c 20001
      · obtain ⟨f, hf, rfl⟩ := pin_ex w2 h1
        obtain ⟨l, hl, rfl⟩ := pin_ex (by decide) h2
        have cl' : (nI l).toNatClampNeg = l := nI_clamp (by omega)
        have hc : pin (nI l) 4 ∧ 0 < 46 + 2 * l ∧ 46 + 2 * l < 2000 := ⟨h2, by omega, by omega⟩
        have g61 : Mi 61 f = Mi 14 f := ((hp f hf).2.2.2.1).symm
        have g79 : Mi 79 (4 * f + l) = Mi 22 (4 * f + l) := ((h.2.2.2.2.2.2.2.2.1 (4 * f + l) (by omega)).1).symm
        have g66 := (IR_at h.2.2.2.2.2.2.2.1 hl (show 4 < 6 by decide)).symm
        refine ⟨bI (frcB (Mi 14 f) (Mi 22 (4 * f + l)) (Mi (46 + 2 * l + 1) 4) c), Mi, Ml, Mi, Ml, ?_, ?_, h⟩
        · show pD X _ [.ref 1, .int (nI f), .int (nI l), .int c] (sh0, Mi, Ml, mr0) = some (_, (sh0, Mi, Ml, mr0))
          rw [d_CT_force, c_within (nI f) (Mi 11 11) (n := n) w1, Option.bind_some, pb_i, e_CT_force_11, bI_t h1, if_neg (by decide), c_within (nI l) 4 (n := 4) rfl, Option.bind_some, pb_i, e_CT_force_19, bI_t h2, if_neg (by decide), c_isDay, Option.bind_some, pb_i, e_CT_force_30, bI_t h3, if_neg (by decide), cl', land_rd l hl, if_pos hc, c_inForce (by omega) hl, Option.bind_some, pb_i, e_CT_force_53]
          by_cases q : frcB (Mi 14 f) (Mi 22 (4 * f + l)) (Mi (46 + 2 * l + 1) 4) c
          · rw [bI_t q]; rfl
          · rw [bI_f q]; rfl
        · show pD X _ [.ref 54, .int (nI f), .int (nI l), .int c] (sh0, Mi, Ml, mr0) = some (_, (sh0, Mi, Ml, mr0))
          rw [d_M_force, c_isFiling (nI f) w2 e2, Option.bind_some, pb_i, e_M_force_5, bI_t h1, if_neg (by decide), c_isLand, Option.bind_some, pb_i, e_M_force_12, bI_t h2, if_neg (by decide), c_isDayM, Option.bind_some, pb_i, e_M_force_23, bI_t h3, if_neg (by decide), c_isForce (by omega) hl, g61, g79, g66, Option.bind_some, pb_i, e_M_force_39]
          by_cases q : frcB (Mi 14 f) (Mi 22 (4 * f + l)) (Mi (46 + 2 * l + 1) 4) c
          · rw [bI_t q]; rfl
          · rw [bI_f q]; rfl
      · refine ⟨-1002, Mi, Ml, Mi, Ml, ?_, ?_, h⟩
        · show pD X _ _ (sh0, Mi, Ml, mr0) = some (_, (sh0, Mi, Ml, mr0))
          simp only [d_CT_force, c_within a (Mi 11 11) (n := n) w1, e_CT_force_11, c_within b 4 (n := 4) rfl, e_CT_force_19, c_isDay, e_CT_force_30, bI_t h1, bI_t h2, bI_f h3, Option.bind_some, pb_i, pb_n, x10, if_true, if_false, eq_self]
        · show pD X _ _ (sh0, Mi, Ml, mr0) = some (_, (sh0, Mi, Ml, mr0))
          simp only [d_M_force, c_isFiling a w2 e2, e_M_force_5, c_isLand, e_M_force_12, c_isDayM, e_M_force_23, bI_t h1, bI_t h2, bI_f h3, Option.bind_some, pb_i, pb_n, x10, if_true, if_false, eq_self]
    · refine ⟨-1001, Mi, Ml, Mi, Ml, ?_, ?_, h⟩
      · show pD X _ _ (sh0, Mi, Ml, mr0) = some (_, (sh0, Mi, Ml, mr0))
        simp only [d_CT_force, c_within a (Mi 11 11) (n := n) w1, e_CT_force_11, c_within b 4 (n := 4) rfl, e_CT_force_19, c_isDay, e_CT_force_30, bI_t h1, bI_f h2, Option.bind_some, pb_i, pb_n, x10, if_true, if_false, eq_self]
      · show pD X _ _ (sh0, Mi, Ml, mr0) = some (_, (sh0, Mi, Ml, mr0))
        simp only [d_M_force, c_isFiling a w2 e2, e_M_force_5, c_isLand, e_M_force_12, c_isDayM, e_M_force_23, bI_t h1, bI_f h2, Option.bind_some, pb_i, pb_n, x10, if_true, if_false, eq_self]
  · refine ⟨-1001, Mi, Ml, Mi, Ml, ?_, ?_, h⟩
    · show pD X _ _ (sh0, Mi, Ml, mr0) = some (_, (sh0, Mi, Ml, mr0))
      simp only [d_CT_force, c_within a (Mi 11 11) (n := n) w1, e_CT_force_11, c_within b 4 (n := 4) rfl, e_CT_force_19, c_isDay, e_CT_force_30, bI_f h1, Option.bind_some, pb_i, pb_n, x10, if_true, if_false, eq_self]
    · show pD X _ _ (sh0, Mi, Ml, mr0) = some (_, (sh0, Mi, Ml, mr0))
      simp only [d_M_force, c_isFiling a w2 e2, e_M_force_5, c_isLand, e_M_force_12, c_isDayM, e_M_force_23, bI_f h1, Option.bind_some, pb_i, pb_n, x10, if_true, if_false, eq_self]
