/-! rule, fault, pay, count, first -/
theorem land_rd : ∀ l, l < 4 → pm_rd mr0 33 l = 46 + 2 * l := by decide +kernel
theorem land_ho {l : Nat} (h : l < 4) : (46 + 2 * l) = 46 ∨ (46 + 2 * l) = 48 ∨ (46 + 2 * l) = 50 ∨ (46 + 2 * l) = 52 := by omega
theorem IR_at {Mi : MI} (h : IR (Mi 47) (Mi 49) (Mi 51) (Mi 53) (Mi 66)) {l k : Nat} (hl : l < 4) (hk : k < 6) : Mi (46 + 2 * l + 1) k = Mi 66 (6 * l + k) := by
  obtain ⟨h1, h2, h3, h4⟩ := h.1 k hk
  have : l = 0 ∨ l = 1 ∨ l = 2 ∨ l = 3 := by omega
  rcases this with rfl | rfl | rfl | rfl
  · exact h1
  · exact h2
  · exact h3
  · exact h4
theorem IR_ran {Mi : MI} (h : IR (Mi 47) (Mi 49) (Mi 51) (Mi 53) (Mi 66)) {l : Nat} (hl : l < 4) : RRan (Mi (46 + 2 * l + 1)) := by
  obtain ⟨_, h1, h2, h3, h4⟩ := h
  have : l = 0 ∨ l = 1 ∨ l = 2 ∨ l = 3 := by omega
  rcases this with rfl | rfl | rfl | rfl
  · exact h1
  · exact h2
  · exact h3
  · exact h4
theorem ls_fault {X : Nat × (Nat → Int32)} {Mi : MI} {Ml : ML} (h : Inv Mi Ml) : LStp Inv X m_CT_fault m_M_fault [] Mi Ml := by
  refine LS_mk (r := Mi 1 10) (Mi1 := Mi) (Ml1 := Ml) (Mi2 := Mi) (Ml2 := Ml) (d_CT_fault X Mi Ml) ?_ h
  rw [h.2.2.2.2.2.1]; exact d_M_fault X Mi Ml
theorem ls_rule {X : Nat × (Nat → Int32)} {Mi : MI} {Ml : ML} (h : Inv Mi Ml) (a b : Int32) : LStp Inv X m_CT_rule m_M_rule [.int a, .int b] Mi Ml := by
  by_cases h1 : pin a 4
  · by_cases h2 : pin b 6
    · obtain ⟨l, hl, rfl⟩ := pin_ex (by decide) h1
      obtain ⟨k, hk, rfl⟩ := pin_ex (by decide) h2
      have cl' : (nI l).toNatClampNeg = l := nI_clamp (by omega)
      have ck : (nI k).toNatClampNeg = k := nI_clamp (by omega)
      have hc : pin (nI l) 4 ∧ 0 < 46 + 2 * l ∧ 46 + 2 * l < 2000 := ⟨h1, by omega, by omega⟩
      have i1 : 6 * nI l + nI k = nI (6 * l + k) := by rw [show (6 : Int32) = nI 6 from rfl, nI_mul', nI_add]
      have ci : (nI (6 * l + k)).toNatClampNeg = 6 * l + k := nI_clamp (by omega)
      have p24 : pin (nI (6 * l + k)) 24 := pin_nI (by omega) (by decide)
      have hr := IR_at h.2.2.2.2.2.2.2.1 hl hk
      refine ⟨Mi 66 (6 * l + k), Mi, Ml, Mi, Ml, ?_, ?_, h⟩
      · show pD X _ [.ref 1, .int (nI l), .int (nI k)] (sh0, Mi, Ml, mr0) = some (_, (sh0, Mi, Ml, mr0))
        rw [d_CT_rule, c_within (nI l) 4 (n := 4) rfl, Option.bind_some, pb_i, e_CT_rule_5, bI_t h1, if_neg (by decide), c_within (nI k) 6 (n := 6) rfl, Option.bind_some, pb_i, e_CT_rule_18, bI_t h2, if_neg (by decide), cl', land_rd l hl, if_pos hc, e_CT_rule_27 _ _ _ (land_ho hl), if_pos h2, ck, hr]
      · show pD X _ [.ref 54, .int (nI l), .int (nI k)] (sh0, Mi, Ml, mr0) = some (_, (sh0, Mi, Ml, mr0))
        rw [d_M_rule, c_isLand, Option.bind_some, pb_i, e_M_rule_4, bI_t h1, if_neg (by decide), c_inP (nI k) 5 (n := 6) rfl, Option.bind_some, pb_i, e_M_rule_20, bI_t h2, if_neg (by decide), i1, if_pos p24, ci]
    · refine ⟨-1002, Mi, Ml, Mi, Ml, ?_, ?_, h⟩
      · show pD X _ _ (sh0, Mi, Ml, mr0) = some (_, (sh0, Mi, Ml, mr0))
        simp only [d_CT_rule, c_within a 4 (n := 4) rfl, e_CT_rule_5, c_within b 6 (n := 6) rfl, e_CT_rule_18, bI_t h1, bI_f h2, Option.bind_some, pb_i, pb_n, x10, if_true, if_false, eq_self]
      · show pD X _ _ (sh0, Mi, Ml, mr0) = some (_, (sh0, Mi, Ml, mr0))
        simp only [d_M_rule, c_isLand, e_M_rule_4, c_inP b 5 (n := 6) rfl, e_M_rule_20, bI_t h1, bI_f h2, Option.bind_some, pb_i, pb_n, x10, if_true, if_false, eq_self]
  · refine ⟨-1001, Mi, Ml, Mi, Ml, ?_, ?_, h⟩
    · show pD X _ _ (sh0, Mi, Ml, mr0) = some (_, (sh0, Mi, Ml, mr0))
      simp only [d_CT_rule, c_within a 4 (n := 4) rfl, e_CT_rule_5, c_within b 6 (n := 6) rfl, e_CT_rule_18, bI_f h1, Option.bind_some, pb_i, pb_n, x10, if_true, if_false, eq_self]
    · show pD X _ _ (sh0, Mi, Ml, mr0) = some (_, (sh0, Mi, Ml, mr0))
      simp only [d_M_rule, c_isLand, e_M_rule_4, c_inP b 5 (n := 6) rfl, e_M_rule_20, bI_f h1, Option.bind_some, pb_i, pb_n, x10, if_true, if_false, eq_self]
theorem ls_pay {X : Nat × (Nat → Int32)} {Mi : MI} {Ml : ML} (h : Inv Mi Ml) (a b c : Int32) : LStp Inv X m_CT_pay m_M_pay [.int a, .int b, .int c] Mi Ml := by
  obtain ⟨n, n8, e1, e2, hp, hz⟩ := h.2.2.2.1
  have w2 : n < 2 ^ 31 := by omega
  have w1 : (Mi 11 11).toInt = (n : Int) := by rw [e1, nI_toInt w2]
  by_cases h1 : pin a n
  · by_cases h2 : pin b 4
    · by_cases h3 : pin c 20001
      · obtain ⟨f, hf, rfl⟩ := pin_ex w2 h1
        obtain ⟨l, hl, rfl⟩ := pin_ex (by decide) h2
        have i1 : nI f * 4 + nI l = nI (4 * f + l) := by rw [show (4 : Int32) = nI 4 from rfl, nI_mul', nI_add, Nat.mul_comm]
        have i2 : 4 * nI f + nI l = nI (4 * f + l) := by rw [show (4 : Int32) = nI 4 from rfl, nI_mul', nI_add]
        have ci : (nI (4 * f + l)).toNatClampNeg = 4 * f + l := nI_clamp (by omega)
        have p32 : pin (nI (4 * f + l)) 32 := pin_nI (by omega) (by decide)
        obtain ⟨h01, h02, h03, h04, h05, h06, h07, h08, hpd, h10⟩ := h
        have c1 : pD X m_CT_pay [.ref 1, .int (nI f), .int (nI l), .int c] (sh0, Mi, Ml, mr0) = some (some (.int (Mi 22 (4 * f + l))), (sh0, pm_up Mi 22 (4 * f + l) c, Ml, mr0)) := by
          rw [d_CT_pay, c_within (nI f) (Mi 11 11) (n := n) w1, Option.bind_some, pb_i, e_CT_pay_11, bI_t h1, if_neg (by decide), c_within (nI l) 4 (n := 4) rfl, Option.bind_some, pb_i, e_CT_pay_19, bI_t h2, if_neg (by decide), c_isDay, Option.bind_some, pb_i, e_CT_pay_30, bI_t h3, if_neg (by decide), d_Filings_paidUntil, i1, if_pos p32, ci, Option.bind_some, pb_i, e_CT_pay_46, d_Filings_setPaid, i1, if_pos p32, ci, Option.bind_some, pb_n, e_CT_pay_58]
        have c2 : ∀ M : MI, M 54 6 = nI n → M 79 = Mi 79 → pD X m_M_pay [.ref 54, .int (nI f), .int (nI l), .int c] (sh0, M, Ml, mr0) = some (some (.int (Mi 22 (4 * f + l))), (sh0, pm_up M 79 (4 * f + l) c, Ml, mr0)) := by
          intro M hM hM2
          rw [d_M_pay, c_isFiling (nI f) w2 hM, Option.bind_some, pb_i, e_M_pay_5, bI_t h1, if_neg (by decide), c_isLand, Option.bind_some, pb_i, e_M_pay_12, bI_t h2, if_neg (by decide), c_isDayM, Option.bind_some, pb_i, e_M_pay_23, bI_t h3, if_neg (by decide), i2, if_pos p32, if_pos p32, ci, hM2, (hpd _ (by omega)).1]
        refine LS_mk c1 (c2 _ e2 rfl) ⟨h01, h02, h03, h04, h05, h06, h07, h08, fun i hi => ?_, h10⟩
        show pm_up Mi 22 (4 * f + l) c 22 i = pm_up Mi 79 (4 * f + l) c 79 i ∧ (pm_up Mi 22 (4 * f + l) c 22 i = -1 ∨ pin (pm_up Mi 22 (4 * f + l) c 22 i) 20001)
        by_cases q : i = 4 * f + l
        · subst q; rw [up_ok, up_ok]; exact ⟨rfl, Or.inr h3⟩
        · rw [up_kk q, up_kk q]; exact hpd i hi
      · refine ⟨-1002, Mi, Ml, Mi, Ml, ?_, ?_, h⟩
        · show pD X _ _ (sh0, Mi, Ml, mr0) = some (_, (sh0, Mi, Ml, mr0))
          simp only [d_CT_pay, c_within a (Mi 11 11) (n := n) w1, e_CT_pay_11, c_within b 4 (n := 4) rfl, e_CT_pay_19, c_isDay, e_CT_pay_30, bI_t h1, bI_t h2, bI_f h3, Option.bind_some, pb_i, pb_n, x10, if_true, if_false, eq_self]
        · show pD X _ _ (sh0, Mi, Ml, mr0) = some (_, (sh0, Mi, Ml, mr0))
          simp only [d_M_pay, c_isFiling a w2 e2, e_M_pay_5, c_isLand, e_M_pay_12, c_isDayM, e_M_pay_23, bI_t h1, bI_t h2, bI_f h3, Option.bind_some, pb_i, pb_n, x10, if_true, if_false, eq_self]
    · refine ⟨-1001, Mi, Ml, Mi, Ml, ?_, ?_, h⟩
      · show pD X _ _ (sh0, Mi, Ml, mr0) = some (_, (sh0, Mi, Ml, mr0))
        simp only [d_CT_pay, c_within a (Mi 11 11) (n := n) w1, e_CT_pay_11, c_within b 4 (n := 4) rfl, e_CT_pay_19, c_isDay, e_CT_pay_30, bI_t h1, bI_f h2, Option.bind_some, pb_i, pb_n, x10, if_true, if_false, eq_self]
      · show pD X _ _ (sh0, Mi, Ml, mr0) = some (_, (sh0, Mi, Ml, mr0))
        simp only [d_M_pay, c_isFiling a w2 e2, e_M_pay_5, c_isLand, e_M_pay_12, c_isDayM, e_M_pay_23, bI_t h1, bI_f h2, Option.bind_some, pb_i, pb_n, x10, if_true, if_false, eq_self]
  · refine ⟨-1001, Mi, Ml, Mi, Ml, ?_, ?_, h⟩
    · show pD X _ _ (sh0, Mi, Ml, mr0) = some (_, (sh0, Mi, Ml, mr0))
      simp only [d_CT_pay, c_within a (Mi 11 11) (n := n) w1, e_CT_pay_11, c_within b 4 (n := 4) rfl, e_CT_pay_19, c_isDay, e_CT_pay_30, bI_f h1, Option.bind_some, pb_i, pb_n, x10, if_true, if_false, eq_self]
    · show pD X _ _ (sh0, Mi, Ml, mr0) = some (_, (sh0, Mi, Ml, mr0))
      simp only [d_M_pay, c_isFiling a w2 e2, e_M_pay_5, c_isLand, e_M_pay_12, c_isDayM, e_M_pay_23, bI_f h1, Option.bind_some, pb_i, pb_n, x10, if_true, if_false, eq_self]
theorem ls_first {X : Nat × (Nat → Int32)} {Mi : MI} {Ml : ML} (h : Inv Mi Ml) (a : Int32) : LStp Inv X m_CT_first m_M_first1 [.int a] Mi Ml := by
  obtain ⟨n, n8, e1, e2, hp, hz⟩ := h.2.2.2.1
  have w2 : n < 2 ^ 31 := by omega
  have w1 : (Mi 11 11).toInt = (n : Int) := by rw [e1, nI_toInt w2]
  by_cases h1 : pin a n
  · obtain ⟨f, hf, rfl⟩ := pin_ex w2 h1
    have cf : (nI f).toNatClampNeg = f := nI_clamp (by omega)
    have p8 : pin (nI f) 8 := pin_nI (by omega) (by decide)
    obtain ⟨nc, nc40, _, _, _, fs, mn, fo, ps, pe, vc, hF, _⟩ := h.2.2.2.2.2.2.2.2.2
    obtain ⟨m1, m2, m3, m4, _⟩ := hF f (by omega)
    by_cases h2 : 0 < mn f
    · have q1 : 0 < Mi 17 f := by rw [m1, x_lt, nI_toInt (by omega)]; have : (0 : Int32).toInt = 0 := rfl; omega
      have q2 : ¬ Mi 75 f = 0 := by rw [m2]; intro q; have := (nI_is (m := 0) rfl (by omega) (by decide)).mp q; omega
      refine ⟨nI (fs f), Mi, Ml, Mi, Ml, ?_, ?_, h⟩
      · show pD X _ [.ref 1, .int (nI f)] (sh0, Mi, Ml, mr0) = some (_, (sh0, Mi, Ml, mr0))
        rw [d_CT_first, c_within (nI f) (Mi 11 11) (n := n) w1, Option.bind_some, pb_i, e_CT_first_11, bI_t h1, if_neg (by decide), if_pos p8, cf, if_pos q1, if_pos p8, (m4 h2).1]
      · show pD X _ [.ref 54, .int (nI f)] (sh0, Mi, Ml, mr0) = some (_, (sh0, Mi, Ml, mr0))
        rw [d_M_first1, c_isFiling (nI f) w2 e2, Option.bind_some, pb_i, e_M_first1_5, bI_t h1, if_neg (by decide), if_pos p8, cf, if_neg q2, if_pos p8, (m4 h2).2]
    · obtain h0 : mn f = 0 := by omega
      rw [h0] at m1 m2
      have q1 : ¬ 0 < Mi 17 f := by rw [m1]; decide
      have q2 : Mi 75 f = 0 := m2
      refine ⟨-1, Mi, Ml, Mi, Ml, ?_, ?_, h⟩
      · show pD X _ [.ref 1, .int (nI f)] (sh0, Mi, Ml, mr0) = some (_, (sh0, Mi, Ml, mr0))
        rw [d_CT_first, c_within (nI f) (Mi 11 11) (n := n) w1, Option.bind_some, pb_i, e_CT_first_11, bI_t h1, if_neg (by decide), if_pos p8, cf, if_neg q1]
      · show pD X _ [.ref 54, .int (nI f)] (sh0, Mi, Ml, mr0) = some (_, (sh0, Mi, Ml, mr0))
        rw [d_M_first1, c_isFiling (nI f) w2 e2, Option.bind_some, pb_i, e_M_first1_5, bI_t h1, if_neg (by decide), if_pos p8, cf, if_pos q2]
  · refine ⟨-1001, Mi, Ml, Mi, Ml, ?_, ?_, h⟩
    · show pD X _ _ (sh0, Mi, Ml, mr0) = some (_, (sh0, Mi, Ml, mr0))
      simp only [d_CT_first, c_within a (Mi 11 11) (n := n) w1, e_CT_first_11, bI_f h1, Option.bind_some, pb_i, pb_n, x10, if_true, if_false, eq_self]
    · show pD X _ _ (sh0, Mi, Ml, mr0) = some (_, (sh0, Mi, Ml, mr0))
      simp only [d_M_first1, c_isFiling a w2 e2, e_M_first1_5, bI_f h1, Option.bind_some, pb_i, pb_n, x10, if_true, if_false, eq_self]
theorem ls_count {X : Nat × (Nat → Int32)} {Mi : MI} {Ml : ML} (h : Inv Mi Ml) (a : Int32) : LStp Inv X m_CT_count m_M_count [.int a] Mi Ml := by
  obtain ⟨k1, k2, k3, k4⟩ := h.1
  obtain ⟨n1, _, p1, p2, _⟩ := h.2.2.1
  obtain ⟨n2, _, f1, f2, _, _⟩ := h.2.2.2.1
  obtain ⟨n3, _, x1, x2, _⟩ := h.2.2.2.2.1
  obtain ⟨n4, _, g1, g2, _⟩ := h.2.2.2.2.2.2.1
  obtain ⟨n5, _, c1, c2, _⟩ := h.2.2.2.2.2.2.2.2.2
  by_cases h0 : a = 0
  · subst h0
    refine ⟨Mi 5 5, Mi, Ml, Mi, Ml, ?_, ?_, h⟩
    · show pD X _ _ (sh0, Mi, Ml, mr0) = some (_, (sh0, Mi, Ml, mr0))
      rw [d_CT_count]; exact e_CT_count_40 X Mi Ml _
    · show pD X _ _ (sh0, Mi, Ml, mr0) = some (_, (sh0, Mi, Ml, mr0))
      rw [c_countM, p1.trans p2.symm]; exact e_M_count_72 X Mi Ml _ _ _
  by_cases h1 : a = 1
  · subst h1
    refine ⟨Mi 11 11, Mi, Ml, Mi, Ml, ?_, ?_, h⟩
    · show pD X _ _ (sh0, Mi, Ml, mr0) = some (_, (sh0, Mi, Ml, mr0))
      rw [d_CT_count]; exact e_CT_count_48 X Mi Ml _
    · show pD X _ _ (sh0, Mi, Ml, mr0) = some (_, (sh0, Mi, Ml, mr0))
      rw [c_countM, f1.trans f2.symm]; exact e_M_count_77 X Mi Ml _ _ _
  by_cases h2 : a = 2
  · subst h2
    refine ⟨Mi 23 9, Mi, Ml, Mi, Ml, ?_, ?_, h⟩
    · show pD X _ _ (sh0, Mi, Ml, mr0) = some (_, (sh0, Mi, Ml, mr0))
      rw [d_CT_count]; exact e_CT_count_56 X Mi Ml _
    · show pD X _ _ (sh0, Mi, Ml, mr0) = some (_, (sh0, Mi, Ml, mr0))
      rw [c_countM, c1.trans c2.symm]; exact e_M_count_82 X Mi Ml _ _ _
  by_cases h3 : a = 3
  · subst h3
    refine ⟨Mi 41 9, Mi, Ml, Mi, Ml, ?_, ?_, h⟩
    · show pD X _ _ (sh0, Mi, Ml, mr0) = some (_, (sh0, Mi, Ml, mr0))
      rw [d_CT_count]; exact e_CT_count_64 X Mi Ml _
    · show pD X _ _ (sh0, Mi, Ml, mr0) = some (_, (sh0, Mi, Ml, mr0))
      rw [c_countM, g1.trans g2.symm]; exact e_M_count_87 X Mi Ml _ _ _
  by_cases h4 : a = 4
  · subst h4
    refine ⟨Mi 34 1, Mi, Ml, Mi, Ml, ?_, ?_, h⟩
    · show pD X _ _ (sh0, Mi, Ml, mr0) = some (_, (sh0, Mi, Ml, mr0))
      rw [d_CT_count]; exact e_CT_count_72 X Mi Ml _
    · show pD X _ _ (sh0, Mi, Ml, mr0) = some (_, (sh0, Mi, Ml, mr0))
      rw [c_countM, x1.trans x2.symm]; exact e_M_count_92 X Mi Ml _ _ _
  by_cases h5 : a = 5
  · subst h5
    refine ⟨Mi 2 2, Mi, Ml, Mi, Ml, ?_, ?_, h⟩
    · show pD X _ _ (sh0, Mi, Ml, mr0) = some (_, (sh0, Mi, Ml, mr0))
      rw [d_CT_count]; exact e_CT_count_80 X Mi Ml _
    · show pD X _ _ (sh0, Mi, Ml, mr0) = some (_, (sh0, Mi, Ml, mr0))
      rw [c_countM, k4]; exact e_M_count_97 X Mi Ml _ _ _
  refine ⟨-1002, Mi, Ml, Mi, Ml, ?_, ?_, h⟩
  · show pD X _ _ (sh0, Mi, Ml, mr0) = some (_, (sh0, Mi, Ml, mr0))
    rw [d_CT_count, sw6, if_neg h0, if_neg h1, if_neg h2, if_neg h3, if_neg h4, if_neg h5, e_CT_count_88]
  · show pD X _ _ (sh0, Mi, Ml, mr0) = some (_, (sh0, Mi, Ml, mr0))
    rw [c_countM, sw6, if_neg h0, if_neg h1, if_neg h2, if_neg h3, if_neg h4, if_neg h5, e_M_count_99]
