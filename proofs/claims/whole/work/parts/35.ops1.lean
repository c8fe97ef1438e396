/-! THE SHORT OPERATIONS -/
theorem ls_with {X : Nat × (Nat → Int32)} {Mi : MI} {Ml : ML} (h : Inv Mi Ml) (a : Int32) : LStp Inv X m_CT_with m_M_with [.int a] Mi Ml := by
  have hk := h.1
  by_cases h1 : pin a 1073741824
  · refine ⟨cl (Mi 3) a, Mi, Ml, Mi, Ml, ?_, ?_, h⟩
    · show pD X _ _ (sh0, Mi, Ml, mr0) = some (_, (sh0, Mi, Ml, mr0))
      simp only [d_CT_with, c_areF, bI_t h1, e_CT_with_4, c_closed, e_CT_with_15, Option.bind_some, pb_i, pb_n, x10, if_true, if_false, eq_self]
    · show pD X _ _ (sh0, Mi, Ml, mr0) = some (_, (sh0, Mi, Ml, mr0))
      simp only [d_M_with, c_isSet, bI_t h1, e_M_with_4, c_withKinds hk.1 hk.2.1 a h1, e_M_with_12, Option.bind_some, pb_i, pb_n, x10, if_true, if_false, eq_self]
  · refine ⟨-1001, Mi, Ml, Mi, Ml, ?_, ?_, h⟩
    · show pD X _ _ (sh0, Mi, Ml, mr0) = some (_, (sh0, Mi, Ml, mr0))
      simp only [d_CT_with, c_areF, bI_f h1, e_CT_with_4, Option.bind_some, pb_i, pb_n, x10, if_true, if_false, eq_self]
    · show pD X _ _ (sh0, Mi, Ml, mr0) = some (_, (sh0, Mi, Ml, mr0))
      simp only [d_M_with, c_isSet, bI_f h1, e_M_with_4, Option.bind_some, pb_i, pb_n, x10, if_true, if_false, eq_self]
theorem ls_paper {X : Nat × (Nat → Int32)} {Mi : MI} {Ml : ML} (h : Inv Mi Ml) (a b c : Int32) : LStp Inv X m_CT_paper m_M_paper [.int a, .int b, .int c] Mi Ml := by
  by_cases h1 : pin a 1073741824
  · by_cases h2 : pin b 20001
    · by_cases h3 : pin c 5
      · obtain ⟨hk, hn, ⟨n, n24, e1, e2, hp⟩, hr⟩ := h
        by_cases h4 : n < 24
        · have g1 : (nI n < 24) = True := eq_true ((x_nlt (n := 24) rfl (by omega)).mpr h4)
          have g2 : pin (nI n) 24 = True := eq_true (pin_nI h4 (by decide))
          have g3 : (nI n = 24) = False := eq_false (fun e => by have := (nI_is (m := 24) rfl (by omega) (by decide)).mp e; omega)
          have g4 : (nI n).toNatClampNeg = n := nI_clamp (by omega)
          have c1 : pD X m_CT_paper [.ref 1, .int a, .int b, .int c] (sh0, Mi, Ml, mr0) = some (some (.int (nI n)), (sh0, pm_up (pm_up (pm_up (pm_up (pm_up Mi 9 n a) 6 n (cl (Mi 3) a)) 10 n b) 7 n c) 5 5 (nI n + 1), Ml, mr0)) := by
            simp only [d_CT_paper, c_areF, e_CT_paper_4, c_isDay, e_CT_paper_15, c_within c 5 (n := 5) rfl, e_CT_paper_23, d_Papers_add, e1, g1, g2, g4, c_closed, e_Papers_add_37, bI_t h1, bI_t h2, bI_t h3, Option.bind_some, pb_i, x10, if_true, if_false, up_off (show (5 : Nat) ≠ 9 by decide), up_off (show (3 : Nat) ≠ 9 by decide), nI_pm, e_CT_paper_44]
          have c2 : ∀ M : MI, M 54 2 = nI n → pD X m_M_paper [.ref 54, .int a, .int b, .int c] (sh0, M, Ml, mr0) = some (some (.int (nI n)), (sh0, pm_up (pm_up (pm_up (pm_up M 57 n a) 58 n b) 59 n c) 54 2 (nI n + 1), Ml, mr0)) := by
            intro M hM
            simp only [d_M_paper, c_isSet, e_M_paper_4, c_isDayM, e_M_paper_15, c_isField, e_M_paper_22, hM, g2, g3, g4, bI_t h1, bI_t h2, bI_t h3, Option.bind_some, pb_i, x10, if_true, if_false, nI_pm]
          refine LS_mk c1 (c2 _ e2) ?_
          refine ⟨hk, hn, ⟨n + 1, by omega, nI_1 n, nI_1 n, fun i hi => ?_⟩, hr⟩
          by_cases hin : i = n
          · subst hin
            exact ⟨up_ok.trans up_ok.symm, by show pin (pm_up Mi 9 i a 9 i) _; rw [up_ok]; exact h1, by show pm_up _ 6 i (cl (Mi 3) a) 6 i = cl (Mi 3) (pm_up Mi 9 i a 9 i); rw [up_ok, up_ok], up_ok.trans up_ok.symm, by show pin (pm_up Mi 10 i b 10 i) _; rw [up_ok]; exact h2, up_ok.trans up_ok.symm, by show pin (pm_up Mi 7 i c 7 i) _; rw [up_ok]; exact h3⟩
          · obtain ⟨a1, a2, a3, a4, a5, a6, a7⟩ := hp i (by omega)
            have u : ∀ (M : MI) (k : Nat) (v : Int32), pm_up M k n v k i = M k i := fun M k v => up_kk hin
            refine ⟨?_, ?_, ?_, ?_, ?_, ?_, ?_⟩
            · show pm_up Mi 9 n a 9 i = pm_up Mi 57 n a 57 i; rw [u, u]; exact a1
            · show pin (pm_up Mi 9 n a 9 i) _; rw [u]; exact a2
            · show pm_up Mi 6 n _ 6 i = cl (Mi 3) (pm_up Mi 9 n a 9 i); rw [u, u]; exact a3
            · show pm_up Mi 10 n b 10 i = pm_up Mi 58 n b 58 i; rw [u, u]; exact a4
            · show pin (pm_up Mi 10 n b 10 i) _; rw [u]; exact a5
            · show pm_up Mi 7 n c 7 i = pm_up Mi 59 n c 59 i; rw [u, u]; exact a6
            · show pin (pm_up Mi 7 n c 7 i) _; rw [u]; exact a7
        · obtain rfl : n = 24 := by omega
          have g1 : ((nI 24) < 24) = False := by decide +kernel
          have g3 : ((nI 24) = 24) = True := by decide +kernel
          have h : Inv Mi Ml := ⟨hk, hn, ⟨24, n24, e1, e2, hp⟩, hr⟩
          refine ⟨-1004, Mi, Ml, Mi, Ml, ?_, ?_, h⟩
          · show pD X _ _ (sh0, Mi, Ml, mr0) = some (_, (sh0, Mi, Ml, mr0))
            simp only [d_CT_paper, c_areF, e_CT_paper_4, c_isDay, e_CT_paper_15, c_within c 5 (n := 5) rfl, e_CT_paper_23, d_Papers_add, bI_t h1, bI_t h2, bI_t h3, e1, g1, e_CT_paper_44, Option.bind_some, pb_i, pb_n, x10, if_true, if_false, eq_self]
          · show pD X _ _ (sh0, Mi, Ml, mr0) = some (_, (sh0, Mi, Ml, mr0))
            simp only [d_M_paper, c_isSet, e_M_paper_4, c_isDayM, e_M_paper_15, c_isField, e_M_paper_22, bI_t h1, bI_t h2, bI_t h3, e2, g3, Option.bind_some, pb_i, pb_n, x10, if_true, if_false, eq_self]
      · refine ⟨-1002, Mi, Ml, Mi, Ml, ?_, ?_, h⟩
        · show pD X _ _ (sh0, Mi, Ml, mr0) = some (_, (sh0, Mi, Ml, mr0))
          simp only [d_CT_paper, c_areF, e_CT_paper_4, c_isDay, e_CT_paper_15, c_within c 5 (n := 5) rfl, e_CT_paper_23, d_Papers_add, bI_t h1, bI_t h2, bI_f h3, Option.bind_some, pb_i, pb_n, x10, if_true, if_false, eq_self]
        · show pD X _ _ (sh0, Mi, Ml, mr0) = some (_, (sh0, Mi, Ml, mr0))
          simp only [d_M_paper, c_isSet, e_M_paper_4, c_isDayM, e_M_paper_15, c_isField, e_M_paper_22, bI_t h1, bI_t h2, bI_f h3, Option.bind_some, pb_i, pb_n, x10, if_true, if_false, eq_self]
    · refine ⟨-1002, Mi, Ml, Mi, Ml, ?_, ?_, h⟩
      · show pD X _ _ (sh0, Mi, Ml, mr0) = some (_, (sh0, Mi, Ml, mr0))
        simp only [d_CT_paper, c_areF, e_CT_paper_4, c_isDay, e_CT_paper_15, c_within c 5 (n := 5) rfl, e_CT_paper_23, d_Papers_add, bI_t h1, bI_f h2, Option.bind_some, pb_i, pb_n, x10, if_true, if_false, eq_self]
      · show pD X _ _ (sh0, Mi, Ml, mr0) = some (_, (sh0, Mi, Ml, mr0))
        simp only [d_M_paper, c_isSet, e_M_paper_4, c_isDayM, e_M_paper_15, c_isField, e_M_paper_22, bI_t h1, bI_f h2, Option.bind_some, pb_i, pb_n, x10, if_true, if_false, eq_self]
  · refine ⟨-1001, Mi, Ml, Mi, Ml, ?_, ?_, h⟩
    · show pD X _ _ (sh0, Mi, Ml, mr0) = some (_, (sh0, Mi, Ml, mr0))
      simp only [d_CT_paper, c_areF, e_CT_paper_4, c_isDay, e_CT_paper_15, c_within c 5 (n := 5) rfl, e_CT_paper_23, d_Papers_add, bI_f h1, Option.bind_some, pb_i, pb_n, x10, if_true, if_false, eq_self]
    · show pD X _ _ (sh0, Mi, Ml, mr0) = some (_, (sh0, Mi, Ml, mr0))
      simp only [d_M_paper, c_isSet, e_M_paper_4, c_isDayM, e_M_paper_15, c_isField, e_M_paper_22, bI_f h1, Option.bind_some, pb_i, pb_n, x10, if_true, if_false, eq_self]
