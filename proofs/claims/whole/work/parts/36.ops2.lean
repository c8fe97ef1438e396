/-! THE SHORT OPERATIONS, second part -/
theorem ls_filing {X : Nat × (Nat → Int32)} {Mi : MI} {Ml : ML} (h : Inv Mi Ml) (a b c : Int32) : LStp Inv X m_CT_filing m_M_filing [.int a, .int b, .int c] Mi Ml := by
  by_cases h1 : pin a 1073741824
  · by_cases h2 : pin b 20001
    · by_cases h3 : pin c 5
      · obtain ⟨hk, hn, hpp, ⟨n, n8, e1, e2, hp, hz⟩, hr⟩ := h
        by_cases h4 : n < 8
        · have g1 : (nI n < 8) = True := eq_true ((x_nlt (n := 8) rfl (by omega)).mpr h4)
          have g2 : pin (nI n) 8 = True := eq_true (pin_nI h4 (by decide))
          have g3 : (nI n = 8) = False := eq_false (fun e => by have := (nI_is (m := 8) rfl (by omega) (by decide)).mp e; omega)
          have g4 : (nI n).toNatClampNeg = n := nI_clamp (by omega)
          have c1 : pD X m_CT_filing [.ref 1, .int a, .int b, .int c] (sh0, Mi, Ml, mr0) = some (some (.int (nI n)), (sh0, pm_up (pm_up (pm_up (pm_up (pm_up Mi 12 n a) 13 n (cl (Mi 3) a)) 14 n b) 15 n c) 11 11 (nI n + 1), Ml, mr0)) := by
            simp only [d_CT_filing, c_areF, e_CT_filing_4, c_isDay, e_CT_filing_15, c_within c 5 (n := 5) rfl, e_CT_filing_23, d_Filings_add, e1, g1, g2, g4, c_closed, e_Filings_add_37, bI_t h1, bI_t h2, bI_t h3, Option.bind_some, pb_i, x10, if_true, if_false, up_off (show (11 : Nat) ≠ 12 by decide), up_off (show (3 : Nat) ≠ 12 by decide), nI_pm, e_CT_filing_44]
          have c2 : ∀ M : MI, M 54 6 = nI n → pD X m_M_filing [.ref 54, .int a, .int b, .int c] (sh0, M, Ml, mr0) = some (some (.int (nI n)), (sh0, pm_up (pm_up (pm_up (pm_up (pm_up M 60 n a) 61 n b) 62 n c) 63 n 0) 54 6 (nI n + 1), Ml, mr0)) := by
            intro M hM
            simp only [d_M_filing, c_isSet, e_M_filing_4, c_isDayM, e_M_filing_15, c_isField, e_M_filing_22, hM, g2, g3, g4, bI_t h1, bI_t h2, bI_t h3, Option.bind_some, pb_i, x10, if_true, if_false, nI_pm]
          refine LS_mk c1 (c2 _ e2) ?_
          have hle : Mi 11 11 ≤ nI n + 1 := by rw [e1, nI_1, x_le, nI_toInt (by omega), nI_toInt (by omega)]; omega
          refine ⟨hk, hn, hpp, ⟨n + 1, by omega, nI_1 n, nI_1 n, fun i hi => ?_, fun i h5 h6 => hz i (by omega) h6⟩, hr.1, hr.2.1, hr.2.2.1, hr.2.2.2.1, hr.2.2.2.2.1, IC_11 hr.2.2.2.2.2 hle⟩
          by_cases hin : i = n
          · subst hin
            exact ⟨up_ok.trans up_ok.symm, by show pin (pm_up Mi 12 i a 12 i) _; rw [up_ok]; exact h1, by show pm_up _ 13 i (cl (Mi 3) a) 13 i = cl (Mi 3) (pm_up Mi 12 i a 12 i); rw [up_ok, up_ok], up_ok.trans up_ok.symm, by show pin (pm_up Mi 14 i b 14 i) _; rw [up_ok]; exact h2, up_ok.trans up_ok.symm, by show pin (pm_up Mi 15 i c 15 i) _; rw [up_ok]; exact h3, ⟨0, by omega, hz i (Nat.le_refl i) h4, up_ok, fun j hj => absurd hj (Nat.not_lt_zero j)⟩⟩
          · obtain ⟨a1, a2, a3, a4, a5, a6, a7, ⟨e, a8, a9, a10, a11⟩⟩ := hp i (by omega)
            have u : ∀ (M : MI) (k : Nat) (v : Int32), pm_up M k n v k i = M k i := fun M k v => up_kk hin
            refine ⟨?_, ?_, ?_, ?_, ?_, ?_, ?_, ⟨e, a8, a9, ?_, a11⟩⟩
            · show pm_up Mi 12 n a 12 i = pm_up Mi 60 n a 60 i; rw [u, u]; exact a1
            · show pin (pm_up Mi 12 n a 12 i) _; rw [u]; exact a2
            · show pm_up Mi 13 n _ 13 i = cl (Mi 3) (pm_up Mi 12 n a 12 i); rw [u, u]; exact a3
            · show pm_up Mi 14 n b 14 i = pm_up Mi 61 n b 61 i; rw [u, u]; exact a4
            · show pin (pm_up Mi 14 n b 14 i) _; rw [u]; exact a5
            · show pm_up Mi 15 n c 15 i = pm_up Mi 62 n c 62 i; rw [u, u]; exact a6
            · show pin (pm_up Mi 15 n c 15 i) _; rw [u]; exact a7
            · show pm_up Mi 63 n 0 63 i = nI e; rw [u]; exact a10
        · obtain rfl : n = 8 := by omega
          have g1 : ((nI 8) < 8) = False := by decide +kernel
          have g3 : ((nI 8) = 8) = True := by decide +kernel
          have h : Inv Mi Ml := ⟨hk, hn, hpp, ⟨8, n8, e1, e2, hp, hz⟩, hr⟩
          refine ⟨-1004, Mi, Ml, Mi, Ml, ?_, ?_, h⟩
          · show pD X _ _ (sh0, Mi, Ml, mr0) = some (_, (sh0, Mi, Ml, mr0))
            simp only [d_CT_filing, c_areF, e_CT_filing_4, c_isDay, e_CT_filing_15, c_within c 5 (n := 5) rfl, e_CT_filing_23, d_Filings_add, bI_t h1, bI_t h2, bI_t h3, e1, g1, e_CT_filing_44, Option.bind_some, pb_i, pb_n, x10, if_true, if_false, eq_self]
          · show pD X _ _ (sh0, Mi, Ml, mr0) = some (_, (sh0, Mi, Ml, mr0))
            simp only [d_M_filing, c_isSet, e_M_filing_4, c_isDayM, e_M_filing_15, c_isField, e_M_filing_22, bI_t h1, bI_t h2, bI_t h3, e2, g3, Option.bind_some, pb_i, pb_n, x10, if_true, if_false, eq_self]
      · refine ⟨-1002, Mi, Ml, Mi, Ml, ?_, ?_, h⟩
        · show pD X _ _ (sh0, Mi, Ml, mr0) = some (_, (sh0, Mi, Ml, mr0))
          simp only [d_CT_filing, c_areF, e_CT_filing_4, c_isDay, e_CT_filing_15, c_within c 5 (n := 5) rfl, e_CT_filing_23, d_Filings_add, bI_t h1, bI_t h2, bI_f h3, Option.bind_some, pb_i, pb_n, x10, if_true, if_false, eq_self]
        · show pD X _ _ (sh0, Mi, Ml, mr0) = some (_, (sh0, Mi, Ml, mr0))
          simp only [d_M_filing, c_isSet, e_M_filing_4, c_isDayM, e_M_filing_15, c_isField, e_M_filing_22, bI_t h1, bI_t h2, bI_f h3, Option.bind_some, pb_i, pb_n, x10, if_true, if_false, eq_self]
    · refine ⟨-1002, Mi, Ml, Mi, Ml, ?_, ?_, h⟩
      · show pD X _ _ (sh0, Mi, Ml, mr0) = some (_, (sh0, Mi, Ml, mr0))
        simp only [d_CT_filing, c_areF, e_CT_filing_4, c_isDay, e_CT_filing_15, c_within c 5 (n := 5) rfl, e_CT_filing_23, d_Filings_add, bI_t h1, bI_f h2, Option.bind_some, pb_i, pb_n, x10, if_true, if_false, eq_self]
      · show pD X _ _ (sh0, Mi, Ml, mr0) = some (_, (sh0, Mi, Ml, mr0))
        simp only [d_M_filing, c_isSet, e_M_filing_4, c_isDayM, e_M_filing_15, c_isField, e_M_filing_22, bI_t h1, bI_f h2, Option.bind_some, pb_i, pb_n, x10, if_true, if_false, eq_self]
  · refine ⟨-1001, Mi, Ml, Mi, Ml, ?_, ?_, h⟩
    · show pD X _ _ (sh0, Mi, Ml, mr0) = some (_, (sh0, Mi, Ml, mr0))
      simp only [d_CT_filing, c_areF, e_CT_filing_4, c_isDay, e_CT_filing_15, c_within c 5 (n := 5) rfl, e_CT_filing_23, d_Filings_add, bI_f h1, Option.bind_some, pb_i, pb_n, x10, if_true, if_false, eq_self]
    · show pD X _ _ (sh0, Mi, Ml, mr0) = some (_, (sh0, Mi, Ml, mr0))
      simp only [d_M_filing, c_isSet, e_M_filing_4, c_isDayM, e_M_filing_15, c_isField, e_M_filing_22, bI_f h1, Option.bind_some, pb_i, pb_n, x10, if_true, if_false, eq_self]
theorem x_lands (a : Int32) : (a &&& (-16)) = 0 ↔ pin a 16 := by
  constructor
  · intro h
    have h2 : a = a &&& 15 := by
      apply b_ext; intro i hi
      have e : bt (a &&& (-16)) i = false := by rw [h, b_0]
      rw [b_and] at e ⊢
      have q : bt (-16) i = !(bt 15 i) := by
        have := (by decide +kernel : ∀ j, j < 32 → bt (-16) j = !(bt 15 j))
        exact this i hi
      rw [q] at e
      revert e; cases bt a i <;> cases bt 15 i <;> simp
    have h3 : a.toBitVec.toNat < 16 := by
      rw [h2, Int32.toBitVec_and, BitVec.toNat_and]
      exact Nat.lt_of_le_of_lt Nat.and_le_right (by decide)
    have h4 : a.toInt = (a.toBitVec.toNat : Int) := by
      show a.toBitVec.toInt = _
      rw [BitVec.toInt_eq_toNat_of_lt (by omega)]
    exact ⟨by omega, by omega⟩
  · intro h
    obtain ⟨k, hk, e⟩ := pin_ex (by decide) h
    rw [e]
    exact (by decide +kernel : ∀ j, j < 16 → (nI j &&& (-16)) = 0) k hk
theorem ls_product {X : Nat × (Nat → Int32)} {Mi : MI} {Ml : ML} (h : Inv Mi Ml) (a b c : Int32) : LStp Inv X m_CT_product m_M_product [.int a, .int b, .int c] Mi Ml := by
  by_cases h1 : pin a 1073741824
  · by_cases h2 : pin b 16
    · have z2 : ((b &&& (-16)) = 0) = True := eq_true ((x_lands b).mpr h2)
      by_cases h3 : pin c 20001
      · obtain ⟨hk, hn, hpp, hff, hx, hft, ⟨n, n12, e1, e2, hp⟩, hr⟩ := h
        by_cases h4 : n < 12
        · have g1 : (nI n < 12) = True := eq_true ((x_nlt (n := 12) rfl (by omega)).mpr h4)
          have g2 : pin (nI n) 12 = True := eq_true (pin_nI h4 (by decide))
          have g3 : (nI n = 12) = False := eq_false (fun e => by have := (nI_is (m := 12) rfl (by omega) (by decide)).mp e; omega)
          have g4 : (nI n).toNatClampNeg = n := nI_clamp (by omega)
          have c1 : pD X m_CT_product [.ref 1, .int a, .int b, .int c] (sh0, Mi, Ml, mr0) = some (some (.int (nI n)), (sh0, pm_up (pm_up (pm_up (pm_up Mi 42 n a) 43 n b) 44 n c) 41 9 (nI n + 1), Ml, mr0)) := by
            simp only [d_CT_product, c_areF, e_CT_product_4, c_isDay, e_CT_product_22, d_Market_add, z2, e1, g1, g2, g4, bI_t h1, bI_t h3, Option.bind_some, pb_i, x10, if_true, if_false, nI_pm, e_CT_product_35]
          have c2 : ∀ M : MI, M 54 36 = nI n → pD X m_M_product [.ref 54, .int a, .int b, .int c] (sh0, M, Ml, mr0) = some (some (.int (nI n)), (sh0, pm_up (pm_up (pm_up (pm_up M 80 n a) 81 n b) 82 n c) 54 36 (nI n + 1), Ml, mr0)) := by
            intro M hM
            simp only [d_M_product, c_isSet, e_M_product_4, c_inP b 15 (n := 16) rfl, e_M_product_16, c_isDayM, e_M_product_27, hM, g2, g3, g4, bI_t h1, bI_t h2, bI_t h3, Option.bind_some, pb_i, x10, if_true, if_false, nI_pm]
          refine LS_mk c1 (c2 _ e2) ?_
          refine ⟨hk, hn, hpp, hff, hx, hft, ⟨n + 1, by omega, nI_1 n, nI_1 n, fun i hi => ?_⟩, hr⟩
          by_cases hin : i = n
          · subst hin
            exact ⟨up_ok.trans up_ok.symm, by show pin (pm_up Mi 42 i a 42 i) _; rw [up_ok]; exact h1, up_ok.trans up_ok.symm, by show pin (pm_up Mi 43 i b 43 i) _; rw [up_ok]; exact h2, up_ok.trans up_ok.symm, by show pin (pm_up Mi 44 i c 44 i) _; rw [up_ok]; exact h3⟩
          · obtain ⟨a1, a2, a3, a4, a5, a6⟩ := hp i (by omega)
            have u : ∀ (M : MI) (k : Nat) (v : Int32), pm_up M k n v k i = M k i := fun M k v => up_kk hin
            refine ⟨?_, ?_, ?_, ?_, ?_, ?_⟩
            · show pm_up Mi 42 n a 42 i = pm_up Mi 80 n a 80 i; rw [u, u]; exact a1
            · show pin (pm_up Mi 42 n a 42 i) _; rw [u]; exact a2
            · show pm_up Mi 43 n b 43 i = pm_up Mi 81 n b 81 i; rw [u, u]; exact a3
            · show pin (pm_up Mi 43 n b 43 i) _; rw [u]; exact a4
            · show pm_up Mi 44 n c 44 i = pm_up Mi 82 n c 82 i; rw [u, u]; exact a5
            · show pin (pm_up Mi 44 n c 44 i) _; rw [u]; exact a6
        · obtain rfl : n = 12 := by omega
          have g1 : ((nI 12) < 12) = False := by decide +kernel
          have g3 : ((nI 12) = 12) = True := by decide +kernel
          have h : Inv Mi Ml := ⟨hk, hn, hpp, hff, hx, hft, ⟨12, n12, e1, e2, hp⟩, hr⟩
          refine ⟨-1004, Mi, Ml, Mi, Ml, ?_, ?_, h⟩
          · show pD X _ _ (sh0, Mi, Ml, mr0) = some (_, (sh0, Mi, Ml, mr0))
            simp only [d_CT_product, c_areF, e_CT_product_4, c_isDay, e_CT_product_22, d_Market_add, z2, bI_t h1, bI_t h3, e1, g1, e_CT_product_35, Option.bind_some, pb_i, pb_n, x10, if_true, if_false, eq_self]
          · show pD X _ _ (sh0, Mi, Ml, mr0) = some (_, (sh0, Mi, Ml, mr0))
            simp only [d_M_product, c_isSet, e_M_product_4, c_inP b 15 (n := 16) rfl, e_M_product_16, c_isDayM, e_M_product_27, bI_t h1, bI_t h2, bI_t h3, e2, g3, Option.bind_some, pb_i, pb_n, x10, if_true, if_false, eq_self]
      · refine ⟨-1002, Mi, Ml, Mi, Ml, ?_, ?_, h⟩
        · show pD X _ _ (sh0, Mi, Ml, mr0) = some (_, (sh0, Mi, Ml, mr0))
          simp only [d_CT_product, c_areF, e_CT_product_4, c_isDay, e_CT_product_22, d_Market_add, z2, bI_t h1, bI_f h3, Option.bind_some, pb_i, pb_n, x10, if_true, if_false, eq_self]
        · show pD X _ _ (sh0, Mi, Ml, mr0) = some (_, (sh0, Mi, Ml, mr0))
          simp only [d_M_product, c_isSet, e_M_product_4, c_inP b 15 (n := 16) rfl, e_M_product_16, c_isDayM, e_M_product_27, bI_t h1, bI_t h2, bI_f h3, Option.bind_some, pb_i, pb_n, x10, if_true, if_false, eq_self]
    · have z2 : ((b &&& (-16)) = 0) = False := eq_false (fun e => h2 ((x_lands b).mp e))
      refine ⟨-1001, Mi, Ml, Mi, Ml, ?_, ?_, h⟩
      · show pD X _ _ (sh0, Mi, Ml, mr0) = some (_, (sh0, Mi, Ml, mr0))
        simp only [d_CT_product, c_areF, e_CT_product_4, c_isDay, e_CT_product_22, d_Market_add, z2, bI_t h1, Option.bind_some, pb_i, pb_n, x10, if_true, if_false, eq_self]
      · show pD X _ _ (sh0, Mi, Ml, mr0) = some (_, (sh0, Mi, Ml, mr0))
        simp only [d_M_product, c_isSet, e_M_product_4, c_inP b 15 (n := 16) rfl, e_M_product_16, c_isDayM, e_M_product_27, bI_t h1, bI_f h2, Option.bind_some, pb_i, pb_n, x10, if_true, if_false, eq_self]
  · refine ⟨-1001, Mi, Ml, Mi, Ml, ?_, ?_, h⟩
    · show pD X _ _ (sh0, Mi, Ml, mr0) = some (_, (sh0, Mi, Ml, mr0))
      simp only [d_CT_product, c_areF, e_CT_product_4, c_isDay, e_CT_product_22, d_Market_add, bI_f h1, Option.bind_some, pb_i, pb_n, x10, if_true, if_false, eq_self]
    · show pD X _ _ (sh0, Mi, Ml, mr0) = some (_, (sh0, Mi, Ml, mr0))
      simp only [d_M_product, c_isSet, e_M_product_4, c_inP b 15 (n := 16) rfl, e_M_product_16, c_isDayM, e_M_product_27, bI_f h1, Option.bind_some, pb_i, pb_n, x10, if_true, if_false, eq_self]
theorem c_count_go {X : Nat × (Nat → Int32)} {Mi : MI} {Ml : ML} (v : Int32) : ∀ (n i : Nat), i + n = 30 → pdn X m_M_count (4, [.ref 54, .int v, .int (nI (fb_ct (fun f => decide (¬ (Mi 55 f) < 0)) i)), .int (nI i)], [], (sh0, Mi, Ml, mr0), 0, 0) = pdn X m_M_count (pm_sw v [72, 77, 82, 87, 92, 97] 0 99, [.ref 54, .int v, .int (nI (fb_ct (fun f => decide (¬ (Mi 55 f) < 0)) 30)), .int (nI 30)], [], (sh0, Mi, Ml, mr0), 0, 0) := by
  intro n
  induction n with
  | zero =>
    intro i hi
    obtain rfl : i = 30 := by omega
    rw [e_M_count_4, if_neg (by decide)]
  | succ n ih =>
    intro i hi
    rw [e_M_count_4, if_pos ((x_nlt (n := 30) rfl (by omega)).mpr (by omega)), if_pos (pin_nI (by omega) (by decide)), nI_1, nI_clamp (by omega), ← ih (i + 1) (by omega), fb_ct_succ]
    by_cases hk : (Mi 55 i) < 0
    · rw [if_pos hk]
      have e : nI (fb_ct (fun f => decide (¬ (Mi 55 f) < 0)) i) + 0 = nI (fb_ct (fun f => decide (¬ (Mi 55 f) < 0)) i + if decide (¬ (Mi 55 i) < 0) then 1 else 0) := by
        simp only [hk, not_true_eq_false, decide_false]; exact nI_add _ 0
      rw [e]
    · rw [if_neg hk]
      have e : nI (fb_ct (fun f => decide (¬ (Mi 55 f) < 0)) i) + 1 = nI (fb_ct (fun f => decide (¬ (Mi 55 f) < 0)) i + if decide (¬ (Mi 55 i) < 0) then 1 else 0) := by
        simp only [hk, not_false_eq_true, decide_true, if_true]; exact nI_add _ 1
      rw [e]
theorem c_countM {X : Nat × (Nat → Int32)} {Mi : MI} {Ml : ML} (v : Int32) : pD X m_M_count [.ref 54, .int v] (sh0, Mi, Ml, mr0) = pdn X m_M_count (pm_sw v [72, 77, 82, 87, 92, 97] 0 99, [.ref 54, .int v, .int (nI (fb_ct (fun f => decide (¬ (Mi 55 f) < 0)) 30)), .int (nI 30)], [], (sh0, Mi, Ml, mr0), 0, 0) := by
  rw [d_M_count]; exact c_count_go v 30 0 rfl
theorem sw6 (v : Int32) (a b c d e f z : Nat) : pm_sw v [a, b, c, d, e, f] 0 z = if v = 0 then a else if v = 1 then b else if v = 2 then c else if v = 3 then d else if v = 4 then e else if v = 5 then f else z := rfl
