/-! elder -/
theorem ls_elder {X : Nat × (Nat → Int32)} {Mi : MI} {Ml : ML} (h : Inv Mi Ml) (a b c : Int32) : LStp Inv X m_CT_elder m_M_elder [.int a, .int b, .int c] Mi Ml := by
  obtain ⟨hk, hn, hpp, ⟨n, n8, e1, e2, hp, hz⟩, hr⟩ := id h
  have w2 : n < 2 ^ 31 := by omega
  have w1 : (Mi 11 11).toInt = (n : Int) := by rw [e1, nI_toInt w2]
  by_cases h1 : pin a n
  · by_cases h2 : pin b 1073741824
    · obtain ⟨k, hkn, rfl⟩ := pin_ex w2 h1
      obtain ⟨a1, a2, a3, a4, a5, a6, a7, ⟨e, a8, a9, a10, a11⟩⟩ := hp k hkn
      have ck : (nI k).toNatClampNeg = k := nI_clamp (by omega)
      have p8 : pin (nI k) 8 := pin_nI (by omega) (by decide)
      have p8' : pin (nI k) 8 = True := eq_true p8
      have d5 := a5
      have inM : ∀ M : MI, M 61 k = Mi 14 k → pD X m_M_in [.long (Int32.toInt64 c), .long 0, .long (Int32.toInt64 (M 61 k))] (sh0, M, Ml, mr0) = some (some (.int (bI (pin c 20001 ∧ ¬ (Mi 14 k) < c))), (sh0, M, Ml, mr0)) := by
        intro M hM
        rw [c_in, hM]
        have q1 : (Int32.toInt64 c).toInt = c.toInt := Int32.toInt_toInt64 c
        have q2 : (Int32.toInt64 (Mi 14 k)).toInt = (Mi 14 k).toInt := Int32.toInt_toInt64 _
        have q3 : (0 : Int64).toInt = 0 := rfl
        rw [q1, q2, q3, bI_cong (q := pin c 20001 ∧ ¬ (Mi 14 k) < c)]
        rw [x_lt]; have := d5.1; have := d5.2; unfold pin; omega
      by_cases h3 : pin c 20001 ∧ ¬ (Mi 14 k) < c
      · by_cases h4 : e < 3
        · have i1 : nI k * 3 + nI e = nI (3 * k + e) := by rw [show (3 : Int32) = nI 3 from rfl, nI_mul', nI_add, Nat.mul_comm]
          have i2 : 3 * nI k + nI e = nI (3 * k + e) := by rw [show (3 : Int32) = nI 3 from rfl, nI_mul', nI_add]
          have ci : (nI (3 * k + e)).toNatClampNeg = 3 * k + e := nI_clamp (by omega)
          have p24 : pin (nI (3 * k + e)) 24 = True := eq_true (pin_nI (by omega) (by decide))
          have g1 : (nI e < 3) = True := eq_true ((x_nlt (n := 3) rfl (by omega)).mpr h4)
          have g3 : (nI e = 3) = False := eq_false (fun q => by have := (nI_is (m := 3) rfl (by omega) (by decide)).mp q; omega)
          have f14 : ((Mi 14 k) < c) = False := eq_false h3.2
          have c1 : pD X m_CT_elder [.ref 1, .int (nI k), .int b, .int c] (sh0, Mi, Ml, mr0) = some (some (.int (nI e + 1)), (sh0, pm_up (pm_up (pm_up (pm_up Mi 19 (3 * k + e) b) 20 (3 * k + e) (cl (Mi 3) b)) 21 (3 * k + e) c) 18 k (nI e + 1), Ml, mr0)) := by
            simp only [d_CT_elder, c_within (nI k) (Mi 11 11) (n := n) w1, e_CT_elder_11, c_areF, e_CT_elder_18, c_isDay, e_CT_elder_29, bI_t h1, bI_t h2, bI_t h3.1, Option.bind_some, pb_i, x10, if_true, if_false, p8', ck, f14, d_Filings_addElder, a9, g1, i1, p24, ci, c_closed, e_Filings_addElder_46, up_ok, up_off (show (18 : Nat) ≠ 19 by decide), up_off (show (3 : Nat) ≠ 19 by decide), e_CT_elder_63]
          have c2 : ∀ M : MI, M 54 6 = nI n → M 61 k = Mi 14 k → M 63 k = nI e → pD X m_M_elder [.ref 54, .int (nI k), .int b, .int c] (sh0, M, Ml, mr0) = some (some (.int (nI e + 1)), (sh0, pm_up (pm_up (pm_up M 64 (3 * k + e) b) 65 (3 * k + e) c) 63 k (nI e + 1), Ml, mr0)) := by
            intro M hM hM2 hM3
            simp only [d_M_elder, c_isFiling (nI k) w2 hM, e_M_elder_5, c_isSet, e_M_elder_12, bI_t h1, bI_t h2, Option.bind_some, pb_i, x10, if_true, if_false, p8', ck, inM M hM2, bI_t h3, e_M_elder_32, hM3, g3, i2, p24, ci, up_ok]
          refine LS_mk c1 (c2 _ e2 a4.symm a10) ?_
          refine ⟨hk, hn, hpp, ⟨n, n8, e1, e2, fun i hi => ?_, fun i h5 h6 => ?_⟩, hr⟩
          · obtain ⟨b1, b2, b3, b4, b5, b6, b7, ⟨e', b8, b9, b10, b11⟩⟩ := hp i hi
            refine ⟨b1, b2, b3, b4, b5, b6, b7, ?_⟩
            by_cases hik : i = k
            · subst hik
              obtain rfl : e' = e := (nI_eq (by omega) (by omega)).mp (b9.symm.trans a9)
              refine ⟨e' + 1, by omega, ?_, ?_, fun j hj => ?_⟩
              · show pm_up _ 18 i (nI e' + 1) 18 i = _; rw [up_ok, nI_1]
              · show pm_up _ 63 i (nI e' + 1) 63 i = _; rw [up_ok, nI_1]
              · by_cases hje : j = e'
                · subst hje
                  refine ⟨up_ok.trans up_ok.symm, ?_, ?_, up_ok.trans up_ok.symm, ?_⟩
                  · show pin (pm_up Mi 19 (3 * i + j) b 19 (3 * i + j)) _; rw [up_ok]; exact h2
                  · show pm_up _ 20 (3 * i + j) (cl (Mi 3) b) 20 (3 * i + j) = cl (Mi 3) (pm_up Mi 19 (3 * i + j) b 19 (3 * i + j)); rw [up_ok, up_ok]
                  · show pin (pm_up Mi 21 (3 * i + j) c 21 (3 * i + j)) _; rw [up_ok]; exact h3.1
                · obtain ⟨r1, r2, r3, r4, r5⟩ := b11 j (by omega)
                  have u : ∀ (M : MI) (kk : Nat) (v : Int32), pm_up M kk (3 * i + e') v kk (3 * i + j) = M kk (3 * i + j) := fun M kk v => up_kk (by omega)
                  refine ⟨?_, ?_, ?_, ?_, ?_⟩
                  · show pm_up Mi 19 _ b 19 _ = pm_up Mi 64 _ b 64 _; rw [u, u]; exact r1
                  · show pin (pm_up Mi 19 _ b 19 _) _; rw [u]; exact r2
                  · show pm_up Mi 20 _ _ 20 _ = cl (Mi 3) (pm_up Mi 19 _ b 19 _); rw [u, u]; exact r3
                  · show pm_up Mi 21 _ c 21 _ = pm_up Mi 65 _ c 65 _; rw [u, u]; exact r4
                  · show pin (pm_up Mi 21 _ c 21 _) _; rw [u]; exact r5
            · refine ⟨e', b8, ?_, ?_, fun j hj => ?_⟩
              · show pm_up Mi 18 k _ 18 i = _; rw [up_kk hik]; exact b9
              · show pm_up Mi 63 k _ 63 i = _; rw [up_kk hik]; exact b10
              · obtain ⟨r1, r2, r3, r4, r5⟩ := b11 j hj
                have u : ∀ (M : MI) (kk : Nat) (v : Int32), pm_up M kk (3 * k + e) v kk (3 * i + j) = M kk (3 * i + j) := fun M kk v => up_kk (by omega)
                refine ⟨?_, ?_, ?_, ?_, ?_⟩
                · show pm_up Mi 19 _ b 19 _ = pm_up Mi 64 _ b 64 _; rw [u, u]; exact r1
                · show pin (pm_up Mi 19 _ b 19 _) _; rw [u]; exact r2
                · show pm_up Mi 20 _ _ 20 _ = cl (Mi 3) (pm_up Mi 19 _ b 19 _); rw [u, u]; exact r3
                · show pm_up Mi 21 _ c 21 _ = pm_up Mi 65 _ c 65 _; rw [u, u]; exact r4
                · show pin (pm_up Mi 21 _ c 21 _) _; rw [u]; exact r5
          · show pm_up Mi 18 k _ 18 i = 0
            rw [up_kk (by omega)]; exact hz i h5 h6
        · obtain rfl : e = 3 := by omega
          have g1 : ((nI 3) < 3) = False := by decide +kernel
          have g3 : ((nI 3) = 3) = True := by decide +kernel
          have f14 : ((Mi 14 k) < c) = False := eq_false h3.2
          have inM' := inM Mi a4.symm
          refine ⟨-1004, Mi, Ml, Mi, Ml, ?_, ?_, h⟩
          · show pD X _ _ (sh0, Mi, Ml, mr0) = some (_, (sh0, Mi, Ml, mr0))
            simp only [d_CT_elder, c_within (nI k) (Mi 11 11) (n := n) w1, e_CT_elder_11, c_areF, e_CT_elder_18, c_isDay, e_CT_elder_29, bI_t h1, bI_t h2, bI_t h3.1, p8', ck, f14, d_Filings_addElder, a9, g1, e_CT_elder_63, Option.bind_some, pb_i, pb_n, x10, if_true, if_false, eq_self]
          · show pD X _ _ (sh0, Mi, Ml, mr0) = some (_, (sh0, Mi, Ml, mr0))
            simp only [d_M_elder, c_isFiling (nI k) w2 e2, e_M_elder_5, c_isSet, e_M_elder_12, bI_t h1, bI_t h2, p8', ck, inM', bI_t h3, e_M_elder_32, a10, g3, Option.bind_some, pb_i, pb_n, x10, if_true, if_false, eq_self]
      · have inM' := inM Mi a4.symm
        by_cases h5 : pin c 20001
        · have f14 : ((Mi 14 k) < c) = True := eq_true (Classical.byContradiction (fun q => h3 ⟨h5, q⟩))
          refine ⟨-1002, Mi, Ml, Mi, Ml, ?_, ?_, h⟩
          · show pD X _ _ (sh0, Mi, Ml, mr0) = some (_, (sh0, Mi, Ml, mr0))
            simp only [d_CT_elder, c_within (nI k) (Mi 11 11) (n := n) w1, e_CT_elder_11, c_areF, e_CT_elder_18, c_isDay, e_CT_elder_29, bI_t h1, bI_t h2, bI_t h5, p8', ck, f14, Option.bind_some, pb_i, pb_n, x10, if_true, if_false, eq_self]
          · show pD X _ _ (sh0, Mi, Ml, mr0) = some (_, (sh0, Mi, Ml, mr0))
            simp only [d_M_elder, c_isFiling (nI k) w2 e2, e_M_elder_5, c_isSet, e_M_elder_12, bI_t h1, bI_t h2, p8', ck, inM', bI_f h3, e_M_elder_32, Option.bind_some, pb_i, pb_n, x10, if_true, if_false, eq_self]
        · refine ⟨-1002, Mi, Ml, Mi, Ml, ?_, ?_, h⟩
          · show pD X _ _ (sh0, Mi, Ml, mr0) = some (_, (sh0, Mi, Ml, mr0))
            simp only [d_CT_elder, c_within (nI k) (Mi 11 11) (n := n) w1, e_CT_elder_11, c_areF, e_CT_elder_18, c_isDay, e_CT_elder_29, bI_t h1, bI_t h2, bI_f h5, Option.bind_some, pb_i, pb_n, x10, if_true, if_false, eq_self]
          · show pD X _ _ (sh0, Mi, Ml, mr0) = some (_, (sh0, Mi, Ml, mr0))
            simp only [d_M_elder, c_isFiling (nI k) w2 e2, e_M_elder_5, c_isSet, e_M_elder_12, bI_t h1, bI_t h2, p8', ck, inM', bI_f h3, e_M_elder_32, Option.bind_some, pb_i, pb_n, x10, if_true, if_false, eq_self]
    · refine ⟨-1001, Mi, Ml, Mi, Ml, ?_, ?_, h⟩
      · show pD X _ _ (sh0, Mi, Ml, mr0) = some (_, (sh0, Mi, Ml, mr0))
        simp only [d_CT_elder, c_within a (Mi 11 11) (n := n) w1, e_CT_elder_11, c_areF, e_CT_elder_18, c_isDay, e_CT_elder_29, bI_t h1, bI_f h2, Option.bind_some, pb_i, pb_n, x10, if_true, if_false, eq_self]
      · show pD X _ _ (sh0, Mi, Ml, mr0) = some (_, (sh0, Mi, Ml, mr0))
        simp only [d_M_elder, c_isFiling a w2 e2, e_M_elder_5, c_isSet, e_M_elder_12, bI_t h1, bI_f h2, Option.bind_some, pb_i, pb_n, x10, if_true, if_false, eq_self]
  · refine ⟨-1001, Mi, Ml, Mi, Ml, ?_, ?_, h⟩
    · show pD X _ _ (sh0, Mi, Ml, mr0) = some (_, (sh0, Mi, Ml, mr0))
      simp only [d_CT_elder, c_within a (Mi 11 11) (n := n) w1, e_CT_elder_11, c_areF, e_CT_elder_18, c_isDay, e_CT_elder_29, bI_f h1, Option.bind_some, pb_i, pb_n, x10, if_true, if_false, eq_self]
    · show pD X _ _ (sh0, Mi, Ml, mr0) = some (_, (sh0, Mi, Ml, mr0))
      simp only [d_M_elder, c_isFiling a w2 e2, e_M_elder_5, c_isSet, e_M_elder_12, bI_f h1, Option.bind_some, pb_i, pb_n, x10, if_true, if_false, eq_self]
