/-! near and elder -/
theorem nI_mul' (a b : Nat) : nI a * nI b = nI (a * b) := (Int32.ofNat_mul a b).symm
theorem nI_m1 {n : Nat} (h : n < 2 ^ 31) : (nI n - 1).toInt = (n : Int) - 1 := by
  cases n with
  | zero => decide +kernel
  | succ k => rw [show nI (k + 1) - 1 = nI k from nI_subN (b := 1) (by omega), nI_toInt (by omega)]; omega
theorem c_isFiling {X : Nat × (Nat → Int32)} {Mi : MI} {Ml : ML} (a : Int32) {n : Nat} (hn : n < 2 ^ 31) (e : Mi 54 6 = nI n) : pD X m_M_isFiling [.ref 54, .int a] (sh0, Mi, Ml, mr0) = some (some (.int (bI (pin a n))), (sh0, Mi, Ml, mr0)) := by
  have hc : (Int32.toInt64 (nI n - 1)).toInt + 1 = (n : Int) := by
    rw [show (Int32.toInt64 (nI n - 1)).toInt = (nI n - 1).toInt from Int32.toInt_toInt64 _, nI_m1 hn]; omega
  rw [d_M_isFiling, e, c_inP a _ (n := n) hc, Option.bind_some, pb_i, e_M_isFiling_13, if_pos (bI_nar _)]
theorem n_mask {n i : Nat} (hn : n < 32) (hi : i < 32) : bt (((1 : Int32) <<< (nI n &&& 31)) ^^^ (-1)) i = decide (i ≠ n) := by
  rw [b_xor, x_one hn hi, b_m1 i hi]; by_cases e : i = n <;> simp [e]
/-- the class's two bits -/
theorem c_setNear {X : Nat × (Nat → Int32)} {Mi : MI} {Ml : ML} {a b : Nat} (ha : a < 5) (hb : b < 5) (hab : a ≠ b) (t : Int32) : ∃ p q : Int32, pD X m_Papers_setNear [.ref 5, .int (nI a), .int (nI b), .int t] (sh0, Mi, Ml, mr0) = some (none, (sh0, pm_up (pm_up Mi 8 a p) 8 b q, Ml, mr0)) ∧ (∀ i, i < 32 → bt p i = if i = b then decide (t ≠ 0) else bt (Mi 8 a) i) ∧ (∀ i, i < 32 → bt q i = if i = a then decide (t ≠ 0) else bt (Mi 8 b) i) := by
  have g1 : pin (nI a) 5 := pin_nI ha (by decide)
  have g2 : pin (nI b) 5 := pin_nI hb (by decide)
  have ca : (nI a).toNatClampNeg = a := nI_clamp (by omega)
  have cb : (nI b).toNatClampNeg = b := nI_clamp (by omega)
  by_cases ht : t = 0
  · refine ⟨(Mi 8 a) &&& ((1 <<< (nI b &&& 31)) ^^^ (-1)), ((pm_up Mi 8 a ((Mi 8 a) &&& ((1 <<< (nI b &&& 31)) ^^^ (-1)))) 8 b) &&& ((1 <<< (nI a &&& 31)) ^^^ (-1)), ?_, ?_, ?_⟩
    · rw [d_Papers_setNear, if_pos ht, if_pos g1, e_Papers_setNear_34, if_pos g1, if_pos ht, if_pos g2, e_Papers_setNear_69, if_pos g2, ca, cb]
    · intro i hi
      rw [b_and, n_mask (by omega) hi]
      by_cases e : i = b <;> simp [e, ht]
    · intro i hi
      rw [b_and, n_mask (by omega) hi, up_kk (fun e => hab e.symm)]
      by_cases e : i = a <;> simp [e, ht]
  · refine ⟨(Mi 8 a) ||| (1 <<< (nI b &&& 31)), ((pm_up Mi 8 a ((Mi 8 a) ||| (1 <<< (nI b &&& 31)))) 8 b) ||| (1 <<< (nI a &&& 31)), ?_, ?_, ?_⟩
    · rw [d_Papers_setNear, if_neg ht, if_pos g1, e_Papers_setNear_34, if_pos g1, if_neg ht, if_pos g2, e_Papers_setNear_69, if_pos g2, ca, cb]
    · intro i hi
      rw [b_or, x_one (by omega) hi]
      by_cases e : i = b <;> simp [e, ht]
    · intro i hi
      rw [b_or, x_one (by omega) hi, up_kk (fun e => hab e.symm)]
      by_cases e : i = a <;> simp [e, ht]
theorem ls_near {X : Nat × (Nat → Int32)} {Mi : MI} {Ml : ML} (h : Inv Mi Ml) (a b t : Int32) (ht : t = 0 ∨ t = 1) : LStp Inv X m_CT_near m_M_near [.int a, .int b, .int t] Mi Ml := by
  by_cases h1 : pin a 5
  · by_cases h2 : pin b 5
    · by_cases h3 : a = b
      · refine ⟨-1002, Mi, Ml, Mi, Ml, ?_, ?_, h⟩
        · show pD X _ _ (sh0, Mi, Ml, mr0) = some (_, (sh0, Mi, Ml, mr0))
          simp only [d_CT_near, c_within a 5 (n := 5) rfl, e_CT_near_5, c_within b 5 (n := 5) rfl, e_CT_near_13, bI_t h1, bI_t h2, if_pos h3, Option.bind_some, pb_i, pb_n, x10, if_true, if_false, eq_self]
        · show pD X _ _ (sh0, Mi, Ml, mr0) = some (_, (sh0, Mi, Ml, mr0))
          simp only [d_M_near, c_isField, e_M_near_4, e_M_near_11, bI_t h1, bI_t h2, if_pos h3, Option.bind_some, pb_i, pb_n, x10, if_true, if_false, eq_self]
      · obtain ⟨x, hx, rfl⟩ := pin_ex (by decide) h1
        obtain ⟨y, hy, rfl⟩ := pin_ex (by decide) h2
        have hxy : x ≠ y := fun e => h3 (by rw [e])
        obtain ⟨hk, hn, hr⟩ := h
        obtain ⟨p, q, hpq, hp, hq⟩ := c_setNear (X := X) (Mi := Mi) (Ml := Ml) hx hy hxy t
        have n1 := (hn x y hx hy).1
        have cx : (nI x).toNatClampNeg = x := nI_clamp (by omega)
        have c1 : pD X m_CT_near [.ref 1, .int (nI x), .int (nI y), .int t] (sh0, Mi, Ml, mr0) = some (some (.int (bI (bt (Mi 8 x) y = true))), (sh0, pm_up (pm_up Mi 8 x p) 8 y q, Ml, mr0)) := by
          rw [d_CT_near, c_within (nI x) 5 (n := 5) rfl, Option.bind_some, pb_i, e_CT_near_5, bI_t h1, if_neg (by decide), c_within (nI y) 5 (n := 5) rfl, Option.bind_some, pb_i, e_CT_near_13, bI_t h2, if_neg (by decide), if_neg h3, if_pos h1, hpq, Option.bind_some, pb_n, e_CT_near_50, cx, x_bit (by omega)]
        have i1 : 5 * nI x + nI y = nI (5 * x + y) := by rw [show (5 : Int32) = nI 5 from rfl, nI_mul', nI_add]
        have i2 : 5 * nI y + nI x = nI (5 * y + x) := by rw [show (5 : Int32) = nI 5 from rfl, nI_mul', nI_add]
        have k1 : (nI (5 * x + y)).toNatClampNeg = 5 * x + y := nI_clamp (by omega)
        have k2 : (nI (5 * y + x)).toNatClampNeg = 5 * y + x := nI_clamp (by omega)
        have p1 : pin (nI (5 * x + y)) 25 := pin_nI (by omega) (by decide)
        have p2 : pin (nI (5 * y + x)) 25 := pin_nI (by omega) (by decide)
        have tn : vp_nar .boolean t = bI (t ≠ 0) := by rcases ht with rfl | rfl <;> decide +kernel
        have c2 : ∀ M : MI, M 56 (5 * x + y) = bI (bt (Mi 8 x) y = true) → pD X m_M_near [.ref 54, .int (nI x), .int (nI y), .int t] (sh0, M, Ml, mr0) = some (some (.int (bI (bt (Mi 8 x) y = true))), (sh0, pm_up (pm_up M 56 (5 * x + y) (bI (t ≠ 0))) 56 (5 * y + x) (bI (t ≠ 0)), Ml, mr0)) := by
          intro M hM
          rw [d_M_near, c_isField, Option.bind_some, pb_i, e_M_near_4, bI_t h1, if_neg (by decide), c_isField, Option.bind_some, pb_i, e_M_near_11, bI_t h2, if_neg (by decide), if_neg h3, i1, if_pos p1, k1, hM]
          by_cases hb : bt (Mi 8 x) y = true
          · rw [if_neg (by rw [bI_t hb]; decide), e_M_near_41, i1, i2, if_pos p1, if_pos p2, k1, k2, tn, bI_t hb]
          · rw [if_pos (bI_f hb), e_M_near_41, i1, i2, if_pos p1, if_pos p2, k1, k2, tn, bI_f hb]
        refine LS_mk c1 (c2 _ n1) ?_
        refine ⟨hk, ?_, hr⟩
        have v8 : ∀ u w, u < 5 → w < 5 → bt (pm_up (pm_up Mi 8 x p) 8 y q 8 u) w = if (u = x ∧ w = y) ∨ (u = y ∧ w = x) then decide (t ≠ 0) else bt (Mi 8 u) w := by
          intro u w hu hw
          by_cases e1 : u = y
          · subst e1
            rw [up_ok, hq w (by omega)]
            by_cases e2 : w = x
            · simp [e2]
            · rw [if_neg e2, if_neg]; rintro (⟨e3, _⟩ | ⟨_, e3⟩)
              · exact hxy e3.symm
              · exact e2 e3
          · rw [up_kk e1]
            by_cases e2 : u = x
            · subst e2
              rw [up_ok, hp w (by omega)]
              by_cases e3 : w = y
              · simp [e3]
              · rw [if_neg e3, if_neg]; rintro (⟨_, e4⟩ | ⟨e4, _⟩)
                · exact e3 e4
                · exact e1 e4
            · rw [up_kk e2, if_neg]; rintro (⟨e4, _⟩ | ⟨e4, _⟩)
              · exact e2 e4
              · exact e1 e4
        have v56 : ∀ u w, u < 5 → w < 5 → (pm_up (pm_up Mi 56 (5 * x + y) (bI (t ≠ 0))) 56 (5 * y + x) (bI (t ≠ 0))) 56 (5 * u + w) = if (u = x ∧ w = y) ∨ (u = y ∧ w = x) then bI (t ≠ 0) else Mi 56 (5 * u + w) := by
          intro u w hu hw
          by_cases e1 : u = y ∧ w = x
          · rw [e1.1, e1.2, up_ok, if_pos (Or.inr ⟨rfl, rfl⟩)]
          · rw [up_kk (by omega)]
            by_cases e2 : u = x ∧ w = y
            · rw [e2.1, e2.2, up_ok, if_pos (Or.inl ⟨rfl, rfl⟩)]
            · rw [up_kk (by omega), if_neg (by rintro (e | e); exact e2 e; exact e1 e)]
        intro u w hu hw
        have w1 := v8 u w hu hw
        have w2 := v8 w u hw hu
        have w3 := v8 u u hu hu
        have w4 := v56 u w hu hw
        obtain ⟨o1, o2, o3⟩ := hn u w hu hw
        refine ⟨?_, ?_, ?_⟩
        · refine w4.trans ?_
          show _ = bI (bt (pm_up (pm_up Mi 8 x p) 8 y q 8 u) w = true)
          rw [w1]
          by_cases e : (u = x ∧ w = y) ∨ (u = y ∧ w = x)
          · rw [if_pos e, if_pos e]; exact bI_cong (by simp)
          · rw [if_neg e, if_neg e]; exact o1
        · refine w1.trans (Eq.trans ?_ w2.symm)
          by_cases e : (u = x ∧ w = y) ∨ (u = y ∧ w = x)
          · rw [if_pos e, if_pos (by omega)]
          · rw [if_neg e, if_neg (by omega)]; exact o2
        · refine w3.trans ?_
          rw [if_neg (by omega)]; exact o3
    · refine ⟨-1002, Mi, Ml, Mi, Ml, ?_, ?_, h⟩
      · show pD X _ _ (sh0, Mi, Ml, mr0) = some (_, (sh0, Mi, Ml, mr0))
        simp only [d_CT_near, c_within a 5 (n := 5) rfl, e_CT_near_5, c_within b 5 (n := 5) rfl, e_CT_near_13, bI_t h1, bI_f h2, Option.bind_some, pb_i, pb_n, x10, if_true, if_false, eq_self]
      · show pD X _ _ (sh0, Mi, Ml, mr0) = some (_, (sh0, Mi, Ml, mr0))
        simp only [d_M_near, c_isField, e_M_near_4, e_M_near_11, bI_t h1, bI_f h2, Option.bind_some, pb_i, pb_n, x10, if_true, if_false, eq_self]
  · refine ⟨-1002, Mi, Ml, Mi, Ml, ?_, ?_, h⟩
    · show pD X _ _ (sh0, Mi, Ml, mr0) = some (_, (sh0, Mi, Ml, mr0))
      simp only [d_CT_near, c_within a 5 (n := 5) rfl, e_CT_near_5, c_within b 5 (n := 5) rfl, e_CT_near_13, bI_f h1, Option.bind_some, pb_i, pb_n, x10, if_true, if_false, eq_self]
    · show pD X _ _ (sh0, Mi, Ml, mr0) = some (_, (sh0, Mi, Ml, mr0))
      simp only [d_M_near, c_isField, e_M_near_4, e_M_near_11, bI_f h1, Option.bind_some, pb_i, pb_n, x10, if_true, if_false, eq_self]
