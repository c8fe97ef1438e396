/-! TEXTS: the reference's numbers -/
theorem fg_nl {x : Int32} (h : ifg x = true) : ¬ ilt x = true := by
  obtain ⟨e, hd⟩ := dig_ok h
  intro q
  obtain ⟨e2, h1, h2⟩ := ltd_ok q
  have := (nI_eq (by omega) (by omega)).mp (e.symm.trans e2)
  omega
theorem c_rn_go {X : Nat × (Nat → Int32)} {Ml : ML} {t : Nat → Int32} {N s : Nat} (hN : N ≤ 200) (v1 v2 v3 : Int32) (w4 : Value) : ∀ n i (M : MI), i + n = N → s ≤ i → RT t N M i → (∀ j, s ≤ j → j < i → ifg (t j) = true) → (i - s ≤ 4 → M 54 21 = nI (dv t s (i - s))) → ∃ M' : MI, pdn X m_M_readNumber (44, [.ref 54, .int v1, .int v2, .int v3, w4], [], (sh0, M, Ml, mr0), 0, 0) = pdn X m_M_readNumber (130, [.ref 54, .int v1, .int v2, .int v3, w4], [], (sh0, M', Ml, mr0), 0, 0) ∧ (∀ k, k ≠ 54 → M' k = M k) ∧ (∀ j, j ≠ 18 → j ≠ 21 → M' 54 j = M 54 j) ∧ RT t N M' (rnT ifg t N i) ∧ (rnT ifg t N i - s ≤ 4 → M' 54 21 = nI (dv t s (rnT ifg t N i - s))) := by
  intro n
  induction n with
  | zero =>
    intro i M hi hs hR hall hv
    obtain rfl : i = N := by omega
    refine ⟨M, ?_, fun _ _ => rfl, fun _ _ _ => rfl, by rw [rnT_end (Nat.le_refl i)]; exact hR, by rw [rnT_end (Nat.le_refl i)]; exact hv⟩
    rw [w_M_readNumber_44, hR.1, hR.2.1, if_neg (by rw [nI_lt' (by omega) (by omega)]; omega)]
  | succ n ih =>
    intro i M hi hs hR hall hv
    rw [w_M_readNumber_44, hR.1, hR.2.1, if_pos (by rw [nI_lt' (by omega) (by omega)]; omega), if_pos (pin_nI (by omega) (by decide)), nI_clamp (by omega), hR.2.2 i (by omega), c_inF, Option.bind_some, pb_i, w_M_readNumber_74, hR.2.1, if_pos (pin_nI (by omega) (by decide)), nI_clamp (by omega), hR.2.2 i (by omega)]
    by_cases q : ifg (t i) = true
    · have e114 : ∀ v, (i + 1 - s ≤ 4 → v = nI (dv t s (i + 1 - s))) → ∃ M' : MI, pdn X m_M_readNumber (114, [.ref 54, .int v1, .int v2, .int v3, w4], [.int v, .ref 54], (sh0, M, Ml, mr0), 0, 0) = pdn X m_M_readNumber (130, [.ref 54, .int v1, .int v2, .int v3, w4], [], (sh0, M', Ml, mr0), 0, 0) ∧ (∀ k, k ≠ 54 → M' k = M k) ∧ (∀ j, j ≠ 18 → j ≠ 21 → M' 54 j = M 54 j) ∧ RT t N M' (rnT ifg t N i) ∧ (rnT ifg t N i - s ≤ 4 → M' 54 21 = nI (dv t s (rnT ifg t N i - s))) := by
        intro v hv'
        rw [w_M_readNumber_114, hR.2.1, nI_1, rnT_y (p := ifg) (t := t) (i := i) (by omega) q]
        obtain ⟨M', g1, g2, g3, g4, g5⟩ := ih (i + 1) (pm_up (pm_up M 54 21 v) 54 18 (nI (i + 1))) (by omega) (by omega) ⟨by rw [up_kk (by decide), up_kk (by decide)]; exact hR.1, by rw [up_ok], fun j hj => by rw [up_off (by decide), up_off (by decide)]; exact hR.2.2 j hj⟩ (fun j a b => by
          by_cases e : j = i
          · rw [e]; exact q
          · exact hall j a (by omega)) (fun h4 => by rw [up_kk (by decide), up_ok]; exact hv' h4)
        exact ⟨M', g1, fun k hk => ((g2 k hk).trans (up_off hk)).trans (up_off hk), fun j a b => ((g3 j a b).trans (up_kk a)).trans (up_kk b), g4, g5⟩
      rw [if_neg (by rw [bI_t q]; decide)]
      by_cases z : (100000 : Int32) < M 54 21
      · rw [if_pos z]
        refine e114 _ (fun h4 => ?_)
        exfalso
        obtain ⟨_, _, d3⟩ := dv_step hs q (by omega) hall
        rw [hv (by omega), show (100000 : Int32) = nI 100000 from rfl] at z
        have hl := dv_lt (t := t) (s := s) (i - s) (fun j hj => hall (s + j) (by omega) (by omega))
        have hp : 10 ^ (i - s) ≤ 10 ^ 3 := Nat.pow_le_pow_right (by decide) (by omega)
        rw [nI_lt' (by decide) (by omega)] at z
        omega
      · rw [if_neg z]
        refine e114 _ (fun h4 => ?_)
        rw [hv (by omega)]
        exact (dv_step hs q (by omega) hall).2.1
    · rw [if_pos (bI_f q), rnT_n q]
      exact ⟨M, rfl, fun _ _ => rfl, fun _ _ _ => rfl, hR, hv⟩
abbrev gnum (t : Nat → Int32) (N s F a b : Nat) : Prop := nx t N s - s ≤ F ∧ a ≤ dv t s (nx t N s - s) ∧ dv t s (nx t N s - s) ≤ b
theorem c_readNum {X : Nat × (Nat → Int32)} {Ml : ML} {t : Nat → Int32} {N p F a b : Nat} (hN : N ≤ 200) (hp : p ≤ N) (hF : F ≤ 4) (ha : a < 2 ^ 31) (hb : b < 2 ^ 31) {M : MI} (hR : RT t N M p) : ∃ M' : MI, (∀ k, k ≠ 54 → M' k = M k) ∧ (∀ j, j ≠ 17 → j ≠ 18 → j ≠ 21 → j ≠ 22 → M' 54 j = M 54 j) ∧ ((¬ ty t N (rnT isp t N p) = 2 ∧ pD X m_M_readNumber [.ref 54, .int (nI a), .int (nI b), .int (nI F)] (sh0, M, Ml, mr0) = some (some (.int 1), (sh0, M', Ml, mr0)) ∧ M' 54 17 = nI (rnT isp t N p)) ∨ (ty t N (rnT isp t N p) = 2 ∧ ¬ gnum t N (rnT isp t N p) F a b ∧ pD X m_M_readNumber [.ref 54, .int (nI a), .int (nI b), .int (nI F)] (sh0, M, Ml, mr0) = some (some (.int 2), (sh0, M', Ml, mr0)) ∧ M' 54 17 = nI (rnT isp t N p)) ∨ (ty t N (rnT isp t N p) = 2 ∧ gnum t N (rnT isp t N p) F a b ∧ pD X m_M_readNumber [.ref 54, .int (nI a), .int (nI b), .int (nI F)] (sh0, M, Ml, mr0) = some (some (.int 0), (sh0, M', Ml, mr0)) ∧ M' 54 17 = M 54 17 ∧ RT t N M' (nx t N (rnT isp t N p)) ∧ M' 54 21 = nI (dv t (rnT isp t N p) (nx t N (rnT isp t N p) - rnT isp t N p)) ∧ M' 54 22 = nI (rnT isp t N p))) := by
  obtain ⟨M1, g1, ⟨g2, g3⟩, g4⟩ := c_here (X := X) (Ml := Ml) hN hp hR
  have hs := rnT_le isp t hp
  generalize rnT isp t N p = s at *
  have e0 : pD X m_M_readNumber [.ref 54, .int (nI a), .int (nI b), .int (nI F)] (sh0, M, Ml, mr0) = pdn X m_M_readNumber (18, [.ref 54, .int (nI a), .int (nI b), .int (nI F), .int (hrv t N s)], [.int (bI (ifg (hrv t N s) = true))], (sh0, M1, Ml, mr0), 0, 0) := by
    rw [d_M_readNumber, g1, Option.bind_some, pb_i, w_M_readNumber_4, c_inF, Option.bind_some, pb_i]
  rw [e0]
  by_cases q : ty t N s = 2
  · obtain ⟨q1, q2, q3⟩ := ty_2.mp q
    have eh : hrv t N s = t s := by unfold hrv; rw [if_pos q1]
    have en := nx_n q
    have hn := nx_le t hs
    have hg := nx_ge t N s
    rw [eh, w_M_readNumber_18, if_neg (by rw [bI_t q3]; decide), g4.2.1]
    obtain ⟨M2, k1, k2, k3, k4, k5⟩ := c_rn_go (X := X) (Ml := Ml) (t := t) (s := s) hN (nI a) (nI b) (nI F) (.int (t s)) (N - s) s (pm_up (pm_up M1 54 22 (nI s)) 54 21 0) (by omega) (Nat.le_refl s) ⟨by rw [up_kk (by decide), up_kk (by decide)]; exact g4.1, by rw [up_kk (by decide), up_kk (by decide)]; exact g4.2.1, fun j hj => by rw [up_off (by decide), up_off (by decide)]; exact g4.2.2 j hj⟩ (fun j a b => by omega) (fun _ => by rw [up_ok, Nat.sub_self]; rfl)
    rw [← en] at k4 k5
    have e22 : M2 54 22 = nI s := by rw [k3 22 (by decide) (by decide), up_kk (by decide), up_ok]
    have fr : ∀ k, k ≠ 54 → M2 k = M k := fun k hk => (((k2 k hk).trans (up_off hk)).trans (up_off hk)).trans (g2 k hk)
    have fr54 : ∀ j, j ≠ 18 → j ≠ 21 → j ≠ 22 → M2 54 j = M 54 j := fun j a b c => (((k3 j a b).trans (up_kk b)).trans (up_kk c)).trans (g3 j a)
    rw [k1, w_M_readNumber_130, k4.2.1, e22, nI_subN hg]
    have fail2 : ∀ (w1 w2 w3 w4 : Value), pdn X m_M_readNumber (158, [.ref 54, w1, w2, w3, w4], [], (sh0, M2, Ml, mr0), 0, 0) = some (some (.int 2), (sh0, pm_up M2 54 17 (nI s), Ml, mr0)) := fun w1 w2 w3 w4 => by rw [w_M_readNumber_158, d_M_fails, e22, Option.bind_some, pb_i, w_M_readNumber_167]
    by_cases r : nx t N s - s ≤ F
    · rw [if_neg (by rw [nI_lt' (by omega) (by omega)]; omega), k5 (by omega), c_in, Option.bind_some, pb_i, w_M_readNumber_155, fail2]
      have hd := dv_lt (t := t) (s := s) (nx t N s - s) (fun j hj => rnT_all (N := N) _ s rfl (s + j) (by omega) (by rw [← en]; omega))
      have hpw : 10 ^ (nx t N s - s) ≤ 10 ^ 4 := Nat.pow_le_pow_right (by decide) (by omega)
      have ei : (((Int32.toInt64 (nI a)).toInt ≤ (Int32.toInt64 (nI (dv t s (nx t N s - s)))).toInt ∧ (Int32.toInt64 (nI (dv t s (nx t N s - s)))).toInt ≤ (Int32.toInt64 (nI b)).toInt) ↔ (a ≤ dv t s (nx t N s - s) ∧ dv t s (nx t N s - s) ≤ b)) := by
        rw [tL_nI ha, tL_nI hb, tL_nI (by omega), lI_toInt (by omega), lI_toInt (by omega), lI_toInt (by omega)]; omega
      by_cases z : a ≤ dv t s (nx t N s - s) ∧ dv t s (nx t N s - s) ≤ b
      · refine ⟨M2, fr, fun j a b c d => fr54 j b c d, Or.inr (Or.inr ⟨q, ⟨r, z⟩, ?_, fr54 17 (by decide) (by decide) (by decide), k4, k5 (by omega), e22⟩)⟩
        rw [if_neg (by rw [bI_t (ei.mpr z)]; decide)]
      · refine ⟨pm_up M2 54 17 (nI s), fun k hk => (up_off hk).trans (fr k hk), fun j a b c d => (up_kk a).trans (fr54 j b c d), Or.inr (Or.inl ⟨q, fun y => z y.2, ?_, by rw [up_ok]⟩)⟩
        rw [if_pos (bI_f (fun y => z (ei.mp y)))]
    · refine ⟨pm_up M2 54 17 (nI s), fun k hk => (up_off hk).trans (fr k hk), fun j a b c d => (up_kk a).trans (fr54 j b c d), Or.inr (Or.inl ⟨q, fun y => r y.1, ?_, by rw [up_ok]⟩)⟩
      rw [if_pos (by rw [nI_lt' (by omega) (by omega)]; omega), fail2]
  · have nf : ¬ ifg (hrv t N s) = true := by
      unfold hrv
      by_cases z : s < N
      · rw [if_pos z]; exact fun y => q (ty_2.mpr ⟨z, fg_nl y, y⟩)
      · rw [if_neg z]; decide
    refine ⟨pm_up M1 54 17 (nI s), fun k hk => (up_off hk).trans (g2 k hk), fun j a b _ _ => (up_kk a).trans (g3 j b), Or.inl ⟨q, ?_, by rw [up_ok]⟩⟩
    rw [w_M_readNumber_18, if_pos (bI_f nf), d_M_fails, g4.2.1, Option.bind_some, pb_i, w_M_readNumber_30]
