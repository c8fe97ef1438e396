/-! the operation claims -/
theorem Inv_cl {Mi M : MI} {Ml Ml' : ML} (h : Inv Mi Ml) (F : ∀ k, (k ≠ 34 ∧ k ≠ 36 ∧ k ≠ 1 ∧ k ≠ 54 ∧ k ≠ 24 ∧ k ≠ 25 ∧ k ≠ 26 ∧ k ≠ 27 ∧ k ≠ 28 ∧ k ≠ 30 ∧ k ≠ 31 ∧ k ≠ 32 ∧ k ≠ 16 ∧ k ≠ 17 ∧ k ≠ 23 ∧ k ≠ 70 ∧ k ≠ 71 ∧ k ≠ 72 ∧ k ≠ 73 ∧ k ≠ 76 ∧ k ≠ 77 ∧ k ≠ 74 ∧ k ≠ 75 ∧ k ≠ 69) → M k = Mi k) (F54 : ∀ j, j ≠ 16 → j ≠ 17 → j ≠ 18 → j ≠ 20 → j ≠ 21 → j ≠ 22 → j ≠ 23 → M 54 j = Mi 54 j) (h34 : M 34 1 = nI 0) (h16 : M 54 16 = nI 0) (hfa : M 1 10 = M 54 17) (hC : IC (M 23 9) (M 54 23) (M 16) (M 17) (M 74) (M 75) (M 24) (M 69) (M 25) (M 70) (M 26) (M 71) (M 27) (M 28) (M 30) (M 31) (M 32) (M 72) (M 73) (Ml' 29) (Mi 11 11)) : Inv M Ml' := by
  obtain ⟨a1, a2, a3, a4, a5, a6, a7, a8, a9, a10⟩ := h
  unfold Inv
  rw [F 55 (by decide), F 3 (by decide), F 4 (by decide), F 2 (by decide), F 8 (by decide), F 56 (by decide), F 5 (by decide), F54 2 (by decide) (by decide) (by decide) (by decide) (by decide) (by decide) (by decide), F54 6 (by decide) (by decide) (by decide) (by decide) (by decide) (by decide) (by decide), F54 36 (by decide) (by decide) (by decide) (by decide) (by decide) (by decide) (by decide), F 9 (by decide), F 6 (by decide), F 7 (by decide), F 10 (by decide), F 57 (by decide), F 58 (by decide), F 59 (by decide), F 11 (by decide), F 12 (by decide), F 13 (by decide), F 14 (by decide), F 15 (by decide), F 18 (by decide), F 19 (by decide), F 20 (by decide), F 21 (by decide), F 60 (by decide), F 61 (by decide), F 62 (by decide), F 63 (by decide), F 64 (by decide), F 65 (by decide), F 35 (by decide), F 68 (by decide), F 41 (by decide), F 42 (by decide), F 43 (by decide), F 44 (by decide), F 80 (by decide), F 81 (by decide), F 82 (by decide), F 47 (by decide), F 49 (by decide), F 51 (by decide), F 53 (by decide), F 66 (by decide), F 22 (by decide), F 79 (by decide), h34, h16]
  exact ⟨a1, a2, a3, a4, ⟨0, by decide, rfl, rfl, fun i hi => absurd hi (Nat.not_lt_zero i)⟩, hfa, a7, a8, a9, hC⟩
theorem c_setfo {X : Nat × (Nat → Int32)} {Ml : ML} {n k' : Nat} (hk : n + k' ≤ 40) (v1 : Int32) (w3 : Int32) : ∀ m j (M : MI), j + m = k' → M 54 23 = nI n → (∀ i, i < j → M 69 (n + i) = v1) → ∃ M' : MI, pdn X m_M_claims (114, [.ref 54, .int v1, .int (nI k'), .int w3, .int (nI j)], [], (sh0, M, Ml, mr0), 0, 0) = some (some (.int (nI k')), (sh0, M', Ml, mr0)) ∧ (∀ k, k ≠ 69 → k ≠ 54 → M' k = M k) ∧ (∀ i, i ≠ 23 → M' 54 i = M 54 i) ∧ M' 54 23 = nI (n + k') ∧ (∀ q, q < n → M' 69 q = M 69 q) ∧ ∀ i, i < k' → M' 69 (n + i) = v1 := by
  intro m
  induction m with
  | zero =>
    intro j M hj h23 hv
    obtain rfl : j = k' := by omega
    refine ⟨pm_up M 54 23 (nI (n + j)), ?_, fun k _ b => up_off b, fun i a => up_kk a, by rw [up_ok], fun q _ => by rw [up_off (by decide)], fun i hi => by rw [up_off (by decide)]; exact hv i hi⟩
    rw [w_M_claims_114, if_neg (by rw [nI_lt' (by omega) (by omega)]; omega), h23, nI_add]
  | succ m ih =>
    intro j M hj h23 hv
    rw [w_M_claims_114, if_pos (by rw [nI_lt' (by omega) (by omega)]; omega), h23, nI_add, if_pos (pin_nI (by omega) (by decide)), nI_clamp (by omega), nI_1]
    obtain ⟨M', g1, g2, g3, g4, g5, g6⟩ := ih (j + 1) (pm_up M 69 (n + j) v1) (by omega) (by rw [up_off (by decide)]; exact h23) (fun i hi => by
      by_cases e : i = j
      · rw [e, up_ok]
      · rw [up_kk (by omega)]; exact hv i (by omega))
    exact ⟨M', g1, fun k a b => (g2 k a b).trans (up_off a), fun i a => (g3 i a).trans (by rw [up_off (by decide)]), g4, fun q hq => (g5 q hq).trans (up_kk (by omega)), g6⟩
theorem pe_mono {ps pe : Nat → Nat} {n : Nat} (h : ∀ q, q < n → ps q ≤ pe q ∧ (0 < q → ps q = pe (q - 1))) : ∀ d q, q + d < n → pe q ≤ pe (q + d)
  | 0, q, _ => Nat.le_refl _
  | d + 1, q, hq => by
    have h1 := pe_mono h d q (by omega)
    obtain ⟨h2, h3⟩ := h (q + d + 1) (by omega)
    have h4 := h3 (by omega)
    rw [show q + d + 1 - 1 = q + d from rfl] at h4
    show pe q ≤ pe (q + d + 1)
    omega
theorem ls_claims {X : Nat × (Nat → Int32)} {Mi : MI} {Ml : ML} (h : Inv Mi Ml) (a : Int32) : LStp Inv X m_CT_claims m_M_claims [.int a] Mi Ml := by
  obtain ⟨N, hN, x1, x2, hX⟩ := h.2.2.2.2.1
  have hCC := h.2.2.2.2.2.2.2.2.2
  obtain ⟨n, h40, e1, e2, h17, fs, mn, fo, ps, pe, V, hF, hQ⟩ := hCC
  obtain ⟨nf, nf8, ef, efM, _, _⟩ := h.2.2.2.1
  have v1 : (Mi 11 11).toInt = (nf : Int) := by rw [ef, nI_toInt (by omega)]
  by_cases h1 : pin a nf
  · obtain ⟨f, hf, rfl⟩ := pin_ex (by omega) h1
    have f8 : f < 8 := by omega
    have p8 : pin (nI f) 8 := pin_nI f8 (by decide)
    have cf : (nI f).toNatClampNeg = f := nI_clamp (by omega)
    obtain ⟨k1, k2, k3, k4, k5⟩ := hF f f8
    by_cases hm : 0 < mn f
    · have hpos : (0 : Int32) < nI (mn f) := (nI_lt' (a := 0) (by decide) (by omega)).mpr hm
      refine LS_mk (r := -1003) (Mi1 := Mi) (Ml1 := Ml) (Mi2 := Mi) (Ml2 := Ml) ?_ ?_ h
      · rw [d_CT_claims, c_within (nI f) (Mi 11 11) (n := nf) v1, Option.bind_some, pb_i, w_CT_claims_11, bI_t h1, if_neg (by decide), if_pos p8, cf, k1, if_pos hpos]
      · rw [d_M_claims, c_isFiling (nI f) (by omega) efM, Option.bind_some, pb_i, w_M_claims_5, bI_t h1, if_neg (by decide), if_pos p8, cf, k2, if_pos hpos]
    · have m0 : mn f = 0 := by omega
      have hnp : ¬ (0 : Int32) < nI (mn f) := by rw [m0]; decide
      generalize ht : Mi 35 = t at *
      have hs0 := rnT_le isp t (show 0 ≤ N by omega)
      have hpar : ∀ q, q < n → ps q ≤ pe q ∧ pe q ≤ ps q + q ∧ (q = 0 → ps q = 0) ∧ (0 < q → ps q = pe (q - 1)) := fun q hq => by
        obtain ⟨_, _, ⟨_, _, r3, r4, r5, r6, _, _⟩, _, _⟩ := hQ q hq
        exact ⟨r3, r4, r5, r6⟩
      generalize hpe0 : (if n = 0 then 0 else pe (n - 1)) = pe0
      have hpen : ∀ q, q < n → pe q ≤ pe0 := fun q hq => by
        have := pe_mono (ps := ps) (pe := pe) (n := n) (fun q hq => ⟨(hpar q hq).1, (hpar q hq).2.2.2⟩) (n - 1 - q) q (by omega)
        rw [show q + (n - 1 - q) = n - 1 by omega] at this
        rw [← hpe0, if_neg (by omega)]; exact this
      have hsq : 2 * pe0 + n ≤ n * n := by
        by_cases z : n = 0
        · rw [← hpe0, if_pos z]; omega
        · have := pe_bound (ps := ps) (pe := pe) (fun q hq => ⟨(hpar q hq).2.1, (hpar q hq).2.2.1, (hpar q hq).2.2.2⟩) (n - 1) (by omega)
          rw [show n - 1 + 1 = n by omega] at this
          rw [← hpe0, if_neg z]
          have e : (n - 1) * n + n = n * n := by
            have : (n - 1) * n + 1 * n = (n - 1 + 1) * n := (Nat.add_mul (n - 1) 1 n).symm
            rw [Nat.one_mul, show n - 1 + 1 = n by omega] at this; exact this
          omega
      -- the class reads
      obtain ⟨A1, b1, ⟨b2, b3⟩, b4⟩ := c_begin (X := X) (Ml := Ml) (t := t) (M := pm_up (pm_up Mi 36 2 (-1)) 36 3 0) hN (by rw [up_off (by decide), up_off (by decide)]; exact x1) (fun j hj => by rw [up_off (by decide), up_off (by decide), ht])
      have fA1 : ∀ k, k ≠ 34 → k ≠ 36 → A1 k = Mi k := fun k u w => (b2 k u).trans ((up_off w).trans (up_off w))
      obtain ⟨A2, Al2, z, d1, d2, d3, d4⟩ := c_clC (X := X) (t := t) (n := n) (fi := f) (pe0 := pe0) hN N (rnT isp t N 0) 0 A1 Ml (fun _ => 0) (fun _ => []) V pm_nul (by omega) (by omega) hs0 (by omega) b4 b3 (fun j hj => by rw [fA1 35 (by decide) (by decide), ht]) (by rw [b2 36 (by decide), up_ok]; rfl) (by rw [fA1 23 (by decide) (by decide)]; exact e1) (fun q => by show pe0 = 0; rw [← hpe0, if_pos (by omega)]) (fun q => by
        show A1 31 (n + 0 - 1) = nI pe0
        rw [fA1 31 (by decide) (by decide), ← hpe0, if_neg (by omega)]
        obtain ⟨_, _, ⟨_, r2, _⟩, _⟩ := hQ (n - 1) (by omega)
        exact r2) hsq (fun j hj => absurd hj (Nat.not_lt_zero j))
      have cR : pD X m_ClaimReader_read [.ref 36, .int (nI f)] (sh0, Mi, Ml, mr0) = some (some (.int (nI z)), (sh0, A2, Al2, mr0)) := by
        rw [d_ClaimReader_read, b1, Option.bind_some, pb_n, w_ClaimReader_read_17]
        exact d1
      have eC0 : pD X m_CT_claims [.ref 1, .int (nI f)] (sh0, Mi, Ml, mr0) = pdn X m_CT_claims (42, [.ref 1, .int (nI f), pm_nul], [.int (nI z)], (sh0, A2, Al2, mr0), 0, 0) := by
        rw [d_CT_claims, c_within (nI f) (Mi 11 11) (n := nf) v1, Option.bind_some, pb_i, w_CT_claims_11, bI_t h1, if_neg (by decide), if_pos p8, cf, k1, if_neg hnp, cR, Option.bind_some, pb_i]
      have fA : ∀ k, (k ≠ 34 ∧ k ≠ 36 ∧ k ≠ 24 ∧ k ≠ 25 ∧ k ≠ 26 ∧ k ≠ 27 ∧ k ≠ 28 ∧ k ≠ 30 ∧ k ≠ 31 ∧ k ≠ 32) → A2 k = Mi k := fun k g => (d3.1 k g).trans (fA1 k g.1 g.2.1)
      have qA : ∀ q, q < n → A2 24 q = Mi 24 q ∧ A2 25 q = Mi 25 q ∧ A2 26 q = Mi 26 q ∧ A2 27 q = Mi 27 q ∧ A2 30 q = Mi 30 q ∧ A2 31 q = Mi 31 q ∧ Al2 29 q = Ml 29 q := fun q hq => by
        have := d3.2.1 q hq
        rw [fA1 24 (by decide) (by decide), fA1 25 (by decide) (by decide), fA1 26 (by decide) (by decide), fA1 27 (by decide) (by decide), fA1 30 (by decide) (by decide), fA1 31 (by decide) (by decide)] at this
        exact this
      have q28 : ∀ i, i < 8 * n → A2 28 i = Mi 28 i := fun i hi => by rw [d3.2.2.1 i hi, fA1 28 (by decide) (by decide)]
      have q32 : ∀ i, i < pe0 → A2 32 i = Mi 32 i := fun i hi => by rw [d3.2.2.2.1 i hi, fA1 32 (by decide) (by decide)]
      -- the reference reads, wherever its cells are as they were
      have refr : ∀ B : MI, (∀ k, (k ≠ 34 ∧ k ≠ 36 ∧ k ≠ 1 ∧ k ≠ 24 ∧ k ≠ 25 ∧ k ≠ 26 ∧ k ≠ 27 ∧ k ≠ 28 ∧ k ≠ 30 ∧ k ≠ 31 ∧ k ≠ 32 ∧ k ≠ 16 ∧ k ≠ 17 ∧ k ≠ 23) → B k = Mi k) → ∃ (B' : MI) (Ml' : ML) (z' k' : Nat), pD X m_M_claims [.ref 54, .int (nI f)] (sh0, B, Al2, mr0) = pdn X m_M_claims (80, [.ref 54, .int (nI f), .int (nI k'), .int (nI z'), pm_nul], [], (sh0, B', Ml', mr0), 0, 0) ∧ z' ≤ 6 ∧ (∀ k, (k ≠ 54 ∧ k ≠ 70 ∧ k ≠ 71 ∧ k ≠ 72 ∧ k ≠ 73 ∧ k ≠ 76 ∧ k ≠ 77) → B' k = B k) ∧ (∀ j, j ≠ 17 → j ≠ 18 → j ≠ 20 → j ≠ 21 → j ≠ 22 → B' 54 j = Mi 54 j) ∧ (∀ q, q < n → B' 70 q = Mi 70 q ∧ B' 71 q = Mi 71 q ∧ B' 72 q = Mi 72 q) ∧ (∀ j, j < 40 * n → B' 73 j = Mi 73 j) ∧ (∀ k, k ≠ 54 → Ml' k = Al2 k) ∧ match clp t N n N (rnT isp t N 0) 0 (fun _ => 0) (fun _ => []) V with
          | Sum.inl (c', p) => z' = c' ∧ 0 < z' ∧ B' 54 17 = nI p
          | Sum.inr (k'', ow', pl', V') => z' = 0 ∧ k' = k'' ∧ B' 54 17 = -1 ∧ ∀ j, j < k'' → RId B' n ow' pl' V' j := by
        intro B hB
        generalize hB1 : pm_up (pm_up B 54 17 (-1)) 54 18 0 = B1
        have g54 : ∀ j, j ≠ 17 → j ≠ 18 → B1 54 j = Mi 54 j := fun j u w => by rw [← hB1, up_kk w, up_kk u, hB 54 (by decide)]
        have g : ∀ k, k ≠ 54 → B1 k = B k := fun k u => by rw [← hB1, up_off u, up_off u]
        have hR : RT t N B1 0 := ⟨by rw [g54 16 (by decide) (by decide)]; exact x2, by rw [← hB1, up_ok]; rfl, fun j hj => by rw [g 68 (by decide), hB 68 (by decide)]; exact ((hX j hj).1).symm⟩
        obtain ⟨B', Ml', z', k', m1, m2, m3, m4⟩ := c_clM (X := X) (t := t) (n := n) hN (fun j hj y => by
          obtain ⟨k, hk, e⟩ := pin_ex (by decide) (hX j hj).2
          rw [e, show (0 : Int32) = nI 0 from rfl, nI_lt' (by omega) (by decide)] at y; omega) (nI f) N (rnT isp t N 0) 0 0 B1 Al2 (fun _ => 0) (fun _ => []) V pm_nul (by omega) hs0 (by omega) rfl (by omega) hR (by rw [g54 23 (by decide) (by decide)]; exact e2) (fun j hj => absurd hj (Nat.not_lt_zero j)) (fun s2 k2 W own qs l s3 hc => by obtain ⟨y1, y2, y3, y4, _⟩ := ccl_ok hc; exact ⟨y1, y2, y3, y4⟩)
        refine ⟨B', Ml', z', k', ?_, m2, fun k u => (m3.1 k u).trans (g k u.1), fun j u w y v s => (m3.2.1 j u w y v s).trans (g54 j u w), fun q hq => ?_, fun j hj => ?_, m3.2.2.2.2, ?_⟩
        · rw [d_M_claims, c_isFiling (nI f) (n := nf) (by omega) (by rw [hB 54 (by decide)]; exact efM), Option.bind_some, pb_i, w_M_claims_5, bI_t h1, if_neg (by decide), if_pos p8, cf, hB 75 (by decide), k2, if_neg hnp, hB1]
          exact m1
        · have := m3.2.2.1 q hq
          rw [g 70 (by decide), g 71 (by decide), g 72 (by decide), hB 70 (by decide), hB 71 (by decide), hB 72 (by decide)] at this; exact this
        · rw [m3.2.2.2.1 j hj, g 73 (by decide), hB 73 (by decide)]
        · cases hq : clp t N n N (rnT isp t N 0) 0 (fun _ => 0) (fun _ => []) V with
          | inl y => rw [hq] at m4; exact m4
          | inr y =>
            rw [hq] at m4
            exact ⟨m4.1, m4.2.1, m4.2.2.1.trans (by rw [← hB1, up_kk (by decide), up_ok]), m4.2.2.2⟩
      cases hq : clp t N n N (rnT isp t N 0) 0 (fun _ => 0) (fun _ => []) V with
      | inl y =>
        obtain ⟨c'', p⟩ := y
        rw [hq] at d4
        obtain ⟨ez, y1, y2⟩ := d4
        have hnz : ¬ nI z = 0 := fun y => by have := (nI_is (m := 0) rfl (by omega) (by decide)).mp y; omega
        have rC : pD X m_CT_claims [.ref 1, .int (nI f)] (sh0, Mi, Ml, mr0) = some (some (.int (-10 - nI z)), (sh0, pm_up (pm_up A2 34 1 0) 1 10 (A2 36 2), Al2, mr0)) := by
          rw [eC0, w_CT_claims_42, if_neg hnz]
        obtain ⟨B', Ml', z', k', m1, m2, m3, m4, m5, m6, m7, m8⟩ := refr (pm_up (pm_up A2 34 1 0) 1 10 (A2 36 2)) (fun k g => by rw [up_off g.2.2.1, up_off g.1]; exact fA k ⟨g.1, g.2.1, g.2.2.2.1, g.2.2.2.2.1, g.2.2.2.2.2.1, g.2.2.2.2.2.2.1, g.2.2.2.2.2.2.2.1, g.2.2.2.2.2.2.2.2.1, g.2.2.2.2.2.2.2.2.2.1, g.2.2.2.2.2.2.2.2.2.2.1⟩)
        rw [hq] at m8
        obtain ⟨ez', w1, w2⟩ := m8
        have ezz : z' = z := ez'.trans ez.symm
        rw [ezz] at m1
        have rM : pD X m_M_claims [.ref 54, .int (nI f)] (sh0, pm_up (pm_up A2 34 1 0) 1 10 (A2 36 2), Al2, mr0) = some (some (.int (-10 - nI z)), (sh0, pm_up B' 54 16 0, Ml', mr0)) := by
          rw [m1, w_M_claims_80, if_pos (show (0 : Int32) < nI z from (nI_lt' (a := 0) (by decide) (by omega)).mpr y1)]
        refine LS_mk rC rM ?_
        have G0 : ∀ k, (k ≠ 1 ∧ k ≠ 34 ∧ k ≠ 54 ∧ k ≠ 70 ∧ k ≠ 71 ∧ k ≠ 72 ∧ k ≠ 73 ∧ k ≠ 76 ∧ k ≠ 77) → pm_up B' 54 16 0 k = A2 k := fun k g => by rw [up_off g.2.2.1, m3 k ⟨g.2.2.1, g.2.2.2⟩, up_off g.1, up_off g.2.1]
        have G : ∀ k, (k ≠ 34 ∧ k ≠ 36 ∧ k ≠ 1 ∧ k ≠ 54 ∧ k ≠ 24 ∧ k ≠ 25 ∧ k ≠ 26 ∧ k ≠ 27 ∧ k ≠ 28 ∧ k ≠ 30 ∧ k ≠ 31 ∧ k ≠ 32 ∧ k ≠ 70 ∧ k ≠ 71 ∧ k ≠ 72 ∧ k ≠ 73 ∧ k ≠ 76 ∧ k ≠ 77) → pm_up B' 54 16 0 k = Mi k := fun k g => by
          obtain ⟨c1, c2, c3, c4, c5, c6, c7, c8, c9, c10, c11, c12, c13, c14, c15, c16, c17, c18⟩ := g
          rw [G0 k ⟨c3, c1, c4, c13, c14, c15, c16, c17, c18⟩, fA k ⟨c1, c2, c5, c6, c7, c8, c9, c10, c11, c12⟩]
        refine Inv_cl h (fun k g => ?_) (fun j u0 u1 u2 u3 u4 u5 u6 => (up_kk u0).trans (m4 j u1 u2 u3 u4 u5)) ?_ (by rw [up_ok]; rfl) ?_ ?_
        · obtain ⟨c1, c2, c3, c4, c5, c6, c7, c8, c9, c10, c11, c12, c13, c14, c15, c16, c17, c18, c19, c20, c21, c22, c23, c24⟩ := g
          exact G k ⟨c1, c2, c3, c4, c5, c6, c7, c8, c9, c10, c11, c12, c16, c17, c18, c19, c20, c21⟩
        · rw [up_off (by decide), m3 34 (by decide), up_off (by decide), up_ok]; rfl
        · rw [up_off (by decide), m3 1 (by decide), up_ok, up_kk (by decide), w2, y2]
        · rw [G 23 (by decide), G 16 (by decide), G 17 (by decide), G 74 (by decide), G 75 (by decide), G 69 (by decide), up_kk (show (23 : Nat) ≠ 16 by decide), m4 23 (by decide) (by decide) (by decide) (by decide) (by decide), G0 24 (by decide), G0 25 (by decide), G0 26 (by decide), G0 27 (by decide), G0 28 (by decide), G0 30 (by decide), G0 31 (by decide), G0 32 (by decide), up_off (show (70 : Nat) ≠ 54 by decide), up_off (show (71 : Nat) ≠ 54 by decide), up_off (show (72 : Nat) ≠ 54 by decide), up_off (show (73 : Nat) ≠ 54 by decide), m7 29 (by decide)]
          refine ⟨n, h40, e1, e2, h17, fs, mn, fo, ps, pe, V, hF, fun q hq' => ?_⟩
          obtain ⟨s24, s25, s26, s27, s30, s31, s29⟩ := qA q hq'
          obtain ⟨s70, s71, s72⟩ := m5 q hq'
          exact QCl_fr (hQ q hq') (by omega) rfl rfl rfl rfl rfl (fun _ => rfl) (fun _ _ => rfl) s24 rfl s25 s70 s26 s71 s27 (fun i hi => q28 _ (by omega)) s30 s31 (fun j hj => q32 j (by have := hpen q hq'; omega)) s72 (fun j hj => m6 _ (by omega)) (fun x hx => (qA x (by omega)).2.2.2.2.2.2)
      | inr y =>
        obtain ⟨k', ow', pl', V'⟩ := y
        rw [hq] at d4
        obtain ⟨ez, y1, y2, y3, y4⟩ := d4
        obtain ⟨_, pV, pO⟩ := clp_ok N _ 0 _ _ _ _ _ _ _ hq (fun j hj => absurd hj (Nat.not_lt_zero j))
        have e23 : A2 23 9 = nI n := by rw [fA 23 (by decide)]; exact e1
        have y3' : A2 36 2 = -1 := by rw [y3, b2 36 (by decide), up_kk (by decide), up_ok]
        generalize hA3 : pm_up (pm_up (pm_up (pm_up A2 34 1 0) 1 10 (A2 36 2)) 16 f (nI n)) 17 f (nI k') = A3
        have e239 : A3 23 9 = nI n := by rw [← hA3, up_off (by decide), up_off (by decide), up_off (by decide), up_off (by decide)]; exact e23
        have e363 : A3 36 3 = nI k' := by rw [← hA3, up_off (by decide), up_off (by decide), up_off (by decide), up_off (by decide)]; exact y2
        have rC : pD X m_CT_claims [.ref 1, .int (nI f)] (sh0, Mi, Ml, mr0) = some (some (.int (nI k')), (sh0, pm_up A3 23 9 (nI (n + k')), Al2, mr0)) := by
          rw [eC0, ez, w_CT_claims_42, if_pos (show nI 0 = 0 from rfl), if_pos p8, if_pos p8, cf, e23, y2, hA3, d_Claims_keep, e239, nI_add, Option.bind_some, pb_n, w_CT_claims_117, up_off (by decide), e363]
        have fA3 : ∀ k, k ≠ 34 → k ≠ 1 → k ≠ 16 → k ≠ 17 → A3 k = A2 k := fun k u w v s => by rw [← hA3, up_off s, up_off v, up_off w, up_off u]
        obtain ⟨B', Ml', z', k'', m1, m2, m3, m4, m5, m6, m7, m8⟩ := refr (pm_up A3 23 9 (nI (n + k'))) (fun k g => by
          obtain ⟨c1, c2, c3, c4, c5, c6, c7, c8, c9, c10, c11, c12, c13, c14⟩ := g
          rw [up_off c14, fA3 k c1 c3 c12 c13]; exact fA k ⟨c1, c2, c4, c5, c6, c7, c8, c9, c10, c11⟩)
        rw [hq] at m8
        obtain ⟨ez', ek, w2, w3⟩ := m8
        rw [ez', ek] at m1
        have e5423 : B' 54 23 = nI n := (m4 23 (by decide) (by decide) (by decide) (by decide) (by decide)).trans e2
        obtain ⟨C, r1, r2, r3, r4, r5, r6⟩ := c_setfo (X := X) (Ml := Ml') y1 (nI f) (nI 0) k' 0 (pm_up (pm_up (pm_up B' 54 16 0) 74 f (nI n)) 75 f (nI k')) (by omega) (by rw [up_off (by decide), up_off (by decide), up_kk (by decide)]; exact e5423) (fun i hi => absurd hi (Nat.not_lt_zero i))
        have rM : pD X m_M_claims [.ref 54, .int (nI f)] (sh0, pm_up A3 23 9 (nI (n + k')), Al2, mr0) = some (some (.int (nI k')), (sh0, C, Ml', mr0)) := by
          rw [m1, w_M_claims_80, if_neg (show ¬ (0 : Int32) < nI 0 by decide), if_pos p8, if_pos p8, cf, e5423]
          exact r1
        refine LS_mk rC rM ?_
        have GB : ∀ k, k ≠ 69 → k ≠ 54 → k ≠ 74 → k ≠ 75 → C k = B' k := fun k u w v s => (r2 k u w).trans ((up_off s).trans ((up_off v).trans (up_off w)))
        have GA : ∀ k, (k ≠ 69 ∧ k ≠ 54 ∧ k ≠ 74 ∧ k ≠ 75 ∧ k ≠ 70 ∧ k ≠ 71 ∧ k ≠ 72 ∧ k ≠ 73 ∧ k ≠ 76 ∧ k ≠ 77 ∧ k ≠ 23 ∧ k ≠ 34 ∧ k ≠ 1 ∧ k ≠ 16 ∧ k ≠ 17) → C k = A2 k := fun k g => by
          obtain ⟨c1, c2, c3, c4, c5, c6, c7, c8, c9, c10, c11, c12, c13, c14, c15⟩ := g
          rw [GB k c1 c2 c3 c4, m3 k ⟨c2, c5, c6, c7, c8, c9, c10⟩, up_off c11, fA3 k c12 c13 c14 c15]
        have G54 : ∀ j, j ≠ 16 → j ≠ 23 → C 54 j = B' 54 j := fun j u w => (r3 j w).trans (by rw [up_off (by decide), up_off (by decide), up_kk u])
        have C69 : ∀ q, q < n → C 69 q = Mi 69 q := fun q hq' => by
          rw [r5 q hq', up_off (by decide), up_off (by decide), up_off (by decide), m3 69 (by decide), up_off (by decide), fA3 69 (by decide) (by decide) (by decide) (by decide), fA 69 (by decide)]
        refine Inv_cl h (fun k g => ?_) (fun j u0 u1 u2 u3 u4 u5 u6 => (G54 j u0 u6).trans (m4 j u1 u2 u3 u4 u5)) ?_ ?_ ?_ ?_
        · obtain ⟨c1, c2, c3, c4, c5, c6, c7, c8, c9, c10, c11, c12, c13, c14, c15, c16, c17, c18, c19, c20, c21, c22, c23, c24⟩ := g
          rw [GA k ⟨c24, c4, c22, c23, c16, c17, c18, c19, c20, c21, c15, c1, c3, c13, c14⟩]
          exact fA k ⟨c1, c2, c5, c6, c7, c8, c9, c10, c11, c12⟩
        · rw [GB 34 (by decide) (by decide) (by decide) (by decide), m3 34 (by decide), up_off (by decide), ← hA3, up_off (by decide), up_off (by decide), up_off (by decide), up_ok]; rfl
        · rw [r3 16 (by decide), up_off (by decide), up_off (by decide), up_ok]; rfl
        · rw [GB 1 (by decide) (by decide) (by decide) (by decide), m3 1 (by decide), up_off (by decide), ← hA3, up_off (by decide), up_off (by decide), up_ok, G54 17 (by decide) (by decide), w2, y3']
        · have c23 : C 23 9 = nI (n + k') := by rw [GB 23 (by decide) (by decide) (by decide) (by decide), m3 23 (by decide), up_ok]
          have c16 : ∀ i, C 16 i = pm_up Mi 16 f (nI n) 16 i := fun i => by
            rw [GB 16 (by decide) (by decide) (by decide) (by decide), m3 16 (by decide), up_off (by decide), ← hA3, up_off (by decide)]
            by_cases e : i = f
            · rw [e, up_ok, up_ok]
            · rw [up_kk e, up_kk e, up_off (by decide), up_off (by decide), fA 16 (by decide)]
          have c17 : ∀ i, C 17 i = pm_up Mi 17 f (nI k') 17 i := fun i => by
            rw [GB 17 (by decide) (by decide) (by decide) (by decide), m3 17 (by decide), up_off (by decide), ← hA3]
            by_cases e : i = f
            · rw [e, up_ok, up_ok]
            · rw [up_kk e, up_kk e, up_off (by decide), up_off (by decide), up_off (by decide), fA 17 (by decide)]
          have c74 : ∀ i, C 74 i = pm_up Mi 74 f (nI n) 74 i := fun i => by
            rw [r2 74 (by decide) (by decide), up_off (by decide)]
            by_cases e : i = f
            · rw [e, up_ok, up_ok]
            · rw [up_kk e, up_kk e, up_off (by decide), m3 74 (by decide), up_off (by decide), fA3 74 (by decide) (by decide) (by decide) (by decide), fA 74 (by decide)]
          have c75 : ∀ i, C 75 i = pm_up Mi 75 f (nI k') 75 i := fun i => by
            rw [r2 75 (by decide) (by decide)]
            by_cases e : i = f
            · rw [e, up_ok, up_ok]
            · rw [up_kk e, up_kk e, up_off (by decide), up_off (by decide), m3 75 (by decide), up_off (by decide), fA3 75 (by decide) (by decide) (by decide) (by decide), fA 75 (by decide)]
          have hfo : ∀ q, q < n → fo q ≠ f := fun q hq' e => by
            obtain ⟨⟨_, _, _, s4, s5⟩, _⟩ := hQ q hq'
            rw [e, m0] at s5
            rw [e] at s4
            omega
          refine ⟨n + k', y1, c23, r4, fun i hi => ?_, upg fs f n, upg mn f k', fun q => if q < n then fo q else f, fun q => if q < n then ps q else sfp pe0 n pl' (q - n), fun q => if q < n then pe q else sfp pe0 n pl' (q - n) + (pl' q).length, V', fun g g8 => ?_, fun q hq' => ?_⟩
          · rw [c17]
            by_cases e : i = f
            · rw [e, ef]; exact Or.inr ((nI_lt' (by omega) (by omega)).mpr hf)
            · rw [up_kk e]; exact h17 i hi
          · rw [c16, c17, c74, c75]
            by_cases e : g = f
            · subst e
              rw [up_ok, up_ok, up_ok, up_ok, upg_y, upg_y]
              exact ⟨rfl, rfl, Nat.le_refl _, fun _ => ⟨rfl, rfl⟩, fun q a _ => if_neg (by omega)⟩
            · rw [up_kk e, up_kk e, up_kk e, up_kk e, upg_n e, upg_n e]
              obtain ⟨j1, j2, j3, j4, j5⟩ := hF g g8
              exact ⟨j1, j2, by omega, j4, fun q a b => by show (if q < n then fo q else f) = g; rw [if_pos (by omega)]; exact j5 q a b⟩
          · by_cases hqn : q < n
            · obtain ⟨s24, s25, s26, s27, s30, s31, s29⟩ := qA q hqn
              obtain ⟨s70, s71, s72⟩ := m5 q hqn
              refine QCl_fr (fs' := upg fs f n) (mn' := upg mn f k') (fo' := fun q => if q < n then fo q else f) (ps' := fun q => if q < n then ps q else sfp pe0 n pl' (q - n)) (pe' := fun q => if q < n then pe q else sfp pe0 n pl' (q - n) + (pl' q).length) (V' := V') (g24 := C 24) (g69 := C 69) (g25 := C 25) (g70 := C 70) (g26 := C 26) (g71 := C 71) (g27 := C 27) (g28 := C 28) (g30 := C 30) (g31 := C 31) (g32 := C 32) (g72 := C 72) (g73 := C 73) (b29 := Ml' 29) (hQ q hqn) (by omega) (if_pos hqn) (upg_n (hfo q hqn)) (upg_n (hfo q hqn)) (if_pos hqn) (if_pos hqn) (fun z => if_pos (by omega)) (fun x hx => pV x (by omega)) (by rw [GA 24 (by decide)]; exact s24) (C69 q hqn) (by rw [GA 25 (by decide)]; exact s25) (by rw [GB 70 (by decide) (by decide) (by decide) (by decide)]; exact s70) (by rw [GA 26 (by decide)]; exact s26) (by rw [GB 71 (by decide) (by decide) (by decide) (by decide)]; exact s71) (by rw [GA 27 (by decide)]; exact s27) (fun i hi => by rw [GA 28 (by decide)]; exact q28 _ (by omega)) (by rw [GA 30 (by decide)]; exact s30) (by rw [GA 31 (by decide)]; exact s31) (fun j hj => by rw [GA 32 (by decide)]; exact q32 j (by have := hpen q hqn; omega)) (by rw [GB 72 (by decide) (by decide) (by decide) (by decide)]; exact s72) (fun j hj => by rw [GB 73 (by decide) (by decide) (by decide) (by decide)]; exact m6 _ (by omega)) (fun x hx => by rw [m7 29 (by decide)]; exact (qA x (by omega)).2.2.2.2.2.2)
            · obtain ⟨j, rfl⟩ : ∃ j, q = n + j := ⟨q - n, by omega⟩
              obtain ⟨i1, i2, i3, i4, i5, ⟨l1, l2, l3, l4⟩, i7⟩ := y4 j (by omega)
              obtain ⟨o1, o2, o3, o4, o5⟩ := w3 j (by omega)
              have hlen := PLk_len i5
              have efo : (fun q => if q < n then fo q else f) (n + j) = f := if_neg hqn
              have eps : (fun q => if q < n then ps q else sfp pe0 n pl' (q - n)) (n + j) = sfp pe0 n pl' j := by show (if n + j < n then _ else _) = _; rw [if_neg hqn, show n + j - n = j by omega]
              have epe : (fun q => if q < n then pe q else sfp pe0 n pl' (q - n) + (pl' q).length) (n + j) = sfp pe0 n pl' j + (pl' (n + j)).length := by show (if n + j < n then _ else _) = _; rw [if_neg hqn, show n + j - n = j by omega]
              have c32 : ∀ i, i < (pl' (n + j)).length → C 32 (sfp pe0 n pl' j + i) = nI ((pl' (n + j)).getD i 0) := fun i hi => by rw [GA 32 (by decide)]; exact l3 i hi
              have pin0 : pin (0 : Int32) 1073741824 := pin_nI (n := 1073741824) (i := 0) (by decide) (by decide)
              refine ⟨⟨?_, ?_, ?_, ?_, ?_⟩, ⟨?_, ?_, ?_, ?_⟩, ⟨?_, ?_, ?_, ?_, ?_, ?_, ?_, ?_⟩, ⟨?_, ?_⟩, ?_⟩
              · rw [efo]; exact f8
              · rw [efo, GA 24 (by decide)]; exact i1
              · rw [efo]; exact r6 j (by omega)
              · rw [efo, upg_y]; omega
              · rw [efo, upg_y, upg_y]; omega
              · rw [GA 25 (by decide), GB 70 (by decide) (by decide) (by decide) (by decide), i2, o1]
              · rw [GA 25 (by decide), i2]; exact pO j (by omega)
              · rw [GA 26 (by decide), GB 71 (by decide) (by decide) (by decide) (by decide), i3, o2]
              · rw [GA 26 (by decide), i3]; exact pin0
              · rw [eps, GA 30 (by decide)]; exact l1
              · rw [epe, GA 31 (by decide)]; exact l2
              · rw [eps, epe]; omega
              · rw [eps, epe]; omega
              · intro z
                rw [eps]
                obtain rfl : j = 0 := by omega
                show pe0 = 0
                rw [← hpe0, if_pos (by omega)]
              · intro z
                rw [eps]
                by_cases j0 : j = 0
                · subst j0
                  show pe0 = (if n + 0 - 1 < n then pe (n + 0 - 1) else _)
                  rw [if_pos (by omega), ← hpe0, if_neg (by omega)]; rfl
                · show _ = (if n + j - 1 < n then pe (n + j - 1) else sfp pe0 n pl' (n + j - 1 - n) + (pl' (n + j - 1)).length)
                  rw [if_neg (by omega), show n + j - 1 - n = j - 1 by omega, show n + j - 1 = n + (j - 1) by omega]
                  have : sfp pe0 n pl' (j - 1 + 1) = sfp pe0 n pl' (j - 1) + (pl' (n + (j - 1))).length := rfl
                  rw [show j - 1 + 1 = j by omega] at this; exact this
              · rw [eps, epe, GB 72 (by decide) (by decide) (by decide) (by decide), o3.1]
                congr 1; omega
              · intro i hi
                rw [eps, epe] at hi
                have hi' : i < (pl' (n + j)).length := by omega
                have hp := i5.1 ((pl' (n + j)).getD i 0) (memn_getD.mpr ⟨i, hi', rfl⟩)
                refine ⟨(pl' (n + j)).getD i 0, ?_, hp.2, ?_, ?_⟩
                · rw [efo, upg_y]; exact hp.1
                · rw [eps]; exact c32 i hi'
                · rw [GB 73 (by decide) (by decide) (by decide) (by decide)]; exact o3.2 i hi'
              · rw [GA 27 (by decide), GA 28 (by decide)]; exact i4
              · rw [GA 25 (by decide), GA 26 (by decide), i2, i3, eps, epe, ← i7]
                congr 1
                unfold pv
                rw [show sfp pe0 n pl' j + (pl' (n + j)).length - sfp pe0 n pl' j = (pl' (n + j)).length by omega]
                refine List.map_congr_left (fun i hi => ?_)
                have hi' := List.mem_range.mp hi
                have hp := i5.1 ((pl' (n + j)).getD i 0) (memn_getD.mpr ⟨i, hi', rfl⟩)
                rw [c32 i hi', nI_clamp (by omega)]
              · intro p hp
                rw [eps, epe, m7 29 (by decide)]
                refine (l4 p hp).trans ⟨fun ⟨x, hx, w⟩ => ?_, fun ⟨i, hi, w⟩ => ?_⟩
                · obtain ⟨i, hi, e⟩ := memn_getD.mp hx
                  have hb := i5.1 x hx
                  refine ⟨i, by omega, ?_⟩
                  rw [c32 i hi, e, nI_clamp (by omega)]
                  exact w.imp (fun z => by rw [z]) id
                · have hi' : i < (pl' (n + j)).length := by omega
                  have hx := memn_getD.mpr ⟨i, hi', rfl⟩
                  have hb := i5.1 _ hx
                  rw [c32 i hi', nI_clamp (by omega)] at w
                  exact ⟨_, hx, w.imp (fun z => (nI_eq (by omega) (by omega)).mp z) id⟩
  · refine LS_mk (r := -1001) (Mi1 := Mi) (Ml1 := Ml) (Mi2 := Mi) (Ml2 := Ml) ?_ ?_ h
    · rw [d_CT_claims, c_within a (Mi 11 11) (n := nf) v1, Option.bind_some, pb_i, w_CT_claims_11, if_pos (bI_f h1)]
    · rw [d_M_claims, c_isFiling a (by omega) efM, Option.bind_some, pb_i, w_M_claims_5, if_pos (bI_f h1)]
