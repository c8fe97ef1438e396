/-! CLAIMS: one clause, the reference -/
/-- what a clause may change in the reference -/
def UCM (c : Nat) (M M' : MI) (Ml Ml' : ML) : Prop := (∀ k, (k ≠ 54 ∧ k ≠ 70 ∧ k ≠ 71 ∧ k ≠ 72 ∧ k ≠ 73 ∧ k ≠ 76 ∧ k ≠ 77) → M' k = M k) ∧ (∀ j, j ≠ 17 → j ≠ 18 → j ≠ 20 → j ≠ 21 → j ≠ 22 → M' 54 j = M 54 j) ∧ (∀ q, q ≠ c → M' 70 q = M 70 q ∧ M' 71 q = M 71 q ∧ M' 72 q = M 72 q ∧ M' 76 q = M 76 q) ∧ (∀ j, (j < 40 * c ∨ 40 * c + 40 ≤ j) → M' 73 j = M 73 j) ∧ (∀ i, (i < 8 * c ∨ 8 * c + 8 ≤ i) → M' 77 i = M 77 i) ∧ ∀ k, k ≠ 54 → Ml' k = Ml k
theorem UCM_tr {c : Nat} {M M1 M2 : MI} {Ml Ml1 Ml2 : ML} (h : UCM c M M1 Ml Ml1) (h2 : UCM c M1 M2 Ml1 Ml2) : UCM c M M2 Ml Ml2 := by
  refine ⟨fun k g => (h2.1 k g).trans (h.1 k g), fun j a b e f g => (h2.2.1 j a b e f g).trans (h.2.1 j a b e f g), fun q hq => ?_, fun j hj => (h2.2.2.2.1 j hj).trans (h.2.2.2.1 j hj), fun i hi => (h2.2.2.2.2.1 i hi).trans (h.2.2.2.2.1 i hi), fun k hk => (h2.2.2.2.2.2 k hk).trans (h.2.2.2.2.2 k hk)⟩
  obtain ⟨a1, a2, a3, a4⟩ := h.2.2.1 q hq
  obtain ⟨b1, b2, b3, b4⟩ := h2.2.2.1 q hq
  exact ⟨b1.trans a1, b2.trans a2, b3.trans a3, b4.trans a4⟩
theorem UCM_54 {c : Nat} {M M' : MI} {Ml Ml' : ML} (h : ∀ k, k ≠ 54 → M' k = M k) (h2 : ∀ j, j ≠ 17 → j ≠ 18 → j ≠ 20 → j ≠ 21 → j ≠ 22 → M' 54 j = M 54 j) (h3 : ∀ k, k ≠ 54 → Ml' k = Ml k) : UCM c M M' Ml Ml' := ⟨fun k g => h k g.1, h2, fun q _ => by rw [h 70 (by decide), h 71 (by decide), h 72 (by decide), h 76 (by decide)]; exact ⟨rfl, rfl, rfl, rfl⟩, fun j _ => by rw [h 73 (by decide)], fun i _ => by rw [h 77 (by decide)], h3⟩
theorem hrv_is {t : Nat → Int32} {N s : Nat} {x : Int32} (hx : x ≠ -1) : hrv t N s = x ↔ s < N ∧ t s = x := by
  unfold hrv
  by_cases z : s < N
  · rw [if_pos z]; exact ⟨fun y => ⟨z, y⟩, fun y => y.2⟩
  · rw [if_neg z]; exact ⟨fun y => absurd y.symm hx, fun y => absurd y.1 z⟩
theorem c_ccM {X : Nat × (Nat → Int32)} {M : MI} {Ml : ML} {t : Nat → Int32} {N n k s : Nat} {V : Nat → List Int32} (hN : N ≤ 200) (hc : n + k ≤ 40) (hs : s ≤ N) (hsk : rnT isp t N s = s) (hR : RT t N M s) (hrow : ∀ q, n ≤ q → q < n + k → rowA (M 76) (M 77) q (V q)) : ∃ (M' : MI) (Ml' : ML) (z : Nat), pD X m_M_readClaim [.ref 54, .int (nI (n + k)), .int (nI n)] (sh0, M, Ml, mr0) = some (some (.int (nI z)), (sh0, M', Ml', mr0)) ∧ z ≤ 6 ∧ UCM (n + k) M M' Ml Ml' ∧ match ccl t N n k V s with
    | Sum.inl (c', pl) => z = c' ∧ 0 < z ∧ M' 54 17 = nI pl
    | Sum.inr (s', own, ps, l) => z = 0 ∧ (∃ q, q ≤ N ∧ RT t N M' q ∧ rnT isp t N q = s') ∧ M' 54 17 = M 54 17 ∧ M' 70 (n + k) = own ∧ M' 71 (n + k) = 0 ∧ PRf M' (n + k) ps ∧ rowA (M' 76) (M' 77) (n + k) l := by
  obtain ⟨M1, Ml1, g1, g2, g3, g4, g5, g6, g7⟩ := c_readWord (X := X) (Ml := Ml) hN hs hR
  rw [hsk] at g4 g5 g7
  have U1 : UCM (n + k) M M1 Ml Ml1 := UCM_54 g2 (fun j _ b c _ _ => g3 j b c) g6
  have e17 : M1 54 17 = M 54 17 := g3 17 (by decide) (by decide)
  rw [d_M_readClaim, g1, Option.bind_some, pb_n, w_M_readClaim_4, cd_0, Option.bind_some, pb_i, w_M_readClaim_22, g7, w_M_readClaim_31, w_M_readClaim_31]
  unfold ccl
  have bad : ∀ (v3 : Int32) (c' : Nat) (w1 w2 w4 : Value), (if v3 = 0 then c' = 1 else c' = 6) → ∃ (M' : MI) (Ml' : ML) (z : Nat), pdn X m_M_readClaim (42, [.ref 54, w1, w2, .int v3, w4], [], (sh0, M1, Ml1, mr0), 0, 0) = some (some (.int (nI z)), (sh0, M', Ml', mr0)) ∧ z ≤ 6 ∧ UCM (n + k) M M' Ml Ml' ∧ (z = c' ∧ 0 < z ∧ M' 54 17 = nI s) := by
    intro v3 c' w1 w2 w4 hv
    have U2 : UCM (n + k) M1 (pm_up M1 54 17 (nI s)) Ml1 Ml1 := UCM_54 (fun k a => up_off a) (fun j a _ _ _ _ => up_kk a) (fun _ _ => rfl)
    rw [w_M_readClaim_42]
    by_cases y : v3 = 0
    · rw [if_pos y] at hv
      subst hv
      rw [if_pos y, w_M_readClaim_53, d_M_fails, g4.2.1, Option.bind_some, pb_i, w_M_readClaim_60]
      exact ⟨_, _, 1, rfl, by omega, UCM_tr U1 U2, rfl, by omega, by rw [up_ok]⟩
    · rw [if_neg y] at hv
      subst hv
      rw [if_neg y, w_M_readClaim_53, d_M_fails, g4.2.1, Option.bind_some, pb_i, w_M_readClaim_60]
      exact ⟨_, _, 6, rfl, by omega, UCM_tr U1 U2, rfl, by omega, by rw [up_ok]⟩
  by_cases q0 : wdl t N s = [99, 108, 97, 105, 109]
  · rw [if_pos (kw_0.mpr q0), if_neg (show ¬ (1 : Int32) = 0 by decide), if_pos q0]
    by_cases q1 : n + k < 40
    · have p40 : pin (nI (n + k)) 40 := pin_nI q1 (by decide)
      have cc : (nI (n + k)).toNatClampNeg = n + k := nI_clamp (by omega)
      have hty : ty t N s = 1 := by
        by_cases q : ty t N s = 1
        · exact q
        · rw [wdl_no q] at q0; exact absurd q0 (by simp)
      have hlt : s < N := (ty_1.mp hty).1
      have hn := nx_le t hs
      have hgt := nx_gt hlt (t := t)
      rw [if_pos q1, if_neg (show ¬ nI (n + k) = 40 from fun z => by have := (nI_is (m := 40) rfl (by omega) (by decide)).mp z; omega), if_pos p40, if_pos p40, if_pos p40, cc, g5, ← nx_w hty]
      generalize hM2 : pm_up (pm_up (pm_up (pm_up M1 54 18 (nI (nx t N s))) 70 (n + k) 0) 71 (n + k) 0) 72 (n + k) 0 = M2
      have f2 : ∀ j, j ≠ 54 → j ≠ 70 → j ≠ 71 → j ≠ 72 → M2 j = M1 j := fun j a b c d => by rw [← hM2, up_off d, up_off c, up_off b, up_off a]
      have f254 : ∀ j, j ≠ 18 → M2 54 j = M1 54 j := fun j a => by rw [← hM2, up_off (by decide), up_off (by decide), up_off (by decide), up_kk a]
      have U2 : UCM (n + k) M1 M2 Ml1 Ml1 := ⟨fun j g => f2 j g.1 g.2.1 g.2.2.1 g.2.2.2.1, fun j _ b _ _ _ => f254 j b, fun q hq => by rw [← hM2]; exact ⟨by rw [up_off (by decide), up_off (by decide), up_kk hq, up_off (by decide)], by rw [up_off (by decide), up_kk hq, up_off (by decide), up_off (by decide)], by rw [up_kk hq, up_off (by decide), up_off (by decide), up_off (by decide)], by rw [up_off (by decide), up_off (by decide), up_off (by decide), up_off (by decide)]⟩, fun j _ => by rw [f2 73 (by decide) (by decide) (by decide) (by decide)], fun i _ => by rw [f2 77 (by decide) (by decide) (by decide) (by decide)], fun _ _ => rfl⟩
      have U02 := UCM_tr U1 U2
      have hR2 : RT t N M2 (nx t N s) := ⟨by rw [f254 16 (by decide)]; exact g4.1, by rw [← hM2, up_off (by decide), up_off (by decide), up_off (by decide), up_ok], fun j hj => by rw [f2 68 (by decide) (by decide) (by decide) (by decide)]; exact g4.2.2 j hj⟩
      have a70 : M2 70 (n + k) = 0 := by rw [← hM2, up_off (by decide), up_off (by decide), up_ok]
      have a71 : M2 71 (n + k) = 0 := by rw [← hM2, up_off (by decide), up_ok]
      have a72 : PRf M2 (n + k) [] := ⟨by rw [← hM2, up_ok]; rfl, fun j hj => absurd hj (Nat.not_lt_zero j)⟩
      have a17 : M2 54 17 = M 54 17 := (f254 17 (by decide)).trans e17
      have hs1 := rnT_le isp t hn
      have hs1g := rnT_ge isp t N (nx t N s)
      generalize hs1e : rnT isp t N (nx t N s) = s1 at *
      -- features
      have feM : ∃ (M3 : MI) (z : Nat), pD X m_M_readFeatures [.ref 54, .int (nI (n + k))] (sh0, M2, Ml1, mr0) = some (some (.int (nI z)), (sh0, M3, Ml1, mr0)) ∧ z ≤ 3 ∧ (∀ k, k ≠ 54 → k ≠ 70 → M3 k = M2 k) ∧ (∀ j, j ≠ 17 → j ≠ 18 → j ≠ 21 → j ≠ 22 → M3 54 j = M2 54 j) ∧ (∀ q, q ≠ n + k → M3 70 q = M2 70 q) ∧ match fe0 t N s1 with
          | Sum.inl (c', pl) => z = c' ∧ 0 < z ∧ M3 54 17 = nI pl
          | Sum.inr (s', own') => z = 0 ∧ s1 ≤ s' ∧ s' ≤ N ∧ RT t N M3 s' ∧ rnT isp t N s' = s' ∧ M3 54 17 = M2 54 17 ∧ M3 70 (n + k) = own' := by
        rw [d_M_readFeatures]
        unfold fe0
        by_cases q : ty t N s1 = 2
        · rw [if_pos q]
          exact c_feM hN q1 N s1 (nx t N s) M2 0 pm_nul (by omega) hs1 hn hs1e q hR2 a70
        · obtain ⟨M3, y1, y2, y3⟩ := c_readNum (X := X) (Ml := Ml1) (F := 2) (a := 0) (b := 29) hN hn (by decide) (by decide) (by decide) hR2
          rw [hs1e] at y3
          rw [if_neg q]
          rcases y3 with ⟨_, x2, x3⟩ | ⟨x1, _⟩ | ⟨x1, _⟩
          · refine ⟨M3, 1, ?_, by omega, fun k a _ => y1 k a, y2, fun q _ => by rw [y1 70 (by decide)], rfl, by omega, x3⟩
            rw [w_M_readFeatures_2, if_neg (show ¬ (1 : Int32) = 0 by decide)]
            rw [show pD X m_M_readNumber [.ref 54, .int 0, .int 29, .int 2] (sh0, M2, Ml1, mr0) = _ from x2, Option.bind_some, pb_i, w_M_readFeatures_14, if_pos (by decide)]; rfl
          · exact absurd x1 q
          · exact absurd x1 q
      obtain ⟨M3, z, k1, k2, k3, k4, k5, k6⟩ := feM
      have U3 : UCM (n + k) M2 M3 Ml1 Ml1 := ⟨fun j g => k3 j g.1 g.2.1, fun j a b _ e f => k4 j a b e f, fun q hq => by rw [k5 q hq, k3 71 (by decide) (by decide), k3 72 (by decide) (by decide), k3 76 (by decide) (by decide)]; exact ⟨rfl, rfl, rfl, rfl⟩, fun j _ => by rw [k3 73 (by decide) (by decide)], fun i _ => by rw [k3 77 (by decide) (by decide)], fun _ _ => rfl⟩
      have U03 := UCM_tr U02 U3
      rw [k1, Option.bind_some, pb_i, w_M_readClaim_95]
      cases hfe : fe0 t N s1 with
      | inl x =>
        obtain ⟨c', pl⟩ := x
        rw [hfe] at k6
        obtain ⟨rfl, z0, z1⟩ := k6
        refine ⟨M3, Ml1, z, ?_, by omega, U03, rfl, z0, z1⟩
        rw [if_neg (show ¬ nI z = 0 from fun y => by have := (nI_is (m := 0) rfl (by omega) (by decide)).mp y; omega), w_M_readClaim_127, if_pos (show (0 : Int32) < nI z from (nI_lt' (a := 0) (by decide) (by omega)).mpr z0)]
      | inr x =>
        obtain ⟨s2, own⟩ := x
        rw [hfe] at k6
        obtain ⟨rfl, hs2g, hs2, hR3, hsk2, x17, x70⟩ := k6
        obtain ⟨M4, m1, ⟨m2, m3⟩, m4⟩ := c_here (X := X) (Ml := Ml1) (t := t) (M := M3) hN hs2 hR3
        rw [hsk2] at m1 m4
        have U4 : UCM (n + k) M3 M4 Ml1 Ml1 := UCM_54 m2 (fun j _ b _ _ _ => m3 j b) (fun _ _ => rfl)
        have U04 := UCM_tr U03 U4
        have y17 : M4 54 17 = M 54 17 := ((m3 17 (by decide)).trans x17).trans a17
        have y70 : M4 70 (n + k) = own := by rw [m2 70 (by decide)]; exact x70
        have y71 : M4 71 (n + k) = 0 := by rw [m2 71 (by decide), k3 71 (by decide) (by decide)]; exact a71
        have y72 : PRf M4 (n + k) [] := by unfold PRf at a72 ⊢; rw [m2 72 (by decide), m2 73 (by decide), k3 72 (by decide) (by decide), k3 73 (by decide) (by decide)]; exact a72
        rw [if_pos (show nI 0 = 0 from rfl), m1, Option.bind_some, pb_i, w_M_readClaim_106, c_inL, Option.bind_some, pb_i, w_M_readClaim_116]
        -- behind the parents
        have tail : ∀ (M5 : MI) (Ml5 : ML) (s3 : Nat) (ps : List Nat), UCM (n + k) M M5 Ml Ml5 → (∀ q, n ≤ q → q < n + k → rowA (M5 76) (M5 77) q (V q)) → s3 ≤ N → rnT isp t N s3 = s3 → RT t N M5 s3 → M5 54 17 = M 54 17 → M5 70 (n + k) = own → M5 71 (n + k) = 0 → PLk ps n (n + k) → PRf M5 (n + k) ps → ∀ w2 w3 : Value, ∃ (M' : MI) (Ml' : ML) (z : Nat), pdn X m_M_readClaim (127, [.ref 54, .int (nI (n + k)), w2, w3, .int 0], [], (sh0, M5, Ml5, mr0), 0, 0) = some (some (.int (nI z)), (sh0, M', Ml', mr0)) ∧ z ≤ 6 ∧ UCM (n + k) M M' Ml Ml' ∧ match (if s3 < N ∧ t s3 = 59 then (match bldv (own ||| 0) (pv V ps) with
              | none => Sum.inl (5, s3)
              | some l => Sum.inr (rnT isp t N (s3 + 1), own, ps, l)) else Sum.inl (1, s3) : Sum (Nat × Nat) (Nat × Int32 × List Nat × List Int32)) with
            | Sum.inl (c', pl) => z = c' ∧ 0 < z ∧ M' 54 17 = nI pl
            | Sum.inr (s', own', ps', l) => z = 0 ∧ (∃ q, q ≤ N ∧ RT t N M' q ∧ rnT isp t N q = s') ∧ M' 54 17 = M 54 17 ∧ M' 70 (n + k) = own' ∧ M' 71 (n + k) = 0 ∧ PRf M' (n + k) ps' ∧ rowA (M' 76) (M' 77) (n + k) l := by
          intro M5 Ml5 s3 ps U5 hrow5 hs3 hsk3 hR5 v17 v70 v71 hP hC w2 w3
          obtain ⟨M6, n1, ⟨n2, n3⟩, n4⟩ := c_here (X := X) (Ml := Ml5) (t := t) (M := M5) hN hs3 hR5
          rw [hsk3] at n1 n4
          have U6 := UCM_tr U5 (UCM_54 (c := n + k) (Ml := Ml5) (Ml' := Ml5) n2 (fun j _ b _ _ _ => n3 j b) (fun _ _ => rfl))
          have hlen := PLk_len hP
          rw [w_M_readClaim_127, if_neg (show ¬ (0 : Int32) < 0 by decide), n1, Option.bind_some, pb_i, w_M_readClaim_139]
          have hC6 : PRf M6 (n + k) ps := by unfold PRf at hC ⊢; rw [n2 72 (by decide), n2 73 (by decide)]; exact hC
          by_cases y : s3 < N ∧ t s3 = 59
          · obtain ⟨M7, r1, r2, l, r3, r4⟩ := c_findV (X := X) (M := M6) (Ml := Ml5) (c := n + k) (np := ps.length) q1 (by omega) (fun j => ps.getD j 0) V (fun j hj => (hP.1 _ (memn_getD.mpr ⟨j, hj, rfl⟩)).2) hC6.1 hC6.2 (fun j hj => by
              have := hP.1 (ps.getD j 0) (memn_getD.mpr ⟨j, hj, rfl⟩)
              rw [n2 76 (by decide), n2 77 (by decide)]; exact hrow5 _ this.1 this.2)
            rw [n2 70 (by decide), n2 71 (by decide), v70, v71] at r1 r4
            have r1' : pD X m_M_findVersions [.ref 54, .int (nI (n + k))] (sh0, M6, Ml5, mr0) = some (some (.int (bI ((bldv (own ||| 0) (pv V ps)).isSome = true))), (sh0, M7, Ml5, mr0)) := r1
            have r4' : ∀ l', bldv (own ||| 0) (pv V ps) = some l' → l = l' := r4
            have f7 : ∀ j, j ≠ 76 → j ≠ 77 → M7 j = M6 j := fun j a b => r2.1 j a b
            have U7 : UCM (n + k) M6 M7 Ml5 Ml5 := ⟨fun j g => f7 j g.2.2.2.2.2.1 g.2.2.2.2.2.2, fun j _ _ _ _ _ => by rw [f7 54 (by decide) (by decide)], fun q hq => by rw [f7 70 (by decide) (by decide), f7 71 (by decide) (by decide), f7 72 (by decide) (by decide), r2.2.1 q hq]; exact ⟨rfl, rfl, rfl, rfl⟩, fun j _ => by rw [f7 73 (by decide) (by decide)], r2.2.2, fun _ _ => rfl⟩
            have U07 := UCM_tr U6 U7
            rw [if_pos ((hrv_is (by decide)).mpr y), r1', Option.bind_some, pb_i, w_M_readClaim_159, if_pos y]
            cases hb : bldv (own ||| 0) (pv V ps) with
            | none =>
              rw [if_pos (bI_f (by decide)), d_M_fails, f7 54 (by decide) (by decide), n4.2.1, Option.bind_some, pb_i, w_M_readClaim_171]
              exact ⟨_, _, 5, rfl, by omega, UCM_tr U07 (UCM_54 (fun k a => up_off a) (fun j a _ _ _ _ => up_kk a) (fun _ _ => rfl)), rfl, by omega, by rw [up_ok]⟩
            | some l2 =>
              have el : l = l2 := r4' l2 hb
              rw [if_neg (by rw [bI_t (show (some l2).isSome = true from rfl)]; decide), f7 54 (by decide) (by decide), n4.2.1, nI_1]
              refine ⟨pm_up M7 54 18 (nI (s3 + 1)), Ml5, 0, rfl, by omega, UCM_tr U07 (UCM_54 (fun k a => up_off a) (fun j _ b _ _ _ => up_kk b) (fun _ _ => rfl)), rfl, ⟨s3 + 1, by omega, ⟨?_, by rw [up_ok], fun j hj => ?_⟩, rfl⟩, ?_, ?_, ?_, ?_, ?_⟩
              · rw [up_kk (by decide), f7 54 (by decide) (by decide)]; exact n4.1
              · rw [up_off (by decide), f7 68 (by decide) (by decide)]; exact n4.2.2 j hj
              · rw [up_kk (by decide), f7 54 (by decide) (by decide), n3 17 (by decide)]; exact v17
              · rw [up_off (by decide), f7 70 (by decide) (by decide), n2 70 (by decide)]; exact v70
              · rw [up_off (by decide), f7 71 (by decide) (by decide), n2 71 (by decide)]; exact v71
              · unfold PRf at hC6 ⊢; rw [up_off (by decide), up_off (by decide), f7 72 (by decide) (by decide), f7 73 (by decide) (by decide)]; exact hC6
              · rw [up_off (by decide), up_off (by decide), ← el]; exact r3
          · rw [if_neg (fun x => y ((hrv_is (by decide)).mp x)), d_M_fails, n4.2.1, Option.bind_some, pb_i, w_M_readClaim_153, if_neg y]
            exact ⟨_, _, 1, rfl, by omega, UCM_tr U6 (UCM_54 (fun k a => up_off a) (fun j a _ _ _ _ => up_kk a) (fun _ _ => rfl)), rfl, by omega, by rw [up_ok]⟩
        have r4 : ∀ q, n ≤ q → q < n + k → rowA (M4 76) (M4 77) q (V q) := fun q a b => by
          have e76 : M4 76 = M 76 := by rw [m2 76 (by decide), k3 76 (by decide) (by decide), f2 76 (by decide) (by decide) (by decide) (by decide), g2 76 (by decide)]
          have e77 : M4 77 = M 77 := by rw [m2 77 (by decide), k3 77 (by decide) (by decide), f2 77 (by decide) (by decide) (by decide) (by decide), g2 77 (by decide)]
          rw [e76, e77]; exact hrow q a b
        show ∃ (M' : MI) (Ml' : ML) (z : Nat), _ ∧ z ≤ 6 ∧ UCM (n + k) M M' Ml Ml' ∧ match (match (if wdl t N s2 = [111, 102] then pa t N n k N s2 [] else Sum.inr (s2, []) : Sum (Nat × Nat) (Nat × List Nat)) with
            | Sum.inl x => Sum.inl x
            | Sum.inr (s3, ps) => if s3 < N ∧ t s3 = 59 then (match bldv (own ||| 0) (pv V ps) with
              | none => Sum.inl (5, s3)
              | some l => Sum.inr (rnT isp t N (s3 + 1), own, ps, l)) else Sum.inl (1, s3) : Sum (Nat × Nat) (Nat × Int32 × List Nat × List Int32)) with
          | Sum.inl (c', pl) => z = c' ∧ 0 < z ∧ M' 54 17 = nI pl
          | Sum.inr (s', own', ps', l) => z = 0 ∧ (∃ q, q ≤ N ∧ RT t N M' q ∧ rnT isp t N q = s') ∧ M' 54 17 = M 54 17 ∧ M' 70 (n + k) = own' ∧ M' 71 (n + k) = 0 ∧ PRf M' (n + k) ps' ∧ rowA (M' 76) (M' 77) (n + k) l
        by_cases ql : ilt (hrv t N s2) = true
        · have hlt2 : s2 < N := by
            unfold hrv at ql
            by_cases z : s2 < N
            · exact z
            · rw [if_neg z] at ql; exact absurd ql (by decide)
          have eh : hrv t N s2 = t s2 := by unfold hrv; rw [if_pos hlt2]
          rw [eh] at ql
          have hty2 : ty t N s2 = 1 := ty_1.mpr ⟨hlt2, ql⟩
          obtain ⟨M5, Ml5, o1, o2, o3, o4, o5, o6, o7⟩ := c_readWord (X := X) (Ml := Ml1) (t := t) (M := M4) hN hs2 m4
          rw [hsk2] at o4 o5 o7
          have U5 : UCM (n + k) M M5 Ml Ml5 := UCM_tr U04 (UCM_54 o2 (fun j _ b c _ _ => o3 j b c) o6)
          rw [eh, if_neg (by rw [bI_t ql]; decide), d_M_readOn, o1, Option.bind_some, pb_n, w_M_readOn_4, cd_1, Option.bind_some, pb_i, w_M_readOn_19, o7]
          by_cases qo : wdl t N s2 = [111, 102]
          · rw [if_pos (kw_1.mpr qo), if_pos qo, o5, ← nx_w hty2]
            have U6 : UCM (n + k) M (pm_up M5 54 18 (nI (nx t N s2))) Ml Ml5 := UCM_tr U5 (UCM_54 (fun k a => up_off a) (fun j _ b _ _ _ => up_kk b) (fun _ _ => rfl))
            obtain ⟨M6, z, r1, r2, r3, r5⟩ := c_paM (X := X) (Ml := Ml5) (t := t) (n := n) (k := k) hN q1 N s2 (pm_up M5 54 18 (nI (nx t N s2))) [] pm_nul pm_nul (by omega) hlt2 ⟨by rw [up_kk (by decide)]; exact o4.1, by rw [up_ok], fun j hj => by rw [up_off (by decide)]; exact o4.2.2 j hj⟩ (PLk_nil n (n + k)) (by unfold PRf at y72 ⊢; rw [up_off (by decide), up_off (by decide), o2 72 (by decide), o2 73 (by decide)]; exact y72)
            have U7 : UCM (n + k) (pm_up M5 54 18 (nI (nx t N s2))) M6 Ml5 Ml5 := ⟨fun j g => r3.1 j g.1 g.2.2.2.1 g.2.2.2.2.1, r3.2.1, fun q hq => by rw [r3.1 70 (by decide) (by decide) (by decide), r3.1 71 (by decide) (by decide) (by decide), r3.2.2.1 q hq, r3.1 76 (by decide) (by decide) (by decide)]; exact ⟨rfl, rfl, rfl, rfl⟩, r3.2.2.2, fun i _ => by rw [r3.1 77 (by decide) (by decide) (by decide)], fun _ _ => rfl⟩
            have U07 := UCM_tr U6 U7
            rw [r1, Option.bind_some, pb_i, w_M_readClaim_125]
            cases hpa : pa t N n k N s2 [] with
            | inl x =>
              obtain ⟨c', pl⟩ := x
              rw [hpa] at r5
              obtain ⟨rfl, z0, z1⟩ := r5
              exact ⟨M6, Ml5, z, by rw [w_M_readClaim_127, if_pos (show (0 : Int32) < nI z from (nI_lt' (a := 0) (by decide) (by omega)).mpr z0)], by omega, U07, rfl, z0, z1⟩
            | inr x =>
              obtain ⟨s3, ps⟩ := x
              rw [hpa] at r5
              obtain ⟨rfl, w1, w2, w3, w4, w5, w6, w7⟩ := r5
              exact tail M6 Ml5 s3 ps U07 (fun q a b => by rw [r3.1 76 (by decide) (by decide) (by decide), r3.1 77 (by decide) (by decide) (by decide), up_off (by decide), up_off (by decide), o2 76 (by decide), o2 77 (by decide)]; exact r4 q a b) w4 w2 w1 (by rw [w5, up_kk (by decide), o3 17 (by decide) (by decide)]; exact y17) (by rw [r3.1 70 (by decide) (by decide) (by decide), up_off (by decide), o2 70 (by decide)]; exact y70) (by rw [r3.1 71 (by decide) (by decide) (by decide), up_off (by decide), o2 71 (by decide)]; exact y71) w6 w7 _ _
          · have hz : ¬ (s2 < N ∧ t s2 = 59) := fun y => by rw [y.2] at ql; exact absurd ql (by decide)
            rw [if_neg (fun x => qo (kw_1.mp x)), if_neg qo, d_M_fails, o4.2.1, Option.bind_some, pb_i, w_M_readOn_32, Option.bind_some, pb_i, w_M_readClaim_125, w_M_readClaim_127, if_pos (by decide)]
            show ∃ (M' : MI) (Ml' : ML) (z : Nat), _ ∧ z ≤ 6 ∧ UCM (n + k) M M' Ml Ml' ∧ match (if s2 < N ∧ t s2 = 59 then (match bldv (own ||| 0) (pv V []) with
              | none => Sum.inl (5, s2)
              | some l => Sum.inr (rnT isp t N (s2 + 1), own, [], l)) else Sum.inl (1, s2) : Sum (Nat × Nat) (Nat × Int32 × List Nat × List Int32)) with
              | Sum.inl (c', pl) => z = c' ∧ 0 < z ∧ M' 54 17 = nI pl
              | Sum.inr (s', own', ps', l) => z = 0 ∧ (∃ q, q ≤ N ∧ RT t N M' q ∧ rnT isp t N q = s') ∧ M' 54 17 = M 54 17 ∧ M' 70 (n + k) = own' ∧ M' 71 (n + k) = 0 ∧ PRf M' (n + k) ps' ∧ rowA (M' 76) (M' 77) (n + k) l
            rw [if_neg hz]
            exact ⟨_, _, 1, rfl, by omega, UCM_tr U5 (UCM_54 (fun k a => up_off a) (fun j a _ _ _ _ => up_kk a) (fun _ _ => rfl)), rfl, by omega, by rw [up_ok]⟩
        · have hno : ¬ ty t N s2 = 1 := fun y => by
            obtain ⟨y1, y2⟩ := ty_1.mp y
            exact ql (by unfold hrv; rw [if_pos y1]; exact y2)
          rw [if_pos (bI_f ql), if_neg (show ¬ wdl t N s2 = [111, 102] by rw [wdl_no hno]; simp)]
          exact tail M4 Ml1 s2 [] U04 r4 hs2 hsk2 m4 y17 y70 y71 (PLk_nil n (n + k)) y72 _ _
    · have e40 : n + k = 40 := by omega
      rw [if_neg q1, if_pos (show nI (n + k) = 40 by rw [e40]; rfl)]
      exact bad 1 6 _ _ _ (by rw [if_neg (by decide)])
  · rw [if_neg (fun x => q0 (kw_0.mp x)), if_pos (rfl : (0 : Int32) = 0), if_neg q0]
    exact bad 0 1 _ _ _ (by rw [if_pos rfl])
