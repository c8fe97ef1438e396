/-! CLAIMS: the reference's parents -/
def PRf (M : MI) (c : Nat) (ps : List Nat) : Prop := M 72 c = nI ps.length ∧ ∀ j, j < ps.length → M 73 (40 * c + j) = nI (ps.getD j 0)
/-- what reading parents may change in the reference -/
def UPM (c : Nat) (M M' : MI) : Prop := (∀ k, k ≠ 54 → k ≠ 72 → k ≠ 73 → M' k = M k) ∧ (∀ j, j ≠ 17 → j ≠ 18 → j ≠ 20 → j ≠ 21 → j ≠ 22 → M' 54 j = M 54 j) ∧ (∀ q, q ≠ c → M' 72 q = M 72 q) ∧ ∀ j, (j < 40 * c ∨ 40 * c + 40 ≤ j) → M' 73 j = M 73 j
theorem UPM_tr {c : Nat} {M M1 M2 : MI} (h : UPM c M M1) (h2 : UPM c M1 M2) : UPM c M M2 := ⟨fun k a b e => (h2.1 k a b e).trans (h.1 k a b e), fun j a b e f g => (h2.2.1 j a b e f g).trans (h.2.1 j a b e f g), fun q hq => (h2.2.2.1 q hq).trans (h.2.2.1 q hq), fun j hj => (h2.2.2.2 j hj).trans (h.2.2.2 j hj)⟩
theorem c_paMd {X : Nat × (Nat → Int32)} {M : MI} {Ml : ML} {n c x s1 : Nat} {ps : List Nat} (hc : c < 40) (hP : ∀ p, p ∈ ps → n ≤ p ∧ p < c) (hlen : ps.length ≤ c) (hR : PRf M c ps) (v2 : Int32) (hx : v2 + M 54 21 = nI x) (hx2 : x < 1000) (h22 : M 54 22 = nI s1) (w3 : Value) (v4 : Int32) : ∀ m j, j + m = ps.length → (∀ i, i < j → ps.getD i 0 ≠ x) → pdn X m_M_readOn (68, [.ref 54, .int (nI c), .int v2, w3, .int v4, .int (nI j)], [], (sh0, M, Ml, mr0), 0, 0) = if x ∈ ps then some (some (.int 3), (sh0, pm_up M 54 17 (nI s1), Ml, mr0)) else pdn X m_M_readOn (68, [.ref 54, .int (nI c), .int v2, w3, .int v4, .int (nI ps.length)], [], (sh0, M, Ml, mr0), 0, 0) := by
  have p40 : pin (nI c) 40 := pin_nI hc (by decide)
  have cc : (nI c).toNatClampNeg = c := nI_clamp (by omega)
  intro m
  induction m with
  | zero =>
    intro j hj hn
    obtain rfl : j = ps.length := by omega
    rw [if_neg (fun q => by obtain ⟨i, hi, e⟩ := memn_getD.mp q; exact hn i hi e)]
  | succ m ih =>
    intro j hj hn
    have ix : 40 * nI c + nI j = nI (40 * c + j) := by rw [show (40 : Int32) = nI 40 from rfl, nI_mul', nI_add]
    have hb := hP (ps.getD j 0) (memn_getD.mpr ⟨j, by omega, rfl⟩)
    rw [w_M_readOn_68, if_pos p40, cc, hR.1, if_pos (by rw [nI_lt' (by omega) (by omega)]; omega), ix, if_pos (pin_nI (by omega) (by decide)), nI_clamp (by omega), hR.2 j (by omega), hx, nI_1]
    by_cases e : ps.getD j 0 = x
    · rw [if_pos (by rw [e]), d_M_fails, h22, Option.bind_some, pb_i, w_M_readOn_109, if_pos (memn_getD.mpr ⟨j, by omega, e⟩)]
    · rw [if_neg (fun z => e ((nI_eq (by omega) (by omega)).mp z)), ih (j + 1) (by omega) (fun i hi => by
        by_cases q : i = j
        · rw [q]; exact e
        · exact hn i (by omega))]
theorem c_paM {X : Nat × (Nat → Int32)} {Ml : ML} {t : Nat → Int32} {N n k : Nat} (hN : N ≤ 200) (hc : n + k < 40) : ∀ (f s : Nat) (M : MI) (ps : List Nat) (w4 w5 : Value), N ≤ s + f → s < N → RT t N M (nx t N s) → PLk ps n (n + k) → PRf M (n + k) ps → ∃ (M' : MI) (z : Nat), pdn X m_M_readOn (43, [.ref 54, .int (nI (n + k)), .int (nI n), .int 1, w4, w5], [], (sh0, M, Ml, mr0), 0, 0) = some (some (.int (nI z)), (sh0, M', Ml, mr0)) ∧ z ≤ 4 ∧ UPM (n + k) M M' ∧ match pa t N n k f s ps with
    | Sum.inl (c', pl) => z = c' ∧ 0 < z ∧ M' 54 17 = nI pl
    | Sum.inr (s', ps') => z = 0 ∧ RT t N M' s' ∧ rnT isp t N s' = s' ∧ s < s' ∧ s' ≤ N ∧ M' 54 17 = M 54 17 ∧ PLk ps' n (n + k) ∧ PRf M' (n + k) ps' := by
  have p40 : pin (nI (n + k)) 40 := pin_nI hc (by decide)
  have cc : (nI (n + k)).toNatClampNeg = n + k := nI_clamp (by omega)
  intro f
  induction f with
  | zero => intro s M ps w4 w5 hf hs; omega
  | succ f ih =>
    intro s M ps w4 w5 hf hs hR hP hC
    have hn := nx_le t (show s ≤ N by omega)
    have hgt := nx_gt hs (t := t)
    obtain ⟨M1, g1, g2, g3⟩ := c_readNum (X := X) (Ml := Ml) (F := 2) (a := 0) (b := 99) hN hn (by decide) (by decide) (by decide) hR
    have hs1 := rnT_le isp t hn
    have hs1g := rnT_ge isp t N (nx t N s)
    generalize e1 : rnT isp t N (nx t N s) = s1 at *
    have hn1 := nx_le t hs1
    rw [pa_eq t N n k f s ps e1 rfl rfl rfl]
    rw [w_M_readOn_43, if_neg (show ¬ (1 : Int32) = 0 by decide)]
    have U1 : UPM (n + k) M M1 := ⟨fun k a _ _ => g1 k a, fun j a b _ d e => g2 j a b d e, fun q _ => by rw [g1 72 (by decide)], fun j _ => by rw [g1 73 (by decide)]⟩
    have C1 : PRf M1 (n + k) ps := by unfold PRf at hC ⊢; rw [g1 72 (by decide), g1 73 (by decide)]; exact hC
    rcases g3 with ⟨a1, a3, a4⟩ | ⟨a1, a2, a3, a4⟩ | ⟨a1, a2, a3, a4, a5, a6, a7⟩
    · rw [show pD X m_M_readNumber [.ref 54, .int 0, .int 99, .int 2] (sh0, M, Ml, mr0) = _ from a3, Option.bind_some, pb_i, w_M_readOn_55, if_pos (by decide), if_neg a1]
      exact ⟨M1, 1, rfl, by omega, U1, rfl, by omega, a4⟩
    · have r : ¬ nx t N s1 - s1 ≤ 2 := fun z => a2 (by
        obtain ⟨hd, _⟩ := dv_2 a1 (show nx t N s1 - s1 ≤ 4 by omega)
        have hpw : 10 ^ (nx t N s1 - s1) ≤ 10 ^ 2 := Nat.pow_le_pow_right (by decide) z
        exact ⟨z, Nat.zero_le _, by omega⟩)
      rw [show pD X m_M_readNumber [.ref 54, .int 0, .int 99, .int 2] (sh0, M, Ml, mr0) = _ from a3, Option.bind_some, pb_i, w_M_readOn_55, if_pos (by decide), if_pos a1, if_neg r]
      exact ⟨M1, 2, rfl, by omega, U1, rfl, by omega, a4⟩
    · obtain ⟨b1, _, b3⟩ := a2
      have hlt1 := ty2_lt a1
      have hgt1 := nx_gt hlt1 (t := t)
      rw [show pD X m_M_readNumber [.ref 54, .int 0, .int 99, .int 2] (sh0, M, Ml, mr0) = _ from a3, Option.bind_some, pb_i, w_M_readOn_55, if_neg (by decide), if_pos a1, if_pos b1]
      generalize hdv : dv t s1 (nx t N s1 - s1) = d at *
      have hx : nI n + M1 54 21 = nI (n + d) := by rw [a6, nI_add]
      have hlen := PLk_len hP
      have hd := c_paMd (X := X) (M := M1) (Ml := Ml) (n := n) (c := n + k) (x := n + d) (s1 := s1) (ps := ps) hc hP.1 hlen C1 (nI n) hx (by omega) a7 (.int 1) 0 ps.length 0 (by omega) (fun i hi => absurd hi (Nat.not_lt_zero i))
      rw [show pdn X m_M_readOn (68, [.ref 54, .int (nI (n + k)), .int (nI n), .int 1, .int 0, .int 0], [], (sh0, M1, Ml, mr0), 0, 0) = _ from hd]
      by_cases hm : n + d ∈ ps
      · have hlk := (hP.1 _ hm).2
        rw [if_pos hm, if_pos (show d < k by omega), if_pos hm]
        exact ⟨_, 3, rfl, by omega, ⟨fun k a _ _ => (up_off a).trans (g1 k a), fun j a b _ e f => (up_kk a).trans (g2 j a b e f), fun q _ => by rw [up_off (by decide), g1 72 (by decide)], fun j _ => by rw [up_off (by decide), g1 73 (by decide)]⟩, rfl, by omega, by rw [up_ok]⟩
      · rw [if_neg hm, w_M_readOn_68, if_pos p40, cc, C1.1, if_neg (by rw [nI_lt' (by omega) (by omega)]; omega), hx]
        by_cases r2 : d < k
        · have P2 := PLk_app hP (x := n + d) (by omega) (by omega) hm
          have hlen2 := PLk_len P2
          rw [List.length_append] at hlen2
          have hl1 : ps.length < n + k := hlen2
          have ix : 40 * nI (n + k) + nI ps.length = nI (40 * (n + k) + ps.length) := by rw [show (40 : Int32) = nI 40 from rfl, nI_mul', nI_add]
          rw [if_pos (by rw [nI_lt' (by omega) (by omega)]; omega), if_pos p40, ix, if_pos (pin_nI (by omega) (by decide)), if_pos p40, if_pos p40, nI_clamp (by omega), nI_1, if_pos r2, if_neg hm]
          generalize hM2 : pm_up (pm_up M1 73 (40 * (n + k) + ps.length) (nI (n + d))) 72 (n + k) (nI (ps.length + 1)) = M2
          have f2 : ∀ j, j ≠ 72 → j ≠ 73 → M2 j = M1 j := fun j a b => by rw [← hM2, up_off a, up_off b]
          have U2 : UPM (n + k) M1 M2 := ⟨fun j _ a b => f2 j a b, fun j _ _ _ _ _ => by rw [f2 54 (by decide) (by decide)], fun j hj => by rw [← hM2, up_kk hj, up_off (by decide)], fun j hj => by rw [← hM2, up_off (by decide), up_kk (by omega)]⟩
          have C2 : PRf M2 (n + k) (ps ++ [n + d]) := by
            refine ⟨by rw [← hM2, up_ok, List.length_append]; rfl, fun j hj => ?_⟩
            rw [List.length_append] at hj
            have hj' : j < ps.length + 1 := hj
            rw [← hM2, up_off (by decide)]
            by_cases e : j = ps.length
            · subst e; rw [up_ok, gDn_end]
            · rw [up_kk (by omega), C1.2 j (by omega), gDn_app (by omega)]
          obtain ⟨M3, k1, ⟨k2, k3⟩, k4⟩ := c_here (X := X) (Ml := Ml) (t := t) (M := M2) hN hn1 ⟨by rw [f2 54 (by decide) (by decide)]; exact a5.1, by rw [f2 54 (by decide) (by decide)]; exact a5.2.1, fun j hj => by rw [f2 68 (by decide) (by decide)]; exact a5.2.2 j hj⟩
          have hs2 := rnT_le isp t hn1
          have hs2g := rnT_ge isp t N (nx t N s1)
          have hidem : rnT isp t N (rnT isp t N (nx t N s1)) = rnT isp t N (nx t N s1) := rnT_idem
          generalize rnT isp t N (nx t N s1) = s2 at *
          have U3 : UPM (n + k) M2 M3 := ⟨fun k a _ _ => k2 k a, fun j _ b _ _ _ => k3 j b, fun q _ => by rw [k2 72 (by decide)], fun j _ => by rw [k2 73 (by decide)]⟩
          have U03 := UPM_tr (UPM_tr U1 U2) U3
          have e17 : M3 54 17 = M 54 17 := by rw [k3 17 (by decide), f2 54 (by decide) (by decide)]; exact a4
          have C3 : PRf M3 (n + k) (ps ++ [n + d]) := by unfold PRf at C2 ⊢; rw [k2 72 (by decide), k2 73 (by decide)]; exact C2
          have e44 : hrv t N s2 = 44 ↔ s2 < N ∧ t s2 = 44 := by
            unfold hrv
            by_cases z : s2 < N
            · rw [if_pos z]; exact ⟨fun y => ⟨z, y⟩, fun y => y.2⟩
            · rw [if_neg z]; exact ⟨fun y => absurd y (by decide), fun y => absurd y.1 z⟩
          rw [k1, Option.bind_some, pb_i, w_M_readOn_172]
          by_cases y : s2 < N ∧ t s2 = 44
          · have ty3 : ty t N s2 = 3 := ty_3.mpr ⟨y.1, by rw [y.2]; decide, by rw [y.2]; decide⟩
            rw [if_pos (e44.mpr y), w_M_readOn_182, if_neg (show ¬ (1 : Int32) = 0 by decide), w_M_readOn_197, k4.2.1, nI_1, if_pos y]
            have U4 : UPM (n + k) M3 (pm_up M3 54 18 (nI (s2 + 1))) := ⟨fun k a _ _ => up_off a, fun j _ b _ _ _ => up_kk b, fun q _ => by rw [up_off (by decide)], fun j _ => by rw [up_off (by decide)]⟩
            obtain ⟨M4, z', m1, m2, m3, m4⟩ := ih s2 (pm_up M3 54 18 (nI (s2 + 1))) (ps ++ [n + d]) (.int (nI 0)) (.int (nI ps.length)) (by omega) y.1 (by rw [nx_s ty3]; exact ⟨by rw [up_kk (by decide)]; exact k4.1, by rw [up_ok], fun j hj => by rw [up_off (by decide)]; exact k4.2.2 j hj⟩) P2 (by unfold PRf at C3 ⊢; rw [up_off (by decide), up_off (by decide)]; exact C3)
            refine ⟨M4, z', m1, m2, UPM_tr (UPM_tr U03 U4) m3, ?_⟩
            cases hq : pa t N n k f s2 (ps ++ [n + d]) with
            | inl x => rw [hq] at m4; exact m4
            | inr x =>
              rw [hq] at m4
              obtain ⟨n1, n2, n3, n4, n5, n6, n7, n8⟩ := m4
              exact ⟨n1, n2, n3, by omega, n5, (n6.trans (up_kk (by decide))).trans e17, n7, n8⟩
          · rw [if_neg (fun z => y (e44.mp z)), w_M_readOn_182, if_pos (rfl : (0 : Int32) = 0), w_M_readOn_197, w_M_readOn_43, if_pos (rfl : (0 : Int32) = 0), if_neg y]
            have e0 : M3 54 18 + 0 = nI s2 := by rw [k4.2.1, show (0 : Int32) = nI 0 from rfl, nI_add]; rfl
            rw [e0]
            exact ⟨_, 0, rfl, by omega, UPM_tr U03 ⟨fun k a _ _ => up_off a, fun j _ b _ _ _ => up_kk b, fun q _ => by rw [up_off (by decide)], fun j _ => by rw [up_off (by decide)]⟩, rfl, ⟨by rw [up_kk (by decide)]; exact k4.1, by rw [up_ok], fun j hj => by rw [up_off (by decide)]; exact k4.2.2 j hj⟩, hidem, by omega, hs2, by rw [up_kk (by decide)]; exact e17, P2, by unfold PRf at C3 ⊢; rw [up_off (by decide), up_off (by decide)]; exact C3⟩
        · rw [if_neg (by rw [nI_lt' (by omega) (by omega)]; omega), d_M_fails, a7, Option.bind_some, pb_i, w_M_readOn_135, if_neg r2]
          exact ⟨_, 4, rfl, by omega, ⟨fun k a _ _ => (up_off a).trans (g1 k a), fun j a b _ e f => (up_kk a).trans (g2 j a b e f), fun q _ => by rw [up_off (by decide), g1 72 (by decide)], fun j _ => by rw [up_off (by decide), g1 73 (by decide)]⟩, rfl, by omega, by rw [up_ok]⟩
