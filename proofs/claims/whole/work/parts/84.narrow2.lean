/-! the operation narrow -/
theorem IC_rows {c cM : Int32} {f16 f17 f74 f75 f24 f69 f25 f70 f26 f71 f27 f28 f30 f31 f32 f72 f73 : Nat → Int32} {a29 : Nat → Int64} {c11 : Int32} {n : Nat} (hn : n ≤ 40) (en : c = nI n) {fs mn fo ps pe : Nat → Nat} {V : Nat → List Int32} (eM : cM = nI n) (h17 : ∀ i, i < 8 → f17 i = 0 ∨ nI i < c11) (hF : ∀ f, f < 8 → f17 f = nI (mn f) ∧ f75 f = nI (mn f) ∧ fs f + mn f ≤ n ∧ (0 < mn f → f16 f = nI (fs f) ∧ f74 f = nI (fs f)) ∧ ∀ q, fs f ≤ q → q < fs f + mn f → fo q = f) (hQ : ∀ q, q < n → (fo q < 8 ∧ f24 q = nI (fo q) ∧ f69 q = nI (fo q) ∧ fs (fo q) ≤ q ∧ q < fs (fo q) + mn (fo q)) ∧ (f25 q = f70 q ∧ pin (f25 q) 1073741824 ∧ f26 q = f71 q ∧ pin (f26 q) 1073741824) ∧ IPar fs fo ps pe f30 f31 f32 f72 f73 q ∧ IVer V ps pe f25 f26 f27 f28 f32 q ∧ IAnc ps pe f32 a29 q) {g26 g71 g27 g28 : Nat → Int32} {V2 : Nat → List Int32} (h1 : ∀ q, q < n → g26 q = g71 q ∧ pin (g26 q) 1073741824) (h2 : ∀ q, q < n → rowA g27 g28 q (V2 q)) (h3 : ∀ q, q < n → bl (fun q => f25 q ||| g26 q) (fun q => pe q - ps q) (fun q k => (f32 (ps q + k)).toNatClampNeg) V2 q = some (V2 q)) : IC c cM f16 f17 f74 f75 f24 f69 f25 f70 g26 g71 g27 g28 f30 f31 f32 f72 f73 a29 c11 := by
  refine ⟨n, hn, en, eM, h17, fs, mn, fo, ps, pe, V2, hF, fun q hq => ?_⟩
  obtain ⟨a1, ⟨b1, b2, _, _⟩, a3, _, a5⟩ := hQ q hq
  exact ⟨a1, ⟨b1, b2, h1 q hq⟩, a3, ⟨h2 q hq, h3 q hq⟩, a5⟩
theorem up_same {M : MI} {k c : Nat} {x : Int32} (h : M k c = x) : pm_up M k c x k = M k := by
  funext q
  by_cases e : q = c
  · subst e; rw [up_ok, h]
  · rw [up_kk e]
theorem ls_narrow {X : Nat × (Nat → Int32)} {Mi : MI} {Ml : ML} (h : Inv Mi Ml) (a b : Int32) : LStp Inv X m_CT_narrow m_M_narrow [.int a, .int b] Mi Ml := by
  have hC := h.2.2.2.2.2.2.2.2.2
  obtain ⟨n, h40, e1, e2, h17, fs, mn, fo, ps, pe, V, hF, hQ⟩ := hC
  obtain ⟨nf, nf8, ef, _, hFi, _⟩ := h.2.2.2.1
  have w2 : n < 2 ^ 31 := by omega
  have w1 : (Mi 23 9).toInt = (n : Int) := by rw [e1, nI_toInt w2]
  by_cases h1 : pin a n
  · by_cases h2 : pin b 1073741824
    · obtain ⟨c, hc, rfl⟩ := pin_ex w2 h1
      obtain ⟨⟨q1, q2, q3, q4, q5⟩, ⟨o1, o2, o3, o4⟩, _, _, _⟩ := hQ c hc
      obtain ⟨m1, m2, m3, m4, m5⟩ := hF (fo c) q1
      have hpos : 0 < mn (fo c) := by omega
      obtain ⟨m6, m7⟩ := m4 hpos
      have hfn : fo c < nf := by
        obtain ⟨f', hf', g, _⟩ := claim_fil h e1 h40 ef nf8 hc
        have : f' = fo c := (nI_eq (by omega) (by omega)).mp (g.symm.trans q2)
        omega
      obtain ⟨i1, i2, i3, _⟩ := hFi (fo c) hfn
      have p40 : pin (nI c) 40 := pin_nI (by omega) (by decide)
      have cc : (nI c).toNatClampNeg = c := nI_clamp (by omega)
      have p8 : pin (nI (fo c)) 8 := pin_nI q1 (by decide)
      have cf : (nI (fo c)).toNatClampNeg = fo c := nI_clamp (by omega)
      have sC0 : pD X m_CT_narrow [.ref 1, .int (nI c), .int b] (sh0, Mi, Ml, mr0) = if (b &&& (Mi 13 (fo c) ^^^ (-1))) = 0 then (pD X m_Claims_addFeatures [.ref 23, .int (nI c), .int b, .int (nI (fs (fo c) + mn (fo c)))] (sh0, Mi, Ml, mr0)).bind (fun r => pdn X m_CT_narrow (pm_back (87, [.ref 1, .int (nI c), .int b, .int (nI (fo c)), .int (nI (fs (fo c) + mn (fo c)))], [], (sh0, Mi, Ml, mr0), 0, 0) r)) else some (some (.int (-1003)), (sh0, Mi, Ml, mr0)) := by
        rw [d_CT_narrow, c_within (nI c) (Mi 23 9) (n := n) w1, Option.bind_some, pb_i, w_CT_narrow_11, bI_t h1, if_neg (by decide), c_areF, Option.bind_some, pb_i, w_CT_narrow_18, bI_t h2, if_neg (by decide), if_pos p40, cc, q2, if_pos p8, cf, if_pos p8, if_pos p8, m6, m1, nI_add]
      have sM0 : ∀ M : MI, (∀ k, k ≠ 26 → k ≠ 27 → k ≠ 28 → M k = Mi k) → pD X m_M_narrow [.ref 54, .int (nI c), .int b] (sh0, M, Ml, mr0) = if (b &&& (Mi 13 (fo c) ^^^ (-1))) = 0 then (pD X m_M_findAll [.ref 54, .int (nI (fo c))] (sh0, (pm_up M 71 c (Mi 71 c ||| b)), Ml, mr0)).bind (fun r => pdn X m_M_narrow (pm_back (72, [.ref 54, .int (nI c), .int b, .int (Mi 71 c)], [], (sh0, (pm_up M 71 c (Mi 71 c ||| b)), Ml, mr0), 0, 0) r)) else some (some (.int (-1003)), (sh0, M, Ml, mr0)) := by
        intro M hM
        have F := fun k (q : k ≠ 26 ∧ k ≠ 27 ∧ k ≠ 28) => hM k q.1 q.2.1 q.2.2
        rw [d_M_narrow, c_isClaim (nI c) w2 (by rw [F 54 (by decide)]; exact e2), Option.bind_some, pb_i, w_M_narrow_5, bI_t h1, if_neg (by decide), c_isSet, Option.bind_some, pb_i, w_M_narrow_12, bI_t h2, if_neg (by decide), if_pos p40, cc, F 69 (by decide), q3, if_pos p8, cf, F 60 (by decide), ← i1, c_withKinds (by rw [F 55 (by decide)]; exact h.1.1) (by rw [F 55 (by decide)]; exact h.1.2.1) _ i2, Option.bind_some, pb_i, w_M_narrow_34, c_has, Option.bind_some, pb_i, w_M_narrow_38, ← i3, if_pos p40, if_pos p40, if_pos p40, if_pos p40, cc, F 71 (by decide), F 69 (by decide), q3]
        by_cases z : (b &&& (Mi 13 (fo c) ^^^ (-1))) = 0
        · rw [if_neg (by rw [bI_t z]; decide), if_pos z]
        · rw [if_pos (bI_f z), if_neg z]
      by_cases z : (b &&& (Mi 13 (fo c) ^^^ (-1))) = 0
      · rw [if_pos z] at sC0
        generalize hs : fs (fo c) = s at *
        generalize hm : mn (fo c) = m at *
        have hnp : ∀ q, s ≤ q → q < s + m → fo q = fo c := m5
        have hpar : ∀ q, s ≤ q → q < s + m → Mi 72 q = nI ((fun q => pe q - ps q) q) ∧ (fun q => pe q - ps q) q ≤ 40 ∧ ∀ k, k < (fun q => pe q - ps q) q → s ≤ (fun q k => (Mi 32 (ps q + k)).toNatClampNeg) q k ∧ (fun q k => (Mi 32 (ps q + k)).toNatClampNeg) q k < q ∧ Mi 73 (40 * q + k) = nI ((fun q k => (Mi 32 (ps q + k)).toNatClampNeg) q k) := by
          intro q a1 a2
          obtain ⟨_, _, ⟨_, _, p3, p4, _, _, p7, p8'⟩, _, _⟩ := hQ q (by omega)
          refine ⟨p7, by show pe q - ps q ≤ 40; omega, fun k hk => ?_⟩
          obtain ⟨p, b1, b2, b3, b4⟩ := p8' k hk
          show s ≤ (Mi 32 (ps q + k)).toNatClampNeg ∧ (Mi 32 (ps q + k)).toNatClampNeg < q ∧ Mi 73 (40 * q + k) = nI (Mi 32 (ps q + k)).toNatClampNeg
          rw [b3, nI_clamp (by omega)]
          rw [m5 q a1 a2, hs] at b1
          exact ⟨b1, b2, b4⟩
        have hpp : ∀ q, s ≤ q → q < s + m → ∀ k, k < (fun q => pe q - ps q) q → s ≤ (fun q k => (Mi 32 (ps q + k)).toNatClampNeg) q k ∧ (fun q k => (Mi 32 (ps q + k)).toNatClampNeg) q k < q := fun q a1 a2 k hk => ⟨((hpar q a1 a2).2.2 k hk).1, ((hpar q a1 a2).2.2 k hk).2.1⟩
        have hcls : ∀ q, q < n → Mi 30 q = nI (ps q) ∧ Mi 31 q = nI (ps q + (pe q - ps q)) ∧ ps q + (pe q - ps q) ≤ 800 := by
          intro q hq
          obtain ⟨_, _, ⟨p1, p2, p3, p4, p5, p6, _, _⟩, _, _⟩ := hQ q hq
          have := pe_800 (ps := ps) (pe := pe) h40 (fun q hq => by obtain ⟨_, _, ⟨_, _, _, r4, r5, r6, _, _⟩, _, _⟩ := hQ q hq; exact ⟨r4, r5, r6⟩) hq
          refine ⟨p1, ?_, by omega⟩
          rw [show ps q + (pe q - ps q) = pe q by omega]; exact p2
        have hV0 : ∀ q, q < n → bl (fun q => Mi 25 q ||| Mi 26 q) (fun q => pe q - ps q) (fun q k => (Mi 32 (ps q + k)).toNatClampNeg) V q = some (V q) := fun q hq => (hQ q hq).2.2.2.1.2
        have hrow : ∀ q, q < n → rowA (Mi 27) (Mi 28) q (V q) := fun q hq => (hQ q hq).2.2.2.1.1
        -- the sum of own and added features, with b added to claim c
        generalize hmo : (fun q => Mi 25 q ||| (if q = c then Mi 26 c ||| b else Mi 26 q)) = mo
        have mo_eq : ∀ q, mo q = Mi 25 q ||| (if q = c then Mi 26 c ||| b else Mi 26 q) := fun q => by rw [← hmo]
        have mo_ne : ∀ q, q ≠ c → mo q = Mi 25 q ||| Mi 26 q := fun q hq => by rw [mo_eq, if_neg hq]
        have href : ∀ M : MI, (∀ k, k ≠ 26 → k ≠ 27 → k ≠ 28 → M k = Mi k) → ∀ q, s ≤ q → q < s + m → mo q = (pm_up M 71 c (Mi 71 c ||| b)) 70 q ||| (pm_up M 71 c (Mi 71 c ||| b)) 71 q ∧ (pm_up M 71 c (Mi 71 c ||| b)) 72 q = nI ((fun q => pe q - ps q) q) ∧ (fun q => pe q - ps q) q ≤ 40 ∧ ∀ k, k < (fun q => pe q - ps q) q → s ≤ (fun q k => (Mi 32 (ps q + k)).toNatClampNeg) q k ∧ (fun q k => (Mi 32 (ps q + k)).toNatClampNeg) q k < q ∧ (pm_up M 71 c (Mi 71 c ||| b)) 73 (40 * q + k) = nI ((fun q k => (Mi 32 (ps q + k)).toNatClampNeg) q k) := by
          intro M hM q a1 a2
          rw [up_off (show (70 : Nat) ≠ 71 by decide), up_off (show (72 : Nat) ≠ 71 by decide), up_off (show (73 : Nat) ≠ 71 by decide), hM 70 (by decide) (by decide) (by decide), hM 72 (by decide) (by decide) (by decide), hM 73 (by decide) (by decide) (by decide)]
          refine ⟨?_, hpar q a1 a2⟩
          obtain ⟨_, ⟨r1, _, r3, _⟩, _⟩ := hQ q (by omega)
          rw [mo_eq, r1]
          by_cases e : q = c
          · subst e; rw [if_pos rfl, up_ok, o3]
          · rw [if_neg e, up_kk e, hM 71 (by decide) (by decide) (by decide), r3]
        obtain ⟨_, W, _, _, _, hW⟩ := c_findW (X := X) (Ml := Ml) (mo := mo) (np := fun q => pe q - ps q) (pr := fun q k => (Mi 32 (ps q + k)).toNatClampNeg) q1 (show s + m ≤ 40 by omega) (pm_up Mi 71 c (Mi 71 c ||| b)) (by rw [up_off (show (74 : Nat) ≠ 71 by decide)]; exact m7) (by rw [up_off (show (75 : Nat) ≠ 71 by decide)]; exact m2) (href Mi (fun _ _ _ _ => rfl))
        have hlow : ∀ q, s ≤ q → q < c → W q = V q ∧ bl mo (fun q => pe q - ps q) (fun q k => (Mi 32 (ps q + k)).toNatClampNeg) W q = bl mo (fun q => pe q - ps q) (fun q k => (Mi 32 (ps q + k)).toNatClampNeg) V q := by
          have hb : ∀ q, s ≤ q → q < c → bl mo (fun q => pe q - ps q) (fun q k => (Mi 32 (ps q + k)).toNatClampNeg) V q = some (V q) := fun q a1 a2 => by
            have := hV0 q (by omega)
            unfold bl at this ⊢
            rw [mo_ne q (by omega)]; exact this
          exact bl_uniq (s := s) (e := c) (W := V) (W' := W) (fun q a1 a2 => hpp q a1 (by omega)) (fun q a1 a2 l hl => by rw [hb q a1 a2] at hl; exact Option.some.inj hl) (fun q a1 a2 => hW q a1 (by omega)) c (Nat.le_refl c) (fun q a1 a2 => by rw [hb q a1 a2]; rfl)
        have hlowok : allF (fun q => (bl mo (fun q => pe q - ps q) (fun q k => (Mi 32 (ps q + k)).toNatClampNeg) W q).isSome) (c - s) s = true := by
          rw [allF_iff]
          intro q a1 a2
          rw [(hlow q a1 (by omega)).2]
          have := hV0 q (by omega)
          unfold bl at this ⊢
          rw [mo_ne q (by omega), this]; rfl
        have hallF : allF (fun q => (bl mo (fun q => pe q - ps q) (fun q k => (Mi 32 (ps q + k)).toNatClampNeg) W q).isSome) m s = allF (fun q => (bl mo (fun q => pe q - ps q) (fun q k => (Mi 32 (ps q + k)).toNatClampNeg) W q).isSome) (s + m - c) c := by
          have := allF_add (p := fun q => (bl mo (fun q => pe q - ps q) (fun q k => (Mi 32 (ps q + k)).toNatClampNeg) W q).isSome) (c - s) (s + m - c) s
          rw [show c - s + (s + m - c) = m by omega, show s + (c - s) = c by omega, hlowok, Bool.true_and] at this
          exact this
        obtain ⟨M1, u1, u2, u3, u4⟩ := c_bw_go (X := X) (Ml := Ml) (s := s) (c := c) (e := s + m) (mo := mo) (np := fun q => pe q - ps q) (ps := ps) (pr := fun q k => (Mi 32 (ps q + k)).toNatClampNeg) (W := W) (by omega) (by omega) (nI c) (s + m - c) c (pm_up Mi 26 c (Mi 26 c ||| b)) (by omega) (Nat.le_refl c) (fun q a1 a2 => by
          rw [up_off (show (25 : Nat) ≠ 26 by decide), up_off (show (30 : Nat) ≠ 26 by decide), up_off (show (31 : Nat) ≠ 26 by decide), up_off (show (32 : Nat) ≠ 26 by decide)]
          obtain ⟨r1, r2, r3⟩ := hcls q (by omega)
          refine ⟨?_, r1, r2, r3, fun k hk => ?_⟩
          · rw [mo_eq]
            by_cases e : q = c
            · subst e; rw [if_pos rfl, up_ok]
            · rw [if_neg e, up_kk e]
          · obtain ⟨x1, x2⟩ := hpp q (by omega) a2 k hk
            obtain ⟨_, _, ⟨_, _, _, _, _, _, _, p8'⟩, _, _⟩ := hQ q (by omega)
            obtain ⟨p, _, b2, b3, _⟩ := p8' k hk
            refine ⟨x1, x2, ?_⟩
            show Mi 32 (ps q + k) = nI (Mi 32 (ps q + k)).toNatClampNeg
            rw [b3, nI_clamp (by omega)]) (fun q a1 a2 => hW q (by omega) a2) (fun q a1 a2 => by
          rw [up_off (show (27 : Nat) ≠ 26 by decide), up_off (show (28 : Nat) ≠ 26 by decide), (hlow q a1 a2).1]
          exact hrow q (by omega))
        have aC : pD X m_Claims_addFeatures [.ref 23, .int (nI c), .int b, .int (nI (s + m))] (sh0, Mi, Ml, mr0) = pdn X m_Claims_addFeatures (24, [.ref 23, .int (nI c), .int b, .int (nI (s + m)), .int (Mi 26 c)], [.int (bI (allF (fun q => (bl mo (fun q => pe q - ps q) (fun q k => (Mi 32 (ps q + k)).toNatClampNeg) W q).isSome) (s + m - c) c = true))], (sh0, M1, Ml, mr0), 0, 0) := by
          rw [d_Claims_addFeatures, if_pos p40, if_pos p40, cc, d_Claims_buildAll, u1, Option.bind_some, pb_i]
        cases hB : allF (fun q => (bl mo (fun q => pe q - ps q) (fun q k => (Mi 32 (ps q + k)).toNatClampNeg) W q).isSome) (s + m - c) c with
        | true =>
          rw [hB] at aC u4 hallF
          have hx : pin (Mi 26 c ||| b) 1073741824 := or_set o4 h2
          have rC : pD X m_CT_narrow [.ref 1, .int (nI c), .int b] (sh0, Mi, Ml, mr0) = some (some (.int (nI (fb_ct (bt (Mi 26 c ||| b)) 30))), (sh0, M1, Ml, mr0)) := by
            rw [sC0, aC, w_Claims_addFeatures_24, if_neg (by rw [bI_t rfl]; decide), Option.bind_some, pb_i, w_CT_narrow_87, if_neg (show ¬ (1 : Int32) = 0 by decide), if_pos p40, cc, u2 26 (by decide) (by decide), up_ok, c_bitCountS _ hx, Option.bind_some, pb_i, w_CT_narrow_102]
          have fM1 : ∀ k, k ≠ 26 → k ≠ 27 → k ≠ 28 → M1 k = Mi k := fun k a1 a2 a3 => (u2 k a2 a3).trans (up_off a1)
          obtain ⟨M2, W2, t1, t2, t3, t4⟩ := c_findW (X := X) (Ml := Ml) (mo := mo) (np := fun q => pe q - ps q) (pr := fun q k => (Mi 32 (ps q + k)).toNatClampNeg) q1 (show s + m ≤ 40 by omega) (pm_up M1 71 c (Mi 71 c ||| b)) (by rw [up_off (show (74 : Nat) ≠ 71 by decide), fM1 74 (by decide) (by decide) (by decide)]; exact m7) (by rw [up_off (show (75 : Nat) ≠ 71 by decide), fM1 75 (by decide) (by decide) (by decide)]; exact m2) (href M1 fM1)
          rw [bl_all hpp hW t4, hallF] at t1
          have e71 : M2 71 c = Mi 26 c ||| b := by rw [t2 71 (by decide) (by decide), up_ok, o3]
          have rM : pD X m_M_narrow [.ref 54, .int (nI c), .int b] (sh0, M1, Ml, mr0) = some (some (.int (nI (fb_ct (bt (Mi 26 c ||| b)) 30))), (sh0, M2, Ml, mr0)) := by
            rw [sM0 M1 fM1, if_pos z, t1, Option.bind_some, pb_i, w_M_narrow_72, if_neg (by rw [bI_t rfl]; decide), if_pos p40, cc, e71, c_bits, Option.bind_some, pb_i, w_M_narrow_95]
          refine LS_mk rC rM ?_
          have F2 : ∀ k, (k ≠ 76 ∧ k ≠ 77 ∧ k ≠ 78 ∧ k ≠ 83 ∧ k ≠ 45 ∧ k ≠ 26 ∧ k ≠ 71 ∧ k ≠ 27 ∧ k ≠ 28) → M2 k = Mi k := fun k g => ((t2 k g.1 g.2.1).trans (up_off g.2.2.2.2.2.2.1)).trans (fM1 k g.2.2.2.2.2.1 g.2.2.2.2.2.2.2.1 g.2.2.2.2.2.2.2.2)
          have e26 : M2 26 = pm_up Mi 26 c (Mi 26 c ||| b) 26 := by rw [t2 26 (by decide) (by decide), up_off (show (26 : Nat) ≠ 71 by decide), u2 26 (by decide) (by decide)]
          have e71f : M2 71 = pm_up M1 71 c (Mi 71 c ||| b) 71 := t2 71 (by decide) (by decide)
          have e27 : M2 27 = M1 27 := by rw [t2 27 (by decide) (by decide), up_off (show (27 : Nat) ≠ 71 by decide)]
          have e28 : M2 28 = M1 28 := by rw [t2 28 (by decide) (by decide), up_off (show (28 : Nat) ≠ 71 by decide)]
          refine Inv_ic h F2 (IC_rows (V := V) h40 e1 e2 h17 hF hQ (V2 := fun q => if s ≤ q ∧ q < s + m then W q else V q) (fun q hq => ?_) (fun q hq => ?_) (fun q hq => ?_))
          · obtain ⟨_, ⟨_, _, r3, r4⟩, _⟩ := hQ q hq
            rw [e26, e71f]
            by_cases e : q = c
            · subst e; rw [up_ok, up_ok, o3]; exact ⟨rfl, by rw [← o3]; exact hx⟩
            · rw [up_kk e, up_kk e, fM1 71 (by decide) (by decide) (by decide)]; exact ⟨r3, r4⟩
          · rw [e27, e28]
            by_cases g : s ≤ q ∧ q < s + m
            · rw [if_pos g]; exact u4 rfl q g.1 g.2
            · rw [if_neg g]
              exact u3 q _ (by omega) (by rw [up_off (show (27 : Nat) ≠ 26 by decide), up_off (show (28 : Nat) ≠ 26 by decide)]; exact hrow q hq)
          · rw [e26]
            by_cases g : s ≤ q ∧ q < s + m
            · have hok := (allF_iff.mp hallF) q g.1 g.2
              have eb : bl (fun q => Mi 25 q ||| pm_up Mi 26 c (Mi 26 c ||| b) 26 q) (fun q => pe q - ps q) (fun q k => (Mi 32 (ps q + k)).toNatClampNeg) (fun q => if s ≤ q ∧ q < s + m then W q else V q) q = bl mo (fun q => pe q - ps q) (fun q k => (Mi 32 (ps q + k)).toNatClampNeg) W q := by
                refine (bl_cong (W' := W) (fun k hk => ?_)).trans ?_
                · obtain ⟨x1, x2⟩ := hpp q g.1 g.2 k hk
                  exact if_pos ⟨x1, Nat.lt_trans x2 g.2⟩
                · unfold bl
                  congr 1
                  show Mi 25 q ||| pm_up Mi 26 c (Mi 26 c ||| b) 26 q = mo q
                  rw [mo_eq]
                  by_cases e : q = c
                  · rw [if_pos e, e, up_ok]
                  · rw [if_neg e, up_kk e]
              show _ = some (if s ≤ q ∧ q < s + m then W q else V q)
              rw [eb, if_pos g]
              cases hb : bl mo (fun q => pe q - ps q) (fun q k => (Mi 32 (ps q + k)).toNatClampNeg) W q with
              | none => rw [hb] at hok; exact absurd hok (by decide)
              | some l => rw [hW q g.1 g.2 l hb]
            · have hqc : q ≠ c := fun e => g (by omega)
              show _ = some (if s ≤ q ∧ q < s + m then W q else V q)
              rw [if_neg g, ← hV0 q hq]
              refine (bl_cong (W' := V) (fun k hk => ?_)).trans ?_
              · obtain ⟨⟨y1, _, _, y4, y5⟩, _, ⟨_, _, _, _, _, _, _, p8'⟩, _, _⟩ := hQ q hq
                obtain ⟨p, b1, b2, b3, _⟩ := p8' k hk
                show (if s ≤ (Mi 32 (ps q + k)).toNatClampNeg ∧ (Mi 32 (ps q + k)).toNatClampNeg < s + m then W (Mi 32 (ps q + k)).toNatClampNeg else V (Mi 32 (ps q + k)).toNatClampNeg) = V (Mi 32 (ps q + k)).toNatClampNeg
                rw [b3, nI_clamp (by omega)]
                refine if_neg (fun t => ?_)
                have f1 := m5 p t.1 t.2
                obtain ⟨_, _, _, _, k5⟩ := hF (fo q) y1
                have f2 := k5 p b1 (by omega)
                have : fo q = fo c := f2.symm.trans f1
                rw [this, hs] at y4
                rw [this, hs, hm] at y5
                exact g ⟨y4, y5⟩
              · unfold bl
                show bldv (Mi 25 q ||| pm_up Mi 26 c (Mi 26 c ||| b) 26 q) _ = _
                rw [up_kk hqc]
        | false =>
          rw [hB] at aC hallF
          have hVe : ∀ q, c ≤ q → q < s + m → ∀ l, bl (fun q => Mi 25 q ||| Mi 26 q) (fun q => pe q - ps q) (fun q k => (Mi 32 (ps q + k)).toNatClampNeg) V q = some l → V q = l := fun q a1 a2 l hl => by rw [hV0 q (by omega)] at hl; exact Option.some.inj hl
          have fM1 : ∀ k, k ≠ 26 → k ≠ 27 → k ≠ 28 → M1 k = Mi k := fun k a1 a2 a3 => (u2 k a2 a3).trans (up_off a1)
          have e26b : pm_up M1 26 c (Mi 26 c) 26 = Mi 26 := by
            funext q
            by_cases e : q = c
            · subst e; rw [up_ok]
            · rw [up_kk e, u2 26 (by decide) (by decide), up_kk e]
          obtain ⟨M3, x1, x2, x3, x4⟩ := c_bw_go (X := X) (Ml := Ml) (s := s) (c := c) (e := s + m) (mo := fun q => Mi 25 q ||| Mi 26 q) (np := fun q => pe q - ps q) (ps := ps) (pr := fun q k => (Mi 32 (ps q + k)).toNatClampNeg) (W := V) (by omega) (by omega) (nI c) (s + m - c) c (pm_up M1 26 c (Mi 26 c)) (by omega) (Nat.le_refl c) (fun q a1 a2 => by
            rw [up_off (show (25 : Nat) ≠ 26 by decide), up_off (show (30 : Nat) ≠ 26 by decide), up_off (show (31 : Nat) ≠ 26 by decide), up_off (show (32 : Nat) ≠ 26 by decide), fM1 25 (by decide) (by decide) (by decide), fM1 30 (by decide) (by decide) (by decide), fM1 31 (by decide) (by decide) (by decide), fM1 32 (by decide) (by decide) (by decide), e26b]
            obtain ⟨r1, r2, r3⟩ := hcls q (by omega)
            refine ⟨rfl, r1, r2, r3, fun k hk => ?_⟩
            obtain ⟨x1, x2⟩ := hpp q (by omega) a2 k hk
            obtain ⟨_, _, ⟨_, _, _, _, _, _, _, p8'⟩, _, _⟩ := hQ q (by omega)
            obtain ⟨p, _, b2, b3, _⟩ := p8' k hk
            refine ⟨x1, x2, ?_⟩
            show Mi 32 (ps q + k) = nI (Mi 32 (ps q + k)).toNatClampNeg
            rw [b3, nI_clamp (by omega)]) hVe (fun q a1 a2 => by
            rw [up_off (show (27 : Nat) ≠ 26 by decide), up_off (show (28 : Nat) ≠ 26 by decide)]
            exact u3 q _ (Or.inl a2) (by rw [up_off (show (27 : Nat) ≠ 26 by decide), up_off (show (28 : Nat) ≠ 26 by decide)]; exact hrow q (by omega)))
          have hok3 : allF (fun q => (bl (fun q => Mi 25 q ||| Mi 26 q) (fun q => pe q - ps q) (fun q k => (Mi 32 (ps q + k)).toNatClampNeg) V q).isSome) (s + m - c) c = true := by
            rw [allF_iff]
            intro q a1 a2
            rw [hV0 q (by omega)]; rfl
          rw [hok3] at x1 x4
          have rC : pD X m_CT_narrow [.ref 1, .int (nI c), .int b] (sh0, Mi, Ml, mr0) = some (some (.int (-1004)), (sh0, M3, Ml, mr0)) := by
            rw [sC0, aC, w_Claims_addFeatures_24, if_pos (bI_f (by decide)), if_pos p40, cc, d_Claims_buildAll, x1, Option.bind_some, pb_i, w_Claims_addFeatures_43, Option.bind_some, pb_i, w_CT_narrow_87, if_pos (rfl : (0 : Int32) = 0)]
          have fM3 : ∀ k, k ≠ 26 → k ≠ 27 → k ≠ 28 → M3 k = Mi k := fun k a1 a2 a3 => ((x2 k a2 a3).trans (up_off a1)).trans (fM1 k a1 a2 a3)
          have e26 : M3 26 = Mi 26 := (x2 26 (by decide) (by decide)).trans e26b
          obtain ⟨M4, W4, t1, t2, t3, t4⟩ := c_findW (X := X) (Ml := Ml) (mo := mo) (np := fun q => pe q - ps q) (pr := fun q k => (Mi 32 (ps q + k)).toNatClampNeg) q1 (show s + m ≤ 40 by omega) (pm_up M3 71 c (Mi 71 c ||| b)) (by rw [up_off (show (74 : Nat) ≠ 71 by decide), fM3 74 (by decide) (by decide) (by decide)]; exact m7) (by rw [up_off (show (75 : Nat) ≠ 71 by decide), fM3 75 (by decide) (by decide) (by decide)]; exact m2) (href M3 fM3)
          rw [bl_all hpp hW t4, hallF] at t1
          have rM : pD X m_M_narrow [.ref 54, .int (nI c), .int b] (sh0, M3, Ml, mr0) = some (some (.int (-1004)), (sh0, pm_up M4 71 c (Mi 71 c), Ml, mr0)) := by
            rw [sM0 M3 fM3, if_pos z, t1, Option.bind_some, pb_i, w_M_narrow_72, if_pos (bI_f (by decide)), if_pos p40, cc]
          refine LS_mk rC rM ?_
          have F4 : ∀ k, (k ≠ 76 ∧ k ≠ 77 ∧ k ≠ 78 ∧ k ≠ 83 ∧ k ≠ 45 ∧ k ≠ 26 ∧ k ≠ 71 ∧ k ≠ 27 ∧ k ≠ 28) → pm_up M4 71 c (Mi 71 c) k = Mi k := fun k g => ((up_off g.2.2.2.2.2.2.1).trans ((t2 k g.1 g.2.1).trans (up_off g.2.2.2.2.2.2.1))).trans (fM3 k g.2.2.2.2.2.1 g.2.2.2.2.2.2.2.1 g.2.2.2.2.2.2.2.2)
          have y26 : pm_up M4 71 c (Mi 71 c) 26 = Mi 26 := by rw [up_off (show (26 : Nat) ≠ 71 by decide), t2 26 (by decide) (by decide), up_off (show (26 : Nat) ≠ 71 by decide)]; exact e26
          have y71 : pm_up M4 71 c (Mi 71 c) 71 = Mi 71 := by
            funext q
            by_cases e : q = c
            · subst e; rw [up_ok]
            · rw [up_kk e, t2 71 (by decide) (by decide), up_kk e, fM3 71 (by decide) (by decide) (by decide)]
          have y27 : pm_up M4 71 c (Mi 71 c) 27 = M3 27 := by rw [up_off (show (27 : Nat) ≠ 71 by decide), t2 27 (by decide) (by decide), up_off (show (27 : Nat) ≠ 71 by decide)]
          have y28 : pm_up M4 71 c (Mi 71 c) 28 = M3 28 := by rw [up_off (show (28 : Nat) ≠ 71 by decide), t2 28 (by decide) (by decide), up_off (show (28 : Nat) ≠ 71 by decide)]
          refine Inv_ic h F4 (IC_rows (V := V) h40 e1 e2 h17 hF hQ (V2 := V) (fun q hq => ?_) (fun q hq => ?_) (fun q hq => ?_))
          · rw [y26, y71]; obtain ⟨_, ⟨_, _, r3, r4⟩, _⟩ := hQ q hq; exact ⟨r3, r4⟩
          · rw [y27, y28]
            by_cases g : s ≤ q ∧ q < s + m
            · exact x4 rfl q g.1 g.2
            · exact x3 q _ (by omega) (by
                rw [up_off (show (27 : Nat) ≠ 26 by decide), up_off (show (28 : Nat) ≠ 26 by decide)]
                exact u3 q _ (by omega) (by rw [up_off (show (27 : Nat) ≠ 26 by decide), up_off (show (28 : Nat) ≠ 26 by decide)]; exact hrow q hq))
          · rw [y26]; exact hV0 q hq
      · rw [if_neg z] at sC0
        have := sM0 Mi (fun _ _ _ _ => rfl)
        rw [if_neg z] at this
        exact LS_mk sC0 this h
    · refine LS_mk (r := -1001) (Mi1 := Mi) (Ml1 := Ml) (Mi2 := Mi) (Ml2 := Ml) ?_ ?_ h
      · rw [d_CT_narrow, c_within a (Mi 23 9) (n := n) w1, Option.bind_some, pb_i, w_CT_narrow_11, bI_t h1, if_neg (by decide), c_areF, Option.bind_some, pb_i, w_CT_narrow_18, if_pos (bI_f h2)]
      · rw [d_M_narrow, c_isClaim a w2 e2, Option.bind_some, pb_i, w_M_narrow_5, bI_t h1, if_neg (by decide), c_isSet, Option.bind_some, pb_i, w_M_narrow_12, if_pos (bI_f h2)]
  · refine LS_mk (r := -1001) (Mi1 := Mi) (Ml1 := Ml) (Mi2 := Mi) (Ml2 := Ml) ?_ ?_ h
    · rw [d_CT_narrow, c_within a (Mi 23 9) (n := n) w1, Option.bind_some, pb_i, w_CT_narrow_11, if_pos (bI_f h1)]
    · rw [d_M_narrow, c_isClaim a w2 e2, Option.bind_some, pb_i, w_M_narrow_5, if_pos (bI_f h1)]
