/-! kind, second part -/
def FRef (N i : Nat) (M M' : MI) : Prop := (∀ k, k ≠ 13 → k ≠ 20 → M' k = M k) ∧ (∀ e, i ≤ e → e < N → M' 13 e = cl (M 3) (M 12 e) ∧ ∀ E, E ≤ 3 → M 18 e = nI E → ∀ j, j < E → M' 20 (3 * e + j) = cl (M 3) (M 19 (3 * e + j))) ∧ (∀ e, e < i → M' 13 e = M 13 e) ∧ (∀ e, e < 3 * i → M' 20 e = M 20 e)
theorem FRef_step {N i E : Nat} {M M2 M' : MI} (hiN : i < N) (hE : E ≤ 3) (h18 : M 18 i = nI E) (a2 : ∀ k, k ≠ 20 → M2 k = pm_up M 13 i (cl (M 3) (M 12 i)) k) (a3 : ∀ e, M2 20 e = if 3 * i + 0 ≤ e ∧ e < 3 * i + E then cl (M 3) (M 19 e) else M 20 e) (h : FRef N (i + 1) M2 M') : FRef N i M M' := by
  obtain ⟨b1, b2, b3, b4⟩ := h
  have f3 : M2 3 = M 3 := a2 3 (by decide)
  have f12 : M2 12 = M 12 := a2 12 (by decide)
  have f18 : M2 18 = M 18 := a2 18 (by decide)
  have f19 : M2 19 = M 19 := a2 19 (by decide)
  refine ⟨fun k h13 h20 => by rw [b1 k h13 h20, a2 k h20, up_off h13], fun e he heN => ?_, fun e he => ?_, fun e he => ?_⟩
  · by_cases hei : e = i
    · subst hei
      refine ⟨by rw [b3 e (by omega), a2 13 (by decide), up_ok], fun E' hE' h18' j hj => ?_⟩
      obtain rfl : E' = E := (nI_eq (by omega) (by omega)).mp (h18'.symm.trans h18)
      rw [b4 (3 * e + j) (by omega), a3, if_pos (by omega)]
    · obtain ⟨c1, c2⟩ := b2 e (by omega) heN
      rw [f3, f12] at c1
      rw [f3, f18, f19] at c2
      exact ⟨c1, c2⟩
  · rw [b3 e (by omega), a2 13 (by decide), up_kk (by omega)]
  · rw [b4 e (by omega), a3, if_neg (by omega)]
theorem c_fref_go {X : Nat × (Nat → Int32)} {Ml : ML} {N : Nat} (hN : N ≤ 8) : ∀ (n i : Nat) (M : MI) (w : Int32), M 11 11 = nI N → (∀ e, e < N → ∃ E, E ≤ 3 ∧ M 18 e = nI E) → i + n = N → ∃ M' : MI, pdn X m_Filings_refresh (2, [.ref 11, .ref 2, .int (nI i), .int w], [], (sh0, M, Ml, mr0), 0, 0) = some (none, (sh0, M', Ml, mr0)) ∧ FRef N i M M' := by
  intro n
  induction n with
  | zero =>
    intro i M w h11 _ hi
    obtain rfl : i = N := by omega
    refine ⟨M, by rw [e_Filings_refresh_2v1, h11, if_neg (by rw [nI_lt' (by omega) (by omega)]; omega)], fun _ _ _ => rfl, fun e he heN => by omega, fun _ _ => rfl, fun _ _ => rfl⟩
  | succ n ih =>
    intro i M w h11 hE hi
    have pi : pin (nI i) 8 := pin_nI (by omega) (by decide)
    rw [e_Filings_refresh_2v1, h11, if_pos (by rw [nI_lt' (by omega) (by omega)]; omega), if_pos pi, c_closed, Option.bind_some, pb_i, e_Filings_refresh_25v1, if_pos pi, nI_clamp (by omega)]
    obtain ⟨E, hE3, h18⟩ := hE i (by omega)
    obtain ⟨M2, a1, a2, a3⟩ := c_fref_in (X := X) (Ml := Ml) (i := i) (E := E) (by omega) hE3 E 0 (pm_up M 13 i (cl (M 3) (M 12 i))) h18 (by omega)
    obtain ⟨M', b1, b2⟩ := ih (i + 1) M2 (nI E) (by rw [a2 11 (by decide)]; exact h11) (fun e he => by rw [a2 18 (by decide)]; exact hE e he) (by omega)
    exact ⟨M', a1.trans b1, FRef_step (by omega) hE3 h18 a2 a3 b2⟩
theorem c_fref {X : Nat × (Nat → Int32)} {Ml : ML} {N : Nat} (hN : N ≤ 8) (M : MI) (h11 : M 11 11 = nI N) (hE : ∀ e, e < N → ∃ E, E ≤ 3 ∧ M 18 e = nI E) : ∃ M' : MI, pD X m_Filings_refresh [.ref 11, .ref 2] (sh0, M, Ml, mr0) = some (none, (sh0, M', Ml, mr0)) ∧ FRef N 0 M M' := by
  rw [d_Filings_refresh]
  by_cases h0 : N = 0
  · subst h0
    refine ⟨M, by rw [e_Filings_refresh_2, h11]; exact if_neg (by decide), fun _ _ _ => rfl, fun e he heN => by omega, fun _ _ => rfl, fun _ _ => rfl⟩
  · have pi : pin (nI 0) 8 := pin_nI (by omega) (by decide)
    have q : (0 : Int32) = nI 0 := rfl
    rw [q, e_Filings_refresh_2, h11, if_pos (by rw [nI_lt' (by omega) (by omega)]; omega), if_pos pi, c_closed, Option.bind_some, pb_i, e_Filings_refresh_25, if_pos pi, nI_clamp (by omega)]
    obtain ⟨E, hE3, h18⟩ := hE 0 (by omega)
    obtain ⟨M2, a1, a2, a3⟩ := c_fref_in (X := X) (Ml := Ml) (i := 0) (E := E) (by omega) hE3 E 0 (pm_up M 13 0 (cl (M 3) (M 12 0))) h18 (by omega)
    obtain ⟨M', b1, b2⟩ := c_fref_go (X := X) (Ml := Ml) hN (N - 1) 1 M2 (nI E) (by rw [a2 11 (by decide)]; exact h11) (fun e he => by rw [a2 18 (by decide)]; exact hE e he) (by omega)
    exact ⟨M', a1.trans b1, FRef_step (by omega) hE3 h18 a2 a3 b2⟩
theorem cl_one {hs : Nat → Int32} {x : Nat} (hx : x < 30) : cl hs (1 <<< (nI x &&& 31)) = hs x := by
  apply b_ext; intro g hg
  apply Bool.eq_iff_iff.mpr
  rw [cl_bt]
  constructor
  · rintro ⟨f, hf, h1, h2⟩
    rw [x_one (by omega) (by omega), decide_eq_true_iff] at h1
    rw [← h1]; exact h2
  · intro h
    exact ⟨x, hx, by rw [x_one (by omega) (by omega)]; simp, h⟩
theorem one_set {x : Nat} (hx : x < 30) : pin ((1 : Int32) <<< (nI x &&& 31)) 1073741824 := by
  apply hi_set; intro i hi h30
  rw [x_one (by omega) hi]; simp; omega
theorem hs_set {K hs : Nat → Int32} (hK : KOk K) (hH : HsOk K hs) {f : Nat} (hf : f < 30) : pin (hs f) 1073741824 := by
  apply hi_set; intro i hi h30
  cases q : bt (hs f) i
  · rfl
  · have := RK_lt hK ((hH f hf i hi).mp q) hf; omega
theorem ls_kind {X : Nat × (Nat → Int32)} {Mi : MI} {Ml : ML} (h : Inv Mi Ml) (a b : Int32) : LStp Inv X m_CT_kind m_M_kind [.int a, .int b] Mi Ml := by
  by_cases h1 : pin a 30
  · by_cases h2 : pin b 30
    · obtain ⟨x, hx, rfl⟩ := pin_ex (by decide) h1
      obtain ⟨y, hy, rfl⟩ := pin_ex (by decide) h2
      obtain ⟨⟨kok, hok, kof, ktold⟩, hn, ⟨np, np24, pe1, pe2, hp⟩, ⟨nf, nf8, fe1, fe2, hf, hfz⟩, hr⟩ := id h
      have cx : (nI x).toNatClampNeg = x := nI_clamp (by omega)
      have cy : (nI y).toNatClampNeg = y := nI_clamp (by omega)
      have wk : ∀ M : MI, M 55 = Mi 55 → pD X m_M_withKinds [.ref 54, .int (1 <<< (nI y &&& 31))] (sh0, M, Ml, mr0) = some (some (.int (Mi 3 y)), (sh0, M, Ml, mr0)) := by
        intro M hM
        rw [c_withKinds (hs := Mi 3) (by rw [hM]; exact kok) (by rw [hM]; exact hok) _ (one_set hy), cl_one hy]
      by_cases h3 : (Mi 55 x) < 0 ∧ bt (Mi 3 y) x = false
      · obtain ⟨h3, h4⟩ := h3
        have hac : ¬ RK (Mi 55) y x := fun q => by
          have := (hok y hy x (by omega)).mpr q; rw [h4] at this; exact absurd this (by decide)
        obtain ⟨M1, t1, t2, t3⟩ := c_tell_go (X := X) (Ml := Ml) hx hy 30 0 (pm_up (pm_up Mi 4 x 1) 2 2 (Mi 2 2 + 1)) rfl h4
        have hs1 : ∀ e, e < 30 → M1 3 e = if bt (Mi 3 e) x = true then Mi 3 e ||| Mi 3 y else Mi 3 e := by
          intro e he
          have := t3 e he
          rw [this]
          by_cases q : bt (Mi 3 e) x = true
          · rw [if_pos q]; exact if_pos ⟨Nat.zero_le e, q⟩
          · rw [if_neg q]; exact if_neg (fun r => q r.2)
        obtain ⟨M2, u1, u2, u3⟩ := c_pref_go (X := X) (Ml := Ml) np24 np 0 M1 (by rw [t2 5 (by decide)]; exact pe1) (by omega)
        obtain ⟨M3, v1, v2⟩ := c_fref (X := X) (Ml := Ml) nf8 M2 (by rw [u2 11 (by decide), t2 11 (by decide)]; exact fe1) (fun e he => by
          obtain ⟨_, _, _, _, _, _, _, ⟨E, q1, q2, _, _⟩⟩ := hf e he
          exact ⟨E, q1, by rw [u2 18 (by decide), t2 18 (by decide)]; exact q2⟩)
        obtain ⟨v2, v3, _, _⟩ := v2
        have fr : ∀ k, k ≠ 2 → k ≠ 3 → k ≠ 4 → k ≠ 6 → k ≠ 13 → k ≠ 20 → M3 k = Mi k := by
          intro k q2 q3 q4 q6 q13 q20
          rw [v2 k q13 q20, u2 k q6, t2 k q3, up_off q2, up_off q4]
        have f3 : M3 3 = M1 3 := by rw [v2 3 (by decide) (by decide), u2 3 (by decide)]
        have f23 : M2 3 = M1 3 := u2 3 (by decide)
        -- the new table
        have kok' : KOk (pm_up M3 55 x (nI y) 55) := by
          intro f hf30
          by_cases q : f = x
          · subst q; rw [up_ok]; exact Or.inr (pin_nI hy (by decide))
          · rw [up_kk q, fr 55 (by decide) (by decide) (by decide) (by decide) (by decide) (by decide)]; exact kok f hf30
        have f55 : M3 55 = Mi 55 := fr 55 (by decide) (by decide) (by decide) (by decide) (by decide) (by decide)
        have rk : ∀ e g, RK (pm_up M3 55 x (nI y) 55) e g ↔ RK (Mi 55) e g ∨ (RK (Mi 55) e x ∧ RK (Mi 55) y g) := fun e g => RK_new (by omega) h3 up_ok (fun f q => by rw [up_kk q, f55]) hac e g
        have hok' : HsOk (pm_up M3 55 x (nI y) 55) (M3 3) := by
          intro f hf30 g hg
          rw [rk, f3, hs1 f hf30]
          by_cases q : bt (Mi 3 f) x = true
          · rw [if_pos q, b_or, Bool.or_eq_true, hok f hf30 g hg, hok y hy g hg]
            have := (hok f hf30 x (by omega)).mp q
            exact ⟨fun r => r.elim Or.inl (fun r => Or.inr ⟨this, r⟩), fun r => r.elim Or.inl (fun r => Or.inr r.2)⟩
          · rw [if_neg q, hok f hf30 g hg]
            exact ⟨Or.inl, fun r => r.elim id (fun r => absurd ((hok f hf30 x (by omega)).mpr r.1) q)⟩
        have px : pin (nI x) 30 := h1
        have z4 : Mi 4 x = 0 := (kof x hx).mpr h3
        have bt0 : (((Mi 3 y) >>> (nI x &&& 31)) &&& 1) = 0 := by rw [x_bit (by omega)]; exact bI_f (by rw [h4]; decide)
        have c1 : pD X m_CT_kind [.ref 1, .int (nI x), .int (nI y)] (sh0, Mi, Ml, mr0) = some (some (.int (nI (fb_ct (bt (M3 3 x)) 30))), (sh0, M3, Ml, mr0)) := by
          have t1' : pdn X m_Features_tell (43, [.ref 2, .int (nI x), .int (nI y), .int 0], [], (sh0, pm_up (pm_up Mi 4 x 1) 2 2 (Mi 2 2 + 1), Ml, mr0), 0, 0) = _ := t1
          have u1' : pdn X m_Papers_refresh (2, [.ref 5, .ref 2, .int 0], [], (sh0, M1, Ml, mr0), 0, 0) = _ := u1
          rw [d_CT_kind, c_within (nI x) 30 (n := 30) rfl, Option.bind_some, pb_i, e_CT_kind_6, bI_t h1, if_neg (by decide), c_within (nI y) 30 (n := 30) rfl, Option.bind_some, pb_i, e_CT_kind_15, bI_t h2, if_neg (by decide), d_Features_tell, if_pos h1, cx, if_pos z4, if_pos h2, cy, if_pos bt0, if_pos h1, t1', Option.bind_some, pb_i, e_CT_kind_31, if_neg (by decide), d_Papers_refresh, u1', Option.bind_some, pb_n, e_CT_kind_49, v1, Option.bind_some, pb_n, e_CT_kind_60, if_pos h1, cx, c_bitCountS _ (hs_set kok' hok' hx), Option.bind_some, pb_i, e_CT_kind_72]
        have c2 : pD X m_M_kind [.ref 54, .int (nI x), .int (nI y)] (sh0, M3, Ml, mr0) = some (some (.int (nI (fb_ct (bt (M3 3 x)) 30))), (sh0, pm_up M3 55 x (nI y), Ml, mr0)) := by
          have q1 : (M3 55 x) < 0 := by rw [f55]; exact h3
          have q2 : ¬ (((Mi 3 y) >>> (nI x &&& 31)) &&& 1) = 1 := by rw [bt0]; decide
          rw [d_M_kind, c_isFeature, Option.bind_some, pb_i, e_M_kind_4, bI_t h1, if_neg (by decide), c_isFeature, Option.bind_some, pb_i, e_M_kind_11, bI_t h2, if_neg (by decide), if_pos h1, cx, if_pos q1, wk M3 f55, Option.bind_some, pb_i, e_M_kind_34, if_neg q2, if_pos h1, cx, c_withKinds (hs := M3 3) kok' hok' _ (one_set hx), cl_one hx, Option.bind_some, pb_i, e_M_kind_60, c_bits, Option.bind_some, pb_i, e_M_kind_63]
        refine LS_mk c1 c2 ?_
        obtain ⟨rx, rft, rm, rr, rp, rc⟩ := hr
        have f4 : M3 4 = pm_up Mi 4 x 1 4 := by
          rw [v2 4 (by decide) (by decide), u2 4 (by decide), t2 4 (by decide), up_off (by decide)]
        have f2 : M3 2 2 = Mi 2 2 + 1 := by
          rw [v2 2 (by decide) (by decide), u2 2 (by decide), t2 2 (by decide), up_ok]
        have f13 : M2 13 = Mi 13 := by rw [u2 13 (by decide), t2 13 (by decide)]; rfl
        refine ⟨⟨kok', hok', ?_, ?_⟩, ?_, ⟨np, np24, ?_, ?_, ?_⟩, ⟨nf, nf8, ?_, ?_, ?_, ?_⟩, ?_, ?_, ?_, ?_, ?_, ?_⟩
        · intro f hf30
          show M3 4 f = 0 ↔ _
          rw [f4]
          by_cases q : f = x
          · subst q
            rw [up_ok, up_ok, x_lt, nI_toInt (by omega)]
            exact ⟨fun r => absurd r (by decide), fun r => by have : (0 : Int32).toInt = 0 := rfl; omega⟩
          · rw [up_kk q, up_kk q, f55]; exact kof f hf30
        · show M3 2 2 = nI (fb_ct (fun f => decide (¬ (pm_up M3 55 x (nI y) 55 f) < 0)) 30)
          rw [f2, ktold, nI_1]
          congr 1
          have e1 : fb_ct (fun f => decide (¬ (pm_up M3 55 x (nI y) 55 f) < 0)) 30 = fb_ct (fun k => if k = x then true else decide (¬ (Mi 55 k) < 0)) 30 := by
            apply fb_ct_cong; intro k _
            by_cases q : k = x
            · subst q
              rw [if_pos rfl, up_ok, decide_eq_true_iff, x_lt, nI_toInt (by omega)]
              have : (0 : Int32).toInt = 0 := rfl
              omega
            · rw [if_neg q, up_kk q, f55]
          have e2 := fb_ct_upd (fun f => decide (¬ (Mi 55 f) < 0)) true hx (n := 30)
          rw [e1]
          have e3 : decide (¬ (Mi 55 x) < 0) = false := by simp [h3]
          simp only [e3, Bool.false_eq_true, if_false, if_true, Nat.add_zero] at e2
          exact e2.symm
        · show IN (M3 8) (M3 56)
          rw [fr 8 (by decide) (by decide) (by decide) (by decide) (by decide) (by decide), fr 56 (by decide) (by decide) (by decide) (by decide) (by decide) (by decide)]; exact hn
        · show M3 5 5 = _; rw [fr 5 (by decide) (by decide) (by decide) (by decide) (by decide) (by decide)]; exact pe1
        · show M3 54 2 = _; rw [fr 54 (by decide) (by decide) (by decide) (by decide) (by decide) (by decide)]; exact pe2
        · intro i hi
          obtain ⟨a1, a2, a3, a4, a5, a6, a7⟩ := hp i hi
          show M3 9 i = M3 57 i ∧ pin (M3 9 i) _ ∧ M3 6 i = cl (M3 3) (M3 9 i) ∧ M3 10 i = M3 58 i ∧ pin (M3 10 i) _ ∧ M3 7 i = M3 59 i ∧ pin (M3 7 i) _
          have g6 : M3 6 i = cl (M3 3) (Mi 9 i) := by
            rw [v2 6 (by decide) (by decide), u3 i hi, if_pos (Nat.zero_le i), f3, t2 9 (by decide)]; rfl
          rw [g6, fr 9 (by decide) (by decide) (by decide) (by decide) (by decide) (by decide), fr 57 (by decide) (by decide) (by decide) (by decide) (by decide) (by decide), fr 10 (by decide) (by decide) (by decide) (by decide) (by decide) (by decide), fr 58 (by decide) (by decide) (by decide) (by decide) (by decide) (by decide), fr 7 (by decide) (by decide) (by decide) (by decide) (by decide) (by decide), fr 59 (by decide) (by decide) (by decide) (by decide) (by decide) (by decide)]
          exact ⟨a1, a2, rfl, a4, a5, a6, a7⟩
        · show M3 11 11 = _; rw [fr 11 (by decide) (by decide) (by decide) (by decide) (by decide) (by decide)]; exact fe1
        · show M3 54 6 = _; rw [fr 54 (by decide) (by decide) (by decide) (by decide) (by decide) (by decide)]; exact fe2
        · intro i hi
          obtain ⟨a1, a2, a3, a4, a5, a6, a7, ⟨E, b1, b2, b3, b4⟩⟩ := hf i hi
          have m12 : M2 12 = Mi 12 := by rw [u2 12 (by decide), t2 12 (by decide)]; rfl
          have m18 : M2 18 = Mi 18 := by rw [u2 18 (by decide), t2 18 (by decide)]; rfl
          have m19 : M2 19 = Mi 19 := by rw [u2 19 (by decide), t2 19 (by decide)]; rfl
          obtain ⟨g13, g20⟩ := v3 i (Nat.zero_le i) hi
          rw [f23, m12, ← f3] at g13
          have g20' := g20 E b1 (by rw [m18]; exact b2)
          show M3 12 i = M3 60 i ∧ pin (M3 12 i) _ ∧ M3 13 i = cl (M3 3) (M3 12 i) ∧ M3 14 i = M3 61 i ∧ pin (M3 14 i) _ ∧ M3 15 i = M3 62 i ∧ pin (M3 15 i) _ ∧ IE (M3 3) i (M3 14) (M3 18) (M3 19) (M3 20) (M3 21) (M3 63) (M3 64) (M3 65)
          have F := fun k (q : k ≠ 2 ∧ k ≠ 3 ∧ k ≠ 4 ∧ k ≠ 6 ∧ k ≠ 13 ∧ k ≠ 20) => fr k q.1 q.2.1 q.2.2.1 q.2.2.2.1 q.2.2.2.2.1 q.2.2.2.2.2
          rw [g13, F 12 (by decide), F 60 (by decide), F 14 (by decide), F 61 (by decide), F 15 (by decide), F 62 (by decide), F 18 (by decide), F 19 (by decide), F 21 (by decide), F 63 (by decide), F 64 (by decide), F 65 (by decide)]
          refine ⟨a1, a2, rfl, a4, a5, a6, a7, ⟨E, b1, b2, b3, fun j hj => ?_⟩⟩
          obtain ⟨r1, r2, r3, r4, r5⟩ := b4 j hj
          exact ⟨r1, r2, by rw [g20' j hj, f23, m19, f3], r4, r5⟩
        · intro i q1 q2
          show M3 18 i = 0
          rw [fr 18 (by decide) (by decide) (by decide) (by decide) (by decide) (by decide)]; exact hfz i q1 q2
        · show IX (M3 34 1) (M3 54 16) (M3 35) (M3 68)
          rw [fr 34 (by decide) (by decide) (by decide) (by decide) (by decide) (by decide), fr 54 (by decide) (by decide) (by decide) (by decide) (by decide) (by decide), fr 35 (by decide) (by decide) (by decide) (by decide) (by decide) (by decide), fr 68 (by decide) (by decide) (by decide) (by decide) (by decide) (by decide)]; exact rx
        · show M3 1 10 = M3 54 17
          rw [fr 1 (by decide) (by decide) (by decide) (by decide) (by decide) (by decide), fr 54 (by decide) (by decide) (by decide) (by decide) (by decide) (by decide)]; exact rft
        · show IM (M3 41 9) (M3 54 36) (M3 42) (M3 43) (M3 44) (M3 80) (M3 81) (M3 82)
          have F := fun k (q : k ≠ 2 ∧ k ≠ 3 ∧ k ≠ 4 ∧ k ≠ 6 ∧ k ≠ 13 ∧ k ≠ 20) => fr k q.1 q.2.1 q.2.2.1 q.2.2.2.1 q.2.2.2.2.1 q.2.2.2.2.2
          rw [F 41 (by decide), F 54 (by decide), F 42 (by decide), F 43 (by decide), F 44 (by decide), F 80 (by decide), F 81 (by decide), F 82 (by decide)]; exact rm
        · show IR (M3 47) (M3 49) (M3 51) (M3 53) (M3 66)
          have F := fun k (q : k ≠ 2 ∧ k ≠ 3 ∧ k ≠ 4 ∧ k ≠ 6 ∧ k ≠ 13 ∧ k ≠ 20) => fr k q.1 q.2.1 q.2.2.1 q.2.2.2.1 q.2.2.2.2.1 q.2.2.2.2.2
          rw [F 47 (by decide), F 49 (by decide), F 51 (by decide), F 53 (by decide), F 66 (by decide)]; exact rr
        · show IPd (M3 22) (M3 79)
          have F := fun k (q : k ≠ 2 ∧ k ≠ 3 ∧ k ≠ 4 ∧ k ≠ 6 ∧ k ≠ 13 ∧ k ≠ 20) => fr k q.1 q.2.1 q.2.2.1 q.2.2.2.1 q.2.2.2.2.1 q.2.2.2.2.2
          rw [F 22 (by decide), F 79 (by decide)]; exact rp
        · show IC (M3 23 9) (M3 54 23) (M3 16) (M3 17) (M3 74) (M3 75) (M3 24) (M3 69) (M3 25) (M3 70) (M3 26) (M3 71) (M3 27) (M3 28) (M3 30) (M3 31) (M3 32) (M3 72) (M3 73) (Ml 29) (M3 11 11)
          have F := fun k (q : k ≠ 2 ∧ k ≠ 3 ∧ k ≠ 4 ∧ k ≠ 6 ∧ k ≠ 13 ∧ k ≠ 20) => fr k q.1 q.2.1 q.2.2.1 q.2.2.2.1 q.2.2.2.2.1 q.2.2.2.2.2
          rw [F 23 (by decide), F 54 (by decide), F 16 (by decide), F 17 (by decide), F 74 (by decide), F 75 (by decide), F 24 (by decide), F 69 (by decide), F 25 (by decide), F 70 (by decide), F 26 (by decide), F 71 (by decide), F 27 (by decide), F 28 (by decide), F 30 (by decide), F 31 (by decide), F 32 (by decide), F 72 (by decide), F 73 (by decide), F 11 (by decide)]; exact rc
      · refine ⟨-1003, Mi, Ml, Mi, Ml, ?_, ?_, h⟩
        · show pD X _ [.ref 1, .int (nI x), .int (nI y)] (sh0, Mi, Ml, mr0) = some (_, (sh0, Mi, Ml, mr0))
          rw [d_CT_kind, c_within (nI x) 30 (n := 30) rfl, Option.bind_some, pb_i, e_CT_kind_6, bI_t h1, if_neg (by decide), c_within (nI y) 30 (n := 30) rfl, Option.bind_some, pb_i, e_CT_kind_15, bI_t h2, if_neg (by decide), d_Features_tell, if_pos h1, cx]
          by_cases q : Mi 4 x = 0
          · have q2 : bt (Mi 3 y) x = true := by
              cases r : bt (Mi 3 y) x
              · exact absurd ⟨(kof x hx).mp q, r⟩ h3
              · rfl
            rw [if_pos q, if_pos h2, cy, x_bit (by omega), if_neg (by rw [bI_t q2]; decide), Option.bind_some, pb_i, e_CT_kind_31, if_pos rfl]
          · rw [if_neg q, Option.bind_some, pb_i, e_CT_kind_31, if_pos rfl]
        · show pD X _ [.ref 54, .int (nI x), .int (nI y)] (sh0, Mi, Ml, mr0) = some (_, (sh0, Mi, Ml, mr0))
          rw [d_M_kind, c_isFeature, Option.bind_some, pb_i, e_M_kind_4, bI_t h1, if_neg (by decide), c_isFeature, Option.bind_some, pb_i, e_M_kind_11, bI_t h2, if_neg (by decide), if_pos h1, cx]
          by_cases q : (Mi 55 x) < 0
          · have q2 : bt (Mi 3 y) x = true := by
              cases r : bt (Mi 3 y) x
              · exact absurd ⟨q, r⟩ h3
              · rfl
            rw [if_pos q, wk Mi rfl, Option.bind_some, pb_i, e_M_kind_34, x_bit (by omega), if_pos (bI_t q2)]
          · rw [if_neg q]
    · refine ⟨-1001, Mi, Ml, Mi, Ml, ?_, ?_, h⟩
      · show pD X _ _ (sh0, Mi, Ml, mr0) = some (_, (sh0, Mi, Ml, mr0))
        simp only [d_CT_kind, c_within a 30 (n := 30) rfl, e_CT_kind_6, c_within b 30 (n := 30) rfl, e_CT_kind_15, bI_t h1, bI_f h2, Option.bind_some, pb_i, x10, if_true, if_false, eq_self]
      · show pD X _ _ (sh0, Mi, Ml, mr0) = some (_, (sh0, Mi, Ml, mr0))
        simp only [d_M_kind, c_isFeature, e_M_kind_4, e_M_kind_11, bI_t h1, bI_f h2, Option.bind_some, pb_i, x10, if_true, if_false, eq_self]
  · refine ⟨-1001, Mi, Ml, Mi, Ml, ?_, ?_, h⟩
    · show pD X _ _ (sh0, Mi, Ml, mr0) = some (_, (sh0, Mi, Ml, mr0))
      simp only [d_CT_kind, c_within a 30 (n := 30) rfl, e_CT_kind_6, bI_f h1, Option.bind_some, pb_i, if_true, eq_self]
    · show pD X _ _ (sh0, Mi, Ml, mr0) = some (_, (sh0, Mi, Ml, mr0))
      simp only [d_M_kind, c_isFeature, e_M_kind_4, bI_f h1, Option.bind_some, pb_i, if_true, eq_self]
