/-! CLAIMS: their texts; features -/
def fe (t : Nat → Int32) (N : Nat) : Nat → Nat → Int32 → Sum (Nat × Nat) (Nat × Int32)
  | 0, s, own => Sum.inr (s, own)
  | f + 1, s, own => if ty t N s = 2 then (if gnum t N s 2 0 29 then (if bt own (dv t s (nx t N s - s)) = true then Sum.inl (3, s) else fe t N f (rnT isp t N (nx t N s)) (own ||| one (dv t s (nx t N s - s)))) else Sum.inl (2, s)) else Sum.inr (s, own)
def fe0 (t : Nat → Int32) (N s : Nat) : Sum (Nat × Nat) (Nat × Int32) := if ty t N s = 2 then fe t N N s 0 else Sum.inl (1, s)
theorem dv_2 {t : Nat → Int32} {N s : Nat} (hq : ty t N s = 2) (h : nx t N s - s ≤ 4) : dv t s (nx t N s - s) < 10 ^ (nx t N s - s) ∧ dv t s (nx t N s - s) < 10000 := by
  have hd := dv_lt (t := t) (s := s) (nx t N s - s) (fun j hj => rnT_all (N := N) _ s rfl (s + j) (by omega) (by rw [← nx_n hq]; omega))
  have hpw : 10 ^ (nx t N s - s) ≤ 10 ^ 4 := Nat.pow_le_pow_right (by decide) h
  exact ⟨hd, by omega⟩
theorem nx_gt {t : Nat → Int32} {N s : Nat} (h : s < N) : s < nx t N s := by
  unfold nx
  rw [if_pos h]
  split
  · rename_i q
    rw [rnT_y h q]; have := rnT_ge ilt t N (s + 1); omega
  · split
    · rename_i q
      rw [rnT_y h q]; have := rnT_ge ifg t N (s + 1); omega
    · omega
theorem ty2_lt {t : Nat → Int32} {N s : Nat} (h : ty t N s = 2) : s < N := (ty_2.mp h).1
/-- what reading features may change in the class -/
def UFC (N c : Nat) (M M' : MI) : Prop := (∀ k, k ≠ 34 → k ≠ 36 → k ≠ 25 → M' k = M k) ∧ M' 34 1 = nI N ∧ M' 36 3 = M 36 3 ∧ ∀ q, q ≠ c → M' 25 q = M 25 q
theorem c_feC {X : Nat × (Nat → Int32)} {Ml : ML} {t : Nat → Int32} {N n k : Nat} (hN : N ≤ 200) (hc : n + k < 40) : ∀ (f s i : Nat) (M : MI) (own : Int32), N ≤ s + f → i ≤ s → s ≤ N → Tok t N M s → M 34 1 = nI N → (∀ j, j < N → M 35 j = t j) → M 36 3 = nI k → M 23 9 = nI n → M 25 (n + k) = own → ∃ (M' : MI) (c : Nat), pdn X m_ClaimReader_readFeatures (19, [.ref 36, .int (nI i)], [], (sh0, M, Ml, mr0), 0, 0) = some (some (.int (nI c)), (sh0, M', Ml, mr0)) ∧ c ≤ 3 ∧ UFC N (n + k) M M' ∧ match fe t N f s own with
    | Sum.inl (c', pl) => c = c' ∧ 0 < c ∧ M' 36 2 = nI pl
    | Sum.inr (s', own') => c = 0 ∧ Tok t N M' s' ∧ s ≤ s' ∧ s' ≤ N ∧ M' 36 2 = M 36 2 ∧ M' 25 (n + k) = own' := by
  have ec : nI n + nI k = nI (n + k) := nI_add n k
  have p40 : pin (nI (n + k)) 40 := pin_nI hc (by decide)
  have cc : (nI (n + k)).toNatClampNeg = n + k := nI_clamp (by omega)
  intro f
  induction f with
  | zero =>
    intro s i M own hf hi hs hT h1 ht h36 h23 h25
    have hz : ¬ ty t N s = 2 := fun z => by have := ty2_lt z; omega
    refine ⟨M, 0, ?_, by omega, ⟨fun _ _ _ _ => rfl, h1, rfl, fun _ _ => rfl⟩, rfl, hT, Nat.le_refl s, hs, rfl, h25⟩
    rw [w_ClaimReader_readFeatures_19, hT.2.1, if_neg (fun z => hz (tyI2.mp z))]
    split <;> rfl
  | succ f ih =>
    intro s i M own hf hi hs hT h1 ht h36 h23 h25
    rw [w_ClaimReader_readFeatures_19, hT.2.1, fe]
    by_cases q : ty t N s = 2
    · have hlt := ty2_lt q
      have hg := nx_ge t N s
      have hn := nx_le t hs
      have hgt := nx_gt hlt (t := t)
      rw [if_pos q, if_pos (show nI i < 200 from (x_nlt (n := 200) rfl (by omega)).mpr (by omega)), if_pos (tyI2.mpr q), d_Text_figures, Option.bind_some, pb_i, w_ClaimReader_readFeatures_44, hT.2.2.1, hT.1, nI_subN hg]
      have f60 : ∀ w1 : Value, pdn X m_ClaimReader_readFeatures (60, [.ref 36, w1], [], (sh0, M, Ml, mr0), 0, 0) = some (some (.int (nI 2)), (sh0, pm_up M 36 2 (nI s), Ml, mr0)) := fun w1 => by rw [w_ClaimReader_readFeatures_60, d_ClaimReader_faulty, hT.1, Option.bind_some, pb_i, w_ClaimReader_readFeatures_65]; rfl
      have bad : ∀ c : Nat, 0 < c → c ≤ 3 → ∃ (M' : MI) (c' : Nat), some (some (.int (nI c)), (sh0, pm_up M 36 2 (nI s), Ml, mr0)) = some (some (Value.int (nI c')), ((sh0, M', Ml, mr0) : PHp)) ∧ c' ≤ 3 ∧ UFC N (n + k) M M' ∧ (c' = c ∧ 0 < c' ∧ M' 36 2 = nI s) := fun c h0 h3 => ⟨_, c, rfl, h3, ⟨fun k a b _ => up_off b, by rw [up_off (by decide)]; exact h1, by rw [up_kk (by decide)], fun q _ => by rw [up_off (by decide)]⟩, rfl, h0, by rw [up_ok]⟩
      by_cases r : nx t N s - s ≤ 2
      · obtain ⟨_, hd⟩ := dv_2 q (show nx t N s - s ≤ 4 by omega)
        rw [if_neg (show ¬ (2 : Int32) < nI (nx t N s - s) from fun z => by have := (nI_lt' (a := 2) (by decide) (by omega)).mp z; omega), hT.2.2.2 q (by omega)]
        by_cases r2 : dv t s (nx t N s - s) ≤ 29
        · have gz : gnum t N s 2 0 29 := ⟨r, Nat.zero_le _, r2⟩
          rw [if_pos (show nI (dv t s (nx t N s - s)) < 30 from (nI_lt' (b := 30) (by omega) (by decide)).mpr (by omega)), if_pos gz, d_Claims_addOwn, h23, h36, ec, if_pos p40, cc, h25, x_bit (show dv t s (nx t N s - s) < 32 by omega)]
          by_cases z : bt own (dv t s (nx t N s - s)) = true
          · rw [if_neg (by rw [bI_t z]; decide), e_Claims_addOwn_25, if_pos p40, if_pos p40, if_pos (by decide), cc, Option.bind_some, pb_i, w_ClaimReader_readFeatures_84, if_pos (rfl : (0 : Int32) = 0), d_ClaimReader_faulty, Option.bind_some, pb_i, w_ClaimReader_readFeatures_92, if_pos z]
            refine ⟨_, 3, rfl, by omega, ⟨fun k a b e => by rw [up_off b, up_off e], by rw [up_off (by decide), up_off (by decide)]; exact h1, by rw [up_kk (by decide), up_off (by decide)], fun q hq => by rw [up_off (by decide), up_kk hq]⟩, rfl, by omega, by rw [up_ok, up_off (by decide)]; exact hT.1⟩
          · rw [if_pos (bI_f z), e_Claims_addOwn_25, if_pos p40, if_pos p40, if_pos (by decide), cc, h25, Option.bind_some, pb_i, w_ClaimReader_readFeatures_84, if_neg (show ¬ (1 : Int32) = 0 by decide), if_neg z]
            have so : (1 : Int32) <<< (nI (dv t s (nx t N s - s)) &&& 31) = one (dv t s (nx t N s - s)) := rfl
            rw [so]
            obtain ⟨M2, g1, ⟨g2, g3⟩, g4⟩ := c_step (X := X) (Ml := Ml) (t := t) (p := nx t N s) (M := pm_up M 25 (n + k) (own ||| one (dv t s (nx t N s - s)))) hN hn (by rw [up_off (by decide)]; exact h1) (by rw [up_off (by decide)]; exact hT.2.2.1) (fun j hj => by rw [up_off (by decide)]; exact ht j hj)
            have hs2 := rnT_le isp t hn
            have hs2g := rnT_ge isp t N (nx t N s)
            rw [g1, Option.bind_some, pb_n, w_ClaimReader_readFeatures_100, nI_1]
            obtain ⟨M3, c, k1, k2, ⟨k3, k4, k5, k6⟩, k7⟩ := ih (rnT isp t N (nx t N s)) (i + 1) M2 (own ||| one (dv t s (nx t N s - s))) (by omega) (by omega) hs2 g4 g3 (fun j hj => by rw [g2 35 (by decide), up_off (by decide)]; exact ht j hj) (by rw [g2 36 (by decide), up_off (by decide)]; exact h36) (by rw [g2 23 (by decide), up_off (by decide)]; exact h23) (by rw [g2 25 (by decide), up_ok])
            refine ⟨M3, c, k1, k2, ⟨fun k a b e => ((k3 k a b e).trans (g2 k a)).trans (up_off e), k4, by rw [k5, g2 36 (by decide), up_off (by decide)], fun q hq => by rw [k6 q hq, g2 25 (by decide), up_kk hq]⟩, ?_⟩
            cases hq : fe t N f (rnT isp t N (nx t N s)) (own ||| one (dv t s (nx t N s - s))) with
            | inl y => rw [hq] at k7; exact k7
            | inr y =>
              rw [hq] at k7
              obtain ⟨m1, m2, m3, m4, m5, m6⟩ := k7
              exact ⟨m1, m2, by omega, m4, by rw [m5, g2 36 (by decide), up_off (by decide)], m6⟩
        · rw [if_neg (show ¬ nI (dv t s (nx t N s - s)) < 30 from fun z => r2 (by have := (nI_lt' (b := 30) (by omega) (by decide)).mp z; omega)), f60, if_neg (fun z => r2 z.2.2)]
          exact bad 2 (by omega) (by omega)
      · rw [if_pos (show (2 : Int32) < nI (nx t N s - s) from (nI_lt' (a := 2) (by decide) (by omega)).mpr (by omega)), f60, if_neg (fun z => r z.1)]
        exact bad 2 (by omega) (by omega)
    · rw [if_neg (fun z => q (tyI2.mp z)), if_neg q]
      refine ⟨M, 0, ?_, by omega, ⟨fun _ _ _ _ => rfl, h1, rfl, fun _ _ => rfl⟩, rfl, hT, Nat.le_refl s, hs, rfl, h25⟩
      split <;> rfl
theorem c_fe0C {X : Nat × (Nat → Int32)} {Ml : ML} {t : Nat → Int32} {N n k s : Nat} (hN : N ≤ 200) (hc : n + k < 40) {M : MI} (hs : s ≤ N) (hT : Tok t N M s) (h1 : M 34 1 = nI N) (ht : ∀ j, j < N → M 35 j = t j) (h36 : M 36 3 = nI k) (h23 : M 23 9 = nI n) (h25 : M 25 (n + k) = 0) : ∃ (M' : MI) (c : Nat), pD X m_ClaimReader_readFeatures [.ref 36] (sh0, M, Ml, mr0) = some (some (.int (nI c)), (sh0, M', Ml, mr0)) ∧ c ≤ 3 ∧ UFC N (n + k) M M' ∧ match fe0 t N s with
    | Sum.inl (c', pl) => c = c' ∧ 0 < c ∧ M' 36 2 = nI pl
    | Sum.inr (s', own') => c = 0 ∧ Tok t N M' s' ∧ s ≤ s' ∧ s' ≤ N ∧ M' 36 2 = M 36 2 ∧ M' 25 (n + k) = own' := by
  rw [d_ClaimReader_readFeatures, hT.2.1]
  unfold fe0
  by_cases q : ty t N s = 2
  · rw [if_pos (tyI2.mpr q), if_pos q]
    exact c_feC hN hc N s 0 M 0 (by omega) (by omega) hs hT h1 ht h36 h23 h25
  · rw [if_neg (fun z => q (tyI2.mp z)), if_neg q, d_ClaimReader_faulty, Option.bind_some, pb_i, w_ClaimReader_readFeatures_16]
    exact ⟨_, 1, rfl, by omega, ⟨fun k a b _ => up_off b, by rw [up_off (by decide)]; exact h1, by rw [up_kk (by decide)], fun q _ => by rw [up_off (by decide)]⟩, rfl, by omega, by rw [up_ok]; exact hT.1⟩
/-! the reference's features -/
theorem c_feM {X : Nat × (Nat → Int32)} {Ml : ML} {t : Nat → Int32} {N c : Nat} (hN : N ≤ 200) (hc : c < 40) : ∀ (f s p : Nat) (M : MI) (own : Int32) (w3 : Value), N ≤ s + f → s ≤ N → p ≤ N → rnT isp t N p = s → ty t N s = 2 → RT t N M p → M 70 c = own → ∃ (M' : MI) (z : Nat), pdn X m_M_readFeatures (2, [.ref 54, .int (nI c), .int 1, w3], [], (sh0, M, Ml, mr0), 0, 0) = some (some (.int (nI z)), (sh0, M', Ml, mr0)) ∧ z ≤ 3 ∧ (∀ k, k ≠ 54 → k ≠ 70 → M' k = M k) ∧ (∀ j, j ≠ 17 → j ≠ 18 → j ≠ 21 → j ≠ 22 → M' 54 j = M 54 j) ∧ (∀ q, q ≠ c → M' 70 q = M 70 q) ∧ match fe t N f s own with
    | Sum.inl (c', pl) => z = c' ∧ 0 < z ∧ M' 54 17 = nI pl
    | Sum.inr (s', own') => z = 0 ∧ s ≤ s' ∧ s' ≤ N ∧ RT t N M' s' ∧ rnT isp t N s' = s' ∧ M' 54 17 = M 54 17 ∧ M' 70 c = own' := by
  have p40 : pin (nI c) 40 := pin_nI hc (by decide)
  have cc : (nI c).toNatClampNeg = c := nI_clamp (by omega)
  intro f
  induction f with
  | zero =>
    intro s p M own w3 hf hs hp hsk hty
    have := ty2_lt hty
    omega
  | succ f ih =>
    intro s p M own w3 hf hs hp hsk hty hR h70
    obtain ⟨M1, g1, g2, g3⟩ := c_readNum (X := X) (Ml := Ml) (F := 2) (a := 0) (b := 29) hN hp (by decide) (by decide) (by decide) hR
    rw [hsk] at g3
    have hlt := ty2_lt hty
    have hn := nx_le t hs
    have hgt := nx_gt hlt (t := t)
    rw [w_M_readFeatures_2, if_neg (show ¬ (1 : Int32) = 0 by decide), fe, if_pos hty]
    rcases g3 with ⟨a1, _⟩ | ⟨_, a2, a3, a4⟩ | ⟨_, a2, a3, a4, a5, a6, a7⟩
    · exact absurd hty a1
    · refine ⟨M1, 2, ?_, by omega, fun k a _ => g1 k a, g2, fun q _ => by rw [g1 70 (by decide)], ?_⟩
      · rw [show pD X m_M_readNumber [.ref 54, .int 0, .int 29, .int 2] (sh0, M, Ml, mr0) = _ from a3, Option.bind_some, pb_i, w_M_readFeatures_14, if_pos (by decide)]; rfl
      · rw [if_neg a2]; exact ⟨rfl, by omega, a4⟩
    · obtain ⟨b1, b2, b3⟩ := a2
      rw [show pD X m_M_readNumber [.ref 54, .int 0, .int 29, .int 2] (sh0, M, Ml, mr0) = _ from a3, Option.bind_some, pb_i, w_M_readFeatures_14, if_neg (by decide), if_pos p40, cc, g1 70 (by decide), h70, a6, x_bit (show dv t s (nx t N s - s) < 32 by omega), if_pos (show gnum t N s 2 0 29 from ⟨b1, b2, b3⟩)]
      by_cases z : bt own (dv t s (nx t N s - s)) = true
      · rw [if_pos (bI_t z), if_pos z, d_M_fails, a7, Option.bind_some, pb_i, w_M_readFeatures_47]
        exact ⟨_, 3, rfl, by omega, fun k a _ => (up_off a).trans (g1 k a), fun j x y u v => (up_kk x).trans (g2 j x y u v), fun q _ => by rw [up_off (by decide), g1 70 (by decide)], rfl, by omega, by rw [up_ok]⟩
      · have so : (1 : Int32) <<< (nI (dv t s (nx t N s - s)) &&& 31) = one (dv t s (nx t N s - s)) := rfl
        rw [if_neg (by rw [bI_f z]; decide), if_neg z, if_pos p40, if_pos p40, so]
        obtain ⟨M2, k1, ⟨k2, k3⟩, k4⟩ := c_here (X := X) (Ml := Ml) (t := t) (M := pm_up M1 70 c (own ||| one (dv t s (nx t N s - s)))) hN hn ⟨by rw [up_off (by decide)]; exact a5.1, by rw [up_off (by decide)]; exact a5.2.1, fun j hj => by rw [up_off (by decide)]; exact a5.2.2 j hj⟩
        have hs2 := rnT_le isp t hn
        have hs2g := rnT_ge isp t N (nx t N s)
        have hidem : rnT isp t N (rnT isp t N (nx t N s)) = rnT isp t N (nx t N s) := rnT_idem
        generalize rnT isp t N (nx t N s) = s2 at *
        have f2 : ∀ k, k ≠ 54 → k ≠ 70 → M2 k = M k := fun k a b => ((k2 k a).trans (up_off b)).trans (g1 k a)
        have f54 : ∀ j, j ≠ 17 → j ≠ 18 → j ≠ 21 → j ≠ 22 → M2 54 j = M 54 j := fun j x y u v => ((k3 j y).trans (by rw [up_off (by decide)])).trans (g2 j x y u v)
        have f17 : M2 54 17 = M 54 17 := ((k3 17 (by decide)).trans (by rw [up_off (by decide)])).trans a4
        have f70 : ∀ q, q ≠ c → M2 70 q = M 70 q := fun q hq => by rw [k2 70 (by decide), up_kk hq, g1 70 (by decide)]
        have f70c : M2 70 c = own ||| one (dv t s (nx t N s - s)) := by rw [k2 70 (by decide), up_ok]
        rw [k1, Option.bind_some, pb_i, w_M_readFeatures_67, c_inF, Option.bind_some, pb_i, w_M_readFeatures_77]
        have eif : ifg (hrv t N s2) = true ↔ ty t N s2 = 2 := by
          unfold hrv
          by_cases y : s2 < N
          · rw [if_pos y, ty_2]; exact ⟨fun x => ⟨y, fg_nl x, x⟩, fun x => x.2.2⟩
          · rw [if_neg y]; exact ⟨fun x => absurd x (by decide), fun x => absurd (ty2_lt x) y⟩
        by_cases y : ty t N s2 = 2
        · rw [bI_t (eif.mpr y)]
          obtain ⟨M3, z', m1, m2, m3, m4, m5, m6⟩ := ih s2 s2 M2 (own ||| one (dv t s (nx t N s - s))) (.int (nI 0)) (by omega) hs2 hs2 hidem y k4 f70c
          refine ⟨M3, z', m1, m2, fun k a b => (m3 k a b).trans (f2 k a b), fun j x y u v => (m4 j x y u v).trans (f54 j x y u v), fun q hq => (m5 q hq).trans (f70 q hq), ?_⟩
          cases hq : fe t N f s2 (own ||| one (dv t s (nx t N s - s))) with
          | inl x => rw [hq] at m6; exact m6
          | inr x =>
            rw [hq] at m6
            obtain ⟨n1, n2, n3, n4, n5, n6, n7⟩ := m6
            exact ⟨n1, by omega, n3, n4, n5, n6.trans f17, n7⟩
        · rw [bI_f (fun x => y (eif.mp x)), w_M_readFeatures_2, if_pos (rfl : (0 : Int32) = 0)]
          have ez : fe t N f s2 (own ||| one (dv t s (nx t N s - s))) = Sum.inr (s2, own ||| one (dv t s (nx t N s - s))) := by
            cases f with
            | zero => rfl
            | succ f => rw [fe, if_neg y]
          rw [ez]
          exact ⟨M2, 0, rfl, by omega, f2, f54, f70, rfl, by omega, hs2, k4, hidem, f17, f70c⟩
