/-! CLAIMS: one clause, the class -/
def pv (V : Nat → List Int32) (ps : List Nat) : List (List Int32) := (List.range ps.length).map (fun j => V (ps.getD j 0))
def ccl (t : Nat → Int32) (N n k : Nat) (V : Nat → List Int32) (s : Nat) : Sum (Nat × Nat) (Nat × Int32 × List Nat × List Int32) := if wdl t N s = [99, 108, 97, 105, 109] then (if n + k < 40 then (match fe0 t N (rnT isp t N (nx t N s)) with
    | Sum.inl x => Sum.inl x
    | Sum.inr (s2, own) => match (if wdl t N s2 = [111, 102] then pa t N n k N s2 [] else Sum.inr (s2, [])) with
      | Sum.inl x => Sum.inl x
      | Sum.inr (s3, ps) => if s3 < N ∧ t s3 = 59 then (match bldv (own ||| 0) (pv V ps) with
        | none => Sum.inl (5, s3)
        | some l => Sum.inr (rnT isp t N (s3 + 1), own, ps, l)) else Sum.inl (1, s3)) else Sum.inl (6, s)) else Sum.inl (1, s)
/-- what a clause may change in the class -/
def UCC (N c st : Nat) (M M' : MI) (Ml Ml' : ML) : Prop := (∀ k, (k ≠ 34 ∧ k ≠ 36 ∧ k ≠ 24 ∧ k ≠ 25 ∧ k ≠ 26 ∧ k ≠ 27 ∧ k ≠ 28 ∧ k ≠ 30 ∧ k ≠ 31 ∧ k ≠ 32) → M' k = M k) ∧ M' 34 1 = nI N ∧ M' 36 3 = M 36 3 ∧ (∀ q, q ≠ c → M' 24 q = M 24 q ∧ M' 25 q = M 25 q ∧ M' 26 q = M 26 q ∧ M' 27 q = M 27 q ∧ M' 30 q = M 30 q ∧ M' 31 q = M 31 q ∧ Ml' 29 q = Ml 29 q) ∧ (∀ i, (i < 8 * c ∨ 8 * c + 8 ≤ i) → M' 28 i = M 28 i) ∧ (∀ j, j < st → M' 32 j = M 32 j) ∧ ∀ k, k ≠ 29 → Ml' k = Ml k
theorem UCC_tr {N c st : Nat} {M M1 M2 : MI} {Ml Ml1 Ml2 : ML} (h : UCC N c st M M1 Ml Ml1) (h2 : UCC N c st M1 M2 Ml1 Ml2) : UCC N c st M M2 Ml Ml2 := by
  refine ⟨fun k g => (h2.1 k g).trans (h.1 k g), h2.2.1, h2.2.2.1.trans h.2.2.1, fun q hq => ?_, fun i hi => (h2.2.2.2.2.1 i hi).trans (h.2.2.2.2.1 i hi), fun j hj => (h2.2.2.2.2.2.1 j hj).trans (h.2.2.2.2.2.1 j hj), fun k hk => (h2.2.2.2.2.2.2 k hk).trans (h.2.2.2.2.2.2 k hk)⟩
  obtain ⟨a1, a2, a3, a4, a5, a6, a7⟩ := h.2.2.2.1 q hq
  obtain ⟨b1, b2, b3, b4, b5, b6, b7⟩ := h2.2.2.2.1 q hq
  exact ⟨b1.trans a1, b2.trans a2, b3.trans a3, b4.trans a4, b5.trans a5, b6.trans a6, b7.trans a7⟩
theorem UCC_34 {N c st : Nat} {M M' : MI} {Ml : ML} (h : U34 N M M') : UCC N c st M M' Ml Ml := ⟨fun k g => h.1 k g.1, h.2, by rw [h.1 36 (by decide)], fun q _ => by rw [h.1 24 (by decide), h.1 25 (by decide), h.1 26 (by decide), h.1 27 (by decide), h.1 30 (by decide), h.1 31 (by decide)]; exact ⟨rfl, rfl, rfl, rfl, rfl, rfl, rfl⟩, fun i _ => by rw [h.1 28 (by decide)], fun j _ => by rw [h.1 32 (by decide)], fun _ _ => rfl⟩
theorem UCC_fa {N c st : Nat} {M : MI} {Ml : ML} (h1 : M 34 1 = nI N) (v : Int32) : UCC N c st M (pm_up M 36 2 v) Ml Ml := ⟨fun k g => up_off g.2.1, by rw [up_off (by decide)]; exact h1, by rw [up_kk (by decide)], fun q _ => by rw [up_off (by decide), up_off (by decide), up_off (by decide), up_off (by decide), up_off (by decide), up_off (by decide)]; exact ⟨rfl, rfl, rfl, rfl, rfl, rfl, rfl⟩, fun i _ => by rw [up_off (by decide)], fun j _ => by rw [up_off (by decide)], fun _ _ => rfl⟩
theorem UCC_fe {N c st : Nat} {M M' : MI} {Ml : ML} (h : UFC N c M M') : UCC N c st M M' Ml Ml := by
  obtain ⟨h1, h2, h3, h4⟩ := h
  exact ⟨fun k g => h1 k g.1 g.2.1 g.2.2.2.1, h2, h3, fun q hq => by rw [h1 24 (by decide) (by decide) (by decide), h4 q hq, h1 26 (by decide) (by decide) (by decide), h1 27 (by decide) (by decide) (by decide), h1 30 (by decide) (by decide) (by decide), h1 31 (by decide) (by decide) (by decide)]; exact ⟨rfl, rfl, rfl, rfl, rfl, rfl, rfl⟩, fun i _ => by rw [h1 28 (by decide) (by decide) (by decide)], fun j _ => by rw [h1 32 (by decide) (by decide) (by decide)], fun _ _ => rfl⟩
theorem UCC_pa {N c st : Nat} {M M' : MI} {Ml Ml' : ML} (h : UPC N c st M M' Ml Ml') : UCC N c st M M' Ml Ml' := by
  obtain ⟨h1, h2, h3, h4, h5, h6, h7⟩ := h
  exact ⟨fun k g => h1 k g.1 g.2.1 g.2.2.2.2.2.2.2.2.1 g.2.2.2.2.2.2.2.2.2, h2, h3, fun q hq => by rw [h1 24 (by decide) (by decide) (by decide) (by decide), h1 25 (by decide) (by decide) (by decide) (by decide), h1 26 (by decide) (by decide) (by decide) (by decide), h1 27 (by decide) (by decide) (by decide) (by decide), h1 30 (by decide) (by decide) (by decide) (by decide), h4 q hq, h7 q hq]; exact ⟨rfl, rfl, rfl, rfl, rfl, rfl, rfl⟩, fun i _ => by rw [h1 28 (by decide) (by decide) (by decide) (by decide)], h5, h6⟩
theorem nI_40 {a : Nat} (h : a ≤ 40) : nI a < 40 ↔ a < 40 := nI_lt' (b := 40) (by omega) (by decide)
theorem c_ccC {X : Nat × (Nat → Int32)} {M : MI} {Ml : ML} {t : Nat → Int32} {N n k s st fi : Nat} {V : Nat → List Int32} (hN : N ≤ 200) (hc : n + k ≤ 40) (hs : s ≤ N) (hT : Tok t N M s) (h1 : M 34 1 = nI N) (ht : ∀ j, j < N → M 35 j = t j) (h36 : M 36 3 = nI k) (h23 : M 23 9 = nI n) (hrow : ∀ q, n ≤ q → q < n + k → rowA (M 27) (M 28) q (V q)) (hst0 : n + k = 0 → st = 0) (hst1 : 0 < n + k → M 31 (n + k - 1) = nI st) (hst : n + k < 40 → st + (n + k) ≤ 800) : ∃ (M' : MI) (Ml' : ML) (z : Nat), pD X m_ClaimReader_readClause [.ref 36, .int (nI fi)] (sh0, M, Ml, mr0) = some (some (.int (nI z)), (sh0, M', Ml', mr0)) ∧ z ≤ 6 ∧ UCC N (n + k) st M M' Ml Ml' ∧ match ccl t N n k V s with
    | Sum.inl (c', pl) => z = c' ∧ 0 < z ∧ M' 36 2 = nI pl
    | Sum.inr (s', own, ps, l) => z = 0 ∧ Tok t N M' s' ∧ s < s' ∧ s' ≤ N ∧ M' 36 2 = M 36 2 ∧ n + k < 40 ∧ M' 24 (n + k) = nI fi ∧ M' 25 (n + k) = own ∧ M' 26 (n + k) = 0 ∧ PLk ps n (n + k) ∧ PCl M' Ml' (n + k) st ps ∧ rowA (M' 27) (M' 28) (n + k) l ∧ bldv (own ||| 0) (pv V ps) = some l := by
  have ec : nI n + nI k = nI (n + k) := nI_add n k
  rw [d_ClaimReader_readClause, c_iw0 hN hs hT ht, Option.bind_some, pb_i, w_ClaimReader_readClause_9]
  unfold ccl
  by_cases q0 : wdl t N s = [99, 108, 97, 105, 109]
  · rw [if_pos q0, if_neg (by rw [bI_t q0]; decide), d_Claims_isFull, h36, h23, ec]
    by_cases q1 : n + k < 40
    · have p40 : pin (nI (n + k)) 40 := pin_nI q1 (by decide)
      have cc : (nI (n + k)).toNatClampNeg = n + k := nI_clamp (by omega)
      have hty : ty t N s = 1 := by
        by_cases q : ty t N s = 1
        · exact q
        · rw [wdl_no q] at q0; exact absurd q0 (by simp)
      have hlt : s < N := (ty_1.mp hty).1
      have hn := nx_le t hs
      have hgt := nx_gt hlt (t := t)
      rw [if_pos q1, if_pos ((nI_40 hc).mpr q1), Option.bind_some, pb_i, w_ClaimReader_readClause_29, if_pos (rfl : (0 : Int32) = 0), h36]
      -- the draft begins
      have bd : ∃ (M1 : MI) (Ml1 : ML), pD X m_Claims_beginDraft [.ref 23, .int (nI k), .int (nI fi)] (sh0, M, Ml, mr0) = some (none, (sh0, M1, Ml1, mr0)) ∧ UCC N (n + k) st M M1 Ml Ml1 ∧ M1 34 = M 34 ∧ M1 35 = M 35 ∧ M1 36 = M 36 ∧ M1 23 = M 23 ∧ M1 24 (n + k) = nI fi ∧ M1 25 (n + k) = 0 ∧ M1 26 (n + k) = 0 ∧ M1 27 = M 27 ∧ M1 28 = M 28 ∧ PCl M1 Ml1 (n + k) st [] := by
        have fin : ∀ v : Int32, v = nI st → ∃ (M1 : MI) (Ml1 : ML), pdn X m_Claims_beginDraft (56, [.ref 23, .int (nI k), .int (nI fi), .int (nI (n + k))], [.int v, .int (nI (n + k)), .ref 30], (sh0, pm_up (pm_up (pm_up M 24 (n + k) (nI fi)) 25 (n + k) 0) 26 (n + k) 0, pm_up Ml 29 (n + k) 0, mr0), 0, 0) = some (none, (sh0, M1, Ml1, mr0)) ∧ UCC N (n + k) st M M1 Ml Ml1 ∧ M1 34 = M 34 ∧ M1 35 = M 35 ∧ M1 36 = M 36 ∧ M1 23 = M 23 ∧ M1 24 (n + k) = nI fi ∧ M1 25 (n + k) = 0 ∧ M1 26 (n + k) = 0 ∧ M1 27 = M 27 ∧ M1 28 = M 28 ∧ PCl M1 Ml1 (n + k) st [] := by
          intro v hv
          rw [e_Claims_beginDraft_56, if_pos p40, if_pos p40, if_pos p40, cc, hv]
          have fr : ∀ j, j ≠ 24 → j ≠ 25 → j ≠ 26 → j ≠ 30 → j ≠ 31 → pm_up (pm_up (pm_up (pm_up (pm_up M 24 (n + k) (nI fi)) 25 (n + k) 0) 26 (n + k) 0) 30 (n + k) (nI st)) 31 (n + k) (pm_up (pm_up (pm_up (pm_up M 24 (n + k) (nI fi)) 25 (n + k) 0) 26 (n + k) 0) 30 (n + k) (nI st) 30 (n + k)) j = M j := fun j a b c d e => by rw [up_off e, up_off d, up_off c, up_off b, up_off a]
          refine ⟨_, _, rfl, ⟨fun j g => fr j g.2.2.1 g.2.2.2.1 g.2.2.2.2.1 g.2.2.2.2.2.2.2.1 g.2.2.2.2.2.2.2.2.1, by rw [fr 34 (by decide) (by decide) (by decide) (by decide) (by decide)]; exact h1, by rw [fr 36 (by decide) (by decide) (by decide) (by decide) (by decide)], fun q hq => ⟨?_, ?_, ?_, ?_, ?_, ?_, ?_⟩, fun i _ => by rw [fr 28 (by decide) (by decide) (by decide) (by decide) (by decide)], fun j _ => by rw [fr 32 (by decide) (by decide) (by decide) (by decide) (by decide)], fun j hj => up_off hj⟩, fr 34 (by decide) (by decide) (by decide) (by decide) (by decide), fr 35 (by decide) (by decide) (by decide) (by decide) (by decide), fr 36 (by decide) (by decide) (by decide) (by decide) (by decide), fr 23 (by decide) (by decide) (by decide) (by decide) (by decide), ?_, ?_, ?_, fr 27 (by decide) (by decide) (by decide) (by decide) (by decide), fr 28 (by decide) (by decide) (by decide) (by decide) (by decide), ?_, ?_, ?_, ?_⟩
          · rw [up_off (by decide), up_off (by decide), up_off (by decide), up_off (by decide), up_kk hq]
          · rw [up_off (by decide), up_off (by decide), up_off (by decide), up_kk hq, up_off (by decide)]
          · rw [up_off (by decide), up_off (by decide), up_kk hq, up_off (by decide), up_off (by decide)]
          · rw [fr 27 (by decide) (by decide) (by decide) (by decide) (by decide)]
          · rw [up_off (by decide), up_kk hq, up_off (by decide), up_off (by decide), up_off (by decide)]
          · rw [up_kk hq, up_off (by decide), up_off (by decide), up_off (by decide), up_off (by decide)]
          · rw [up_kk hq]
          · rw [up_off (by decide), up_off (by decide), up_off (by decide), up_off (by decide), up_ok]
          · rw [up_off (by decide), up_off (by decide), up_off (by decide), up_ok]
          · rw [up_off (by decide), up_off (by decide), up_ok]
          · rw [up_off (by decide), up_ok]
          · rw [up_ok, up_ok]; rfl
          · intro j hj; exact absurd hj (Nat.not_lt_zero j)
          · intro p hp
            rw [up_ok, l_0]
            exact ⟨fun z => absurd z (by decide), fun ⟨x, hx, _⟩ => absurd hx (by simp)⟩
        rw [d_Claims_beginDraft, h23, ec, if_pos p40, if_pos p40, if_pos p40, if_pos p40, cc]
        by_cases z0 : n + k = 0
        · rw [if_pos (show nI (n + k) = 0 by rw [z0]; rfl)]
          exact fin 0 (by rw [hst0 z0]; rfl)
        · have em : nI (n + k) - 1 = nI (n + k - 1) := nI_subN (b := 1) (by omega)
          rw [if_neg (show ¬ nI (n + k) = 0 from fun z => z0 ((nI_is (m := 0) rfl (by omega) (by decide)).mp z)), em, if_pos (pin_nI (by omega) (by decide)), nI_clamp (by omega)]
          refine fin _ ?_
          exact hst1 (by omega)
      obtain ⟨M1, Ml1, g1, U1, b34, b35, b36, b23, b24, b25, b26, b27, b28, bP⟩ := bd
      obtain ⟨M2, k1, k2, k3⟩ := c_step (X := X) (Ml := Ml1) (t := t) (p := nx t N s) (M := M1) hN hn (by rw [b34]; exact h1) (by rw [b34]; exact hT.2.2.1) (fun j hj => by rw [b35]; exact ht j hj)
      have hs1 := rnT_le isp t hn
      have hs1g := rnT_ge isp t N (nx t N s)
      generalize rnT isp t N (nx t N s) = s1 at *
      have U2 := UCC_tr U1 (UCC_34 (c := n + k) (st := st) (Ml := Ml1) k2)
      have ht2 : ∀ j, j < N → M2 35 j = t j := fun j hj => by rw [k2.1 35 (by decide), b35]; exact ht j hj
      obtain ⟨M3, z, m1, m2, m3, m4⟩ := c_fe0C (X := X) (Ml := Ml1) (t := t) (n := n) (k := k) (M := M2) hN q1 hs1 k3 k2.2 ht2 (by rw [k2.1 36 (by decide), b36]; exact h36) (by rw [k2.1 23 (by decide), b23]; exact h23) (by rw [k2.1 25 (by decide)]; exact b25)
      have U3 := UCC_tr U2 (UCC_fe (st := st) (Ml := Ml1) m3)
      rw [g1, Option.bind_some, pb_n, w_ClaimReader_readClause_51, k1, Option.bind_some, pb_n, w_ClaimReader_readClause_58, m1, Option.bind_some, pb_i, w_ClaimReader_readClause_62]
      cases hfe : fe0 t N s1 with
      | inl x =>
        obtain ⟨c', pl⟩ := x
        rw [hfe] at m4
        obtain ⟨rfl, z0, z1⟩ := m4
        have hnz : ¬ nI z = 0 := fun y => by have := (nI_is (m := 0) rfl (by omega) (by decide)).mp y; omega
        refine ⟨M3, Ml1, z, ?_, by omega, U3, rfl, z0, z1⟩
        rw [if_neg hnz, w_ClaimReader_readClause_84, if_neg hnz]
      | inr x =>
        obtain ⟨s2, own⟩ := x
        rw [hfe] at m4
        obtain ⟨rfl, hT3, hs2g, hs2, e362, e25⟩ := m4
        have ht3 : ∀ j, j < N → M3 35 j = t j := fun j hj => by rw [m3.1 35 (by decide) (by decide) (by decide)]; exact ht2 j hj
        have e36 : M3 36 3 = nI k := by rw [m3.2.2.1, k2.1 36 (by decide), b36]; exact h36
        have e23 : M3 23 9 = nI n := by rw [m3.1 23 (by decide) (by decide) (by decide), k2.1 23 (by decide), b23]; exact h23
        have f3 : ∀ j, j ≠ 34 → j ≠ 36 → j ≠ 25 → M3 j = M1 j := fun j a b e => (m3.1 j a b e).trans (k2.1 j a)
        have P3 : PCl M3 Ml1 (n + k) st [] := PCl_fr bP (f3 30 (by decide) (by decide) (by decide)) (f3 31 (by decide) (by decide) (by decide)) (f3 32 (by decide) (by decide) (by decide))
        have e362' : M3 36 2 = M 36 2 := by rw [e362, k2.1 36 (by decide), b36]
        rw [if_pos (show nI 0 = 0 from rfl), c_iw1 hN hs2 hT3 ht3, Option.bind_some, pb_i, w_ClaimReader_readClause_76]
        -- behind the parents
        have tail : ∀ (M4 : MI) (Ml4 : ML) (s3 : Nat) (ps : List Nat), UCC N (n + k) st M M4 Ml Ml4 → Tok t N M4 s3 → s < s3 → s3 ≤ N → (∀ j, j < N → M4 35 j = t j) → M4 36 2 = M 36 2 → M4 36 3 = nI k → M4 23 9 = nI n → M4 24 (n + k) = nI fi → M4 25 (n + k) = own → M4 26 (n + k) = 0 → M4 27 = M 27 → M4 28 = M 28 → PLk ps n (n + k) → PCl M4 Ml4 (n + k) st ps → ∀ w1 : Value, ∃ (M' : MI) (Ml' : ML) (z : Nat), pdn X m_ClaimReader_readClause (84, [.ref 36, w1, .int 0], [], (sh0, M4, Ml4, mr0), 0, 0) = some (some (.int (nI z)), (sh0, M', Ml', mr0)) ∧ z ≤ 6 ∧ UCC N (n + k) st M M' Ml Ml' ∧ match (if s3 < N ∧ t s3 = 59 then (match bldv (own ||| 0) (pv V ps) with
              | none => Sum.inl (5, s3)
              | some l => Sum.inr (rnT isp t N (s3 + 1), own, ps, l)) else Sum.inl (1, s3) : Sum (Nat × Nat) (Nat × Int32 × List Nat × List Int32)) with
            | Sum.inl (c', pl) => z = c' ∧ 0 < z ∧ M' 36 2 = nI pl
            | Sum.inr (s', own', ps', l) => z = 0 ∧ Tok t N M' s' ∧ s < s' ∧ s' ≤ N ∧ M' 36 2 = M 36 2 ∧ n + k < 40 ∧ M' 24 (n + k) = nI fi ∧ M' 25 (n + k) = own' ∧ M' 26 (n + k) = 0 ∧ PLk ps' n (n + k) ∧ PCl M' Ml' (n + k) st ps' ∧ rowA (M' 27) (M' 28) (n + k) l ∧ bldv (own' ||| 0) (pv V ps') = some l := by
          intro M4 Ml4 s3 ps U4 hT4 hs3g hs3 ht4 x362 x36 x23 x24 x25 x26 x27 x28 hP hC w1
          rw [w_ClaimReader_readClause_84, if_pos (rfl : (0 : Int32) = 0), c_isSign hN hT4 ht4 (x := 59) (by decide) (by decide), Option.bind_some, pb_i, w_ClaimReader_readClause_99]
          by_cases y : s3 < N ∧ t s3 = 59
          · rw [if_neg (by rw [bI_t y]; decide), if_pos y, d_Claims_endDraft, x23, x36, ec]
            obtain ⟨M5, n1, n2, l, n3, n4⟩ := c_build (X := X) (M := M4) (Ml := Ml4) (c := n + k) (np := ps.length) (s := st) q1 (by have := PLk_len hP; have := hst q1; omega) (fun j => ps.getD j 0) V (fun j hj => (hP.1 _ (memn_getD.mpr ⟨j, hj, rfl⟩)).2) hC.1 hC.2.1 hC.2.2.1 (fun j hj => by
              have := hP.1 (ps.getD j 0) (memn_getD.mpr ⟨j, hj, rfl⟩)
              rw [x27, x28]; exact hrow _ this.1 this.2)
            rw [x25, x26] at n1 n4
            have n1' : pD X m_Claims_build [.ref 23, .int (nI (n + k))] (sh0, M4, Ml4, mr0) = some (some (.int (bI ((bldv (own ||| 0) (pv V ps)).isSome = true))), (sh0, M5, Ml4, mr0)) := n1
            have n4' : ∀ l', bldv (own ||| 0) (pv V ps) = some l' → l = l' := n4
            have f5 : ∀ j, j ≠ 27 → j ≠ 28 → M5 j = M4 j := fun j a b => n2.1 j a b
            have U5 : UCC N (n + k) st M4 M5 Ml4 Ml4 := ⟨fun j g => f5 j g.2.2.2.2.2.1 g.2.2.2.2.2.2.1, by rw [f5 34 (by decide) (by decide)]; exact U4.2.1, by rw [f5 36 (by decide) (by decide)], fun q hq => by rw [f5 24 (by decide) (by decide), f5 25 (by decide) (by decide), f5 26 (by decide) (by decide), n2.2.1 q hq, f5 30 (by decide) (by decide), f5 31 (by decide) (by decide)]; exact ⟨rfl, rfl, rfl, rfl, rfl, rfl, rfl⟩, n2.2.2, fun j _ => by rw [f5 32 (by decide) (by decide)], fun _ _ => rfl⟩
            have U05 := UCC_tr U4 U5
            rw [n1', Option.bind_some, pb_i, e_Claims_endDraft_10, if_pos (bI_nar _), Option.bind_some, pb_i, w_ClaimReader_readClause_119]
            cases hb : bldv (own ||| 0) (pv V ps) with
            | none =>
              rw [if_pos (bI_f (by decide)), d_ClaimReader_faulty, Option.bind_some, pb_i, w_ClaimReader_readClause_127]
              exact ⟨_, Ml4, 5, rfl, by omega, UCC_tr U05 (UCC_fa U05.2.1 _), rfl, by omega, by rw [up_ok, f5 34 (by decide) (by decide)]; exact hT4.1⟩
            | some l2 =>
              have el : l = l2 := n4' l2 hb
              have ty3 : ty t N s3 = 3 := ty_3.mpr ⟨y.1, by rw [y.2]; decide, by rw [y.2]; decide⟩
              obtain ⟨M6, r1, r2, r3⟩ := c_step (X := X) (Ml := Ml4) (t := t) (p := s3 + 1) (M := M5) hN (by omega) U05.2.1 (by rw [f5 34 (by decide) (by decide), hT4.2.2.1, nx_s ty3]) (fun j hj => by rw [f5 35 (by decide) (by decide)]; exact ht4 j hj)
              have hs5 := rnT_le isp t (show s3 + 1 ≤ N by omega)
              have hs5g := rnT_ge isp t N (s3 + 1)
              rw [if_neg (by rw [bI_t (show (some l2).isSome = true from rfl)]; decide), r1, Option.bind_some, pb_n, w_ClaimReader_readClause_135]
              refine ⟨M6, Ml4, 0, rfl, by omega, UCC_tr U05 (UCC_34 r2), rfl, r3, by omega, hs5, ?_, q1, ?_, ?_, ?_, hP, ?_, ?_, hb⟩
              · rw [r2.1 36 (by decide), f5 36 (by decide) (by decide)]; exact x362
              · rw [r2.1 24 (by decide), f5 24 (by decide) (by decide)]; exact x24
              · rw [r2.1 25 (by decide), f5 25 (by decide) (by decide)]; exact x25
              · rw [r2.1 26 (by decide), f5 26 (by decide) (by decide)]; exact x26
              · exact PCl_fr (PCl_fr hC (f5 30 (by decide) (by decide)) (f5 31 (by decide) (by decide)) (f5 32 (by decide) (by decide))) (r2.1 30 (by decide)) (r2.1 31 (by decide)) (r2.1 32 (by decide))
              · rw [r2.1 27 (by decide), r2.1 28 (by decide), ← el]; exact n3
          · rw [if_pos (bI_f y), if_neg y, d_ClaimReader_faulty, Option.bind_some, pb_i, w_ClaimReader_readClause_107]
            exact ⟨_, Ml4, 1, rfl, by omega, UCC_tr U4 (UCC_fa U4.2.1 _), rfl, by omega, by rw [up_ok]; exact hT4.1⟩
        show ∃ (M' : MI) (Ml' : ML) (z : Nat), _ ∧ z ≤ 6 ∧ UCC N (n + k) st M M' Ml Ml' ∧ match (match (if wdl t N s2 = [111, 102] then pa t N n k N s2 [] else Sum.inr (s2, []) : Sum (Nat × Nat) (Nat × List Nat)) with
            | Sum.inl x => Sum.inl x
            | Sum.inr (s3, ps) => if s3 < N ∧ t s3 = 59 then (match bldv (own ||| 0) (pv V ps) with
              | none => Sum.inl (5, s3)
              | some l => Sum.inr (rnT isp t N (s3 + 1), own, ps, l)) else Sum.inl (1, s3) : Sum (Nat × Nat) (Nat × Int32 × List Nat × List Int32)) with
          | Sum.inl (c', pl) => z = c' ∧ 0 < z ∧ M' 36 2 = nI pl
          | Sum.inr (s', own', ps', l) => z = 0 ∧ Tok t N M' s' ∧ s < s' ∧ s' ≤ N ∧ M' 36 2 = M 36 2 ∧ n + k < 40 ∧ M' 24 (n + k) = nI fi ∧ M' 25 (n + k) = own' ∧ M' 26 (n + k) = 0 ∧ PLk ps' n (n + k) ∧ PCl M' Ml' (n + k) st ps' ∧ rowA (M' 27) (M' 28) (n + k) l ∧ bldv (own' ||| 0) (pv V ps') = some l
        by_cases qo : wdl t N s2 = [111, 102]
        · have hty2 : ty t N s2 = 1 := by
            by_cases q : ty t N s2 = 1
            · exact q
            · rw [wdl_no q] at qo; exact absurd qo (by simp)
          have hlt2 : s2 < N := (ty_1.mp hty2).1
          obtain ⟨M4, Ml4, z, r1, r2, r3, r4⟩ := c_paC (X := X) (t := t) (n := n) (k := k) (st := st) hN q1 (hst q1) N s2 0 M3 Ml1 [] (by omega) (by omega) hlt2 hT3 m3.2.1 ht3 e36 e23 (PLk_nil n (n + k)) P3
          have U4 := UCC_tr U3 (UCC_pa r3)
          rw [if_neg (by rw [bI_t qo]; decide), d_ClaimReader_readParents]
          rw [show pdn X m_ClaimReader_readParents (4, [.ref 36, .int 1, .int 0], [], (sh0, M3, Ml1, mr0), 0, 0) = _ from r1, Option.bind_some, pb_i, w_ClaimReader_readClause_83, if_pos qo]
          cases hpa : pa t N n k N s2 [] with
          | inl x =>
            obtain ⟨c', pl⟩ := x
            rw [hpa] at r4
            obtain ⟨rfl, z0, z1⟩ := r4
            exact ⟨M4, Ml4, z, by rw [w_ClaimReader_readClause_84, if_neg (show ¬ nI z = 0 from fun y => by have := (nI_is (m := 0) rfl (by omega) (by decide)).mp y; omega)], by omega, U4, rfl, z0, z1⟩
          | inr x =>
            obtain ⟨s3, ps⟩ := x
            rw [hpa] at r4
            obtain ⟨rfl, y1, y2, y3, y4, y5, y6⟩ := r4
            have f4 : ∀ j, j ≠ 34 → j ≠ 36 → j ≠ 31 → j ≠ 32 → j ≠ 25 → M4 j = M1 j := fun j a b c d e => (r3.1 j a b c d).trans (f3 j a b e)
            exact tail M4 Ml4 s3 ps U4 y1 (by omega) y3 (fun j hj => by rw [r3.1 35 (by decide) (by decide) (by decide) (by decide)]; exact ht3 j hj) (by rw [y4]; exact e362') (by rw [r3.2.2.1]; exact e36) (by rw [r3.1 23 (by decide) (by decide) (by decide) (by decide)]; exact e23) (by rw [f4 24 (by decide) (by decide) (by decide) (by decide) (by decide)]; exact b24) (by rw [r3.1 25 (by decide) (by decide) (by decide) (by decide)]; exact e25) (by rw [f4 26 (by decide) (by decide) (by decide) (by decide) (by decide)]; exact b26) (by rw [f4 27 (by decide) (by decide) (by decide) (by decide) (by decide)]; exact b27) (by rw [f4 28 (by decide) (by decide) (by decide) (by decide) (by decide)]; exact b28) y5 y6 (.int (nI fi))
        · rw [if_pos (bI_f qo), if_neg qo]
          exact tail M3 Ml1 s2 [] U3 hT3 (by omega) hs2 ht3 e362' e36 e23 (by rw [f3 24 (by decide) (by decide) (by decide)]; exact b24) e25 (by rw [f3 26 (by decide) (by decide) (by decide)]; exact b26) (by rw [f3 27 (by decide) (by decide) (by decide)]; exact b27) (by rw [f3 28 (by decide) (by decide) (by decide)]; exact b28) (PLk_nil n (n + k)) P3 (.int (nI fi))
    · rw [if_neg q1, if_neg (fun z => q1 ((nI_40 hc).mp z)), Option.bind_some, pb_i, w_ClaimReader_readClause_29, if_neg (show ¬ (1 : Int32) = 0 by decide), d_ClaimReader_faulty, Option.bind_some, pb_i, w_ClaimReader_readClause_38]
      exact ⟨_, Ml, 6, rfl, by omega, UCC_fa h1 _, rfl, by omega, by rw [up_ok]; exact hT.1⟩
  · rw [if_neg q0, if_pos (bI_f q0), d_ClaimReader_faulty, Option.bind_some, pb_i, w_ClaimReader_readClause_17]
    exact ⟨_, Ml, 1, rfl, by omega, UCC_fa h1 _, rfl, by omega, by rw [up_ok]; exact hT.1⟩
