/-! the operation toNarrow -/
theorem std_mem {Mi : MI} {f l : Nat} {L L' : List Int32} (h : ∀ y, y ∈ L' ↔ y ∈ L) : std Mi f l L' = std Mi f l L := all_mem h _
theorem c_laC {X : Nat × (Nat → Int32)} {M : MI} {Ml : ML} {l c many : Nat} (hl : l < 4) (hmany : many ≤ 12) {L : Int32} (hL : fb_ct (bt L) 32 = many) {good : Nat → Bool} (hg : ∀ n, n < 2 ^ many → pD X m_Judge_upholds [.ref 40, .int (nI c), .int (dep L n), .ref (46 + 2 * l)] (sh0, M, Ml, mr0) = some (some (.int (bI (good n = true))), (sh0, M, Ml, mr0))) : ∀ m n (b : Int32) (fw : Nat), n + m = 2 ^ many → fw ≤ 30 → BR good cn (dep L) n b fw → ∃ (b' : Int32) (fw' : Nat), pdn X m_Judge_leastAddition (55, [.ref 40, .int (nI c), .ref (46 + 2 * l), .int L, .int (nI (2 ^ many)), .int b, .int (nI fw), .int (dep L n), .int (nI n)], [], (sh0, M, Ml, mr0), 0, 0) = some (some (.int b'), (sh0, M, Ml, mr0)) ∧ BR good cn (dep L) (2 ^ many) b' fw' := by
  have hN := pw_le hmany
  intro m
  induction m with
  | zero =>
    intro n b fw hn hfw h
    obtain rfl : n = 2 ^ many := by omega
    exact ⟨b, fw, by rw [w_Judge_leastAddition_55 _ _ _ (land_ho hl), if_neg (by rw [nI_lt' (by omega) (by omega)]; omega)], h⟩
  | succ m ih =>
    intro n b fw hn hfw h
    have hcn : cn n ≤ many := cn_le hmany (by omega)
    have ec : fb_ct (bt (dep L n)) 32 = cn n := by rw [dep_ct, hL, cn_many hmany (by omega)]
    rw [w_Judge_leastAddition_55 _ _ _ (land_ho hl), if_pos (by rw [nI_lt' (by omega) (by omega)]; omega)]
    by_cases z : 0 < fw
    · rw [if_pos (show (0 : Int32) < nI fw from (nI_lt' (a := 0) (by decide) (by omega)).mpr z), c_bitCount, Option.bind_some, pb_i, w_Judge_leastAddition_72 _ _ _ (land_ho hl), ec, dep_inc, nI_1]
      by_cases y : cn n < fw
      · rw [if_pos (by rw [nI_lt' (by omega) (by omega)]; exact y), hg n (by omega), Option.bind_some, pb_i, w_Judge_leastAddition_85 _ _ _ (land_ho hl), dep_inc, nI_1]
        cases hgn : good n with
        | false =>
          rw [if_pos (bI_f (by decide))]
          exact ih (n + 1) b fw (by omega) hfw (BR_no h (by omega) (Or.inl hgn))
        | true =>
          rw [if_neg (by rw [bI_t rfl]; decide), c_bitCount, Option.bind_some, pb_i, w_Judge_leastAddition_97 _ _ _ (land_ho hl), ec, dep_inc, nI_1]
          exact ih (n + 1) _ (cn n) (by omega) (by omega) (BR_yes h hgn y)
      · rw [if_neg (by rw [nI_lt' (by omega) (by omega)]; exact y)]
        exact ih (n + 1) b fw (by omega) hfw (BR_no h (by omega) (Or.inr (by omega)))
    · obtain rfl : fw = 0 := by omega
      rw [if_neg (show ¬ (0 : Int32) < nI 0 by decide)]
      exact ⟨b, 0, rfl, BR_stop h (by omega)⟩
/-- the reference, one subset: it is put in, judged, and taken out again -/
def OnT (X : Nat × (Nat → Int32)) (Ml : ML) (M2 : MI) (c l many : Nat) (ls : Nat → Int32) (good : Nat → Bool) : Prop := ∀ M : MI, (∀ k, k ≠ 76 → k ≠ 77 → M k = M2 k) → ∀ n, n < 2 ^ many → pD X m_M_lookedSet [.ref 54, .int (nI n), .int (nI many)] (sh0, M, Ml, mr0) = some (some (.int (ls n)), (sh0, M, Ml, mr0)) ∧ ∃ M' : MI, pD X m_M_standing [.ref 54, .int (nI c), .int (nI l)] (sh0, pm_up M 71 c (M2 71 c ||| ls n), Ml, mr0) = some (some (.int (bI (good n = true))), (sh0, M', Ml, mr0)) ∧ ∀ k, k ≠ 76 → k ≠ 77 → M' k = pm_up M 71 c (M2 71 c ||| ls n) k
theorem c_tnM_in {X : Nat × (Nat → Int32)} {M2 : MI} {Ml : ML} {c l many : Nat} (hc : c < 40) (hmany : many ≤ 12) {ls : Nat → Int32} {good : Nat → Bool} (hO : OnT X Ml M2 c l many ls good) (w3 : Value) {size : Nat} (hsz : size ≤ many) : ∀ m n (w8 : Value) (M : MI), n + m = 2 ^ many → (∀ k, k ≠ 76 → k ≠ 77 → M k = M2 k) → ∃ (M' : MI) (w7' w8' : Value), (∀ k, k ≠ 76 → k ≠ 77 → M' k = M2 k) ∧ pdn X m_M_toNarrow (111, [.ref 54, .int (nI c), .int (nI l), w3, .int (nI many), .int (M2 71 c), .int (nI size), .int (nI n), w8], [], (sh0, M, Ml, mr0), 0, 0) = match srch (rfS good cn ls size) m n with
    | some x => some (some (.int x), (sh0, M', Ml, mr0))
    | none => pdn X m_M_toNarrow (101, [.ref 54, .int (nI c), .int (nI l), w3, .int (nI many), .int (M2 71 c), .int (nI (size + 1)), w7', w8'], [], (sh0, M', Ml, mr0), 0, 0) := by
  have hN := pw_le hmany
  have p40 : pin (nI c) 40 := pin_nI hc (by decide)
  have cc : (nI c).toNatClampNeg = c := nI_clamp (by omega)
  intro m
  induction m with
  | zero =>
    intro n w8 M hn hM
    refine ⟨M, .int (nI n), w8, hM, ?_⟩
    rw [w_M_toNarrow_111, one_pw many (by omega), if_neg (by rw [nI_lt' (by omega) (by omega)]; omega), nI_1]; rfl
  | succ m ih =>
    intro n w8 M hn hM
    have eb : fb_ct (bt (nI n)) 30 = cn n := fb_ct_cong (fun j hj => bt_nI (by omega))
    have hcn : cn n ≤ many := cn_le hmany (by omega)
    obtain ⟨l1, M1, l2, l3⟩ := hO M hM n (by omega)
    rw [w_M_toNarrow_111, one_pw many (by omega), if_pos (by rw [nI_lt' (by omega) (by omega)]; omega), c_bits, Option.bind_some, pb_i, w_M_toNarrow_125, eb]
    by_cases q : cn n = size
    · have hB : ∀ k, k ≠ 76 → k ≠ 77 → pm_up M1 71 c (M2 71 c) k = M2 k := by
        intro k a1 a2
        by_cases e : k = 71
        · subst e
          funext j
          by_cases ej : j = c
          · rw [ej, up_ok]
          · rw [up_kk ej, l3 71 (by decide) (by decide), up_kk ej, hM 71 (by decide) (by decide)]
        · rw [up_off e, l3 k a1 a2, up_off e]; exact hM k a1 a2
      rw [if_pos (by rw [q]), l1, Option.bind_some, pb_i, w_M_toNarrow_145, if_pos p40, cc, l2, Option.bind_some, pb_i, w_M_toNarrow_153, if_pos p40, cc, nI_1]
      cases hgn : good n with
      | false =>
        rw [if_pos (bI_f (by decide)), srch_n (by unfold rfS; rw [if_neg (fun t => by rw [hgn] at t; exact absurd t.2 (by decide))])]
        exact ih (n + 1) _ (pm_up M1 71 c (M2 71 c)) (by omega) hB
      | true =>
        obtain ⟨l4, _⟩ := hO (pm_up M1 71 c (M2 71 c)) hB n (by omega)
        refine ⟨pm_up M1 71 c (M2 71 c), pm_nul, pm_nul, hB, ?_⟩
        rw [if_neg (by rw [bI_t rfl]; decide), l4, Option.bind_some, pb_i, w_M_toNarrow_176, srch_s (x := ls n) (by unfold rfS; rw [if_pos ⟨q, hgn⟩])]
    · rw [if_neg (fun t => q ((nI_eq (by omega) (by omega)).mp t)), nI_1, srch_n (by unfold rfS; rw [if_neg (fun t => q t.1)])]
      exact ih (n + 1) _ M (by omega) hM
theorem c_tnM {X : Nat × (Nat → Int32)} {M2 : MI} {Ml : ML} {c l many : Nat} (hc : c < 40) (hmany : many ≤ 12) {ls : Nat → Int32} {good : Nat → Bool} (hO : OnT X Ml M2 c l many ls good) (w3 : Value) : ∀ m size (w7 w8 : Value) (M : MI), size + m = many + 1 → (∀ k, k ≠ 76 → k ≠ 77 → M k = M2 k) → ∃ M' : MI, (∀ k, k ≠ 76 → k ≠ 77 → M' k = M2 k) ∧ pdn X m_M_toNarrow (101, [.ref 54, .int (nI c), .int (nI l), w3, .int (nI many), .int (M2 71 c), .int (nI size), w7, w8], [], (sh0, M, Ml, mr0), 0, 0) = some (some (.int ((srch (fun size => srch (rfS good cn ls size) (2 ^ many) 0) m size).getD (-1))), (sh0, M', Ml, mr0)) := by
  intro m
  induction m with
  | zero =>
    intro size w7 w8 M hs hM
    exact ⟨M, hM, by rw [w_M_toNarrow_101, if_pos (by rw [nI_lt' (by omega) (by omega)]; omega)]; rfl⟩
  | succ m ih =>
    intro size w7 w8 M hs hM
    obtain ⟨M1, w7', w8', g1, g2⟩ := c_tnM_in (X := X) (Ml := Ml) hc hmany hO w3 (show size ≤ many by omega) (2 ^ many) 0 w8 M (by omega) hM
    rw [show nI 0 = 0 from rfl] at g2
    rw [w_M_toNarrow_101, if_neg (by rw [nI_lt' (by omega) (by omega)]; omega), g2]
    cases q : srch (rfS good cn ls size) (2 ^ many) 0 with
    | none =>
      rw [srch_n (by exact q)]
      exact ih (size + 1) w7' w8' M1 (by omega) g1
    | some x =>
      exact ⟨M1, g1, by rw [srch_s (by exact q)]; rfl⟩
theorem ls_toNarrow {X : Nat × (Nat → Int32)} {Mi : MI} {Ml : ML} (h : Inv Mi Ml) (a b : Int32) : LStp Inv X m_CT_toNarrow m_M_toNarrow [.int a, .int b] Mi Ml := by
  obtain ⟨n, h40, e1, e2, _⟩ := h.2.2.2.2.2.2.2.2.2
  obtain ⟨nf, nf8, ef, _, hF, _⟩ := h.2.2.2.1
  have w2 : n < 2 ^ 31 := by omega
  have w1 : (Mi 23 9).toInt = (n : Int) := by rw [e1, nI_toInt w2]
  by_cases h1 : pin a n
  · by_cases h3 : pin b 4
    · obtain ⟨c, hc, rfl⟩ := pin_ex w2 h1
      obtain ⟨l, hl, rfl⟩ := pin_ex (by decide) h3
      obtain ⟨R, hR, f0, _, _, _, hM⟩ := claim_rows (X := X) h e1 h40 hc
      obtain ⟨f, hf, g24, g69⟩ := claim_fil h e1 h40 ef nf8 hc
      obtain ⟨M1, t1, t2, t3⟩ := hM Mi (fun _ _ _ _ _ _ => rfl)
      obtain ⟨i1, i2, _⟩ := hF f hf
      have p40 : pin (nI c) 40 := pin_nI (by omega) (by decide)
      have cc : (nI c).toNatClampNeg = c := nI_clamp (by omega)
      have p8 : pin (nI f) 8 := pin_nI (by omega) (by decide)
      have cf : (nI f).toNatClampNeg = f := nI_clamp (by omega)
      have cl' : (nI l).toNatClampNeg = l := nI_clamp (by omega)
      have hcc : pin (nI l) 4 ∧ 0 < 46 + 2 * l ∧ 46 + 2 * l < 2000 := ⟨h3, by omega, by omega⟩
      have hJ := JW_inv h
      generalize hS : Mi 12 f &&& (cmn 1073741823 R ^^^ (-1)) = S
      have hS2 : Mi 12 f &&& (cmn (-1) R ^^^ (-1)) = S := by rw [← hS]; exact (cmn_eq i2 R).symm
      have pS : pin S 1073741824 := by rw [← hS]; exact sub_set i2
      have hSh := set_hi pS
      obtain ⟨L, kl1, kl2⟩ := c_lowest (X := X) (Mi := Mi) (Ml := Ml) S (K := 8) (by omega)
      have hct := low_ct hSh kl2
      obtain ⟨M2, u1, u2, u3⟩ := c_look (X := X) (Ml := Ml) S (K := 8) (by omega) M1
      generalize hmany : min (fb_ct (bt S) 30) 8 = many at *
      have hm12 : many ≤ 12 := by omega
      have F2 : ∀ k, (k ≠ 76 ∧ k ≠ 77 ∧ k ≠ 78 ∧ k ≠ 83 ∧ k ≠ 45) → M2 k = Mi k := fun k g => (u2 k g.2.2.1).trans (t2 k g.1 g.2.1)
      have hI2 : Inv M2 Ml := Inv_scr h (fun k q1 q2 q3 q4 q5 => F2 k ⟨q1, q2, q3, q4, q5⟩)
      have gC : ∀ m, m < 2 ^ many → pD X m_Judge_upholds [.ref 40, .int (nI c), .int (dep L m), .ref (46 + 2 * l)] (sh0, Mi, Ml, mr0) = some (some (.int (bI ((fun m => std Mi f l (R.map (fun s => s ||| dep L m))) m = true))), (sh0, Mi, Ml, mr0)) := fun m _ => c_upholds hJ ef nf8 hf hl (by omega) hR g24 (dep L m)
      have e71 : M2 71 c = Mi 71 c := by rw [F2 71 (by decide)]
      have hO : OnT X Ml M2 c l many (dep L) (fun m => std Mi f l (R.map (fun s => s ||| dep L m))) := by
        intro M hMM m hm
        have hN := pw_le hm12
        have F : ∀ k, (k ≠ 76 ∧ k ≠ 77 ∧ k ≠ 78 ∧ k ≠ 83 ∧ k ≠ 45) → M k = Mi k := fun k g => (hMM k g.1 g.2.1).trans (F2 k g)
        refine ⟨?_, ?_⟩
        · have q := c_lookedSet (X := X) (M := M) (Ml := Ml) (S := S) (L := L) (K := 8) (mask := m) (by omega) (by omega) hSh (by
            rw [hmany]
            intro k hk
            obtain ⟨i, h1, h2, h3, h4⟩ := u3 k hk
            exact ⟨i, h1, by rw [hMM 78 (by decide) (by decide)]; exact h2, h3, h4⟩) kl2
          rw [hmany] at q; exact q
        · obtain ⟨M', L', z, v1, v2, v3, v4⟩ := nar_row (X := X) h e1 h40 hc hR (dep L m) M F
          rw [e71]
          have hAg : Agr M' Mi := fun k g => ((v2 k g.2.1 g.2.2.1).trans (up_off g.1)).trans (F k ⟨g.2.1, g.2.2.1, g.2.2.2.1, g.2.2.2.2.1, g.2.2.2.2.2.1⟩)
          have k2 := c_stand_go (X := X) (Ml := Ml) (JW_ag hJ hAg) (nf := nf) (f := f) (l := l) (c := c) (by rw [hAg 11 (by decide)]; exact ef) nf8 hf hl (by omega) v3 (by rw [hAg 69 (by decide)]; exact g69) L'.length 0 pm_nul (by omega)
          rw [List.drop_zero, std_ag hAg f hl, show nI 0 = 0 from rfl, std_mem v4] at k2
          refine ⟨M', ?_, v2⟩
          rw [d_M_standing, if_pos p40, cc, up_off (show (69 : Nat) ≠ 71 by decide), F 69 (by decide), v1, Option.bind_some, pb_i, w_M_standing_10, k2]
      obtain ⟨b', fw', cC, hBR⟩ := c_laC (X := X) (M := Mi) (Ml := Ml) (c := c) hl hm12 hct gC (2 ^ many) 0 (-1) 30 (by omega) (by omega) (BR_0 _ _ _)
      obtain ⟨M3, x1, cM⟩ := c_tnM (X := X) (Ml := Ml) (show c < 40 by omega) hm12 hO (.int (cmn (-1) R)) (many + 1) 0 pm_nul pm_nul M2 (by omega) (fun _ _ _ => rfl)
      rw [BR_rf hBR (fun m hm => cn_le hm12 hm), show nI 0 = 0 from rfl, e71] at cM
      rw [dep_0, show nI 0 = 0 from rfl, show nI 30 = 30 from rfl] at cC
      have hI3 : Inv M3 Ml := Inv_scr hI2 (fun k q1 q2 _ _ _ => x1 k q1 q2)
      have kin := c_inAll (X := X) (Ml := Ml) (Mi := Mi) (show c < 40 by omega) hR R.length 0 1073741823 (by omega)
      have kcm := c_cmnM (X := X) (Ml := Ml) (M := M1) (show c < 40 by omega) t3 (nI l) pm_nul pm_nul pm_nul pm_nul R.length 0 (-1) (by omega)
      rw [List.drop_zero, show nI 0 = 0 from rfl] at kin kcm
      have h8 := t3.2.1
      refine LS_mk (r := b') (Mi1 := Mi) (Ml1 := Ml) (Mi2 := M3) (Ml2 := Ml) ?_ ?_ hI3
      · rw [d_CT_toNarrow, c_within (nI c) (Mi 23 9) (n := n) w1, Option.bind_some, pb_i, e_CT_toNarrow_11, bI_t h1, if_neg (by decide), c_within (nI l) 4 (n := 4) rfl, Option.bind_some, pb_i, e_CT_toNarrow_19, bI_t h3, if_neg (by decide), cl', land_rd l hl, if_pos hcc, d_Judge_leastAddition _ _ _ (land_ho hl), if_pos p40, cc, g24, if_pos p8, cf, d_Claims_inAllVersions, kin, Option.bind_some, pb_i, w_Judge_leastAddition_25 _ _ _ (land_ho hl), hS, show (8 : Int32) = nI 8 from rfl, kl1, Option.bind_some, pb_i, w_Judge_leastAddition_33 _ _ _ (land_ho hl), c_bitCount, Option.bind_some, pb_i, w_Judge_leastAddition_39 _ _ _ (land_ho hl), hct, one_pw many (by omega), cC, Option.bind_some, pb_i, e_CT_toNarrow_40]
      · rw [d_M_toNarrow, c_isClaim (nI c) w2 e2, Option.bind_some, pb_i, w_M_toNarrow_5, bI_t h1, if_neg (by decide), c_isLand, Option.bind_some, pb_i, w_M_toNarrow_12, bI_t h3, if_neg (by decide), if_pos p40, cc, t1, Option.bind_some, pb_i, w_M_toNarrow_29, kcm, w_M_toNarrow_35, if_pos p40, cc, t3.1, if_neg (by rw [nI_lt' (by omega) (by omega)]; omega), if_pos p40, t2 69 (by decide) (by decide), g69, if_pos p8, cf, t2 60 (by decide) (by decide), ← i1, hS2, show (8 : Int32) = nI 8 from rfl, u1, Option.bind_some, pb_i, w_M_toNarrow_88, if_pos p40, cc, e71]
        exact cM
    · refine LS_mk (r := -1001) (Mi1 := Mi) (Ml1 := Ml) (Mi2 := Mi) (Ml2 := Ml) ?_ ?_ h
      · rw [d_CT_toNarrow, c_within a (Mi 23 9) (n := n) w1, Option.bind_some, pb_i, e_CT_toNarrow_11, bI_t h1, if_neg (by decide), c_within b 4 (n := 4) rfl, Option.bind_some, pb_i, e_CT_toNarrow_19, if_pos (bI_f h3)]
      · rw [d_M_toNarrow, c_isClaim a w2 e2, Option.bind_some, pb_i, w_M_toNarrow_5, bI_t h1, if_neg (by decide), c_isLand, Option.bind_some, pb_i, w_M_toNarrow_12, if_pos (bI_f h3)]
  · refine LS_mk (r := -1001) (Mi1 := Mi) (Ml1 := Ml) (Mi2 := Mi) (Ml2 := Ml) ?_ ?_ h
    · rw [d_CT_toNarrow, c_within a (Mi 23 9) (n := n) w1, Option.bind_some, pb_i, e_CT_toNarrow_11, if_pos (bI_f h1)]
    · rw [d_M_toNarrow, c_isClaim a w2 e2, Option.bind_some, pb_i, w_M_toNarrow_5, if_pos (bI_f h1)]
