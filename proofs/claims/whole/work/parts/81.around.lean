/-! the operation around -/
theorem c_frC {X : Nat × (Nat → Int32)} {M : MI} {Ml : ML} {n : Nat} (hn : n ≤ 40) {T : List Nat} (hT : T.length ≤ 40) (hTn : ∀ t, t < T.length → T.getD t 0 < n) {V : Nat → List Int32} (hV : ∀ q, q < n → rowA (M 27) (M 28) q (V q)) (e8 : M 41 8 = nI T.length) (e45 : ∀ i, i < T.length → M 45 i = nI (T.getD i 0)) (w1 : Value) (A : Int32) : ∀ m k, k + m = T.length → pdn X m_Market_isFree (11, [.ref 41, w1, .int A, .int (nI k)], [], (sh0, M, Ml, mr0), 0, 0) = some (some (.int (bI (allF (fun t => !tkn A (V (T.getD t 0))) m k = true))), (sh0, M, Ml, mr0)) := by
  intro m
  induction m with
  | zero =>
    intro k hk
    rw [w_Market_isFree_11, e8, if_neg (by rw [nI_lt' (by omega) (by omega)]; omega)]; rfl
  | succ m ih =>
    intro k hk
    have hkn := hTn k (by omega)
    rw [w_Market_isFree_11, e8, if_pos (by rw [nI_lt' (by omega) (by omega)]; omega), if_pos (pin_nI (by omega) (by decide)), nI_clamp (by omega), e45 k (by omega), c_takesIn (by omega) (hV _ hkn), Option.bind_some, pb_i, w_Market_isFree_33, nI_1, ih (k + 1) (by omega), allF]
    cases q : tkn A (V (T.getD k 0))
    · rw [if_pos (bI_f (by decide))]; rfl
    · rw [if_neg (by rw [bI_t rfl]; decide)]; rfl
theorem c_isFreeC {X : Nat × (Nat → Int32)} {M : MI} {Ml : ML} {n : Nat} (hn : n ≤ 40) {T : List Nat} (hT : T.length ≤ 40) (hTn : ∀ t, t < T.length → T.getD t 0 < n) {V : Nat → List Int32} (hV : ∀ q, q < n → rowA (M 27) (M 28) q (V q)) (e8 : M 41 8 = nI T.length) (e45 : ∀ i, i < T.length → M 45 i = nI (T.getD i 0)) (s : Int32) : pD X m_Market_isFree [.ref 41, .int s] (sh0, M, Ml, mr0) = some (some (.int (bI (allF (fun t => !tkn (cl (M 3) s) (V (T.getD t 0))) T.length 0 = true))), (sh0, M, Ml, mr0)) := by
  rw [d_Market_isFree, c_closed, Option.bind_some, pb_i, w_Market_isFree_8]
  exact c_frC hn hT hTn hV e8 e45 (.int s) (cl (M 3) s) T.length 0 (by omega)
theorem c_isFreeM {X : Nat × (Nat → Int32)} {M : MI} {Ml : ML} (hJ : JW M) {n : Nat} (hn : n ≤ 40) (eM : M 54 23 = nI n) {bb : Nat → Bool} {V : Nat → List Int32} (f2 : ∀ q, q < n → M 83 q = bI (bb q = true)) (f3 : ∀ q, q < n → bb q = true → rowA (M 76) (M 77) q (V q)) {s : Int32} (hs : pin s 1073741824) : ∀ m k, k + m = n → pdn X m_M_isFree (4, [.ref 54, .int s, .int 1, .int (nI k)], [], (sh0, M, Ml, mr0), 0, 0) = some (some (.int (bI (allF (fun q => !(bb q && tkn (cl (M 3) s) (V q))) m k = true))), (sh0, M, Ml, mr0)) := by
  intro m
  induction m with
  | zero =>
    intro k hk
    rw [w_M_isFree_4, eM, if_neg (by rw [nI_lt' (by omega) (by omega)]; omega), if_pos (by decide)]; rfl
  | succ m ih =>
    intro k hk
    have z : ∀ j, pdn X m_M_isFree (4, [.ref 54, .int s, .int 0, .int (nI j)], [], (sh0, M, Ml, mr0), 0, 0) = some (some (.int 0), (sh0, M, Ml, mr0)) := by
      intro j
      rw [w_M_isFree_4, if_pos (rfl : (0 : Int32) = 0), if_pos (show pm_nar 2 0 = 0 by decide)]
      split <;> rfl
    rw [w_M_isFree_4, eM, if_pos (by rw [nI_lt' (by omega) (by omega)]; omega), if_neg (show ¬ (1 : Int32) = 0 by decide), if_pos (pin_nI (by omega) (by decide)), nI_clamp (by omega), f2 k (by omega), nI_1, ih (k + 1) (by omega), allF]
    cases hb : bb k with
    | false => rw [if_pos (bI_f (by decide))]; rfl
    | true =>
      rw [if_neg (by rw [bI_t rfl]; decide), c_hasVersion hJ (by omega) (f3 k (by omega) hb) hs, Option.bind_some, pb_i, w_M_isFree_31, nI_1, z, ih (k + 1) (by omega)]
      cases q : tkn (cl (M 3) s) (V k)
      · rw [if_pos (bI_f (by decide))]; rfl
      · rw [if_neg (by rw [bI_t rfl]; decide)]; rfl
theorem c_loC {X : Nat × (Nat → Int32)} {M : MI} {Ml : ML} {l p many : Nat} (hl : l < 4) (hp : p < 12) (hmany : many ≤ 12) {L : Int32} (hL : fb_ct (bt L) 32 = many) {good : Nat → Bool} (hg : ∀ n, n < 2 ^ many → pD X m_Market_isFree [.ref 41, .int (M 42 p &&& (dep L n ^^^ (-1)))] (sh0, M, Ml, mr0) = some (some (.int (bI (good n = true))), (sh0, M, Ml, mr0))) (w2 w3 : Value) : ∀ m n (b : Int32) (fw : Nat), n + m = 2 ^ many → fw ≤ 30 → BR good cn (dep L) n b fw → ∃ (b' : Int32) (fw' : Nat), pdn X m_Market_leastOmission (44, [.ref 41, .int (nI p), w2, w3, .ref (46 + 2 * l), .int L, .int (nI (2 ^ many)), .int b, .int (nI fw), .int (dep L n), .int (nI n)], [], (sh0, M, Ml, mr0), 0, 0) = some (some (.int b'), (sh0, M, Ml, mr0)) ∧ BR good cn (dep L) (2 ^ many) b' fw' := by
  have hN := pw_le hmany
  intro m
  induction m with
  | zero =>
    intro n b fw hn hfw h
    obtain rfl : n = 2 ^ many := by omega
    exact ⟨b, fw, by rw [w_Market_leastOmission_44 _ _ _ (land_ho hl), if_neg (by rw [nI_lt' (by omega) (by omega)]; omega)], h⟩
  | succ m ih =>
    intro n b fw hn hfw h
    have hcn : cn n ≤ many := cn_le hmany (by omega)
    have ec : fb_ct (bt (dep L n)) 32 = cn n := by rw [dep_ct, hL, cn_many hmany (by omega)]
    rw [w_Market_leastOmission_44 _ _ _ (land_ho hl), if_pos (by rw [nI_lt' (by omega) (by omega)]; omega)]
    by_cases z : 0 < fw
    · rw [if_pos (show (0 : Int32) < nI fw from (nI_lt' (a := 0) (by decide) (by omega)).mpr z), c_bitCount, Option.bind_some, pb_i, w_Market_leastOmission_61 _ _ _ (land_ho hl), ec, dep_inc, nI_1, if_pos (pin_nI hp (by decide)), nI_clamp (by omega)]
      by_cases y : cn n < fw
      · rw [if_pos (by rw [nI_lt' (by omega) (by omega)]; exact y), hg n (by omega), Option.bind_some, pb_i, w_Market_leastOmission_81 _ _ _ (land_ho hl), dep_inc, nI_1]
        cases hgn : good n with
        | false =>
          rw [if_pos (bI_f (by decide))]
          exact ih (n + 1) b fw (by omega) hfw (BR_no h (by omega) (Or.inl hgn))
        | true =>
          rw [if_neg (by rw [bI_t rfl]; decide), c_bitCount, Option.bind_some, pb_i, w_Market_leastOmission_93 _ _ _ (land_ho hl), ec, dep_inc, nI_1]
          exact ih (n + 1) _ (cn n) (by omega) (by omega) (BR_yes h hgn y)
      · rw [if_neg (by rw [nI_lt' (by omega) (by omega)]; exact y)]
        exact ih (n + 1) b fw (by omega) hfw (BR_no h (by omega) (Or.inr (by omega)))
    · obtain rfl : fw = 0 := by omega
      rw [if_neg (show ¬ (0 : Int32) < nI 0 by decide)]
      exact ⟨b, 0, rfl, BR_stop h (by omega)⟩
theorem c_loM_in {X : Nat × (Nat → Int32)} {M : MI} {Ml : ML} {p many : Nat} (hp : p < 12) (hmany : many ≤ 12) {ls : Nat → Int32} (hls : ∀ n, n < 2 ^ many → pD X m_M_lookedSet [.ref 54, .int (nI n), .int (nI many)] (sh0, M, Ml, mr0) = some (some (.int (ls n)), (sh0, M, Ml, mr0))) {good : Nat → Bool} (hg : ∀ n, n < 2 ^ many → pD X m_M_isFree [.ref 54, .int (M 80 p &&& (ls n ^^^ (-1)))] (sh0, M, Ml, mr0) = some (some (.int (bI (good n = true))), (sh0, M, Ml, mr0))) (w2 w3 : Value) {size : Nat} (hsz : size ≤ many) {K : Option PRs} (hK : ∀ w6 : Value, pdn X m_M_around (55, [.ref 54, .int (nI p), w2, w3, .int (nI many), .int (nI (size + 1)), w6], [], (sh0, M, Ml, mr0), 0, 0) = K) : ∀ m n, n + m = 2 ^ many → pdn X m_M_around (65, [.ref 54, .int (nI p), w2, w3, .int (nI many), .int (nI size), .int (nI n)], [], (sh0, M, Ml, mr0), 0, 0) = match srch (rfS good cn ls size) m n with
    | some x => some (some (.int x), (sh0, M, Ml, mr0))
    | none => K := by
  have hN := pw_le hmany
  intro m
  induction m with
  | zero =>
    intro n hn
    rw [w_M_around_65, one_pw many (by omega), if_neg (by rw [nI_lt' (by omega) (by omega)]; omega), nI_1, hK]; rfl
  | succ m ih =>
    intro n hn
    have eb : fb_ct (bt (nI n)) 30 = cn n := fb_ct_cong (fun j hj => bt_nI (by omega))
    have hcn : cn n ≤ many := cn_le hmany (by omega)
    rw [w_M_around_65, one_pw many (by omega), if_pos (by rw [nI_lt' (by omega) (by omega)]; omega), c_bits, Option.bind_some, pb_i, w_M_around_79, eb, nI_1, if_pos (pin_nI hp (by decide)), nI_clamp (by omega), hls n (by omega), Option.bind_some, pb_i, w_M_around_99, hg n (by omega), Option.bind_some, pb_i, w_M_around_105, hls n (by omega), Option.bind_some, pb_i, w_M_around_116, nI_1, ih (n + 1) (by omega)]
    by_cases q : cn n = size
    · rw [if_pos (by rw [q])]
      cases hgn : good n with
      | false => rw [if_pos (bI_f (by decide)), srch_n (by unfold rfS; rw [if_neg (fun t => by rw [hgn] at t; exact absurd t.2 (by decide))])]
      | true => rw [if_neg (by rw [bI_t rfl]; decide), srch_s (x := ls n) (by unfold rfS; rw [if_pos ⟨q, hgn⟩])]
    · rw [if_neg (fun t => q ((nI_eq (by omega) (by omega)).mp t)), srch_n (by unfold rfS; rw [if_neg (fun t => q t.1)])]
theorem c_loM {X : Nat × (Nat → Int32)} {M : MI} {Ml : ML} {p many : Nat} (hp : p < 12) (hmany : many ≤ 12) {ls : Nat → Int32} (hls : ∀ n, n < 2 ^ many → pD X m_M_lookedSet [.ref 54, .int (nI n), .int (nI many)] (sh0, M, Ml, mr0) = some (some (.int (ls n)), (sh0, M, Ml, mr0))) {good : Nat → Bool} (hg : ∀ n, n < 2 ^ many → pD X m_M_isFree [.ref 54, .int (M 80 p &&& (ls n ^^^ (-1)))] (sh0, M, Ml, mr0) = some (some (.int (bI (good n = true))), (sh0, M, Ml, mr0))) (w2 w3 : Value) : ∀ m size (w6 : Value), size + m = many + 1 → pdn X m_M_around (55, [.ref 54, .int (nI p), w2, w3, .int (nI many), .int (nI size), w6], [], (sh0, M, Ml, mr0), 0, 0) = some (some (.int ((srch (fun size => srch (rfS good cn ls size) (2 ^ many) 0) m size).getD (-1))), (sh0, M, Ml, mr0)) := by
  intro m
  induction m with
  | zero =>
    intro size w6 hs
    rw [w_M_around_55, if_pos (by rw [nI_lt' (by omega) (by omega)]; omega)]; rfl
  | succ m ih =>
    intro size w6 hs
    have go := c_loM_in (X := X) (Ml := Ml) hp hmany hls hg w2 w3 (show size ≤ many by omega) (fun w6 => ih (size + 1) w6 (by omega)) (2 ^ many) 0 (by omega)
    rw [show nI 0 = 0 from rfl] at go
    rw [w_M_around_55, if_neg (by rw [nI_lt' (by omega) (by omega)]; omega), go]
    cases q : srch (rfS good cn ls size) (2 ^ many) 0 with
    | none => rw [srch_n (by exact q)]
    | some x => rw [srch_s (by exact q)]; rfl
theorem sub_set {S d : Int32} (h : pin S 1073741824) : pin (S &&& (d ^^^ (-1))) 1073741824 := hi_set (fun i _ h2 => by rw [b_and, set_hi h i h2, Bool.false_and])
theorem hb_bb {Mi : MI} {V : Nat → List Int32} {p l : Nat} {d A : Int32} {q : Nat} (h : hbB Mi V p l d A q = true) : bbB Mi V p l d q = true := by
  unfold hbB at h; rw [Bool.and_eq_true] at h; exact h.1
theorem ls_around {X : Nat × (Nat → Int32)} {Mi : MI} {Ml : ML} (h : Inv Mi Ml) (a b c : Int32) : LStp Inv X m_CT_around m_M_around [.int a, .int b, .int c] Mi Ml := by
  obtain ⟨n, h40, e1, e2, _⟩ := h.2.2.2.2.2.2.2.2.2
  obtain ⟨nf, nf8, ef, _, hF, _⟩ := h.2.2.2.1
  obtain ⟨np, np12, ep, epM, hp⟩ := h.2.2.2.2.2.2.1
  have v1 : (Mi 41 9).toInt = (np : Int) := by rw [ep, nI_toInt (by omega)]
  by_cases h0 : pin a np
  · by_cases h3 : pin b 4
    · by_cases h4 : pin c 20001
      · obtain ⟨p, hp', rfl⟩ := pin_ex (by omega) h0
        obtain ⟨l, hl, rfl⟩ := pin_ex (by decide) h3
        obtain ⟨V, hV, _⟩ := claim_V (X := X) h e1 h40
        have cl' : (nI l).toNatClampNeg = l := nI_clamp (by omega)
        have p12 : pin (nI p) 12 := pin_nI (by omega) (by decide)
        have cp : (nI p).toNatClampNeg = p := nI_clamp (by omega)
        have hc : pin (nI l) 4 ∧ 0 < 46 + 2 * l ∧ 46 + 2 * l < 2000 := ⟨h3, by omega, by omega⟩
        obtain ⟨M1, g1, g2, g3, g4, g5⟩ := c_gather (X := X) (Ml := Ml) (JW_inv h) ef nf8 e1 h40 (show p < 12 by omega) hl (fun q hq => (hV q hq).1) (fun q hq => by obtain ⟨f, hf, g, _⟩ := claim_fil h e1 h40 ef nf8 hq; exact ⟨f, hf, g⟩) c
        have hI1 : Inv M1 Ml := Inv_scr2 h (fun k _ _ _ _ q5 q6 => g2 k q6 q5) g3
        have hA1 : Agr M1 Mi := fun k g => g2 k g.2.2.2.2.2.2 g.2.2.2.2.2.1
        obtain ⟨M2, t1, t2, t3, t4⟩ := c_findBites (X := X) (p := p) (V := V) (l := l) hI1 (nf := nf) (by rw [hA1 11 (by decide)]; exact ef) nf8 (n := n) (by rw [hA1 23 (by decide)]; exact e1) h40 np12 (by rw [g3]; exact ep) hp' hl (fun q hq => by rw [hA1 27 (by decide), hA1 28 (by decide)]; exact (hV q hq).1) c
        obtain ⟨s1, s2, _⟩ := hp p hp'
        have hS := set_hi s2
        obtain ⟨L, kl1, kl2⟩ := c_lowest (X := X) (Mi := M1) (Ml := Ml) (Mi 42 p) (K := 12) (by omega)
        have hct := low_ct hS kl2
        obtain ⟨M3, u1, u2, u3⟩ := c_look (X := X) (Ml := Ml) (Mi 42 p) (K := 12) (by omega) M2
        have hI3 : Inv M3 Ml := Inv_scr hI1 (fun k q1 q2 q3 q4 _ => (u2 k q3).trans (t2 k q1 q2 q4))
        have F3 : ∀ k, k ≠ 76 → k ≠ 77 → k ≠ 78 → k ≠ 83 → k ≠ 41 → k ≠ 45 → M3 k = Mi k := fun k q1 q2 q3 q4 q5 q6 => ((u2 k q3).trans (t2 k q1 q2 q4)).trans (g2 k q5 q6)
        generalize hmany : min (fb_ct (bt (Mi 42 p)) 30) 12 = many at *
        have hm12 : many ≤ 12 := by omega
        have hls : ∀ m, m < 2 ^ many → pD X m_M_lookedSet [.ref 54, .int (nI m), .int (nI many)] (sh0, M3, Ml, mr0) = some (some (.int (dep L m)), (sh0, M3, Ml, mr0)) := fun m hm => by
          have hN := pw_le hm12
          have q := c_lookedSet (X := X) (M := M3) (Ml := Ml) (S := Mi 42 p) (L := L) (K := 12) (mask := m) (by omega) (by omega) hS (by rw [hmany]; exact u3) kl2
          rw [hmany] at q; exact q
        have bbq : ∀ q, bbB M1 V p l c q = bbB Mi V p l c q := fun q => by
          unfold bbB foc
          rw [thB_ag hA1, hA1 24 (by decide), frD_ag hA1 _ hl, std_ag hA1 _ hl]
        have hlen := htF_len (hbB Mi V p l c (cl (Mi 3) (Mi 42 p))) n
        have hgood : ∀ m, (allF (fun t => !tkn (cl (Mi 3) (Mi 42 p &&& (dep L m ^^^ (-1)))) (V ((htF (hbB Mi V p l c (cl (Mi 3) (Mi 42 p))) n).getD t 0))) (htF (hbB Mi V p l c (cl (Mi 3) (Mi 42 p))) n).length 0) = (allF (fun q => !(bbB Mi V p l c q && tkn (cl (Mi 3) (Mi 42 p &&& (dep L m ^^^ (-1)))) (V q))) n 0) := fun m => by
          rw [Bool.eq_iff_iff, allF_iff, allF_iff]
          have mo : ∀ q, tkn (cl (Mi 3) (Mi 42 p &&& (dep L m ^^^ (-1)))) (V q) = true → tkn (cl (Mi 3) (Mi 42 p)) (V q) = true := fun q => tkn_mono (cl_mono (fun i hi z => by rw [b_and, Bool.and_eq_true] at z; exact z.1))
          constructor
          · intro z q _ hq
            cases hb : bbB Mi V p l c q
            · rfl
            · cases ht : tkn (cl (Mi 3) (Mi 42 p &&& (dep L m ^^^ (-1)))) (V q)
              · rfl
              · exfalso
                have hm : q ∈ htF (hbB Mi V p l c (cl (Mi 3) (Mi 42 p))) n := by
                  unfold htF
                  rw [List.mem_filter, List.mem_range]
                  exact ⟨by omega, by unfold hbB; rw [hb, mo q ht]; rfl⟩
                obtain ⟨t, ht1, ht2⟩ := List.mem_iff_getElem.mp hm
                have := z t (by omega) (by omega)
                have eg : (htF (hbB Mi V p l c (cl (Mi 3) (Mi 42 p))) n).getD t 0 = q := by unfold List.getD; rw [List.getElem?_eq_getElem ht1, ht2]; rfl
                rw [eg, ht] at this; exact absurd this (by decide)
          · intro z t _ ht
            have hm : (htF (hbB Mi V p l c (cl (Mi 3) (Mi 42 p))) n).getD t 0 ∈ htF (hbB Mi V p l c (cl (Mi 3) (Mi 42 p))) n := by
              unfold List.getD; rw [List.getElem?_eq_getElem (by omega)]; exact List.getElem_mem _
            obtain ⟨m1, m2⟩ := htF_mem hm
            have := z ((htF (hbB Mi V p l c (cl (Mi 3) (Mi 42 p))) n).getD t 0) (Nat.zero_le _) (by omega)
            rw [hb_bb m2, Bool.true_and] at this; exact this
        have e3M : M3 3 = Mi 3 := F3 3 (by decide) (by decide) (by decide) (by decide) (by decide) (by decide)
        have e80 : M3 80 p = Mi 42 p := by rw [F3 80 (by decide) (by decide) (by decide) (by decide) (by decide) (by decide)]; exact s1.symm
        have gC : ∀ m, m < 2 ^ many → pD X m_Market_isFree [.ref 41, .int (M1 42 p &&& (dep L m ^^^ (-1)))] (sh0, M1, Ml, mr0) = some (some (.int (bI ((fun m => allF (fun q => !(bbB Mi V p l c q && tkn (cl (Mi 3) (Mi 42 p &&& (dep L m ^^^ (-1)))) (V q))) n 0) m = true))), (sh0, M1, Ml, mr0)) := fun m _ => by
          rw [hA1 42 (by decide), c_isFreeC (n := n) (V := V) h40 (by omega) (fun t ht => by
            have hm : (htF (hbB Mi V p l c (cl (Mi 3) (Mi 42 p))) n).getD t 0 ∈ htF (hbB Mi V p l c (cl (Mi 3) (Mi 42 p))) n := by
              unfold List.getD; rw [List.getElem?_eq_getElem ht]; exact List.getElem_mem _
            exact (htF_mem hm).1) (fun q hq => by rw [hA1 27 (by decide), hA1 28 (by decide)]; exact (hV q hq).1) g4 g5, hA1 3 (by decide), hgood m]
        have gM : ∀ m, m < 2 ^ many → pD X m_M_isFree [.ref 54, .int (M3 80 p &&& (dep L m ^^^ (-1)))] (sh0, M3, Ml, mr0) = some (some (.int (bI ((fun m => allF (fun q => !(bbB Mi V p l c q && tkn (cl (Mi 3) (Mi 42 p &&& (dep L m ^^^ (-1)))) (V q))) n 0) m = true))), (sh0, M3, Ml, mr0)) := fun m _ => by
          have q := c_isFreeM (X := X) (Ml := Ml) (JW_inv hI3) (n := n) (bb := bbB M1 V p l c) (V := V) h40 (by rw [F3 54 (by decide) (by decide) (by decide) (by decide) (by decide) (by decide)]; exact e2) (fun q hq => by rw [u2 83 (by decide)]; exact t3 q hq) (fun q hq hb => by rw [u2 76 (by decide), u2 77 (by decide)]; exact t4 q hq hb) (s := Mi 42 p &&& (dep L m ^^^ (-1))) (sub_set s2) n 0 (by omega)
          rw [show nI 0 = 0 from rfl] at q
          rw [e80, d_M_isFree, q, e3M, show bbB M1 V p l c = bbB Mi V p l c from funext bbq]
        obtain ⟨b', fw', cC, hBR⟩ := c_loC (X := X) (M := M1) (Ml := Ml) hl (show p < 12 by omega) hm12 (hct.trans rfl) gC (.int (nI l)) (.int c) (2 ^ many) 0 (-1) 30 (by omega) (by omega) (BR_0 _ _ _)
        have cM := c_loM (X := X) (M := M3) (Ml := Ml) (show p < 12 by omega) hm12 hls gM (.int (nI l)) (.int c) (many + 1) 0 pm_nul (by omega)
        rw [BR_rf hBR (fun m hm => cn_le hm12 hm)] at cM
        rw [show nI 0 = 0 from rfl] at cM
        rw [dep_0, show nI 0 = 0 from rfl, show nI 30 = 30 from rfl] at cC
        refine LS_mk (r := b') (Mi1 := M1) (Ml1 := Ml) (Mi2 := M3) (Ml2 := Ml) ?_ ?_ hI3
        · rw [d_CT_around, c_within (nI p) (Mi 41 9) (n := np) v1, Option.bind_some, pb_i, e_CT_around_11, bI_t h0, if_neg (by decide), c_within (nI l) 4 (n := 4) rfl, Option.bind_some, pb_i, e_CT_around_19, bI_t h3, if_neg (by decide), c_isDay, Option.bind_some, pb_i, e_CT_around_30, bI_t h4, if_neg (by decide), cl', land_rd l hl, if_pos hc, d_Market_leastOmission _ _ _ (land_ho hl), g1, Option.bind_some, pb_n, w_Market_leastOmission_9 _ _ _ (land_ho hl), if_pos p12, cp, hA1 42 (by decide), show (12 : Int32) = nI 12 from rfl, kl1, Option.bind_some, pb_i, w_Market_leastOmission_20 _ _ _ (land_ho hl), c_bitCount, Option.bind_some, pb_i, w_Market_leastOmission_28 _ _ _ (land_ho hl), hct, one_pw many (by omega), cC, Option.bind_some, pb_i, e_CT_around_49]
        · rw [d_M_around, c_isProduct (nI p) (n := np) (by omega) (by rw [g2 54 (by decide) (by decide)]; exact epM), Option.bind_some, pb_i, w_M_around_5, bI_t h0, if_neg (by decide), c_isLand, Option.bind_some, pb_i, w_M_around_12, bI_t h3, if_neg (by decide), c_isDayM, Option.bind_some, pb_i, w_M_around_23, bI_t h4, if_neg (by decide), t1, Option.bind_some, pb_i, w_M_around_37, if_pos p12, cp, t2 80 (by decide) (by decide) (by decide), g2 80 (by decide) (by decide), ← s1, show (12 : Int32) = nI 12 from rfl, u1, Option.bind_some, pb_i, w_M_around_50]
          exact cM
      · refine LS_mk (r := -1002) (Mi1 := Mi) (Ml1 := Ml) (Mi2 := Mi) (Ml2 := Ml) ?_ ?_ h
        · rw [d_CT_around, c_within a (Mi 41 9) (n := np) v1, Option.bind_some, pb_i, e_CT_around_11, bI_t h0, if_neg (by decide), c_within b 4 (n := 4) rfl, Option.bind_some, pb_i, e_CT_around_19, bI_t h3, if_neg (by decide), c_isDay, Option.bind_some, pb_i, e_CT_around_30, if_pos (bI_f h4)]
        · rw [d_M_around, c_isProduct a (by omega) epM, Option.bind_some, pb_i, w_M_around_5, bI_t h0, if_neg (by decide), c_isLand, Option.bind_some, pb_i, w_M_around_12, bI_t h3, if_neg (by decide), c_isDayM, Option.bind_some, pb_i, w_M_around_23, if_pos (bI_f h4)]
    · refine LS_mk (r := -1001) (Mi1 := Mi) (Ml1 := Ml) (Mi2 := Mi) (Ml2 := Ml) ?_ ?_ h
      · rw [d_CT_around, c_within a (Mi 41 9) (n := np) v1, Option.bind_some, pb_i, e_CT_around_11, bI_t h0, if_neg (by decide), c_within b 4 (n := 4) rfl, Option.bind_some, pb_i, e_CT_around_19, if_pos (bI_f h3)]
      · rw [d_M_around, c_isProduct a (by omega) epM, Option.bind_some, pb_i, w_M_around_5, bI_t h0, if_neg (by decide), c_isLand, Option.bind_some, pb_i, w_M_around_12, if_pos (bI_f h3)]
  · refine LS_mk (r := -1001) (Mi1 := Mi) (Ml1 := Ml) (Mi2 := Mi) (Ml2 := Ml) ?_ ?_ h
    · rw [d_CT_around, c_within a (Mi 41 9) (n := np) v1, Option.bind_some, pb_i, e_CT_around_11, if_pos (bI_f h0)]
    · rw [d_M_around, c_isProduct a (by omega) epM, Option.bind_some, pb_i, w_M_around_5, if_pos (bI_f h0)]
