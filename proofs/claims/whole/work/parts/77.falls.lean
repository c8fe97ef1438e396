/-! the operation falls -/
def fst1 : List Nat → Int32
  | [] => -1
  | c :: _ => nI c
theorem fst1_app {T : List Nat} (h : T ≠ []) (c : Nat) : fst1 (T ++ [c]) = fst1 T := by
  cases T with
  | nil => exact absurd rfl h
  | cons a t => rfl
theorem fst1_neg {T : List Nat} (hT : ∀ c, c ∈ T → c < 40) : fst1 T < 0 ↔ T = [] := by
  cases T with
  | nil => exact ⟨fun _ => rfl, fun _ => by decide⟩
  | cons a t =>
    have := hT a List.mem_cons_self
    refine ⟨fun q => ?_, fun q => absurd q (by simp)⟩
    have q' : nI a < 0 := q
    rw [x_lt, nI_toInt (by omega)] at q'
    have e0 : (0 : Int32).toInt = 0 := by decide
    omega
theorem htF_mem {hb : Nat → Bool} {k c : Nat} (h : c ∈ htF hb k) : c < k ∧ hb c = true := by
  unfold htF at h
  rw [List.mem_filter, List.mem_range] at h; exact h
theorem c_falls_go {X : Nat × (Nat → Int32)} {M : MI} {Ml : ML} (hJ : JW M) {n p : Nat} (hn : n ≤ 40) (eM : M 54 23 = nI n) (hp : p < 12) {bb : Nat → Bool} {V : Nat → List Int32} (f2 : ∀ q, q < n → M 83 q = bI (bb q = true)) (f3 : ∀ q, q < n → bb q = true → rowA (M 76) (M 77) q (V q)) (hs : pin (M 80 p) 1073741824) (w2 w3 : Value) (b : Int32) : ∀ m k (w8 : Value), k + m = n → pdn X m_M_falls (58, [.ref 54, .int (nI p), w2, w3, .int b, .int (fst1 (htF (fun q => bb q && tkn (cl (M 3) (M 80 p)) (V q)) k)), .int (nI (htF (fun q => bb q && tkn (cl (M 3) (M 80 p)) (V q)) k).length), .int (nI k), w8], [], (sh0, M, Ml, mr0), 0, 0) = if b = 0 then some (some (.int (fst1 (htF (fun q => bb q && tkn (cl (M 3) (M 80 p)) (V q)) n))), (sh0, M, Ml, mr0)) else some (some (.int (nI (htF (fun q => bb q && tkn (cl (M 3) (M 80 p)) (V q)) n).length)), (sh0, M, Ml, mr0)) := by
  intro m
  induction m with
  | zero =>
    intro k w8 hk
    obtain rfl : k = n := by omega
    rw [w_M_falls_58, eM, if_neg (by rw [nI_lt' (by omega) (by omega)]; omega)]
  | succ m ih =>
    intro k w8 hk
    have p40 : pin (nI k) 40 := pin_nI (by omega) (by decide)
    have hsc := htF_s (fun q => bb q && tkn (cl (M 3) (M 80 p)) (V q)) k
    -- the end of a pass
    have e97 : ∀ (z : Int32) (x : Bool) (w8 : Value), z = bI (x = true) → x = (bb k && tkn (cl (M 3) (M 80 p)) (V k)) → pdn X m_M_falls (97, [.ref 54, .int (nI p), w2, w3, .int b, .int (fst1 (htF (fun q => bb q && tkn (cl (M 3) (M 80 p)) (V q)) k)), .int (nI (htF (fun q => bb q && tkn (cl (M 3) (M 80 p)) (V q)) k).length), .int (nI k), w8], [.int z], (sh0, M, Ml, mr0), 0, 0) = if b = 0 then some (some (.int (fst1 (htF (fun q => bb q && tkn (cl (M 3) (M 80 p)) (V q)) n))), (sh0, M, Ml, mr0)) else some (some (.int (nI (htF (fun q => bb q && tkn (cl (M 3) (M 80 p)) (V q)) n).length)), (sh0, M, Ml, mr0)) := by
      intro z x w8 hz hx
      rw [← ih (k + 1) (.int z) (by omega), hsc]
      cases x with
      | false =>
        rw [← hx, if_neg (by decide), List.append_nil, w_M_falls_97, hz, if_pos (bI_f (by decide)), w_M_falls_114, w_M_falls_116, if_pos (bI_f (by decide)), nI_1, show ∀ y : Int32, y + 0 = y from fun y => Int32.add_zero y]
      | true =>
        have nt : ¬ bI (true = true) = 0 := by rw [bI_t rfl]; decide
        rw [← hx, if_pos rfl, w_M_falls_97, hz, if_neg nt, w_M_falls_114, w_M_falls_116, w_M_falls_116, if_neg nt, if_neg nt, nI_1, nI_1, List.length_append]
        have hT : ∀ c, c ∈ htF (fun q => bb q && tkn (cl (M 3) (M 80 p)) (V q)) k → c < 40 := fun c hc => by have := (htF_mem hc).1; omega
        by_cases e : htF (fun q => bb q && tkn (cl (M 3) (M 80 p)) (V q)) k = []
        · rw [if_pos ((fst1_neg hT).mpr e), e]; rfl
        · rw [if_neg (fun q => e ((fst1_neg hT).mp q)), fst1_app e]; rfl
    rw [w_M_falls_58, eM, if_pos (by rw [nI_lt' (by omega) (by omega)]; omega), if_pos p40, nI_clamp (by omega), f2 k (by omega)]
    cases hb : bb k with
    | false =>
      rw [if_pos (bI_f (by decide)), w_M_falls_96]
      exact e97 0 false w8 rfl (by rw [hb]; rfl)
    | true =>
      rw [if_neg (by rw [bI_t rfl]; decide), if_pos (pin_nI hp (by decide)), nI_clamp (by omega), c_hasVersion hJ (by omega) (f3 k (by omega) hb) hs, Option.bind_some, pb_i, w_M_falls_89]
      cases ht : tkn (cl (M 3) (M 80 p)) (V k) with
      | false =>
        rw [if_pos (bI_f (by decide)), w_M_falls_96]
        exact e97 0 false w8 rfl (by rw [hb, ht]; rfl)
      | true =>
        rw [if_neg (by rw [bI_t rfl]; decide)]
        exact e97 1 true w8 rfl (by rw [hb, ht]; rfl)
theorem ls_falls {X : Nat × (Nat → Int32)} {Mi : MI} {Ml : ML} (h : Inv Mi Ml) (a b c e : Int32) : LStp Inv X m_CT_falls m_M_falls [.int a, .int b, .int c, .int e] Mi Ml := by
  obtain ⟨n, h40, e1, e2, _⟩ := h.2.2.2.2.2.2.2.2.2
  obtain ⟨nf, nf8, ef, _, hF, _⟩ := h.2.2.2.1
  obtain ⟨np, np12, ep, epM, hp⟩ := h.2.2.2.2.2.2.1
  have v1 : (Mi 41 9).toInt = (np : Int) := by rw [ep, nI_toInt (by omega)]
  by_cases h0 : pin a np
  · by_cases h3 : pin b 4
    · by_cases h4 : pin c 20001
      · by_cases h5 : pin e 2
        · obtain ⟨p, hp', rfl⟩ := pin_ex (by omega) h0
          obtain ⟨l, hl, rfl⟩ := pin_ex (by decide) h3
          obtain ⟨V, hV, _⟩ := claim_V (X := X) h e1 h40
          have cl' : (nI l).toNatClampNeg = l := nI_clamp (by omega)
          have hc : pin (nI l) 4 ∧ 0 < 46 + 2 * l ∧ 46 + 2 * l < 2000 := ⟨h3, by omega, by omega⟩
          obtain ⟨M1, g1, g2, g3, g4, g5⟩ := c_gather (X := X) (Ml := Ml) (JW_inv h) ef nf8 e1 h40 (show p < 12 by omega) hl (fun q hq => (hV q hq).1) (fun q hq => by obtain ⟨f, hf, g, _⟩ := claim_fil h e1 h40 ef nf8 hq; exact ⟨f, hf, g⟩) c
          have hI1 : Inv M1 Ml := Inv_scr2 h (fun k _ _ _ _ q5 q6 => g2 k q6 q5) g3
          have hA1 : Agr M1 Mi := fun k g => g2 k g.2.2.2.2.2.2 g.2.2.2.2.2.1
          obtain ⟨M2, t1, t2, t3, t4⟩ := c_findBites (X := X) (p := p) (V := V) (l := l) hI1 (nf := nf) (by rw [hA1 11 (by decide)]; exact ef) nf8 (n := n) (by rw [hA1 23 (by decide)]; exact e1) h40 np12 (by rw [g3]; exact ep) hp' hl (fun q hq => by rw [hA1 27 (by decide), hA1 28 (by decide)]; exact (hV q hq).1) c
          have hI2 : Inv M2 Ml := Inv_scr hI1 (fun k q1 q2 _ q4 _ => t2 k q1 q2 q4)
          obtain ⟨s1, s2, _⟩ := hp p hp'
          have e80 : M2 80 p = Mi 42 p := by rw [t2 80 (by decide) (by decide) (by decide), g2 80 (by decide) (by decide)]; exact s1.symm
          have e3 : M2 3 = Mi 3 := by rw [t2 3 (by decide) (by decide) (by decide), g2 3 (by decide) (by decide)]
          have bbq : ∀ q, bbB M1 V p l c q = bbB Mi V p l c q := fun q => by
            unfold bbB foc
            rw [thB_ag hA1, hA1 24 (by decide), frD_ag hA1 _ hl, std_ag hA1 _ hl]
          have go := c_falls_go (X := X) (Ml := Ml) (JW_inv hI2) (n := n) (p := p) (bb := bbB M1 V p l c) (V := V) h40 (by rw [t2 54 (by decide) (by decide) (by decide), g2 54 (by decide) (by decide)]; exact e2) (by omega) t3 t4 (by rw [e80]; exact s2) (.int (nI l)) (.int c) e n 0 pm_nul (by omega)
          have hbe : (fun q => bbB M1 V p l c q && tkn (cl (M2 3) (M2 80 p)) (V q)) = hbB Mi V p l c (cl (Mi 3) (Mi 42 p)) := by
            funext q; rw [bbq, e80, e3]; rfl
          rw [hbe] at go
          have sM : pD X m_M_falls [.ref 54, .int (nI p), .int (nI l), .int c, .int e] (sh0, M1, Ml, mr0) = if e = 0 then some (some (.int (fst1 (htF (hbB Mi V p l c (cl (Mi 3) (Mi 42 p))) n))), (sh0, M2, Ml, mr0)) else some (some (.int (nI (htF (hbB Mi V p l c (cl (Mi 3) (Mi 42 p))) n).length)), (sh0, M2, Ml, mr0)) := by
            rw [d_M_falls, c_isProduct (nI p) (n := np) (by omega) (by rw [g2 54 (by decide) (by decide)]; exact epM), Option.bind_some, pb_i, w_M_falls_5, bI_t h0, if_neg (by decide), c_isLand, Option.bind_some, pb_i, w_M_falls_12, bI_t h3, if_neg (by decide), c_isDayM, Option.bind_some, pb_i, w_M_falls_23, bI_t h4, if_neg (by decide), c_inP e 1 (n := 2) (by decide), Option.bind_some, pb_i, w_M_falls_34, bI_t h5, if_neg (by decide), t1, Option.bind_some, pb_i, w_M_falls_48]
            exact go
          have sC : pD X m_CT_falls [.ref 1, .int (nI p), .int (nI l), .int c, .int e] (sh0, Mi, Ml, mr0) = if e = 0 then some (some (.int (fst1 (htF (hbB Mi V p l c (cl (Mi 3) (Mi 42 p))) n))), (sh0, M1, Ml, mr0)) else some (some (.int (nI (htF (hbB Mi V p l c (cl (Mi 3) (Mi 42 p))) n).length)), (sh0, M1, Ml, mr0)) := by
            rw [d_CT_falls, c_within (nI p) (Mi 41 9) (n := np) v1, Option.bind_some, pb_i, e_CT_falls_11, bI_t h0, if_neg (by decide), c_within (nI l) 4 (n := 4) rfl, Option.bind_some, pb_i, e_CT_falls_19, bI_t h3, if_neg (by decide), c_isDay, Option.bind_some, pb_i, e_CT_falls_30, bI_t h4, if_neg (by decide), c_within e 2 (n := 2) rfl, Option.bind_some, pb_i, e_CT_falls_39, bI_t h5, if_neg (by decide), cl', land_rd l hl, if_pos hc, if_pos hc, d_Market_firstHit _ _ _ (land_ho hl), g1, Option.bind_some, pb_n, e_Market_firstHit_9 _ _ _ (land_ho hl), g4, d_Market_hits _ _ _ (land_ho hl), g1, Option.bind_some, pb_n, e_Market_hits_9 _ _ _ (land_ho hl), g4, Option.bind_some, pb_i, e_CT_falls_86]
            have hlen := htF_len (hbB Mi V p l c (cl (Mi 3) (Mi 42 p))) n
            by_cases z : e = 0
            · rw [if_pos z, if_pos z]
              generalize htF (hbB Mi V p l c (cl (Mi 3) (Mi 42 p))) n = T at *
              cases T with
              | nil => rw [if_neg (by decide), Option.bind_some, pb_i, e_CT_falls_67]; rfl
              | cons x t =>
                rw [if_pos (show (0 : Int32) < nI (x :: t).length from (nI_lt' (a := 0) (by decide) (by omega)).mpr (by rw [List.length_cons]; omega)), if_pos (by decide), show Int32.toNatClampNeg 0 = 0 from by decide, g5 0 (by rw [List.length_cons]; omega), Option.bind_some, pb_i, e_CT_falls_67]; rfl
            · rw [if_neg z, if_neg z]
          by_cases z : e = 0
          · rw [if_pos z] at sC sM; exact LS_mk sC sM hI2
          · rw [if_neg z] at sC sM; exact LS_mk sC sM hI2
        · refine LS_mk (r := -1002) (Mi1 := Mi) (Ml1 := Ml) (Mi2 := Mi) (Ml2 := Ml) ?_ ?_ h
          · rw [d_CT_falls, c_within a (Mi 41 9) (n := np) v1, Option.bind_some, pb_i, e_CT_falls_11, bI_t h0, if_neg (by decide), c_within b 4 (n := 4) rfl, Option.bind_some, pb_i, e_CT_falls_19, bI_t h3, if_neg (by decide), c_isDay, Option.bind_some, pb_i, e_CT_falls_30, bI_t h4, if_neg (by decide), c_within e 2 (n := 2) rfl, Option.bind_some, pb_i, e_CT_falls_39, if_pos (bI_f h5)]
          · rw [d_M_falls, c_isProduct a (by omega) epM, Option.bind_some, pb_i, w_M_falls_5, bI_t h0, if_neg (by decide), c_isLand, Option.bind_some, pb_i, w_M_falls_12, bI_t h3, if_neg (by decide), c_isDayM, Option.bind_some, pb_i, w_M_falls_23, bI_t h4, if_neg (by decide), c_inP e 1 (n := 2) (by decide), Option.bind_some, pb_i, w_M_falls_34, if_pos (bI_f h5)]
      · refine LS_mk (r := -1002) (Mi1 := Mi) (Ml1 := Ml) (Mi2 := Mi) (Ml2 := Ml) ?_ ?_ h
        · rw [d_CT_falls, c_within a (Mi 41 9) (n := np) v1, Option.bind_some, pb_i, e_CT_falls_11, bI_t h0, if_neg (by decide), c_within b 4 (n := 4) rfl, Option.bind_some, pb_i, e_CT_falls_19, bI_t h3, if_neg (by decide), c_isDay, Option.bind_some, pb_i, e_CT_falls_30, if_pos (bI_f h4)]
        · rw [d_M_falls, c_isProduct a (by omega) epM, Option.bind_some, pb_i, w_M_falls_5, bI_t h0, if_neg (by decide), c_isLand, Option.bind_some, pb_i, w_M_falls_12, bI_t h3, if_neg (by decide), c_isDayM, Option.bind_some, pb_i, w_M_falls_23, if_pos (bI_f h4)]
    · refine LS_mk (r := -1001) (Mi1 := Mi) (Ml1 := Ml) (Mi2 := Mi) (Ml2 := Ml) ?_ ?_ h
      · rw [d_CT_falls, c_within a (Mi 41 9) (n := np) v1, Option.bind_some, pb_i, e_CT_falls_11, bI_t h0, if_neg (by decide), c_within b 4 (n := 4) rfl, Option.bind_some, pb_i, e_CT_falls_19, if_pos (bI_f h3)]
      · rw [d_M_falls, c_isProduct a (by omega) epM, Option.bind_some, pb_i, w_M_falls_5, bI_t h0, if_neg (by decide), c_isLand, Option.bind_some, pb_i, w_M_falls_12, if_pos (bI_f h3)]
  · refine LS_mk (r := -1001) (Mi1 := Mi) (Ml1 := Ml) (Mi2 := Mi) (Ml2 := Ml) ?_ ?_ h
    · rw [d_CT_falls, c_within a (Mi 41 9) (n := np) v1, Option.bind_some, pb_i, e_CT_falls_11, if_pos (bI_f h0)]
    · rw [d_M_falls, c_isProduct a (by omega) epM, Option.bind_some, pb_i, w_M_falls_5, if_pos (bI_f h0)]
