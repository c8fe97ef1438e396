/-! THE MARKET: gathering (class), bites (reference) -/
theorem Inv_scr2 {Mi Mi' : MI} {Ml : ML} (h : Inv Mi Ml) (f : ∀ k, k ≠ 76 → k ≠ 77 → k ≠ 78 → k ≠ 83 → k ≠ 45 → k ≠ 41 → Mi' k = Mi k) (f41 : Mi' 41 9 = Mi 41 9) : Inv Mi' Ml := by
  have F := fun k (q : k ≠ 76 ∧ k ≠ 77 ∧ k ≠ 78 ∧ k ≠ 83 ∧ k ≠ 45 ∧ k ≠ 41) => f k q.1 q.2.1 q.2.2.1 q.2.2.2.1 q.2.2.2.2.1 q.2.2.2.2.2
  unfold Inv at h ⊢
  rw [F 55 (by decide), F 3 (by decide), F 4 (by decide), F 2 (by decide), F 8 (by decide), F 56 (by decide), F 5 (by decide), F 54 (by decide), F 9 (by decide), F 6 (by decide), F 7 (by decide), F 10 (by decide), F 57 (by decide), F 58 (by decide), F 59 (by decide), F 11 (by decide), F 12 (by decide), F 13 (by decide), F 14 (by decide), F 15 (by decide), F 18 (by decide), F 19 (by decide), F 20 (by decide), F 21 (by decide), F 60 (by decide), F 61 (by decide), F 62 (by decide), F 63 (by decide), F 64 (by decide), F 65 (by decide), F 34 (by decide), F 35 (by decide), F 68 (by decide), F 1 (by decide), f41, F 42 (by decide), F 43 (by decide), F 44 (by decide), F 80 (by decide), F 81 (by decide), F 82 (by decide), F 47 (by decide), F 49 (by decide), F 51 (by decide), F 53 (by decide), F 66 (by decide), F 22 (by decide), F 79 (by decide), F 23 (by decide), F 16 (by decide), F 17 (by decide), F 74 (by decide), F 75 (by decide), F 24 (by decide), F 69 (by decide), F 25 (by decide), F 70 (by decide), F 26 (by decide), F 71 (by decide), F 27 (by decide), F 28 (by decide), F 30 (by decide), F 31 (by decide), F 32 (by decide), F 72 (by decide), F 73 (by decide)]
  exact h
theorem thB_ag {M Mi : MI} (F : Agr M Mi) (p l : Nat) (d : Int32) : thB M p l d = thB Mi p l d := by
  unfold thB; rw [F 43 (by decide), F 44 (by decide)]
theorem frD_ag {M Mi : MI} (F : Agr M Mi) (f : Nat) {l : Nat} (hl : l < 4) (d : Int32) : frD M f l d = frD Mi f l d := by
  unfold frD; rw [F 14 (by decide), F 22 (by decide), F (46 + 2 * l + 1) (by omega)]
def foc (Mi : MI) (q : Nat) : Nat := (Mi 24 q).toNatClampNeg
def bbB (Mi : MI) (V : Nat → List Int32) (p l : Nat) (d : Int32) (q : Nat) : Bool := thB Mi p l d && (frD Mi (foc Mi q) l d && std Mi (foc Mi q) l (V q))
def hbB (Mi : MI) (V : Nat → List Int32) (p l : Nat) (d A : Int32) (q : Nat) : Bool := bbB Mi V p l d q && tkn A (V q)
def htF (hb : Nat → Bool) (k : Nat) : List Nat := (List.range k).filter hb
theorem htF_s (hb : Nat → Bool) (k : Nat) : htF hb (k + 1) = htF hb k ++ (if hb k = true then [k] else []) := by
  unfold htF
  rw [List.range_succ, List.filter_append]
  congr 1
  by_cases q : hb k = true
  · rw [if_pos q]; simp [List.filter, q]
  · rw [if_neg q]
    cases r : hb k
    · simp [List.filter, r]
    · exact absurd r q
theorem htF_len (hb : Nat → Bool) (k : Nat) : (htF hb k).length ≤ k := by
  unfold htF
  have := List.length_filter_le hb (List.range k)
  rw [List.length_range] at this; exact this
theorem gDn_app {l : List Nat} {s : Nat} {i : Nat} (h : i < l.length) : (l ++ [s]).getD i 0 = l.getD i 0 := by
  unfold List.getD; rw [List.getElem?_append_left h]
theorem gDn_end (l : List Nat) (s : Nat) : (l ++ [s]).getD l.length 0 = s := by
  unfold List.getD; rw [List.getElem?_append_right (Nat.le_refl _)]; simp
theorem c_gath_go {X : Nat × (Nat → Int32)} {Mi : MI} {Ml : ML} (h : JW Mi) {nf n p l : Nat} (ef : Mi 11 11 = nI nf) (hnf : nf ≤ 8) (en : Mi 23 9 = nI n) (hn : n ≤ 40) (hp : p < 12) (hl : l < 4) {V : Nat → List Int32} (hV : ∀ q, q < n → rowA (Mi 27) (Mi 28) q (V q)) (hfo : ∀ q, q < n → ∃ f, f < nf ∧ Mi 24 q = nI f) (d A : Int32) : ∀ m k (M : MI), k + m = n → (∀ j, j ≠ 41 → j ≠ 45 → M j = Mi j) → M 41 9 = Mi 41 9 → M 41 8 = nI (htF (hbB Mi V p l d A) k).length → (∀ i, i < (htF (hbB Mi V p l d A) k).length → M 45 i = nI ((htF (hbB Mi V p l d A) k).getD i 0)) → ∃ M' : MI, pdn X m_Market_gather (23, [.ref 41, .int (nI p), .int (nI l), .int d, .ref (46 + 2 * l), .int A, .int (nI k)], [], (sh0, M, Ml, mr0), 0, 0) = some (none, (sh0, M', Ml, mr0)) ∧ (∀ j, j ≠ 41 → j ≠ 45 → M' j = Mi j) ∧ M' 41 9 = Mi 41 9 ∧ M' 41 8 = nI (htF (hbB Mi V p l d A) n).length ∧ (∀ i, i < (htF (hbB Mi V p l d A) n).length → M' 45 i = nI ((htF (hbB Mi V p l d A) n).getD i 0)) := by
  intro m
  induction m with
  | zero =>
    intro k M hk f1 f2 f3 f4
    obtain rfl : k = n := by omega
    refine ⟨M, ?_, f1, f2, f3, f4⟩
    rw [w_Market_gather_23 _ _ _ (land_ho hl), f1 23 (by decide) (by decide), en, if_neg (by rw [nI_lt' (by omega) (by omega)]; omega)]
  | succ m ih =>
    intro k M hk f1 f2 f3 f4
    have hA : Agr M Mi := fun j g => f1 j g.2.2.2.2.2.2 g.2.2.2.2.2.1
    obtain ⟨f, hf, e24⟩ := hfo k (by omega)
    have fk : foc Mi k = f := by unfold foc; rw [e24, nI_clamp (by omega)]
    have t := c_hitBy (X := X) (Ml := Ml) (JW_ag h hA) (nf := nf) (f := f) (L := V k) (by rw [hA 11 (by decide)]; exact ef) hnf hf hl (show k < 40 by omega) hp (by rw [hA 27 (by decide), hA 28 (by decide)]; exact hV k (by omega)) (by rw [hA 24 (by decide)]; exact e24) d A
    rw [thB_ag hA, frD_ag hA f hl, std_ag hA f hl] at t
    have hb : (((thB Mi p l d && frD Mi f l d) && tkn A (V k)) && std Mi f l (V k)) = hbB Mi V p l d A k := by
      unfold hbB bbB
      rw [fk]
      cases thB Mi p l d <;> cases frD Mi f l d <;> cases tkn A (V k) <;> cases std Mi f l (V k) <;> rfl
    rw [hb] at t
    rw [w_Market_gather_23 _ _ _ (land_ho hl), f1 23 (by decide) (by decide), en, if_pos (by rw [nI_lt' (by omega) (by omega)]; omega), t, Option.bind_some, pb_i, w_Market_gather_48 _ _ _ (land_ho hl), nI_1]
    have hs := htF_s (hbB Mi V p l d A) k
    have hlen := htF_len (hbB Mi V p l d A) k
    by_cases z : hbB Mi V p l d A k = true
    · rw [if_pos z] at hs
      rw [if_neg (by rw [bI_t z]; decide), f3, if_pos (pin_nI (by omega) (by decide)), nI_clamp (by omega)]
      refine ih (k + 1) _ (by omega) (fun j q1 q2 => by rw [up_off q1, up_off q2]; exact f1 j q1 q2) ?_ ?_ (fun i hi => ?_)
      · rw [up_kk (by decide), up_off (by decide)]; exact f2
      · rw [up_ok, hs, List.length_append, nI_1]; rfl
      · rw [up_off (by decide)]
        rw [hs] at hi ⊢
        rw [List.length_append] at hi
        have hi' : i < (htF (hbB Mi V p l d A) k).length + 1 := hi
        by_cases e : i = (htF (hbB Mi V p l d A) k).length
        · subst e; rw [up_ok, gDn_end]
        · rw [up_kk e, f4 i (by omega), gDn_app (by omega)]
    · rw [if_neg z, List.append_nil] at hs
      rw [if_pos (bI_f z)]
      exact ih (k + 1) M (by omega) f1 f2 (by rw [hs]; exact f3) (by rw [hs]; exact f4)
theorem c_gather {X : Nat × (Nat → Int32)} {Mi : MI} {Ml : ML} (h : JW Mi) {nf n p l : Nat} (ef : Mi 11 11 = nI nf) (hnf : nf ≤ 8) (en : Mi 23 9 = nI n) (hn : n ≤ 40) (hp : p < 12) (hl : l < 4) {V : Nat → List Int32} (hV : ∀ q, q < n → rowA (Mi 27) (Mi 28) q (V q)) (hfo : ∀ q, q < n → ∃ f, f < nf ∧ Mi 24 q = nI f) (d : Int32) : ∃ M' : MI, pD X m_Market_gather [.ref 41, .int (nI p), .int (nI l), .int d, .ref (46 + 2 * l)] (sh0, Mi, Ml, mr0) = some (none, (sh0, M', Ml, mr0)) ∧ (∀ j, j ≠ 41 → j ≠ 45 → M' j = Mi j) ∧ M' 41 9 = Mi 41 9 ∧ M' 41 8 = nI (htF (hbB Mi V p l d (cl (Mi 3) (Mi 42 p))) n).length ∧ (∀ i, i < (htF (hbB Mi V p l d (cl (Mi 3) (Mi 42 p))) n).length → M' 45 i = nI ((htF (hbB Mi V p l d (cl (Mi 3) (Mi 42 p))) n).getD i 0)) := by
  rw [d_Market_gather _ _ _ (land_ho hl), if_pos (pin_nI hp (by decide)), nI_clamp (by omega), c_closed, Option.bind_some, pb_i, w_Market_gather_18 _ _ _ (land_ho hl)]
  exact c_gath_go h ef hnf en hn hp hl hV hfo d (cl (Mi 3) (Mi 42 p)) n 0 (pm_up Mi 41 8 0) (by omega) (fun j q1 q2 => by rw [up_off q1]) (by rw [up_kk (by decide)]) (by rw [up_ok]; rfl) (fun i hi => absurd hi (by simp [htF]))
theorem claim_V2 {X : Nat × (Nat → Int32)} {Mi : MI} {Ml : ML} (h : Inv Mi Ml) {n : Nat} (e : Mi 23 9 = nI n) (hn : n ≤ 40) {V : Nat → List Int32} (hV : ∀ q, q < n → rowA (Mi 27) (Mi 28) q (V q)) : ∀ c, c < n → ∀ M : MI, (∀ k, k ≠ 76 → k ≠ 77 → k ≠ 78 → k ≠ 83 → k ≠ 45 → M k = Mi k) → ∃ M' : MI, pD X m_M_findAll [.ref 54, .int (Mi 69 c)] (sh0, M, Ml, mr0) = some (some (.int 1), (sh0, M', Ml, mr0)) ∧ (∀ k, k ≠ 76 → k ≠ 77 → M' k = M k) ∧ rowA (M' 76) (M' 77) c (V c) ∧ ∀ q, q < n → rowA (M 76) (M 77) q (V q) → rowA (M' 76) (M' 77) q (V q) := by
  obtain ⟨V', hV', hM⟩ := claim_V (X := X) h e hn
  have e : ∀ q, q < n → V' q = V q := fun q hq => row_one (hV' q hq).1 (hV q hq)
  intro c hc M hf
  obtain ⟨M', t1, t2, t3, t4⟩ := hM c hc M hf
  exact ⟨M', t1, t2, e c hc ▸ t3, fun q hq r => e q hq ▸ t4 q hq (by rw [e q hq]; exact r)⟩
theorem nb0 : vp_nar .boolean 0 = 0 := by decide +kernel
theorem nb1 : vp_nar .boolean 1 = 1 := by decide +kernel
theorem c_fb_go {X : Nat × (Nat → Int32)} {Mi : MI} {Ml : ML} (h : Inv Mi Ml) {nf n p l : Nat} (ef : Mi 11 11 = nI nf) (hnf : nf ≤ 8) (en : Mi 23 9 = nI n) (hn : n ≤ 40) (hl : l < 4) {V : Nat → List Int32} (hV : ∀ q, q < n → rowA (Mi 27) (Mi 28) q (V q)) (w1 : Value) (d : Int32) : ∀ m k (M : MI), k + m = n → (∀ j, j ≠ 76 → j ≠ 77 → j ≠ 83 → M j = Mi j) → (∀ q, q < k → M 83 q = bI (bbB Mi V p l d q = true)) → (∀ q, q < k → bbB Mi V p l d q = true → rowA (M 76) (M 77) q (V q)) → ∃ M' : MI, pdn X m_M_findBites (34, [.ref 54, w1, .int (nI l), .int d, .int (bI (thB Mi p l d = true)), .int (nI k)], [], (sh0, M, Ml, mr0), 0, 0) = some (some (.int (bI (thB Mi p l d = true))), (sh0, M', Ml, mr0)) ∧ (∀ j, j ≠ 76 → j ≠ 77 → j ≠ 83 → M' j = Mi j) ∧ (∀ q, q < n → M' 83 q = bI (bbB Mi V p l d q = true)) ∧ (∀ q, q < n → bbB Mi V p l d q = true → rowA (M' 76) (M' 77) q (V q)) := by
  have hC := h.2.2.2.2.2.2.2.2.2
  obtain ⟨n', h40, e1, e2, _⟩ := hC
  obtain rfl : n' = n := (nI_eq (by omega) (by omega)).mp (e1.symm.trans en)
  intro m
  induction m with
  | zero =>
    intro k M hk f1 f2 f3
    obtain rfl : k = n' := by omega
    refine ⟨M, ?_, f1, f2, f3⟩
    rw [w_M_findBites_34, f1 54 (by decide) (by decide) (by decide), e2, if_neg (by rw [nI_lt' (by omega) (by omega)]; omega), if_pos (bI_nar _)]
  | succ m ih =>
    intro k M hk f1 f2 f3
    have p40 : pin (nI k) 40 := pin_nI (by omega) (by decide)
    have ck : (nI k).toNatClampNeg = k := nI_clamp (by omega)
    obtain ⟨f, hf, g24, g69⟩ := claim_fil h en hn ef hnf (show k < n' by omega)
    have fk : foc Mi k = f := by unfold foc; rw [g24, nI_clamp (by omega)]
    -- what one pass comes to, by its answer
    have stp : ∀ (x : Bool) (M1 : MI), x = bbB Mi V p l d k → (∀ j, j ≠ 76 → j ≠ 77 → j ≠ 83 → M1 j = Mi j) → (∀ q, q < k → M1 83 q = bI (bbB Mi V p l d q = true)) → (∀ q, q < k → bbB Mi V p l d q = true → rowA (M1 76) (M1 77) q (V q)) → (x = true → rowA (M1 76) (M1 77) k (V k)) → ∃ M' : MI, pdn X m_M_findBites (34, [.ref 54, w1, .int (nI l), .int d, .int (bI (thB Mi p l d = true)), .int (nI (k + 1))], [], (sh0, (pm_up M1 83 k (bI (x = true))), Ml, mr0), 0, 0) = some (some (.int (bI (thB Mi p l d = true))), (sh0, M', Ml, mr0)) ∧ (∀ j, j ≠ 76 → j ≠ 77 → j ≠ 83 → M' j = Mi j) ∧ (∀ q, q < n' → M' 83 q = bI (bbB Mi V p l d q = true)) ∧ (∀ q, q < n' → bbB Mi V p l d q = true → rowA (M' 76) (M' 77) q (V q)) := by
      intro x M1 hx g1 g2 g3 g4
      refine ih (k + 1) _ (by omega) (fun j q1 q2 q3 => by rw [up_off q3]; exact g1 j q1 q2 q3) (fun q hq => ?_) (fun q hq hb => ?_)
      · by_cases e : q = k
        · subst e; rw [up_ok, hx]
        · rw [up_kk e]; exact g2 q (by omega)
      · rw [up_off (by decide), up_off (by decide)]
        by_cases e : q = k
        · subst e; exact g4 (by rw [hx]; exact hb)
        · exact g3 q (by omega) hb
    have e85 : ∀ (M1 : MI) (z : Int32) (x : Bool), vp_nar .boolean z = bI (x = true) → pdn X m_M_findBites (85, [.ref 54, w1, .int (nI l), .int d, .int (bI (thB Mi p l d = true)), .int (nI k)], [.int z, .int (nI k), .ref 83], (sh0, M1, Ml, mr0), 0, 0) = pdn X m_M_findBites (34, [.ref 54, w1, .int (nI l), .int d, .int (bI (thB Mi p l d = true)), .int (nI (k + 1))], [], (sh0, (pm_up M1 83 k (bI (x = true))), Ml, mr0), 0, 0) := by
      intro M1 z x hz
      rw [w_M_findBites_85, if_pos p40, ck, nI_1, hz]
    rw [w_M_findBites_34, f1 54 (by decide) (by decide) (by decide), e2, if_pos (by rw [nI_lt' (by omega) (by omega)]; omega)]
    cases hth : thB Mi p l d with
    | false =>
      rw [hth] at e85 stp
      rw [if_pos (bI_f (by decide)), w_M_findBites_84, e85 M 0 false nb0]
      exact stp false M (by unfold bbB; rw [hth]; rfl) f1 f2 f3 (fun q => absurd q (by decide))
    | true =>
      rw [hth] at e85 stp
      have g61 : Mi 61 f = Mi 14 f := by
        obtain ⟨nf', _, ef', _, hF, _⟩ := h.2.2.2.1
        obtain rfl : nf' = nf := (nI_eq (by omega) (by omega)).mp (ef'.symm.trans ef)
        exact ((hF f hf).2.2.2.1).symm
      have g79 := (h.2.2.2.2.2.2.2.2.1 (4 * f + l) (by omega)).1
      have g66 := (IR_at h.2.2.2.2.2.2.2.1 hl (show 4 < 6 by decide)).symm
      rw [if_neg (by rw [bI_t rfl]; decide), if_pos p40, ck, f1 69 (by decide) (by decide) (by decide), g69, c_isForce (by omega) hl, f1 61 (by decide) (by decide) (by decide), f1 79 (by decide) (by decide) (by decide), f1 66 (by decide) (by decide) (by decide), g61, ← g79, g66, Option.bind_some, pb_i, w_M_findBites_67]
      by_cases hfr : frcB (Mi 14 f) (Mi 22 (4 * f + l)) (Mi (46 + 2 * l + 1) 4) d
      · have frd : frD Mi f l d = true := by unfold frD; exact decide_eq_true hfr
        obtain ⟨M1, t1, t2, t3, t4⟩ := claim_V2 (X := X) h en hn hV k (by omega) M (fun j q1 q2 _ q4 _ => f1 j q1 q2 q4)
        have hAg : Agr M Mi := fun j g => f1 j g.2.1 g.2.2.1 g.2.2.2.2.1
        have kst := c_standing (X := X) (Mi := Mi) (M := M) (Ml := Ml) (JW_ag (JW_inv h) hAg) (nf := nf) (by rw [hAg 11 (by decide)]; exact ef) hnf hf hl (show k < 40 by omega) (by rw [f1 69 (by decide) (by decide) (by decide)]; exact g69) (by rw [f1 69 (by decide) (by decide) (by decide)]; exact t1) t2 t3
        rw [std_ag hAg f hl] at kst
        have g1 : ∀ j, j ≠ 76 → j ≠ 77 → j ≠ 83 → M1 j = Mi j := fun j q1 q2 q3 => (t2 j q1 q2).trans (f1 j q1 q2 q3)
        have g2 : ∀ q, q < k → M1 83 q = bI (bbB Mi V p l d q = true) := fun q hq => by rw [t2 83 (by decide) (by decide)]; exact f2 q hq
        have g3 : ∀ q, q < k → bbB Mi V p l d q = true → rowA (M1 76) (M1 77) q (V q) := fun q hq hb => t4 q (by omega) (f3 q hq hb)
        rw [if_neg (by rw [bI_t hfr]; decide), kst, Option.bind_some, pb_i, w_M_findBites_77]
        by_cases hst : std Mi f l (V k) = true
        · rw [if_neg (by rw [bI_t hst]; decide), e85 M1 1 true nb1]
          exact stp true M1 (by unfold bbB; rw [hth, fk, frd, hst]; rfl) g1 g2 g3 (fun _ => t3)
        · rw [if_pos (bI_f hst), w_M_findBites_84, e85 M1 0 false nb0]
          exact stp false M1 (by unfold bbB; rw [fk]; cases q : std Mi f l (V k); · simp
                                 · exact absurd q hst) g1 g2 g3 (fun q => absurd q (by decide))
      · have frd : frD Mi f l d = false := by unfold frD; exact decide_eq_false hfr
        rw [if_pos (bI_f hfr), w_M_findBites_84, e85 M 0 false nb0]
        exact stp false M (by unfold bbB; rw [fk, frd]; simp) f1 f2 f3 (fun q => absurd q (by decide))
theorem c_findBites {X : Nat × (Nat → Int32)} {Mi : MI} {Ml : ML} (h : Inv Mi Ml) {nf n p np l : Nat} (ef : Mi 11 11 = nI nf) (hnf : nf ≤ 8) (en : Mi 23 9 = nI n) (hn : n ≤ 40) (hnp : np ≤ 12) (ep : Mi 41 9 = nI np) (hp : p < np) (hl : l < 4) {V : Nat → List Int32} (hV : ∀ q, q < n → rowA (Mi 27) (Mi 28) q (V q)) (d : Int32) : ∃ M' : MI, pD X m_M_findBites [.ref 54, .int (nI p), .int (nI l), .int d] (sh0, Mi, Ml, mr0) = some (some (.int (bI (thB Mi p l d = true))), (sh0, M', Ml, mr0)) ∧ (∀ j, j ≠ 76 → j ≠ 77 → j ≠ 83 → M' j = Mi j) ∧ (∀ q, q < n → M' 83 q = bI (bbB Mi V p l d q = true)) ∧ (∀ q, q < n → bbB Mi V p l d q = true → rowA (M' 76) (M' 77) q (V q)) := by
  obtain ⟨np', _, ep', _, hpp⟩ := h.2.2.2.2.2.2.1
  obtain rfl : np' = np := (nI_eq (by omega) (by omega)).mp (ep'.symm.trans ep)
  obtain ⟨_, _, s3, _, s5, _⟩ := hpp p hp
  have p12 : pin (nI p) 12 := pin_nI (by omega) (by decide)
  have go := c_fb_go (X := X) (p := p) h ef hnf en hn hl hV (.int (nI p)) d n 0 Mi (by omega) (fun _ _ _ _ => rfl) (fun q hq => absurd hq (Nat.not_lt_zero q)) (fun q hq => absurd hq (Nat.not_lt_zero q))
  rw [d_M_findBites, if_pos p12, nI_clamp (by omega), ← s3, ← s5, x_bit (show l < 32 by omega), if_pos p12]
  obtain ⟨M', g1, g2⟩ := go
  refine ⟨M', ?_, g2⟩
  rw [← g1]
  unfold thB
  by_cases h1 : bt (Mi 43 p) l = true
  · rw [if_pos (bI_t h1), h1]
    by_cases h2 : d < Mi 44 p
    · rw [if_pos h2, decide_eq_true h2]; rfl
    · rw [if_neg h2, decide_eq_false h2]; rfl
  · rw [if_neg (by rw [bI_f h1]; decide)]
    cases q : bt (Mi 43 p) l
    · rfl
    · exact absurd q h1
