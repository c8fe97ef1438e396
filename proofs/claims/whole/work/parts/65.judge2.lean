/-! JUDGING: the reference's takenBy -/
theorem cnt_iff {d g b : Int32} (hd : pin d 20001) (hg : pin g 10000) (hb : pin b 20001) : g < d - b ↔ b < d - g := by
  obtain ⟨d', hd', rfl⟩ := pin_ex (by decide) hd
  obtain ⟨g', hg', rfl⟩ := pin_ex (by decide) hg
  obtain ⟨b', hb', rfl⟩ := pin_ex (by decide) hb
  rw [x_lt, x_lt, fb_subI (by rw [nI_toInt (by omega), nI_toInt (by omega)]; omega) (by rw [nI_toInt (by omega), nI_toInt (by omega)]; omega), fb_subI (by rw [nI_toInt (by omega), nI_toInt (by omega)]; omega) (by rw [nI_toInt (by omega), nI_toInt (by omega)]; omega), nI_toInt (by omega), nI_toInt (by omega), nI_toInt (by omega)]
  omega
theorem six_at (l k : Nat) : 6 * nI l + nI k = nI (6 * l + k) := by rw [show (6 : Int32) = nI 6 from rfl, nI_mul', nI_add]
theorem c_countsFor {X : Nat × (Nat → Int32)} {Mi : MI} {Ml : ML} (h : JW Mi) {np p l : Nat} (ep : Mi 5 5 = nI np) (hnp : np ≤ 24) (hp : p < np) (hl : l < 4) {d : Int32} (hd : pin d 20001) : pD X m_M_countsFor [.ref 54, .int (nI p), .int d, .int (nI l)] (sh0, Mi, Ml, mr0) = some (some (.int (bI ((Mi 10 p) < d - Mi (46 + 2 * l + 1) 2))), (sh0, Mi, Ml, mr0)) := by
  obtain ⟨_, _, ⟨np', _, ep', _, hP⟩, _, hr⟩ := h
  obtain rfl : np' = np := (nI_eq (by omega) (by omega)).mp (ep'.symm.trans ep)
  obtain ⟨_, _, _, b4, b5, _, _⟩ := hP p hp
  have y := IR_at hr hl (show 2 < 6 by decide)
  have q := cnt_iff hd (IR_ran hr hl).2.2.1 b5
  have i6 : 6 * nI l + 2 = nI (6 * l + 2) := six_at l 2
  rw [d_M_countsFor, if_pos (pin_nI (by omega) (by decide)), i6, if_pos (pin_nI (by omega) (by decide)), nI_clamp (by omega), nI_clamp (by omega), ← y, ← b4]
  by_cases hc : Mi (46 + 2 * l + 1) 2 < d - Mi 10 p
  · rw [if_pos hc, bI_t (q.mp hc)]
  · rw [if_neg hc, bI_f (fun t => hc (q.mpr t))]
theorem c_tkP_go {X : Nat × (Nat → Int32)} {Mi : MI} {Ml : ML} (h : JW Mi) {np l : Nat} (ep : Mi 5 5 = nI np) (hnp : np ≤ 24) (hl : l < 4) {d : Int32} (hd : pin d 20001) (v1 s : Int32) (w : Value) : ∀ n i, i + n = np → pdn X m_M_takenBy (12, [.ref 54, .int v1, .int s, .int (nI l), .int d, .int (nI i), w], [], (sh0, Mi, Ml, mr0), 0, 0) = match srch (pP Mi (d - Mi (46 + 2 * l + 1) 2) s) n i with
    | some x => some (some (.int x), (sh0, Mi, Ml, mr0))
    | none => pdn X m_M_takenBy (63, [.ref 54, .int v1, .int s, .int (nI l), .int d, .int 0, w], [], (sh0, Mi, Ml, mr0), 0, 0) := by
  obtain ⟨np', _, ep', eM, hP⟩ := h.2.2.1
  obtain rfl : np' = np := (nI_eq (by omega) (by omega)).mp (ep'.symm.trans ep)
  intro n
  induction n with
  | zero =>
    intro i hi
    obtain rfl : i = np' := by omega
    rw [w_M_takenBy_12, eM, if_neg (by rw [nI_lt' (by omega) (by omega)]; omega)]; rfl
  | succ n ih =>
    intro i hi
    obtain ⟨b1, b2, b3, _⟩ := hP i (by omega)
    rw [w_M_takenBy_12, eM, if_pos (by rw [nI_lt' (by omega) (by omega)]; omega), c_countsFor h ep hnp (by omega) hl hd, Option.bind_some, pb_i, w_M_takenBy_30, nI_1, ih (i + 1) (by omega)]
    by_cases h1 : (Mi 10 i) < d - Mi (46 + 2 * l + 1) 2
    · rw [if_neg (by rw [bI_t h1]; decide), if_pos (pin_nI (by omega) (by decide)), nI_clamp (by omega), ← b1, c_withKinds h.1.1 h.1.2 _ b2, Option.bind_some, pb_i, w_M_takenBy_44, c_has, Option.bind_some, pb_i, w_M_takenBy_48, ← b3, nI_1, ih (i + 1) (by omega)]
      by_cases h2 : (s &&& ((Mi 6 i) ^^^ (-1))) = 0
      · rw [if_neg (by rw [bI_t h2]; decide), srch_s (x := nI i) (by unfold pP; rw [if_pos ⟨h1, h2⟩])]
      · rw [if_pos (bI_f h2), srch_n (by unfold pP; rw [if_neg (fun q => h2 q.2)])]
    · rw [if_pos (bI_f h1), srch_n (by unfold pP; rw [if_neg (fun q => h1 q.1)])]
theorem c_tkF_go {X : Nat × (Nat → Int32)} {Mi : MI} {Ml : ML} (h : JW Mi) {nf f l : Nat} (ef : Mi 11 11 = nI nf) (hnf : nf ≤ 8) (hf : f < 8) (hl : l < 4) (d s : Int32) : ∀ n i (w : Value), i + n = nf → pdn X m_M_takenBy (63, [.ref 54, .int (nI f), .int s, .int (nI l), .int d, .int (nI i), w], [], (sh0, Mi, Ml, mr0), 0, 0) = some (some (.int (if Mi (46 + 2 * l + 1) 3 = 0 then -1 else match srch (pF Mi d s f) n i with
    | some q => 100 + q
    | none => -1)), (sh0, Mi, Ml, mr0)) := by
  obtain ⟨nf', _, ef', eM, hP, _⟩ := h.2.2.2.1
  obtain rfl : nf' = nf := (nI_eq (by omega) (by omega)).mp (ef'.symm.trans ef)
  have hr := h.2.2.2.2
  have y := IR_at hr hl (show 3 < 6 by decide)
  have i6 : 6 * nI l + 3 = nI (6 * l + 3) := six_at l 3
  intro n
  induction n with
  | zero =>
    intro i w hi
    obtain rfl : i = nf' := by omega
    rw [w_M_takenBy_63, eM, if_neg (by rw [nI_lt' (by omega) (by omega)]; omega)]
    split <;> rfl
  | succ n ih =>
    intro i w hi
    obtain ⟨b1, b2, b3, b4, _⟩ := hP i (by omega)
    have p8 : pin (nI i) 8 := pin_nI (by omega) (by decide)
    rw [w_M_takenBy_63, eM, if_pos (by rw [nI_lt' (by omega) (by omega)]; omega), i6, if_pos (pin_nI (by omega) (by decide)), nI_clamp (show 6 * l + 3 < 2 ^ 31 by omega), ← y]
    rcases (IR_ran hr hl).2.2.2.1 with h0 | h1
    · rw [if_neg (by rw [h0]; decide), if_pos h0]
    · have hn0 : ¬ Mi (46 + 2 * l + 1) 3 = 0 := by rw [h1]; decide
      have ih' : ∀ w, pdn X m_M_takenBy (63, [.ref 54, .int (nI f), .int s, .int (nI l), .int d, .int (nI (i + 1)), w], [], (sh0, Mi, Ml, mr0), 0, 0) = some (some (.int (match srch (pF Mi d s f) n (i + 1) with
        | some q => 100 + q
        | none => -1)), (sh0, Mi, Ml, mr0)) := fun w => by rw [ih (i + 1) w (by omega), if_neg hn0]
      rw [if_pos h1, if_neg hn0, if_pos p8, nI_clamp (by omega), if_pos p8, w_M_takenBy_125, w_M_takenBy_126, if_pos (rfl : (0 : Int32) = 0), w_M_takenBy_126, if_neg (show ¬ (1 : Int32) = 0 by decide), if_pos p8, nI_clamp (by omega), ← b1, c_withKinds h.1.1 h.1.2 _ b2, Option.bind_some, pb_i, w_M_takenBy_144, c_has, Option.bind_some, pb_i, w_M_takenBy_148, ← b3, ← b4, nI_1, ih', ih']
      have hne : nI i = nI f ↔ i = f := nI_eq (by omega) (by omega)
      by_cases g0 : i = f
      · rw [if_pos (hne.mpr g0), srch_n (by unfold pF; rw [if_neg (fun q => q.1 g0)])]
      · rw [if_neg (fun q => g0 (hne.mp q))]
        by_cases g1 : (Mi 14 i) < d
        · rw [if_pos g1]
          by_cases g2 : (Mi 14 i + 540) < d
          · rw [if_pos g2, srch_n (by unfold pF; rw [if_neg (fun q => q.2.2.1 g2)])]
          · rw [if_neg g2]
            by_cases g3 : (s &&& ((Mi 13 i) ^^^ (-1))) = 0
            · rw [if_neg (by rw [bI_t g3]; decide), srch_s (x := nI i) (by unfold pF; rw [if_pos ⟨g0, g1, g2, g3⟩])]
            · rw [if_pos (bI_f g3), srch_n (by unfold pF; rw [if_neg (fun q => g3 q.2.2.2)])]
        · rw [if_neg g1, srch_n (by unfold pF; rw [if_neg (fun q => g1 q.2.1)])]
theorem c_takenBy {X : Nat × (Nat → Int32)} {Mi : MI} {Ml : ML} (h : JW Mi) {nf f l : Nat} (ef : Mi 11 11 = nI nf) (hnf : nf ≤ 8) (hf : f < nf) (hl : l < 4) (s : Int32) : pD X m_M_takenBy [.ref 54, .int (nI f), .int s, .int (nI l)] (sh0, Mi, Ml, mr0) = some (some (.int (tk Mi f l s)), (sh0, Mi, Ml, mr0)) := by
  obtain ⟨_, d2, d3⟩ := j_day (X := X) (Ml := Ml) h ef hnf hf hl s
  have h' := h
  obtain ⟨_, _, ⟨np, hnp, ep, _⟩, _⟩ := h'
  have cf : (Mi 11 11).toNatClampNeg = nf := by rw [ef, nI_clamp (by omega)]
  have cp : (Mi 5 5).toNatClampNeg = np := by rw [ep, nI_clamp (by omega)]
  rw [d_M_takenBy, d2, Option.bind_some, pb_i, w_M_takenBy_7]
  have t := c_tkP_go (X := X) (Ml := Ml) h ep hnp hl d3 (nI f) s pm_nul np 0 (by omega)
  rw [show nI 0 = 0 from rfl] at t
  rw [t, tk, cf, cp]
  cases hx : srch (pP Mi (dyv Mi f l s - Mi (46 + 2 * l + 1) 2) s) np 0 with
  | some x => rfl
  | none => exact c_tkF_go h ef hnf (by omega) hl (dyv Mi f l s) s nf 0 pm_nul (by omega)
theorem tk_neg {Mi : MI} (h : JW Mi) (f l : Nat) (s : Int32) : tk Mi f l s < 0 ↔ tk Mi f l s = -1 := by
  obtain ⟨_, _, ⟨np, hnp, ep, _⟩, ⟨nf, hnf, ef, _⟩, _⟩ := h
  have cf : (Mi 11 11).toNatClampNeg = nf := by rw [ef, nI_clamp (by omega)]
  have cp : (Mi 5 5).toNatClampNeg = np := by rw [ep, nI_clamp (by omega)]
  have z : ∀ n : Nat, n < 2 ^ 31 → ((nI n < 0) ↔ nI n = -1) := fun n hn => by
    refine ⟨fun q => ?_, fun q => absurd q (nI_ne1 hn)⟩
    rw [x_lt, nI_toInt hn] at q
    have e0 : (0 : Int32).toInt = 0 := by decide
    omega
  have m1 : ((-1 : Int32) < 0 ↔ (-1 : Int32) = -1) := by decide
  unfold tk
  rw [cf, cp]
  cases hx : srch (pP Mi (dyv Mi f l s - Mi (46 + 2 * l + 1) 2) s) np 0 with
  | some x =>
    obtain ⟨k, _, hk, hg⟩ := srch_some hx
    unfold pP at hg
    split at hg
    · cases hg; exact z k (by omega)
    · exact absurd hg (by simp)
  | none =>
    by_cases hs : Mi (46 + 2 * l + 1) 3 = 0
    · simp only [if_pos hs]; exact iff_of_true (by decide) trivial
    · simp only [if_neg hs]
      cases hy : srch (pF Mi (dyv Mi f l s) s f) nf 0 with
      | some q =>
        obtain ⟨k, _, hk, hg⟩ := srch_some hy
        unfold pF at hg
        split at hg
        · cases hg
          show 100 + nI k < 0 ↔ 100 + nI k = -1
          rw [show (100 : Int32) = nI 100 from rfl, nI_add]; exact z _ (by omega)
        · exact absurd hg (by simp)
      | none => exact m1
