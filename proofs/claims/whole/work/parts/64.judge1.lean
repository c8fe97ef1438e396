/-! JUDGING: what both sides read, by which days and papers -/
def JW (Mi : MI) : Prop := (KOk (Mi 55) ∧ HsOk (Mi 55) (Mi 3)) ∧ IN (Mi 8) (Mi 56) ∧ IP (Mi 3) (Mi 5 5) (Mi 54 2) (Mi 9) (Mi 6) (Mi 7) (Mi 10) (Mi 57) (Mi 58) (Mi 59) ∧ IFi (Mi 3) (Mi 11 11) (Mi 54 6) (Mi 12) (Mi 13) (Mi 14) (Mi 15) (Mi 18) (Mi 19) (Mi 20) (Mi 21) (Mi 60) (Mi 61) (Mi 62) (Mi 63) (Mi 64) (Mi 65) ∧ IR (Mi 47) (Mi 49) (Mi 51) (Mi 53) (Mi 66)
def Agr (M Mi : MI) : Prop := ∀ k, (k ≠ 71 ∧ k ≠ 76 ∧ k ≠ 77 ∧ k ≠ 78 ∧ k ≠ 83 ∧ k ≠ 45 ∧ k ≠ 41) → M k = Mi k
theorem JW_inv {Mi : MI} {Ml : ML} (h : Inv Mi Ml) : JW Mi := ⟨⟨h.1.1, h.1.2.1⟩, h.2.1, h.2.2.1, h.2.2.2.1, h.2.2.2.2.2.2.2.1⟩
theorem JW_ag {M Mi : MI} (h : JW Mi) (F : Agr M Mi) : JW M := by
  unfold JW at h ⊢
  rw [F 55 (by decide), F 3 (by decide), F 8 (by decide), F 56 (by decide), F 5 (by decide), F 54 (by decide), F 9 (by decide), F 6 (by decide), F 7 (by decide), F 10 (by decide), F 57 (by decide), F 58 (by decide), F 59 (by decide), F 11 (by decide), F 12 (by decide), F 13 (by decide), F 14 (by decide), F 15 (by decide), F 18 (by decide), F 19 (by decide), F 20 (by decide), F 21 (by decide), F 60 (by decide), F 61 (by decide), F 62 (by decide), F 63 (by decide), F 64 (by decide), F 65 (by decide), F 47 (by decide), F 49 (by decide), F 51 (by decide), F 53 (by decide), F 66 (by decide)]
  exact h
def dyv (Mi : MI) (f l : Nat) (s : Int32) : Int32 := dvF (Mi 14 f - Mi (46 + 2 * l + 1) 1) (fun j => Mi 21 (3 * f + j)) (fun j => Mi 20 (3 * f + j)) s (Mi 18 f).toNatClampNeg 0 (Mi 14 f)
theorem dyv_ag {M Mi : MI} (F : Agr M Mi) (f : Nat) {l : Nat} (hl : l < 4) (s : Int32) : dyv M f l s = dyv Mi f l s := by
  unfold dyv
  rw [F 14 (by decide), F 21 (by decide), F 20 (by decide), F 18 (by decide), F (46 + 2 * l + 1) (by omega)]
theorem dvF_pin {lo : Int32} {ed eh : Nat → Int32} {s : Int32} : ∀ (n j : Nat) (b : Int32), pin b 20001 → (∀ k, j ≤ k → k < j + n → pin (ed k) 20001) → pin (dvF lo ed eh s n j b) 20001
  | 0, _, _, hb, _ => hb
  | n + 1, j, b, hb, he => by
    rw [dvF]
    refine dvF_pin n (j + 1) _ ?_ (fun k q1 q2 => he k (by omega) (by omega))
    split
    · exact he j (by omega) (by omega)
    · exact hb
theorem j_day {X : Nat × (Nat → Int32)} {Mi : MI} {Ml : ML} (h : JW Mi) {nf f l : Nat} (ef : Mi 11 11 = nI nf) (hnf : nf ≤ 8) (hf : f < nf) (hl : l < 4) (s : Int32) : pD X m_Filings_versionDay [.ref 11, .int s, .int (nI f), .ref (46 + 2 * l)] (sh0, Mi, Ml, mr0) = some (some (.int (dyv Mi f l s)), (sh0, Mi, Ml, mr0)) ∧ pD X m_M_dayOf [.ref 54, .int (nI f), .int s, .int (nI l)] (sh0, Mi, Ml, mr0) = some (some (.int (dyv Mi f l s)), (sh0, Mi, Ml, mr0)) ∧ pin (dyv Mi f l s) 20001 := by
  obtain ⟨hK, _, _, ⟨nf', _, e1, _, hp, _⟩, hr⟩ := h
  obtain rfl : nf' = nf := (nI_eq (by omega) (by omega)).mp (e1.symm.trans ef)
  obtain ⟨_, _, _, b4, b5, _, _, ⟨E, E3, g1, g2, g3⟩⟩ := hp f hf
  have eE : (Mi 18 f).toNatClampNeg = E := by rw [g1, nI_clamp (by omega)]
  refine ⟨?_, ?_, ?_⟩
  · rw [c_versionDay (land_ho hl) (by omega) E3 g1 s, dyv, eE]
  · rw [c_dayOf (hs := Mi 3) hK.1 hK.2 (by omega) hl E3 g2 (fun j hj => by rw [← (g3 j hj).1]; exact (g3 j hj).2.1) s]
    have y := IR_at hr hl (show 1 < 6 by decide)
    rw [← y, ← b4, ← dv_eq (ed := fun j => Mi 21 (3 * f + j)) (eh := fun j => Mi 20 (3 * f + j)) (edM := fun j => Mi 65 (3 * f + j)) (ehM := fun j => cl (Mi 3) (Mi 64 (3 * f + j))) (E := E) b5 (IR_ran hr hl).2.1 (fun j hj => by
      obtain ⟨r1, r2, r3, r4, r5⟩ := g3 j hj
      exact ⟨r4, by show Mi 20 (3 * f + j) = cl (Mi 3) (Mi 64 (3 * f + j)); rw [r3, r1], r5⟩) s E 0 (Mi 14 f) (by omega), dyv, eE]
  · unfold dyv
    rw [eE]
    exact dvF_pin E 0 _ b5 (fun k _ hk => (g3 k (by omega)).2.2.2.2)
/-! searches -/
def srch {α : Type} (g : Nat → Option α) : Nat → Nat → Option α
  | 0, _ => none
  | n + 1, i => match g i with
    | some x => some x
    | none => srch g n (i + 1)
theorem srch_s {α : Type} {g : Nat → Option α} {n i : Nat} {x : α} (h : g i = some x) : srch g (n + 1) i = some x := by rw [srch, h]
theorem srch_n {α : Type} {g : Nat → Option α} {n i : Nat} (h : g i = none) : srch g (n + 1) i = srch g n (i + 1) := by rw [srch, h]
theorem srch_none {α : Type} {g : Nat → Option α} : ∀ {n i : Nat}, srch g n i = none ↔ ∀ k, i ≤ k → k < i + n → g k = none
  | 0, i => ⟨fun _ k h1 h2 => by omega, fun _ => rfl⟩
  | n + 1, i => by
    cases e : g i with
    | some x => rw [srch_s e]; exact ⟨fun h => absurd h (by simp), fun h => by have := h i (by omega) (by omega); rw [e] at this; exact this⟩
    | none =>
      rw [srch_n e, srch_none]
      refine ⟨fun h k h1 h2 => ?_, fun h k h1 h2 => h k (by omega) (by omega)⟩
      by_cases q : k = i
      · rw [q]; exact e
      · exact h k (by omega) (by omega)
theorem srch_some {α : Type} {g : Nat → Option α} {x : α} : ∀ {n i : Nat}, srch g n i = some x → ∃ k, i ≤ k ∧ k < i + n ∧ g k = some x
  | 0, i, h => by exact absurd h (by simp [srch])
  | n + 1, i, h => by
    cases e : g i with
    | some y => rw [srch_s e] at h; exact ⟨i, by omega, by omega, by rw [e, h]⟩
    | none =>
      rw [srch_n e] at h
      obtain ⟨k, h1, h2, h3⟩ := srch_some h
      exact ⟨k, by omega, by omega, h3⟩
theorem srch_cong {α : Type} {g g' : Nat → Option α} : ∀ {n i : Nat}, (∀ k, i ≤ k → k < i + n → g k = g' k) → srch g n i = srch g' n i
  | 0, _, _ => rfl
  | n + 1, i, h => by
    rw [srch, srch, h i (by omega) (by omega), srch_cong (n := n) (i := i + 1) (fun k h1 h2 => h k (by omega) (by omega))]
def pP (Mi : MI) (b s : Int32) (p : Nat) : Option Int32 := if (Mi 10 p) < b ∧ (s &&& ((Mi 6 p) ^^^ (-1))) = 0 then some (nI p) else none
def pF (Mi : MI) (d s : Int32) (f q : Nat) : Option Int32 := if q ≠ f ∧ (Mi 14 q) < d ∧ ¬ (Mi 14 q + 540) < d ∧ (s &&& ((Mi 13 q) ^^^ (-1))) = 0 then some (nI q) else none
def tk (Mi : MI) (f l : Nat) (s : Int32) : Int32 := match srch (pP Mi (dyv Mi f l s - Mi (46 + 2 * l + 1) 2) s) (Mi 5 5).toNatClampNeg 0 with
  | some x => x
  | none => if Mi (46 + 2 * l + 1) 3 = 0 then -1 else match srch (pF Mi (dyv Mi f l s) s f) (Mi 11 11).toNatClampNeg 0 with
    | some q => 100 + q
    | none => -1
theorem tk_ag {M Mi : MI} (F : Agr M Mi) (f : Nat) {l : Nat} (hl : l < 4) (s : Int32) : tk M f l s = tk Mi f l s := by
  unfold tk pP pF
  rw [dyv_ag F f hl, F 10 (by decide), F 6 (by decide), F 5 (by decide), F 14 (by decide), F 13 (by decide), F 11 (by decide), F (46 + 2 * l + 1) (by omega)]
theorem c_fwa_go {X : Nat × (Nat → Int32)} {Mi : MI} {Ml : ML} {np : Nat} (e : Mi 5 5 = nI np) (hnp : np ≤ 24) (s b : Int32) : ∀ n i, i + n = np → pdn X m_Papers_firstWithAll (2, [.ref 5, .int s, .int b, .int (nI i)], [], (sh0, Mi, Ml, mr0), 0, 0) = some (some (.int ((srch (pP Mi b s) n i).getD (-1))), (sh0, Mi, Ml, mr0)) := by
  intro n
  induction n with
  | zero =>
    intro i hi
    obtain rfl : i = np := by omega
    rw [e_Papers_firstWithAll_2, e, if_neg (by rw [nI_lt' (by omega) (by omega)]; omega)]; rfl
  | succ n ih =>
    intro i hi
    have p24 : pin (nI i) 24 := pin_nI (by omega) (by decide)
    rw [e_Papers_firstWithAll_2, e, if_pos (by rw [nI_lt' (by omega) (by omega)]; omega), if_pos p24, nI_clamp (by omega), nI_1, ih (i + 1) (by omega)]
    by_cases h1 : (Mi 10 i) < b
    · rw [if_pos h1, if_pos p24]
      by_cases h2 : (s &&& ((Mi 6 i) ^^^ (-1))) = 0
      · rw [if_pos h2, srch_s (x := nI i) (by unfold pP; rw [if_pos ⟨h1, h2⟩])]; rfl
      · rw [if_neg h2, srch_n (by unfold pP; rw [if_neg (fun q => h2 q.2)])]
    · rw [if_neg h1, srch_n (by unfold pP; rw [if_neg (fun q => h1 q.1)])]
theorem c_fhw_go {X : Nat × (Nat → Int32)} {Mi : MI} {Ml : ML} {nf f : Nat} (e : Mi 11 11 = nI nf) (hnf : nf ≤ 8) (hf : f < 8) (s d : Int32) : ∀ n i (w : Value), i + n = nf → pdn X m_Filings_firstHiddenWithAll (3, [.ref 11, .int s, .int (nI f), .int d, .int (nI i), w], [], (sh0, Mi, Ml, mr0), 0, 0) = some (some (.int ((srch (pF Mi d s f) n i).getD (-1))), (sh0, Mi, Ml, mr0)) := by
  intro n
  induction n with
  | zero =>
    intro i w hi
    obtain rfl : i = nf := by omega
    rw [w_Filings_firstHiddenWithAll_3, e, if_neg (by rw [nI_lt' (by omega) (by omega)]; omega)]; rfl
  | succ n ih =>
    intro i w hi
    have p8 : pin (nI i) 8 := pin_nI (by omega) (by decide)
    have hz : ∀ t, pdn X m_Filings_firstHiddenWithAll (43, [.ref 11, .int s, .int (nI f), .int d, .int (nI i), w], [.int t], (sh0, Mi, Ml, mr0), 0, 0) = if nI i = nI f then some (some (.int ((srch (pF Mi d s f) n (i + 1)).getD (-1))), (sh0, Mi, Ml, mr0)) else if t = 0 then some (some (.int ((srch (pF Mi d s f) n (i + 1)).getD (-1))), (sh0, Mi, Ml, mr0)) else if (s &&& ((Mi 13 i) ^^^ (-1))) = 0 then some (some (.int (nI i)), (sh0, Mi, Ml, mr0)) else some (some (.int ((srch (pF Mi d s f) n (i + 1)).getD (-1))), (sh0, Mi, Ml, mr0)) := by
      intro t
      rw [w_Filings_firstHiddenWithAll_43, if_pos p8, nI_clamp (by omega), nI_1, ih (i + 1) _ (by omega)]
    rw [w_Filings_firstHiddenWithAll_3, e, if_pos (by rw [nI_lt' (by omega) (by omega)]; omega), if_pos p8, nI_clamp (by omega), if_pos p8, w_Filings_firstHiddenWithAll_42, hz, hz]
    have hne : nI i = nI f ↔ i = f := nI_eq (by omega) (by omega)
    by_cases h0 : i = f
    · rw [if_pos (hne.mpr h0), if_pos (hne.mpr h0), srch_n (by unfold pF; rw [if_neg (fun q => q.1 h0)])]
      split
      · split <;> rfl
      · rfl
    · rw [if_neg (fun q => h0 (hne.mp q)), if_neg (fun q => h0 (hne.mp q)), if_pos (rfl : (0 : Int32) = 0), if_neg (show ¬ (1 : Int32) = 0 by decide)]
      by_cases h1 : (Mi 14 i) < d
      · rw [if_pos h1]
        by_cases h2 : (Mi 14 i + 540) < d
        · rw [if_pos h2, srch_n (by unfold pF; rw [if_neg (fun q => q.2.2.1 h2)])]
        · rw [if_neg h2]
          by_cases h3 : (s &&& ((Mi 13 i) ^^^ (-1))) = 0
          · rw [if_pos h3, srch_s (x := nI i) (by unfold pF; rw [if_pos ⟨h0, h1, h2, h3⟩])]; rfl
          · rw [if_neg h3, srch_n (by unfold pF; rw [if_neg (fun q => h3 q.2.2.2)])]
      · rw [if_neg h1, srch_n (by unfold pF; rw [if_neg (fun q => h1 q.2.1)])]
theorem nI_ne1 {n : Nat} (h : n < 2 ^ 31) : nI n ≠ -1 := by
  intro q
  have := congrArg Int32.toInt q
  rw [nI_toInt h] at this
  have e : (-1 : Int32).toInt = -1 := by decide
  rw [e] at this; omega
theorem c_taker {X : Nat × (Nat → Int32)} {Mi : MI} {Ml : ML} (h : JW Mi) {nf f l : Nat} (ef : Mi 11 11 = nI nf) (hnf : nf ≤ 8) (hf : f < nf) (hl : l < 4) (s : Int32) : pD X m_Judge_taker [.ref 40, .int s, .int (nI f), .ref (46 + 2 * l)] (sh0, Mi, Ml, mr0) = some (some (.int (tk Mi f l s)), (sh0, Mi, Ml, mr0)) := by
  obtain ⟨d1, _, _⟩ := j_day (X := X) (Ml := Ml) h ef hnf hf hl s
  obtain ⟨_, _, ⟨np, hnp, ep, _⟩, _⟩ := h
  have c2 : Int32.toNatClampNeg 2 = 2 := by decide
  have c3 : Int32.toNatClampNeg 3 = 3 := by decide
  have cf : (Mi 11 11).toNatClampNeg = nf := by rw [ef, nI_clamp (by omega)]
  have cp : (Mi 5 5).toNatClampNeg = np := by rw [ep, nI_clamp (by omega)]
  rw [d_Judge_taker _ _ _ (land_ho hl), d1, Option.bind_some, pb_i, w_Judge_taker_10 _ _ _ (land_ho hl), if_pos (show pin 2 6 by decide), c2, d_Papers_firstWithAll]
  have t := c_fwa_go (X := X) (Mi := Mi) (Ml := Ml) ep hnp s (dyv Mi f l s - Mi (46 + 2 * l + 1) 2) np 0 (by omega)
  rw [show nI 0 = 0 from rfl] at t
  rw [t, Option.bind_some, pb_i, w_Judge_taker_29 _ _ _ (land_ho hl), if_pos (show pin 3 6 by decide), c3, d_Filings_firstHiddenWithAll]
  have u := c_fhw_go (X := X) (Mi := Mi) (Ml := Ml) ef hnf (show f < 8 by omega) s (dyv Mi f l s) nf 0 pm_nul (by omega)
  rw [show nI 0 = 0 from rfl] at u
  rw [u, Option.bind_some, pb_i, w_Judge_taker_60 _ _ _ (land_ho hl), tk, cf, cp]
  cases hx : srch (pP Mi (dyv Mi f l s - Mi (46 + 2 * l + 1) 2) s) np 0 with
  | some x =>
    obtain ⟨k, _, hk, hg⟩ := srch_some hx
    unfold pP at hg
    split at hg
    · cases hg
      rw [if_neg (show ¬ (some (nI k)).getD (-1) = -1 from nI_ne1 (by omega))]; rfl
    · exact absurd hg (by simp)
  | none =>
    rw [if_pos (by rfl)]
    by_cases hs : Mi (46 + 2 * l + 1) 3 = 0
    · simp only [if_pos hs]; rfl
    · simp only [if_neg hs]
      cases hy : srch (pF Mi (dyv Mi f l s) s f) nf 0 with
      | some q =>
        obtain ⟨k, _, hk, hg⟩ := srch_some hy
        unfold pF at hg
        split at hg
        · cases hg
          rw [if_neg (show ¬ (some (nI k)).getD (-1) = -1 from nI_ne1 (by omega))]; rfl
        · exact absurd hg (by simp)
      | none => rw [if_pos (by rfl)]
