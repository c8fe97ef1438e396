/-! JUDGING: the loops of the reference's easyBy -/
theorem c_ebC {X : Nat × (Nat → Int32)} {Mi : MI} {Ml : ML} (h : JW Mi) {nf np f l a b k : Nat} (ef : Mi 11 11 = nI nf) (hnf : nf ≤ 8) (hf : f < nf) (hl : l < 4) (ep : Mi 5 5 = nI np) (hnp : np ≤ 24) (hk : k ≤ 3) (ha : a < np) (hb : b < np) {d : Int32} (hd : pin d 20001) (w2 : Value) (nd : Int32) {K : Option PRs} (hK : ∀ w9 w10 w11 : Value, pdn X m_M_easyBy (83, [.ref 54, .int (nI f), w2, .int (nI l), .int d, .int nd, .int (nI k), .int (nI a), .int (nI (b + 1)), w9, w10, w11], [], (sh0, Mi, Ml, mr0), 0, 0) = K) : ∀ n c (w10 w11 : Value), c + n = (if 2 < k then np else b + 1) → pdn X m_M_easyBy (122, [.ref 54, .int (nI f), w2, .int (nI l), .int d, .int nd, .int (nI k), .int (nI a), .int (nI b), .int (nI c), w10, w11], [], (sh0, Mi, Ml, mr0), 0, 0) = match srch (t3 Mi nd (d - Mi (46 + 2 * l + 1) 2) (Mi 15 f).toNatClampNeg a b) n c with
    | some x => some (some (.int x), (sh0, Mi, Ml, mr0))
    | none => K := by
  have eM : Mi 54 2 = nI np := by
    obtain ⟨np', _, ep', eM, _⟩ := h.2.2.1
    obtain rfl : np' = np := (nI_eq (by omega) (by omega)).mp (ep'.symm.trans ep)
    exact eM
  have e122 : ∀ c (w10 w11 : Value), pdn X m_M_easyBy (122, [.ref 54, .int (nI f), w2, .int (nI l), .int d, .int nd, .int (nI k), .int (nI a), .int (nI b), .int (nI c), w10, w11], [], (sh0, Mi, Ml, mr0), 0, 0) = pdn X m_M_easyBy (141, [.ref 54, .int (nI f), w2, .int (nI l), .int d, .int nd, .int (nI k), .int (nI a), .int (nI b), .int (nI c), w10, w11], [.int (nI (if 2 < k then np else b + 1)), .int (nI c)], (sh0, Mi, Ml, mr0), 0, 0) := by
    intro c w10 w11
    rw [w_M_easyBy_122, eM, nI_1]
    by_cases q : 2 < k
    · rw [if_pos (show (2 : Int32) < nI k from (nI_lt' (a := 2) (by decide) (by omega)).mpr q), if_pos q]
    · rw [if_neg (show ¬ (2 : Int32) < nI k from fun t => q ((nI_lt' (a := 2) (by decide) (by omega)).mp t)), if_neg q]
  have en : (if 2 < k then np else b + 1) ≤ np := by split <;> omega
  intro n
  induction n with
  | zero =>
    intro c w10 w11 hc
    rw [e122, w_M_easyBy_141, if_neg (by rw [nI_lt' (by omega) (by omega)]; omega), nI_1, hK]; rfl
  | succ n ih =>
    intro c w10 w11 hc
    rw [e122]
    refine (c_eb3 h ef hnf hf hl ep hnp ha hb (by omega) hd w2 nd (nI k) (fun w10 w11 => ih (c + 1) w10 w11 (by omega)) w10 w11 _ _ (by rw [nI_lt' (by omega) (by omega)]; omega)).trans ?_
    cases g : t3 Mi nd (d - Mi (46 + 2 * l + 1) 2) (Mi 15 f).toNatClampNeg a b c with
    | none => rw [srch_n g]
    | some x => rw [srch_s g]
theorem c_ebB {X : Nat × (Nat → Int32)} {Mi : MI} {Ml : ML} (h : JW Mi) {nf np f l a k : Nat} (ef : Mi 11 11 = nI nf) (hnf : nf ≤ 8) (hf : f < nf) (hl : l < 4) (ep : Mi 5 5 = nI np) (hnp : np ≤ 24) (hk : k ≤ 3) (ha : a < np) {d : Int32} (hd : pin d 20001) (w2 : Value) (nd : Int32) {K : Option PRs} (hK : ∀ w8 w9 w10 w11 : Value, pdn X m_M_easyBy (57, [.ref 54, .int (nI f), w2, .int (nI l), .int d, .int nd, .int (nI k), .int (nI (a + 1)), w8, w9, w10, w11], [], (sh0, Mi, Ml, mr0), 0, 0) = K) : ∀ n b (w9 w10 w11 : Value), b + n = (if 1 < k then np else a + 1) → pdn X m_M_easyBy (83, [.ref 54, .int (nI f), w2, .int (nI l), .int d, .int nd, .int (nI k), .int (nI a), .int (nI b), w9, w10, w11], [], (sh0, Mi, Ml, mr0), 0, 0) = match srch (rC Mi nd (d - Mi (46 + 2 * l + 1) 2) (Mi 15 f).toNatClampNeg np k a) n b with
    | some x => some (some (.int x), (sh0, Mi, Ml, mr0))
    | none => K := by
  have eM : Mi 54 2 = nI np := by
    obtain ⟨np', _, ep', eM, _⟩ := h.2.2.1
    obtain rfl : np' = np := (nI_eq (by omega) (by omega)).mp (ep'.symm.trans ep)
    exact eM
  have e83 : ∀ b (w9 w10 w11 : Value), pdn X m_M_easyBy (83, [.ref 54, .int (nI f), w2, .int (nI l), .int d, .int nd, .int (nI k), .int (nI a), .int (nI b), w9, w10, w11], [], (sh0, Mi, Ml, mr0), 0, 0) = pdn X m_M_easyBy (102, [.ref 54, .int (nI f), w2, .int (nI l), .int d, .int nd, .int (nI k), .int (nI a), .int (nI b), w9, w10, w11], [.int (nI (if 1 < k then np else a + 1)), .int (nI b)], (sh0, Mi, Ml, mr0), 0, 0) := by
    intro b w9 w10 w11
    rw [w_M_easyBy_83, eM, nI_1]
    by_cases q : 1 < k
    · rw [if_pos (show (1 : Int32) < nI k from (nI_lt' (a := 1) (by decide) (by omega)).mpr q), if_pos q]
    · rw [if_neg (show ¬ (1 : Int32) < nI k from fun t => q ((nI_lt' (a := 1) (by decide) (by omega)).mp t)), if_neg q]
  have en : (if 1 < k then np else a + 1) ≤ np := by split <;> omega
  intro n
  induction n with
  | zero =>
    intro b w9 w10 w11 hb
    rw [e83, w_M_easyBy_102, if_neg (by rw [nI_lt' (by omega) (by omega)]; omega), nI_1, hK]; rfl
  | succ n ih =>
    intro b w9 w10 w11 hb
    have go := c_ebC (X := X) (Ml := Ml) h ef hnf hf hl ep hnp hk ha (show b < np by omega) hd w2 nd (fun w9 w10 w11 => ih (b + 1) w9 w10 w11 (by omega))
    have res : ∀ w10 w11 : Value, pdn X m_M_easyBy (122, [.ref 54, .int (nI f), w2, .int (nI l), .int d, .int nd, .int (nI k), .int (nI a), .int (nI b), .int (nI (if 2 < k then b + 1 else b)), w10, w11], [], (sh0, Mi, Ml, mr0), 0, 0) = match rC Mi nd (d - Mi (46 + 2 * l + 1) 2) (Mi 15 f).toNatClampNeg np k a b with
        | some x => some (some (.int x), (sh0, Mi, Ml, mr0))
        | none => match srch (rC Mi nd (d - Mi (46 + 2 * l + 1) 2) (Mi 15 f).toNatClampNeg np k a) n (b + 1) with
          | some x => some (some (.int x), (sh0, Mi, Ml, mr0))
          | none => K := by
      intro w10 w11
      unfold rC
      exact go (if 2 < k then np - (b + 1) else 1) (if 2 < k then b + 1 else b) w10 w11 (by split <;> omega)
    have e102 : pdn X m_M_easyBy (83, [.ref 54, .int (nI f), w2, .int (nI l), .int d, .int nd, .int (nI k), .int (nI a), .int (nI b), w9, w10, w11], [], (sh0, Mi, Ml, mr0), 0, 0) = pdn X m_M_easyBy (122, [.ref 54, .int (nI f), w2, .int (nI l), .int d, .int nd, .int (nI k), .int (nI a), .int (nI b), .int (nI (if 2 < k then b + 1 else b)), w10, w11], [], (sh0, Mi, Ml, mr0), 0, 0) := by
      rw [e83, w_M_easyBy_102, if_pos (by rw [nI_lt' (by omega) (by omega)]; omega), nI_1]
      by_cases q : 2 < k
      · rw [if_pos (show (2 : Int32) < nI k from (nI_lt' (a := 2) (by decide) (by omega)).mpr q), if_pos q]
      · rw [if_neg (show ¬ (2 : Int32) < nI k from fun t => q ((nI_lt' (a := 2) (by decide) (by omega)).mp t)), if_neg q]
    rw [e102, res]
    cases g : rC Mi nd (d - Mi (46 + 2 * l + 1) 2) (Mi 15 f).toNatClampNeg np k a b with
    | none => rw [srch_n g]
    | some x => rw [srch_s g]
theorem c_ebA {X : Nat × (Nat → Int32)} {Mi : MI} {Ml : ML} (h : JW Mi) {nf np f l k : Nat} (ef : Mi 11 11 = nI nf) (hnf : nf ≤ 8) (hf : f < nf) (hl : l < 4) (ep : Mi 5 5 = nI np) (hnp : np ≤ 24) (hk : k ≤ 3) {d : Int32} (hd : pin d 20001) (w2 : Value) (nd : Int32) {K : Option PRs} (hK : ∀ w7 w8 w9 w10 w11 : Value, pdn X m_M_easyBy (40, [.ref 54, .int (nI f), w2, .int (nI l), .int d, .int nd, .int (nI (k + 1)), w7, w8, w9, w10, w11], [], (sh0, Mi, Ml, mr0), 0, 0) = K) : ∀ n a (w8 w9 w10 w11 : Value), a + n = np → pdn X m_M_easyBy (57, [.ref 54, .int (nI f), w2, .int (nI l), .int d, .int nd, .int (nI k), .int (nI a), w8, w9, w10, w11], [], (sh0, Mi, Ml, mr0), 0, 0) = match srch (rB Mi nd (d - Mi (46 + 2 * l + 1) 2) (Mi 15 f).toNatClampNeg np k) n a with
    | some x => some (some (.int x), (sh0, Mi, Ml, mr0))
    | none => K := by
  have eM : Mi 54 2 = nI np := by
    obtain ⟨np', _, ep', eM, _⟩ := h.2.2.1
    obtain rfl : np' = np := (nI_eq (by omega) (by omega)).mp (ep'.symm.trans ep)
    exact eM
  intro n
  induction n with
  | zero =>
    intro a w8 w9 w10 w11 ha
    rw [w_M_easyBy_57, eM, if_neg (by rw [nI_lt' (by omega) (by omega)]; omega), nI_1, hK]; rfl
  | succ n ih =>
    intro a w8 w9 w10 w11 ha
    have go := c_ebB (X := X) (Ml := Ml) h ef hnf hf hl ep hnp hk (show a < np by omega) hd w2 nd (fun w8 w9 w10 w11 => ih (a + 1) w8 w9 w10 w11 (by omega))
    have e57 : pdn X m_M_easyBy (57, [.ref 54, .int (nI f), w2, .int (nI l), .int d, .int nd, .int (nI k), .int (nI a), w8, w9, w10, w11], [], (sh0, Mi, Ml, mr0), 0, 0) = pdn X m_M_easyBy (83, [.ref 54, .int (nI f), w2, .int (nI l), .int d, .int nd, .int (nI k), .int (nI a), .int (nI (if 1 < k then a + 1 else a)), w9, w10, w11], [], (sh0, Mi, Ml, mr0), 0, 0) := by
      rw [w_M_easyBy_57, eM, if_pos (by rw [nI_lt' (by omega) (by omega)]; omega), nI_1]
      by_cases q : 1 < k
      · rw [if_pos (show (1 : Int32) < nI k from (nI_lt' (a := 1) (by decide) (by omega)).mpr q), if_pos q]
      · rw [if_neg (show ¬ (1 : Int32) < nI k from fun t => q ((nI_lt' (a := 1) (by decide) (by omega)).mp t)), if_neg q]
    rw [e57, go (if 1 < k then np - (a + 1) else 1) (if 1 < k then a + 1 else a) w9 w10 w11 (by split <;> omega)]
    cases g : rB Mi nd (d - Mi (46 + 2 * l + 1) 2) (Mi 15 f).toNatClampNeg np k a with
    | none => rw [srch_n g]; unfold rB at g; rw [g]
    | some x => rw [srch_s g]; unfold rB at g; rw [g]
theorem c_ebS {X : Nat × (Nat → Int32)} {Mi : MI} {Ml : ML} (h : JW Mi) {nf np f l mo : Nat} (ef : Mi 11 11 = nI nf) (hnf : nf ≤ 8) (hf : f < nf) (hl : l < 4) (ep : Mi 5 5 = nI np) (hnp : np ≤ 24) (hmo : mo ≤ 3) (em : Mi (46 + 2 * l + 1) 0 = nI mo) {d : Int32} (hd : pin d 20001) (w2 : Value) (nd : Int32) : ∀ n k (w7 w8 w9 w10 w11 : Value), k + n = mo + 1 → pdn X m_M_easyBy (40, [.ref 54, .int (nI f), w2, .int (nI l), .int d, .int nd, .int (nI k), w7, w8, w9, w10, w11], [], (sh0, Mi, Ml, mr0), 0, 0) = some (some (.int ((srch (rA Mi nd (d - Mi (46 + 2 * l + 1) 2) (Mi 15 f).toNatClampNeg np) n k).getD (-1))), (sh0, Mi, Ml, mr0)) := by
  have y := IR_at h.2.2.2.2 hl (show 0 < 6 by decide)
  have i6 : 6 * nI l = nI (6 * l + 0) := by rw [show (6 : Int32) = nI 6 from rfl, nI_mul']; rfl
  intro n
  induction n with
  | zero =>
    intro k w7 w8 w9 w10 w11 hk
    obtain rfl : k = mo + 1 := by omega
    rw [w_M_easyBy_40, i6, if_pos (pin_nI (by omega) (by decide)), nI_clamp (by omega), ← y, em, if_pos (by rw [nI_lt' (by omega) (by omega)]; omega)]; rfl
  | succ n ih =>
    intro k w7 w8 w9 w10 w11 hk
    have go := c_ebA (X := X) (Ml := Ml) h ef hnf hf hl ep hnp (show k ≤ 3 by omega) hd w2 nd (fun w7 w8 w9 w10 w11 => ih (k + 1) w7 w8 w9 w10 w11 (by omega)) np 0 w8 w9 w10 w11 (by omega)
    rw [show nI 0 = 0 from rfl] at go
    rw [w_M_easyBy_40, i6, if_pos (pin_nI (by omega) (by decide)), nI_clamp (by omega), ← y, em, if_neg (by rw [nI_lt' (by omega) (by omega)]; omega), go]
    cases g : rA Mi nd (d - Mi (46 + 2 * l + 1) 2) (Mi 15 f).toNatClampNeg np k with
    | none => rw [srch_n g]; unfold rA at g; rw [g]
    | some x => rw [srch_s g]; unfold rA at g; rw [g]; rfl
theorem c_easyBy {X : Nat × (Nat → Int32)} {Mi : MI} {Ml : ML} (h : JW Mi) {nf np f l mo : Nat} (ef : Mi 11 11 = nI nf) (hnf : nf ≤ 8) (hf : f < nf) (hl : l < 4) (ep : Mi 5 5 = nI np) (hnp : np ≤ 24) (hmo : mo ≤ 3) (em : Mi (46 + 2 * l + 1) 0 = nI mo) (s : Int32) : pD X m_M_easyBy [.ref 54, .int (nI f), .int s, .int (nI l)] (sh0, Mi, Ml, mr0) = some (some (.int (ezM Mi f l s np mo)), (sh0, Mi, Ml, mr0)) := by
  obtain ⟨_, d2, d3⟩ := j_day (X := X) (Ml := Ml) h ef hnf hf hl s
  have y := IR_at h.2.2.2.2 hl (show 5 < 6 by decide)
  have p5 := (IR_ran h.2.2.2.2 hl).2.2.2.2.2
  have i6 : 6 * nI l + 5 = nI (6 * l + 5) := six_at l 5
  have v := c_ebS (X := X) (Ml := Ml) h ef hnf hf hl ep hnp hmo em d3 (.int s) (ndv Mi l s) mo 1 pm_nul pm_nul pm_nul pm_nul pm_nul (by omega)
  rw [d_M_easyBy, d2, Option.bind_some, pb_i, w_M_easyBy_7, i6, if_pos (pin_nI (by omega) (by decide)), nI_clamp (by omega), ← y, c_withKinds h.1.1 h.1.2 _ p5, Option.bind_some, pb_i, w_M_easyBy_25]
  unfold ezM
  by_cases g : ndv Mi l s = 0
  · rw [if_pos g]; exact if_pos g
  · rw [if_neg g]
    exact (if_neg g).trans v
