/-! JUDGING: the class's easyPapers -/
def hpc (Mi : MI) (nd b fl : Int32) (p : Nat) : Bool := decide ((Mi 10 p) < b) && bt fl (fd7 Mi p) && !decide ((nd &&& Mi 6 p) = 0)
def hpN (Mi : MI) (nd b fl : Int32) : Nat → Int32
  | 0 => 0
  | n + 1 => if hpc Mi nd b fl n = true then hpN Mi nd b fl n ||| ((1 : Int32) <<< (nI n &&& 31)) else hpN Mi nd b fl n
theorem hpN_bt {Mi : MI} {nd b fl : Int32} {i : Nat} (hi : i < 32) : ∀ n, n ≤ 24 → (bt (hpN Mi nd b fl n) i = true ↔ i < n ∧ hpc Mi nd b fl i = true)
  | 0, _ => by rw [hpN, b_0]; exact ⟨fun h => absurd h (by decide), fun h => absurd h.1 (Nat.not_lt_zero i)⟩
  | n + 1, hn => by
    have ih := hpN_bt (Mi := Mi) (nd := nd) (b := b) (fl := fl) hi n (by omega)
    rw [hpN]
    by_cases h : hpc Mi nd b fl n = true
    · rw [if_pos h, b_or, Bool.or_eq_true, ih, x_one (by omega) hi, decide_eq_true_iff]
      constructor
      · rintro (⟨h1, h2⟩ | h1)
        · exact ⟨by omega, h2⟩
        · rw [h1]; exact ⟨by omega, h⟩
      · rintro ⟨h1, h2⟩
        by_cases q : i = n
        · exact Or.inr q
        · exact Or.inl ⟨by omega, h2⟩
    · rw [if_neg h, ih]
      constructor
      · rintro ⟨h1, h2⟩; exact ⟨by omega, h2⟩
      · rintro ⟨h1, h2⟩
        by_cases q : i = n
        · rw [q] at h2; exact absurd h2 h
        · exact ⟨by omega, h2⟩
def tgN (Mi : MI) (hp : Int32) : Nat → Int32
  | 0 => 0
  | n + 1 => if bt hp n = true then tgN Mi hp n ||| Mi 6 n else tgN Mi hp n
theorem tgN_bt {Mi : MI} {hp : Int32} {i : Nat} : ∀ n, (bt (tgN Mi hp n) i = true ↔ ∃ p, p < n ∧ bt hp p = true ∧ bt (Mi 6 p) i = true)
  | 0 => by rw [tgN, b_0]; exact ⟨fun h => absurd h (by decide), fun ⟨p, h, _⟩ => absurd h (Nat.not_lt_zero p)⟩
  | n + 1 => by
    have ih := tgN_bt (Mi := Mi) (hp := hp) (i := i) n
    rw [tgN]
    by_cases h : bt hp n = true
    · rw [if_pos h, b_or, Bool.or_eq_true, ih]
      constructor
      · rintro (⟨p, h1, h2⟩ | h1)
        · exact ⟨p, by omega, h2⟩
        · exact ⟨n, by omega, h, h1⟩
      · rintro ⟨p, h1, h2, h3⟩
        by_cases q : p = n
        · rw [q] at h3; exact Or.inr h3
        · exact Or.inl ⟨p, by omega, h2, h3⟩
    · rw [if_neg h, ih]
      constructor
      · rintro ⟨p, h1, h2⟩; exact ⟨p, by omega, h2⟩
      · rintro ⟨p, h1, h2, h3⟩
        by_cases q : p = n
        · rw [q] at h2; exact absurd h2 h
        · exact ⟨p, by omega, h2, h3⟩
theorem c_helpful {X : Nat × (Nat → Int32)} {Mi : MI} {Ml : ML} {np : Nat} (e : Mi 5 5 = nI np) (hnp : np ≤ 24) (h7 : ∀ p, p < np → pin (Mi 7 p) 5) (nd b fl : Int32) : ∀ n i, i + n = np → pdn X m_Papers_helpful (6, [.ref 5, .int nd, .int b, .int fl, .int (hpN Mi nd b fl i), .int (nI i)], [], (sh0, Mi, Ml, mr0), 0, 0) = some (some (.int (hpN Mi nd b fl np)), (sh0, Mi, Ml, mr0)) := by
  intro n
  induction n with
  | zero =>
    intro i hi
    obtain rfl : i = np := by omega
    rw [e_Papers_helpful_6, e, if_neg (by rw [nI_lt' (by omega) (by omega)]; omega)]
  | succ n ih =>
    intro i hi
    have p24 : pin (nI i) 24 := pin_nI (by omega) (by decide)
    obtain ⟨fd, hfd, e7⟩ := pin_ex (by decide) (h7 i (by omega))
    have efd : fd7 Mi i = fd := by unfold fd7; rw [e7, nI_clamp (by omega)]
    have t := ih (i + 1) (by omega)
    rw [hpN] at t
    rw [e_Papers_helpful_6, e, if_pos (by rw [nI_lt' (by omega) (by omega)]; omega), if_pos p24, nI_clamp (by omega), if_pos p24, e7, x_bit (show fd < 32 by omega), if_pos p24, nI_1]
    by_cases h1 : (Mi 10 i) < b
    · rw [if_pos h1]
      by_cases h2 : bt fl fd = true
      · rw [if_neg (by rw [bI_t h2]; decide)]
        by_cases h3 : (nd &&& Mi 6 i) = 0
        · rw [if_pos h3]
          rw [if_neg (by unfold hpc; rw [decide_eq_true h3]; simp)] at t; exact t
        · rw [if_neg h3]
          rw [if_pos (by unfold hpc; rw [decide_eq_true h1, efd, h2, decide_eq_false h3]; rfl)] at t; exact t
      · rw [if_pos (bI_f h2)]
        rw [if_neg (by unfold hpc; rw [efd]; simp [h2])] at t; exact t
    · rw [if_neg h1]
      rw [if_neg (by unfold hpc; rw [decide_eq_false h1]; simp)] at t; exact t
theorem c_together {X : Nat × (Nat → Int32)} {Mi : MI} {Ml : ML} {np : Nat} (e : Mi 5 5 = nI np) (hnp : np ≤ 24) (hp : Int32) : ∀ n i, i + n = np → pdn X m_Papers_together (4, [.ref 5, .int hp, .int (tgN Mi hp i), .int (nI i)], [], (sh0, Mi, Ml, mr0), 0, 0) = some (some (.int (tgN Mi hp np)), (sh0, Mi, Ml, mr0)) := by
  intro n
  induction n with
  | zero =>
    intro i hi
    obtain rfl : i = np := by omega
    rw [e_Papers_together_4, e, if_neg (by rw [nI_lt' (by omega) (by omega)]; omega)]
  | succ n ih =>
    intro i hi
    have p24 : pin (nI i) 24 := pin_nI (by omega) (by decide)
    have t := ih (i + 1) (by omega)
    rw [tgN] at t
    rw [e_Papers_together_4, e, if_pos (by rw [nI_lt' (by omega) (by omega)]; omega), x_bit (show i < 32 by omega), if_pos p24, nI_clamp (by omega), nI_1]
    by_cases h : bt hp i = true
    · rw [if_neg (by rw [bI_t h]; decide)]
      rw [if_pos h] at t; exact t
    · rw [if_pos (bI_f h)]
      rw [if_neg h] at t; exact t
def ndv (Mi : MI) (l : Nat) (s : Int32) : Int32 := s &&& ((cl (Mi 3) (Mi (46 + 2 * l + 1) 5)) ^^^ (-1))
def bfv (Mi : MI) (f l : Nat) (s : Int32) : Int32 := dyv Mi f l s - Mi (46 + 2 * l + 1) 2
def flv (Mi : MI) (f : Nat) : Int32 := Mi 8 (Mi 15 f).toNatClampNeg
def hpv (Mi : MI) (f l : Nat) (s : Int32) (np : Nat) : Int32 := hpN Mi (ndv Mi l s) (bfv Mi f l s) (flv Mi f) np
def ezC (Mi : MI) (f l : Nat) (s : Int32) (np mo : Nat) : Int32 := if (ndv Mi l s &&& (tgN Mi (hpv Mi f l s np) np ^^^ (-1))) = 0 then (srch (fun m => cvr Mi (hpv Mi f l s np) np m (ndv Mi l s) (flv Mi f) 0) (mo + 1) 0).getD (-1) else -1
theorem c_ezl {X : Nat × (Nat → Int32)} {Mi : MI} {Ml : ML} {np l mo : Nat} (e : Mi 5 5 = nI np) (hnp : np ≤ 24) (h7 : ∀ p, p < np → pin (Mi 7 p) 5) (hl : l < 4) (hmo : mo ≤ 3) (em : Mi (46 + 2 * l + 1) 0 = nI mo) (v1 v2 v5 : Int32) (nd fl hp : Int32) : ∀ n m (w9 : Value), m + n = mo + 1 → pdn X m_Judge_easyPapers (94, [.ref 40, .int v1, .int v2, .ref (46 + 2 * l), .int nd, .int v5, .int fl, .int hp, .int (nI m), w9], [], (sh0, Mi, Ml, mr0), 0, 0) = some (some (.int ((srch (fun m => cvr Mi hp np m nd fl 0) n m).getD (-1))), (sh0, Mi, Ml, mr0)) := by
  intro n
  induction n with
  | zero =>
    intro m w9 hm
    obtain rfl : m = mo + 1 := by omega
    rw [w_Judge_easyPapers_94 _ _ _ (land_ho hl), if_pos (by decide), show Int32.toNatClampNeg 0 = 0 from by decide, em, if_pos (by rw [nI_lt' (by omega) (by omega)]; omega)]; rfl
  | succ n ih =>
    intro m w9 hm
    have t := c_cov3 (X := X) (Ml := Ml) e hnp h7 hp (show m ≤ 3 by omega) nd fl 0 (by omega)
    rw [show nI 0 = 0 from rfl] at t
    rw [w_Judge_easyPapers_94 _ _ _ (land_ho hl), if_pos (by decide), show Int32.toNatClampNeg 0 = 0 from by decide, em, if_neg (by rw [nI_lt' (by omega) (by omega)]; omega), t, Option.bind_some, pb_i, w_Judge_easyPapers_121 _ _ _ (land_ho hl), nI_1, ih (m + 1) _ (by omega)]
    cases hc : cvr Mi hp np m nd fl 0 with
    | none => rw [if_pos (by rfl), srch_n (by exact hc)]
    | some r => rw [if_neg (show ¬ (some r).getD (-1) = -1 from cvr_ne hnp (by omega) hc), srch_s (x := r) (by exact hc)]
theorem c_easyPapers {X : Nat × (Nat → Int32)} {Mi : MI} {Ml : ML} (h : JW Mi) {nf np f l mo : Nat} (ef : Mi 11 11 = nI nf) (hnf : nf ≤ 8) (hf : f < nf) (hl : l < 4) (ep : Mi 5 5 = nI np) (hnp : np ≤ 24) (hmo : mo ≤ 3) (em : Mi (46 + 2 * l + 1) 0 = nI mo) (s : Int32) : pD X m_Judge_easyPapers [.ref 40, .int s, .int (nI f), .ref (46 + 2 * l)] (sh0, Mi, Ml, mr0) = some (some (.int (ezC Mi f l s np mo)), (sh0, Mi, Ml, mr0)) := by
  obtain ⟨d1, _, _⟩ := j_day (X := X) (Ml := Ml) h ef hnf hf hl s
  obtain ⟨_, _, ⟨np', _, ep', _, hP⟩, ⟨nf', _, ef', _, hF, _⟩, _⟩ := h
  obtain rfl : np' = np := (nI_eq (by omega) (by omega)).mp (ep'.symm.trans ep)
  obtain rfl : nf' = nf := (nI_eq (by omega) (by omega)).mp (ef'.symm.trans ef)
  have h7 : ∀ p, p < np' → pin (Mi 7 p) 5 := fun p hp => (hP p hp).2.2.2.2.2.2
  have h15 : pin (Mi 15 f) 5 := (hF f hf).2.2.2.2.2.2.1
  have c5 : Int32.toNatClampNeg 5 = 5 := by decide
  have c2 : Int32.toNatClampNeg 2 = 2 := by decide
  have t := c_helpful (X := X) (Ml := Ml) ep hnp h7 (ndv Mi l s) (bfv Mi f l s) (flv Mi f) np' 0 (by omega)
  have u := c_together (X := X) (Ml := Ml) (Mi := Mi) ep hnp (hpv Mi f l s np') np' 0 (by omega)
  rw [d_Judge_easyPapers _ _ _ (land_ho hl), if_pos (by decide), c5, c_closed, Option.bind_some, pb_i, w_Judge_easyPapers_14 _ _ _ (land_ho hl), d1, Option.bind_some, pb_i, w_Judge_easyPapers_29 _ _ _ (land_ho hl), if_pos (by decide), c2, nI_clamp (by omega), if_pos (pin_nI (by omega) (by decide)), if_pos h15, d_Papers_helpful]
  rw [show pdn X m_Papers_helpful (6, [.ref 5, .int (s &&& ((cl (Mi 3) (Mi (46 + 2 * l + 1) 5)) ^^^ (-1))), .int (dyv Mi f l s - Mi (46 + 2 * l + 1) 2), .int (Mi 8 (Mi 15 f).toNatClampNeg), .int 0, .int 0], [], (sh0, Mi, Ml, mr0), 0, 0) = _ from t, Option.bind_some, pb_i, w_Judge_easyPapers_70 _ _ _ (land_ho hl), d_Papers_together]
  rw [show pdn X m_Papers_together (4, [.ref 5, .int (hpN Mi (ndv Mi l s) (bfv Mi f l s) (flv Mi f) np'), .int 0, .int 0], [], (sh0, Mi, Ml, mr0), 0, 0) = _ from u, Option.bind_some, pb_i, w_Judge_easyPapers_83 _ _ _ (land_ho hl)]
  have v := c_ezl (X := X) (Ml := Ml) ep hnp h7 hl hmo em s (nI f) (bfv Mi f l s) (ndv Mi l s) (flv Mi f) (hpv Mi f l s np') (mo + 1) 0 pm_nul (by omega)
  rw [show nI 0 = 0 from rfl] at v
  unfold ezC
  by_cases g : (ndv Mi l s &&& (tgN Mi (hpv Mi f l s np') np' ^^^ (-1))) = 0
  · rw [if_pos g]
    refine (if_pos g).trans ?_
    exact v
  · rw [if_neg g]
    exact if_neg g
