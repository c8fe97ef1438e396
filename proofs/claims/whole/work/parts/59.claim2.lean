/-! claim: ancestors by bits, and by steps -/
def HAnc (Mi : MI) (Ml : ML) (n : Nat) : Prop := ∀ q, q < n → ∃ (np : Nat) (pr : Nat → Nat), np ≤ 40 ∧ Mi 72 q = nI np ∧ (∀ k, k < np → pr k < q ∧ Mi 73 (40 * q + k) = nI (pr k)) ∧ ∀ p, p < 64 → (lb (Ml 29 q) p = true ↔ ∃ k, k < np ∧ (pr k = p ∨ lb (Ml 29 (pr k)) p = true))
theorem anc_lt {Mi : MI} {Ml : ML} {n : Nat} (h : HAnc Mi Ml n) {p : Nat} (hp : p < 64) : ∀ m q, q < m → q < n → lb (Ml 29 q) p = true → p < q := by
  intro m
  induction m with
  | zero => intro q hq; exact absurd hq (Nat.not_lt_zero q)
  | succ m ih =>
    intro q hqm hqn hl
    obtain ⟨np, pr, _, _, h3, h4⟩ := h q hqn
    obtain ⟨k, hk, e⟩ := (h4 p hp).mp hl
    have := (h3 k hk).1
    rcases e with e | e
    · omega
    · have := ih (pr k) (by omega) (by omega) e; omega
theorem inv_anc {Mi : MI} {Ml : ML} (h : Inv Mi Ml) {n : Nat} (e : Mi 23 9 = nI n) (hn : n ≤ 40) : HAnc Mi Ml n := by
  obtain ⟨n', h40, e1, e2, _, fs, mn, fo, ps, pe, V, hF, hQ⟩ := h.2.2.2.2.2.2.2.2.2
  obtain rfl : n' = n := (nI_eq (by omega) (by omega)).mp (e1.symm.trans e)
  intro q hq
  obtain ⟨_, _, ⟨_, _, p3, p4, _, _, p7, p8⟩, _, ha⟩ := hQ q hq
  refine ⟨pe q - ps q, fun k => (Mi 32 (ps q + k)).toNatClampNeg, by omega, p7, fun k hk => ?_, fun p hp => ?_⟩
  · obtain ⟨p, a1, a2, a3, a4⟩ := p8 k hk
    show (Mi 32 (ps q + k)).toNatClampNeg < q ∧ Mi 73 (40 * q + k) = nI (Mi 32 (ps q + k)).toNatClampNeg
    rw [a3, nI_clamp (by omega)]; exact ⟨a2, a4⟩
  · refine (ha p hp).trans ⟨fun ⟨k, hk, t⟩ => ⟨k, hk, t.imp (fun t => ?_) id⟩, fun ⟨k, hk, t⟩ => ⟨k, hk, t.imp (fun t => ?_) id⟩⟩
    · show (Mi 32 (ps q + k)).toNatClampNeg = p
      rw [t, nI_clamp (by omega)]
    · obtain ⟨p', a1, a2, a3, a4⟩ := p8 k hk
      have t' : (Mi 32 (ps q + k)).toNatClampNeg = p := t
      rw [a3, nI_clamp (by omega)] at t'
      rw [a3, t']
theorem c_hang_go {X : Nat × (Nat → Int32)} {Mi : MI} {Ml : ML} {c n : Nat} (hc : c < 40) (hn : n ≤ 40) (e : Mi 23 9 = nI n) : ∀ (m i : Nat), i + m = n → pdn X m_Claims_hangingOn (4, [.ref 23, .int (nI c), .int (nI (fb_ct (fun e => lb (Ml 29 e) c) i)), .int (nI i)], [], (sh0, Mi, Ml, mr0), 0, 0) = some (some (.int (nI (fb_ct (fun e => lb (Ml 29 e) c) n))), (sh0, Mi, Ml, mr0)) := by
  intro m
  induction m with
  | zero =>
    intro i hi
    obtain rfl : i = n := by omega
    rw [e_Claims_hangingOn_4, e, if_neg (by rw [nI_lt' (by omega) (by omega)]; omega)]
  | succ m ih =>
    intro i hi
    have := ih (i + 1) (by omega)
    rw [fb_ct_succ] at this
    rw [e_Claims_hangingOn_4, e, if_pos (by rw [nI_lt' (by omega) (by omega)]; omega), if_pos (pin_nI (by omega) (by decide)), nI_clamp (by omega), l_bit _ hc, nI_1, nI_1]
    by_cases h : lb (Ml 29 i) c = true
    · rw [if_neg (fun q => (l_c0 _).mp q h)]
      rw [if_pos h] at this; exact this
    · rw [if_pos ((l_c0 _).mpr h)]
      rw [if_neg h] at this; exact this
theorem c_ofIt_in {X : Nat × (Nat → Int32)} {Mi : MI} {Ml : ML} {k np : Nat} (hk : k < 40) (hnp : np ≤ 40) {pr : Nat → Nat} (h72 : Mi 72 k = nI np) (h73 : ∀ j, j < np → pr j < k ∧ Mi 73 (40 * k + j) = nI (pr j)) (v1 v4 : Int32) (S : Int64) : ∀ (m j : Nat) (is : Bool), j + m = np → pdn X m_M_ofIt (27, [.ref 54, .int v1, .long S, pm_nul, .int v4, .int (nI k), .int (bI (is = true)), .int (nI j)], [], (sh0, Mi, Ml, mr0), 0, 0) = pdn X m_M_ofIt (12, [.ref 54, .int v1, .long (S ||| (if (is || ((List.range np).drop j).any (fun t => lb S (pr t))) = true then 1 <<< ((nI k).toInt64 &&& 63) else 0)), pm_nul, .int (v4 + (if (is || ((List.range np).drop j).any (fun t => lb S (pr t))) = true then 1 else 0)), .int (nI (k + 1)), .int (bI ((is || ((List.range np).drop j).any (fun t => lb S (pr t))) = true)), .int (nI np)], [], (sh0, Mi, Ml, mr0), 0, 0) := by
  have p40 : pin (nI k) 40 := pin_nI hk (by decide)
  have cc : (nI k).toNatClampNeg = k := nI_clamp (by omega)
  intro m
  induction m with
  | zero =>
    intro j is hj
    obtain rfl : j = np := by omega
    have e : (List.range j).drop j = [] := by rw [List.drop_eq_nil_iff, List.length_range]; exact Nat.le_refl j
    rw [e_M_ofIt_27, if_pos p40, cc, h72, if_neg (by rw [nI_lt' (by omega) (by omega)]; omega), e]
    cases is with
    | true => rw [if_neg (by rw [bI_t rfl]; decide), e_M_ofIt_93, if_neg (by rw [bI_t rfl]; decide), nI_1]; rfl
    | false => rw [if_pos (bI_f (by decide)), e_M_ofIt_93, if_pos (bI_f (by decide)), nI_1]; rfl
  | succ m ih =>
    intro j is hj
    have ix : 40 * nI k + nI j = nI (40 * k + j) := by rw [show (40 : Int32) = nI 40 from rfl, nI_mul', nI_add]
    have ed : (is || ((List.range np).drop j).any (fun t => lb S (pr t))) = ((is || lb S (pr j)) || ((List.range np).drop (j + 1)).any (fun t => lb S (pr t))) := by
      rw [range_drop (show j < np by omega), List.any_cons, Bool.or_assoc]
    rw [ed, ← ih (j + 1) (is || lb S (pr j)) (by omega), e_M_ofIt_27, if_pos p40, cc, h72, if_pos (by rw [nI_lt' (by omega) (by omega)]; omega), nI_1]
    have hj' := h73 j (by omega)
    cases is with
    | true => rw [if_neg (by rw [bI_t rfl]; decide)]; rfl
    | false =>
      rw [if_pos (bI_f (by decide)), ix, if_pos (pin_nI (by omega) (by decide)), nI_clamp (by omega), hj'.2, l_bit _ (show pr j < 40 by omega), Bool.false_or]
      by_cases h : lb S (pr j) = true
      · rw [if_pos ((l_c1 _).mpr h), bI_t h]
      · rw [if_neg (fun q => h ((l_c1 _).mp q)), bI_f h]
theorem c_ofIt_go {X : Nat × (Nat → Int32)} {Mi : MI} {Ml : ML} {c n : Nat} (hc : c < n) (hn : n ≤ 40) (e : Mi 54 23 = nI n) (hA : HAnc Mi Ml n) : ∀ (m k : Nat) (S : Int64) (w6 w7 : Int32), k + m = n → c < k → (∀ p, p < k → lb S p = (decide (p = c) || lb (Ml 29 p) c)) → (∀ p, k ≤ p → lb S p = false) → pdn X m_M_ofIt (12, [.ref 54, .int (nI c), .long S, pm_nul, .int (nI (fb_ct (fun e => lb (Ml 29 e) c) k)), .int (nI k), .int w6, .int w7], [], (sh0, Mi, Ml, mr0), 0, 0) = some (some (.int (nI (fb_ct (fun e => lb (Ml 29 e) c) n))), (sh0, Mi, Ml, mr0)) := by
  intro m
  induction m with
  | zero =>
    intro k S w6 w7 hk hck h1 h2
    obtain rfl : k = n := by omega
    rw [e_M_ofIt_12v1, e, if_neg (by rw [nI_lt' (by omega) (by omega)]; omega)]
  | succ m ih =>
    intro k S w6 w7 hk hck h1 h2
    obtain ⟨np, pr, hnp, h72, h73, h4⟩ := hA k (by omega)
    rw [e_M_ofIt_12v1, e, if_pos (by rw [nI_lt' (by omega) (by omega)]; omega)]
    refine (c_ofIt_in (X := X) (Ml := Ml) (by omega) hnp h72 h73 (nI c) _ S np 0 false (by omega)).trans ?_
    have is : (false || ((List.range np).drop 0).any (fun t => lb S (pr t))) = lb (Ml 29 k) c := by
      rw [Bool.false_or, List.drop_zero, Bool.eq_iff_iff, List.any_eq_true, h4 c (by omega)]
      constructor
      · rintro ⟨t, ht, q⟩
        have ht' := List.mem_range.mp ht
        have := (h73 t ht').1
        rw [h1 (pr t) this, Bool.or_eq_true, decide_eq_true_iff] at q
        exact ⟨t, ht', q⟩
      · rintro ⟨t, ht, q⟩
        have := (h73 t ht).1
        refine ⟨t, List.mem_range.mpr ht, ?_⟩
        rw [h1 (pr t) this, Bool.or_eq_true, decide_eq_true_iff]; exact q
    rw [is]
    have ev : nI (fb_ct (fun e => lb (Ml 29 e) c) k) + (if lb (Ml 29 k) c = true then 1 else 0) = nI (fb_ct (fun e => lb (Ml 29 e) c) (k + 1)) := by
      rw [fb_ct_succ]
      by_cases q : lb (Ml 29 k) c = true
      · rw [if_pos q, if_pos q, nI_1]
      · rw [if_neg q, if_neg q, show (0 : Int32) = nI 0 from rfl, nI_add]
    rw [ev]
    refine ih (k + 1) _ _ _ (by omega) (by omega) (fun p hp => ?_) (fun p hp => ?_)
    · rw [l_or]
      by_cases q : lb (Ml 29 k) c = true
      · rw [if_pos q, l_one (by omega)]
        by_cases r : p = k
        · subst r; rw [h2 p (Nat.le_refl p), decide_eq_true rfl, q]; simp
        · rw [h1 p (by omega), decide_eq_false r, Bool.or_false]
      · rw [if_neg q, l_0, Bool.or_false]
        by_cases r : p = k
        · subst r; rw [h2 p (Nat.le_refl p), decide_eq_false (by omega), Bool.false_or]
          cases u : lb (Ml 29 p) c
          · rfl
          · exact absurd u q
        · rw [h1 p (by omega)]
    · rw [l_or, h2 p (by omega), Bool.false_or]
      by_cases q : lb (Ml 29 k) c = true
      · rw [if_pos q, l_one (by omega), decide_eq_false (by omega)]
      · rw [if_neg q, l_0]
theorem c_ofIt {X : Nat × (Nat → Int32)} {Mi : MI} {Ml : ML} {c n : Nat} (hc : c < n) (hn : n ≤ 40) (e : Mi 54 23 = nI n) (hA : HAnc Mi Ml n) : pD X m_M_ofIt [.ref 54, .int (nI c)] (sh0, Mi, Ml, mr0) = some (some (.int (nI (fb_ct (fun e => lb (Ml 29 e) c) n))), (sh0, Mi, Ml, mr0)) := by
  have lo : ∀ p, p ≤ c → lb (Ml 29 p) c = false := fun p hp => by
    cases q : lb (Ml 29 p) c
    · rfl
    · have := anc_lt hA (show c < 64 by omega) (p + 1) p (by omega) (by omega) q; omega
  have z : fb_ct (fun e => lb (Ml 29 e) c) (c + 1) = 0 := by
    have : fb_ct (fun e => lb (Ml 29 e) c) (c + 1) = fb_ct (fun _ => false) (c + 1) := fb_ct_cong (fun k hk => lo k (by omega))
    rw [this]
    have zz : ∀ m, fb_ct (fun _ => false) m = 0 := fun m => by
      induction m with
      | zero => rfl
      | succ m ih => rw [fb_ct_succ, ih]; rfl
    exact zz _
  have q := c_ofIt_go (X := X) hc hn e hA (n - (c + 1)) (c + 1) (1 <<< ((nI c).toInt64 &&& 63)) 0 0 (by omega) (by omega) (fun p hp => by
    rw [l_one (by omega), lo p (by omega), Bool.or_false]) (fun p hp => by rw [l_one (by omega), decide_eq_false (by omega)])
  rw [z] at q
  rw [d_M_ofIt, nI_1]
  exact ((e_M_ofIt_12 X Mi Ml _ _ _ _).trans (e_M_ofIt_12v1 X Mi Ml _ _ _ _ _ _).symm).trans q
