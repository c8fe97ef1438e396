/-! VERSIONS: the reference finds a claim's row anew -/
def gp (more : Int32) (t : List Int32 × Bool) (s : Int32) : List Int32 × Bool := ((putv t.1 (s ||| more)).getD t.1, t.2 && (putv t.1 (s ||| more)).isSome)
theorem gp_false (more : Int32) : ∀ (r : List Int32) (l : List Int32), (r.foldl (gp more) (l, false)).2 = false
  | [], _ => rfl
  | s :: r, l => by rw [List.foldl_cons]; exact gp_false more r _
theorem gp_some (more : Int32) : ∀ (r l l2 : List Int32), putvs more l r = some l2 → r.foldl (gp more) (l, true) = (l2, true)
  | [], l, l2, h => by have : l = l2 := Option.some.inj h; rw [this]; rfl
  | s :: r, l, l2, h => by
    rw [putvs] at h
    cases e : putv l (s ||| more) with
    | none => rw [e] at h; exact absurd h (by simp)
    | some l3 =>
      rw [e, Option.bind_some] at h
      rw [List.foldl_cons]
      have : gp more (l, true) s = (l3, true) := by unfold gp; rw [e]; rfl
      rw [this]; exact gp_some more r l3 l2 h
theorem gp_none (more : Int32) : ∀ (r l : List Int32), putvs more l r = none → (r.foldl (gp more) (l, true)).2 = false
  | [], l, h => by exact absurd h (by simp [putvs])
  | s :: r, l, h => by
    rw [putvs] at h
    rw [List.foldl_cons]
    cases e : putv l (s ||| more) with
    | none =>
      have : gp more (l, true) s = (l, false) := by unfold gp; rw [e]; rfl
      rw [this]; exact gp_false more r l
    | some l3 =>
      rw [e, Option.bind_some] at h
      have : gp more (l, true) s = (l3, true) := by unfold gp; rw [e]; rfl
      rw [this]; exact gp_none more r l3 h
theorem drop_at {l : List Int32} {i : Nat} (h : i < l.length) : l.drop i = l.getD i 0 :: l.drop (i + 1) := by
  rw [gD_at h]; exact List.drop_eq_getElem_cons h
theorem row_fr {a b c p : Nat} {M M' : MI} {l : List Int32} (h : FrV a b c M M') (hp : p ≠ c) (hr : rowA (M a) (M b) p l) : rowA (M' a) (M' b) p l := by
  refine ⟨by rw [h.2.1 p hp]; exact hr.1, hr.2.1, fun i hi => ?_⟩
  have := hr.2.1
  rw [h.2.2 (8 * p + i) (by omega)]; exact hr.2.2 i hi
theorem c_fv_in {X : Nat × (Nat → Int32)} {Ml : ML} {c p : Nat} (hc : c < 40) (hp : p < c) (more : Int32) (k : Nat) (vp : List Int32) : ∀ (n v : Nat) (l : List Int32) (g : Bool) (M : MI), v + n = vp.length → rowA (M 76) (M 77) p vp → rowA (M 76) (M 77) c l → ∃ M' : MI, pdn X m_M_findVersions (70, [.ref 54, .int (nI c), .int more, .int (bI (g = true)), .int (nI k), .int (nI p), .int (nI v)], [], (sh0, M, Ml, mr0), 0, 0) = pdn X m_M_findVersions (42, [.ref 54, .int (nI c), .int more, .int (bI (((vp.drop v).foldl (gp more) (l, g)).2 = true)), .int (nI (k + 1)), .int (nI p), .int (nI vp.length)], [], (sh0, M', Ml, mr0), 0, 0) ∧ FrV 76 77 c M M' ∧ rowA (M' 76) (M' 77) c ((vp.drop v).foldl (gp more) (l, g)).1 := by
  have p40 : pin (nI p) 40 := pin_nI (by omega) (by decide)
  have cp : (nI p).toNatClampNeg = p := nI_clamp (by omega)
  intro n
  induction n with
  | zero =>
    intro v l g M hv hrp hrc
    have h8 := hrp.2.1
    obtain rfl : v = vp.length := by omega
    rw [List.drop_length]
    refine ⟨M, ?_, FrV_id _ _ _ _, hrc⟩
    rw [e_M_findVersions_70, if_pos p40, cp, hrp.1, if_neg (by rw [nI_lt' (by omega) (by omega)]; omega), nI_1]
    rfl
  | succ n ih =>
    intro v l g M hv hrp hrc
    have h8 := hrp.2.1
    have ix : 8 * nI p + nI v = nI (8 * p + v) := by rw [show (8 : Int32) = nI 8 from rfl, nI_mul', nI_add]
    obtain ⟨M1, t1, t2, t3⟩ := c_putM (X := X) (Ml := Ml) hc hrc (vp.getD v 0 ||| more)
    rw [e_M_findVersions_70, if_pos p40, cp, hrp.1, if_pos (by rw [nI_lt' (by omega) (by omega)]; omega), ix, if_pos (pin_nI (by omega) (by decide)), nI_clamp (by omega), hrp.2.2 v (by omega), t1, Option.bind_some, pb_i, e_M_findVersions_102, nI_1, drop_at (show v < vp.length by omega), List.foldl_cons]
    have hg : gp more (l, g) (vp.getD v 0) = ((putv l (vp.getD v 0 ||| more)).getD l, g && (putv l (vp.getD v 0 ||| more)).isSome) := rfl
    obtain ⟨M', u1, u2, u3⟩ := ih (v + 1) ((putv l (vp.getD v 0 ||| more)).getD l) (g && (putv l (vp.getD v 0 ||| more)).isSome) M1 (by omega) (row_fr t2 (by omega) hrp) t3
    refine ⟨M', ?_, FrV_tr t2 u2, by rw [hg]; exact u3⟩
    rw [hg, ← u1]
    by_cases hs : (putv l (vp.getD v 0 ||| more)).isSome = true
    · rw [if_neg (by rw [bI_t hs]; decide)]
      cases g with
      | true =>
        rw [if_neg (by rw [bI_t rfl]; decide), hs]; rfl
      | false =>
        rw [if_pos (bI_f (by decide))]; rfl
    · rw [if_pos (bI_f hs)]
      have : (g && (putv l (vp.getD v 0 ||| more)).isSome) = false := by
        cases q : (putv l (vp.getD v 0 ||| more)).isSome
        · exact Bool.and_false g
        · exact absurd q hs
      rw [this]; rfl
theorem range_drop {n k : Nat} (h : k < n) : (List.range n).drop k = k :: (List.range n).drop (k + 1) := by
  have := List.drop_eq_getElem_cons (l := List.range n) (i := k) (by rw [List.length_range]; exact h)
  rw [this, List.getElem_range]
theorem c_fv_out {X : Nat × (Nat → Int32)} {Ml : ML} {c np : Nat} (hc : c < 40) (hnp : np ≤ 40) (more : Int32) (pr : Nat → Nat) (V : Nat → List Int32) (hpr : ∀ k, k < np → pr k < c) : ∀ (n k : Nat) (l : List Int32) (g : Bool) (M : MI) (w5 w6 : Int32), k + n = np → M 72 c = nI np → (∀ k, k < np → M 73 (40 * c + k) = nI (pr k)) → (∀ k, k < np → rowA (M 76) (M 77) (pr k) (V (pr k))) → rowA (M 76) (M 77) c l → ∃ M' : MI, pdn X m_M_findVersions (42, [.ref 54, .int (nI c), .int more, .int (bI (g = true)), .int (nI k), .int w5, .int w6], [], (sh0, M, Ml, mr0), 0, 0) = some (some (.int (bI ((((((List.range np).drop k).map (fun k => V (pr k))).flatten).foldl (gp more) (l, g)).2 = true))), (sh0, M', Ml, mr0)) ∧ FrV 76 77 c M M' ∧ rowA (M' 76) (M' 77) c (((((List.range np).drop k).map (fun k => V (pr k))).flatten).foldl (gp more) (l, g)).1 := by
  have p40 : pin (nI c) 40 := pin_nI hc (by decide)
  have cc : (nI c).toNatClampNeg = c := nI_clamp (by omega)
  intro n
  induction n with
  | zero =>
    intro k l g M w5 w6 hk h72 h73 hrp hrc
    obtain rfl : k = np := by omega
    have e : (List.range k).drop k = [] := by rw [List.drop_eq_nil_iff, List.length_range]; exact Nat.le_refl k
    rw [e]
    refine ⟨M, ?_, FrV_id _ _ _ _, hrc⟩
    rw [e_M_findVersions_42v1, if_pos p40, cc, h72, if_neg (by rw [nI_lt' (by omega) (by omega)]; omega), if_pos (bI_nar _)]
    rfl
  | succ n ih =>
    intro k l g M w5 w6 hk h72 h73 hrp hrc
    have ix : 40 * nI c + nI k = nI (40 * c + k) := by rw [show (40 : Int32) = nI 40 from rfl, nI_mul', nI_add]
    rw [e_M_findVersions_42v1, if_pos p40, cc, h72, if_pos (by rw [nI_lt' (by omega) (by omega)]; omega), ix, if_pos (pin_nI (by omega) (by decide)), nI_clamp (by omega), h73 k (by omega)]
    obtain ⟨M1, t1, t2, t3⟩ := c_fv_in (X := X) (Ml := Ml) hc (hpr k (by omega)) more k (V (pr k)) (V (pr k)).length 0 l g M (by omega) (hrp k (by omega)) hrc
    rw [List.drop_zero] at t1 t3
    obtain ⟨M', u1, u2, u3⟩ := ih (k + 1) ((V (pr k)).foldl (gp more) (l, g)).1 ((V (pr k)).foldl (gp more) (l, g)).2 M1 (nI (pr k)) (nI (V (pr k)).length) (by omega) (by rw [t2.1 72 (by decide) (by decide)]; exact h72) (fun j hj => by rw [t2.1 73 (by decide) (by decide)]; exact h73 j hj) (fun j hj => row_fr t2 (by have := hpr j hj; omega) (hrp j hj)) t3
    have t1' : pdn X m_M_findVersions (70, [.ref 54, .int (nI c), .int more, .int (bI (g = true)), .int (nI k), .int (nI (pr k)), .int 0], [], (sh0, M, Ml, mr0), 0, 0) = _ := t1
    rw [range_drop (show k < np by omega), List.map_cons, List.flatten_cons, List.foldl_append]
    exact ⟨M', t1'.trans u1, FrV_tr t2 u2, u3⟩
theorem c_findV {X : Nat × (Nat → Int32)} {M : MI} {Ml : ML} {c np : Nat} (hc : c < 40) (hnp : np ≤ 40) (pr : Nat → Nat) (V : Nat → List Int32) (hpr : ∀ k, k < np → pr k < c) (h72 : M 72 c = nI np) (h73 : ∀ k, k < np → M 73 (40 * c + k) = nI (pr k)) (hrp : ∀ k, k < np → rowA (M 76) (M 77) (pr k) (V (pr k))) : ∃ M' : MI, pD X m_M_findVersions [.ref 54, .int (nI c)] (sh0, M, Ml, mr0) = some (some (.int (bI ((bldv (M 70 c ||| M 71 c) ((List.range np).map (fun k => V (pr k)))).isSome = true))), (sh0, M', Ml, mr0)) ∧ FrV 76 77 c M M' ∧ ∃ l, rowA (M' 76) (M' 77) c l ∧ ∀ l', bldv (M 70 c ||| M 71 c) ((List.range np).map (fun k => V (pr k))) = some l' → l = l' := by
  have p40 : pin (nI c) 40 := pin_nI hc (by decide)
  have cc : (nI c).toNatClampNeg = c := nI_clamp (by omega)
  have f0 : FrV 76 77 c M (pm_up M 76 c 0) := ⟨fun k q1 _ => up_off q1, fun q e => up_kk e, fun i _ => by rw [up_off (by decide)]⟩
  have r0 : rowA ((pm_up M 76 c 0) 76) ((pm_up M 76 c 0) 77) c [] := ⟨up_ok, Nat.zero_le _, fun i hi => absurd hi (Nat.not_lt_zero i)⟩
  rw [d_M_findVersions, if_pos p40, if_pos p40, if_pos p40, if_pos p40, cc, h72]
  by_cases h0 : np = 0
  · subst h0
    obtain ⟨M1, t1, t2, t3⟩ := c_putM (X := X) (Ml := Ml) hc r0 (M 70 c ||| M 71 c)
    rw [if_pos (show nI 0 = 0 from rfl), t1, Option.bind_some, pb_i, e_M_findVersions_36, if_pos (bI_nar _)]
    have e : bldv (M 70 c ||| M 71 c) ((List.range 0).map (fun k => V (pr k))) = putv [] (M 70 c ||| M 71 c) := rfl
    rw [e]
    refine ⟨M1, rfl, FrV_tr f0 t2, _, t3, fun l' hl => by rw [hl]; rfl⟩
  · have hne : ¬ nI np = 0 := fun q => h0 ((nI_is (m := 0) rfl (by omega) (by decide)).mp q)
    rw [if_neg hne]
    have hb : bldv (M 70 c ||| M 71 c) ((List.range np).map (fun k => V (pr k))) = putvs (M 70 c ||| M 71 c) [] ((List.range np).map (fun k => V (pr k))).flatten := by
      unfold bldv
      rw [if_neg]
      intro q
      have : ((List.range np).map (fun k => V (pr k))).length = 0 := by rw [List.isEmpty_iff.mp q]; rfl
      rw [List.length_map, List.length_range] at this
      exact h0 this
    have q := c_fv_out (X := X) (Ml := Ml) hc hnp (M 70 c ||| M 71 c) pr V hpr
    -- the first pass, by its own words
    have ix : 40 * nI c + nI 0 = nI (40 * c + 0) := by rw [show (40 : Int32) = nI 40 from rfl, nI_mul', nI_add]
    have first : pdn X m_M_findVersions (42, [.ref 54, .int (nI c), .int (M 70 c ||| M 71 c), .int 1, .int 0, pm_nul, pm_nul], [], (sh0, pm_up M 76 c 0, Ml, mr0), 0, 0) = pdn X m_M_findVersions (42, [.ref 54, .int (nI c), .int (M 70 c ||| M 71 c), .int (bI (true = true)), .int (nI 0), .int 0, .int 0], [], (sh0, pm_up M 76 c 0, Ml, mr0), 0, 0) := by
      rw [e_M_findVersions_42, e_M_findVersions_42v1]; rfl
    rw [first]
    obtain ⟨M', u1, u2, u3⟩ := q np 0 [] true (pm_up M 76 c 0) 0 0 (by omega) (by rw [up_off (by decide)]; exact h72) (fun k hk => by rw [up_off (by decide)]; exact h73 k hk) (fun k hk => row_fr f0 (by have := hpr k hk; omega) (hrp k hk)) r0
    rw [List.drop_zero] at u1 u3
    refine ⟨M', ?_, FrV_tr f0 u2, _, u3, fun l' hl => ?_⟩
    · rw [u1, hb]
      cases hq : putvs (M 70 c ||| M 71 c) [] ((List.range np).map (fun k => V (pr k))).flatten with
      | none => rw [bI_f (by rw [gp_none _ _ _ hq]; decide)]; rfl
      | some l2 => rw [gp_some _ _ _ _ hq]; rfl
    · rw [hb] at hl
      rw [gp_some _ _ _ _ hl]
