/-! VERSIONS: the class builds a claim's row -/
theorem c_bv_in {X : Nat × (Nat → Int32)} {Ml : ML} {c p : Nat} (hc : c < 40) (hp : p < c) (more : Int32) (k : Nat) (vp : List Int32) : ∀ (n v : Nat) (l : List Int32) (M : MI), v + n = vp.length → rowA (M 27) (M 28) p vp → rowA (M 27) (M 28) c l → ∃ M' : MI, FrV 27 28 c M M' ∧ (∀ l2, putvs more l (vp.drop v) = some l2 → pdn X m_Claims_build (71, [.ref 23, .int (nI c), .int more, .int (nI k), .int (nI p), .int (nI v)], [], (sh0, M, Ml, mr0), 0, 0) = pdn X m_Claims_build (50, [.ref 23, .int (nI c), .int more, .int (nI (k + 1)), .int (nI p), .int (nI vp.length)], [], (sh0, M', Ml, mr0), 0, 0) ∧ rowA (M' 27) (M' 28) c l2) ∧ (putvs more l (vp.drop v) = none → pdn X m_Claims_build (71, [.ref 23, .int (nI c), .int more, .int (nI k), .int (nI p), .int (nI v)], [], (sh0, M, Ml, mr0), 0, 0) = some (some (.int 0), (sh0, M', Ml, mr0)) ∧ ∃ l2, rowA (M' 27) (M' 28) c l2) := by
  have p40 : pin (nI p) 40 := pin_nI (by omega) (by decide)
  have cp : (nI p).toNatClampNeg = p := nI_clamp (by omega)
  intro n
  induction n with
  | zero =>
    intro v l M hv hrp hrc
    have h8 := hrp.2.1
    obtain rfl : v = vp.length := by omega
    rw [List.drop_length]
    refine ⟨M, FrV_id _ _ _ _, fun l2 h2 => ?_, fun q => absurd q (by simp [putvs])⟩
    obtain rfl : l = l2 := Option.some.inj h2
    refine ⟨?_, hrc⟩
    rw [e_Claims_build_71, if_pos p40, cp, hrp.1, if_neg (by rw [nI_lt' (by omega) (by omega)]; omega), nI_1]
  | succ n ih =>
    intro v l M hv hrp hrc
    have h8 := hrp.2.1
    have ix : nI p * 8 + nI v = nI (8 * p + v) := by rw [show (8 : Int32) = nI 8 from rfl, nI_mul', nI_add, Nat.mul_comm]
    obtain ⟨M1, t1, t2, t3⟩ := c_putC (X := X) (Ml := Ml) hc hrc (vp.getD v 0 ||| more)
    have e0 : pdn X m_Claims_build (71, [.ref 23, .int (nI c), .int more, .int (nI k), .int (nI p), .int (nI v)], [], (sh0, M, Ml, mr0), 0, 0) = pdn X m_Claims_build (98, [.ref 23, .int (nI c), .int more, .int (nI k), .int (nI p), .int (nI v)], [.int (bI ((putv l (vp.getD v 0 ||| more)).isSome = true))], (sh0, M1, Ml, mr0), 0, 0) := by
      rw [e_Claims_build_71, if_pos p40, cp, hrp.1, if_pos (by rw [nI_lt' (by omega) (by omega)]; omega), d_Claims_versionAt, ix, if_pos (pin_nI (by omega) (by decide)), nI_clamp (by omega), hrp.2.2 v (by omega), Option.bind_some, pb_i, e_Claims_build_93, t1, Option.bind_some, pb_i]
    rw [e0, e_Claims_build_98, nI_1, drop_at (show v < vp.length by omega)]
    cases hs : putv l (vp.getD v 0 ||| more) with
    | none =>
      refine ⟨M1, t2, fun l2 h2 => ?_, fun _ => ⟨?_, ?_⟩⟩
      · rw [putvs, hs] at h2; exact absurd h2 (by simp)
      · rw [if_pos (bI_f (by simp))]
      · exact ⟨_, t3⟩
    | some l3 =>
      rw [hs] at t3
      obtain ⟨M', u0, u1, u2⟩ := ih (v + 1) l3 M1 (by omega) (row_fr t2 (by omega) hrp) t3
      have e1 : putvs more l (vp.getD v 0 :: vp.drop (v + 1)) = putvs more l3 (vp.drop (v + 1)) := by rw [putvs, hs, Option.bind_some]
      rw [e1, if_neg (by rw [bI_t (show (some l3).isSome = true from rfl)]; decide)]
      exact ⟨M', FrV_tr t2 u0, u1, u2⟩
theorem putvs_app (more : Int32) : ∀ (r l r2 : List Int32), putvs more l (r ++ r2) = (putvs more l r).bind (fun l2 => putvs more l2 r2)
  | [], l, r2 => rfl
  | s :: r, l, r2 => by
    rw [List.cons_append, putvs, putvs]
    cases putv l (s ||| more) with
    | none => rfl
    | some l3 => rw [Option.bind_some, Option.bind_some]; exact putvs_app more r l3 r2
theorem c_bv_out {X : Nat × (Nat → Int32)} {Ml : ML} {c np s : Nat} (hc : c < 40) (hnp : s + np ≤ 800) (more : Int32) (pr : Nat → Nat) (V : Nat → List Int32) (hpr : ∀ k, k < np → pr k < c) : ∀ (n k : Nat) (l : List Int32) (M : MI) (w5 w6 : Int32), k + n = np → M 31 c = nI (s + np) → (∀ k, k < np → M 32 (s + k) = nI (pr k)) → (∀ k, k < np → rowA (M 27) (M 28) (pr k) (V (pr k))) → rowA (M 27) (M 28) c l → ∃ M' : MI, pdn X m_Claims_build (50, [.ref 23, .int (nI c), .int more, .int (nI (s + k)), .int w5, .int w6], [], (sh0, M, Ml, mr0), 0, 0) = some (some (.int (bI ((putvs more l ((((List.range np).drop k).map (fun k => V (pr k))).flatten)).isSome = true))), (sh0, M', Ml, mr0)) ∧ FrV 27 28 c M M' ∧ ∃ l2, rowA (M' 27) (M' 28) c l2 ∧ ∀ l', putvs more l ((((List.range np).drop k).map (fun k => V (pr k))).flatten) = some l' → l2 = l' := by
  have p40 : pin (nI c) 40 := pin_nI hc (by decide)
  have cc : (nI c).toNatClampNeg = c := nI_clamp (by omega)
  intro n
  induction n with
  | zero =>
    intro k l M w5 w6 hk h31 h32 hrp hrc
    obtain rfl : k = np := by omega
    have e : (List.range k).drop k = [] := by rw [List.drop_eq_nil_iff, List.length_range]; exact Nat.le_refl k
    rw [e]
    refine ⟨M, ?_, FrV_id _ _ _ _, l, hrc, fun l' h => Option.some.inj h⟩
    rw [e_Claims_build_50v1, if_pos p40, cc, h31, if_neg (by rw [nI_lt' (by omega) (by omega)]; omega)]
    rfl
  | succ n ih =>
    intro k l M w5 w6 hk h31 h32 hrp hrc
    have e0 : pdn X m_Claims_build (50, [.ref 23, .int (nI c), .int more, .int (nI (s + k)), .int w5, .int w6], [], (sh0, M, Ml, mr0), 0, 0) = pdn X m_Claims_build (71, [.ref 23, .int (nI c), .int more, .int (nI (s + k)), .int (nI (pr k)), .int (nI 0)], [], (sh0, M, Ml, mr0), 0, 0) := by
      rw [e_Claims_build_50v1, if_pos p40, cc, h31, if_pos (by rw [nI_lt' (by omega) (by omega)]; omega), if_pos (pin_nI (by omega) (by decide)), nI_clamp (by omega), h32 k (by omega)]
      rfl
    obtain ⟨M1, t0, t1, t2⟩ := c_bv_in (X := X) (Ml := Ml) hc (hpr k (by omega)) more (s + k) (V (pr k)) (V (pr k)).length 0 l M (by omega) (hrp k (by omega)) hrc
    rw [List.drop_zero] at t1 t2
    rw [e0, range_drop (show k < np by omega), List.map_cons, List.flatten_cons, putvs_app]
    cases hs : putvs more l (V (pr k)) with
    | none =>
      obtain ⟨a1, l2, a2⟩ := t2 hs
      refine ⟨M1, a1, t0, l2, a2, fun l' h => absurd h (by simp)⟩
    | some l3 =>
      obtain ⟨a1, a2⟩ := t1 l3 hs
      obtain ⟨M', u1, u2, u3⟩ := ih (k + 1) l3 M1 (nI (pr k)) (nI (V (pr k)).length) (by omega) (by rw [t0.1 31 (by decide) (by decide)]; exact h31) (fun j hj => by rw [t0.1 32 (by decide) (by decide)]; exact h32 j hj) (fun j hj => row_fr t0 (by have := hpr j hj; omega) (hrp j hj)) a2
      rw [Option.bind_some]
      exact ⟨M', a1.trans u1, FrV_tr t0 u2, u3⟩
theorem c_build {X : Nat × (Nat → Int32)} {M : MI} {Ml : ML} {c np s : Nat} (hc : c < 40) (hnp : s + np ≤ 800) (pr : Nat → Nat) (V : Nat → List Int32) (hpr : ∀ k, k < np → pr k < c) (h30 : M 30 c = nI s) (h31 : M 31 c = nI (s + np)) (h32 : ∀ k, k < np → M 32 (s + k) = nI (pr k)) (hrp : ∀ k, k < np → rowA (M 27) (M 28) (pr k) (V (pr k))) : ∃ M' : MI, pD X m_Claims_build [.ref 23, .int (nI c)] (sh0, M, Ml, mr0) = some (some (.int (bI ((bldv (M 25 c ||| M 26 c) ((List.range np).map (fun k => V (pr k)))).isSome = true))), (sh0, M', Ml, mr0)) ∧ FrV 27 28 c M M' ∧ ∃ l, rowA (M' 27) (M' 28) c l ∧ ∀ l', bldv (M 25 c ||| M 26 c) ((List.range np).map (fun k => V (pr k))) = some l' → l = l' := by
  have p40 : pin (nI c) 40 := pin_nI hc (by decide)
  have cc : (nI c).toNatClampNeg = c := nI_clamp (by omega)
  have f0 : FrV 27 28 c M (pm_up M 27 c 0) := ⟨fun k q1 _ => up_off q1, fun q e => up_kk e, fun i _ => by rw [up_off (by decide)]⟩
  have r0 : rowA ((pm_up M 27 c 0) 27) ((pm_up M 27 c 0) 28) c [] := ⟨up_ok, Nat.zero_le _, fun i hi => absurd hi (Nat.not_lt_zero i)⟩
  rw [d_Claims_build, if_pos p40, if_pos p40, if_pos p40, if_pos p40, if_pos p40, cc, h30, h31]
  by_cases h0 : np = 0
  · subst h0
    obtain ⟨M1, t1, t2, t3⟩ := c_putC (X := X) (Ml := Ml) hc r0 (M 25 c ||| M 26 c)
    rw [if_pos (show nI s = nI (s + 0) from rfl), t1, Option.bind_some, pb_i, e_Claims_build_42, if_pos (bI_nar _)]
    have e : bldv (M 25 c ||| M 26 c) ((List.range 0).map (fun k => V (pr k))) = putv [] (M 25 c ||| M 26 c) := rfl
    rw [e]
    refine ⟨M1, rfl, FrV_tr f0 t2, _, t3, fun l' hl => by rw [hl]; rfl⟩
  · have hne : ¬ nI s = nI (s + np) := fun q => by have := (nI_eq (by omega) (by omega)).mp q; omega
    rw [if_neg hne, if_pos p40]
    have hb : bldv (M 25 c ||| M 26 c) ((List.range np).map (fun k => V (pr k))) = putvs (M 25 c ||| M 26 c) [] ((List.range np).map (fun k => V (pr k))).flatten := by
      unfold bldv
      rw [if_neg]
      intro q
      have : ((List.range np).map (fun k => V (pr k))).length = 0 := by rw [List.isEmpty_iff.mp q]; rfl
      rw [List.length_map, List.length_range] at this
      exact h0 this
    have first : pdn X m_Claims_build (50, [.ref 23, .int (nI c), .int (M 25 c ||| M 26 c), .int (nI s), pm_nul, pm_nul], [], (sh0, pm_up M 27 c 0, Ml, mr0), 0, 0) = pdn X m_Claims_build (50, [.ref 23, .int (nI c), .int (M 25 c ||| M 26 c), .int (nI (s + 0)), .int 0, .int 0], [], (sh0, pm_up M 27 c 0, Ml, mr0), 0, 0) := by
      rw [e_Claims_build_50, e_Claims_build_50v1]; rfl
    rw [first]
    obtain ⟨M', u1, u2, u3⟩ := c_bv_out (X := X) (Ml := Ml) hc hnp (M 25 c ||| M 26 c) pr V hpr np 0 [] (pm_up M 27 c 0) 0 0 (by omega) (by rw [up_off (by decide)]; exact h31) (fun k hk => by rw [up_off (by decide)]; exact h32 k hk) (fun k hk => row_fr f0 (by have := hpr k hk; omega) (hrp k hk)) r0
    rw [List.drop_zero] at u1 u3
    rw [hb]
    exact ⟨M', u1, FrV_tr f0 u2, u3⟩
