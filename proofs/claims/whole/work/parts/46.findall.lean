/-! VERSIONS: the reference finds all rows of a filing; the operations version and claim -/
def FPar (f70 f71 f72 f73 : Nat → Int32) (V : Nat → List Int32) (s q : Nat) : Prop := ∃ (np : Nat) (pr : Nat → Nat), np ≤ 40 ∧ (∀ k, k < np → s ≤ pr k ∧ pr k < q) ∧ f72 q = nI np ∧ (∀ k, k < np → f73 (40 * q + k) = nI (pr k)) ∧ bldv (f70 q ||| f71 q) ((List.range np).map (fun k => V (pr k))) = some (V q)
theorem c_fa_go {X : Nat × (Nat → Int32)} {Ml : ML} {f s m : Nat} (hf : f < 8) (hm : s + m ≤ 40) (V : Nat → List Int32) : ∀ (n i : Nat) (M : MI), i + n = s + m → s ≤ i → M 74 f = nI s → M 75 f = nI m → (∀ q, s ≤ q → q < s + m → FPar (M 70) (M 71) (M 72) (M 73) V s q) → (∀ q, s ≤ q → q < i → rowA (M 76) (M 77) q (V q)) → ∃ M' : MI, pdn X m_M_findAll (9, [.ref 54, .int (nI f), .int 1, .int (nI i)], [], (sh0, M, Ml, mr0), 0, 0) = some (some (.int 1), (sh0, M', Ml, mr0)) ∧ (∀ k, k ≠ 76 → k ≠ 77 → M' k = M k) ∧ (∀ q, s ≤ q → q < s + m → rowA (M' 76) (M' 77) q (V q)) ∧ (∀ q l, (q < i ∨ s + m ≤ q) → rowA (M 76) (M 77) q l → rowA (M' 76) (M' 77) q l) := by
  have p8 : pin (nI f) 8 := pin_nI hf (by decide)
  have cf : (nI f).toNatClampNeg = f := nI_clamp (by omega)
  intro n
  induction n with
  | zero =>
    intro i M hi hsi h74 h75 hP hR
    obtain rfl : i = s + m := by omega
    refine ⟨M, ?_, fun _ _ _ => rfl, hR, fun _ _ _ q => q⟩
    rw [e_M_findAll_9, if_pos p8, if_pos p8, cf, h74, h75, nI_add, if_neg (by rw [nI_lt' (by omega) (by omega)]; omega), if_pos (by decide)]
  | succ n ih =>
    intro i M hi hsi h74 h75 hP hR
    obtain ⟨np, pr, h1, h2, h3, h4, h5⟩ := hP i hsi (by omega)
    obtain ⟨M1, t1, t2, l, t3, t4⟩ := c_findV (X := X) (M := M) (Ml := Ml) (c := i) (np := np) (by omega) h1 pr V (fun k hk => (h2 k hk).2) h3 h4 (fun k hk => hR (pr k) (h2 k hk).1 (h2 k hk).2)
    obtain rfl : l = V i := t4 _ h5
    rw [e_M_findAll_9, if_pos p8, if_pos p8, cf, h74, h75, nI_add, if_pos (by rw [nI_lt' (by omega) (by omega)]; omega), t1, h5, Option.bind_some, pb_i, e_M_findAll_31, bI_t (show (some (V i)).isSome = true from rfl), if_neg (by decide), if_neg (by decide), nI_1]
    have g70 := t2.1 70 (by decide) (by decide)
    have g71 := t2.1 71 (by decide) (by decide)
    have g72 := t2.1 72 (by decide) (by decide)
    have g73 := t2.1 73 (by decide) (by decide)
    obtain ⟨M', u1, u2, u3, u4⟩ := ih (i + 1) M1 (by omega) (by omega) (by rw [t2.1 74 (by decide) (by decide)]; exact h74) (by rw [t2.1 75 (by decide) (by decide)]; exact h75) (by rw [g70, g71, g72, g73]; exact hP) (fun q q1 q2 => by
      by_cases e : q = i
      · rw [e]; exact t3
      · exact row_fr t2 e (hR q q1 (by omega)))
    exact ⟨M', u1, fun k q1 q2 => (u2 k q1 q2).trans (t2.1 k q1 q2), u3, fun q l' hq hr => u4 q l' (by omega) (row_fr t2 (by omega) hr)⟩
theorem c_findAll {X : Nat × (Nat → Int32)} {Ml : ML} {f s m : Nat} (hf : f < 8) (hm : s + m ≤ 40) (V : Nat → List Int32) (M : MI) (h74 : M 74 f = nI s) (h75 : M 75 f = nI m) (hP : ∀ q, s ≤ q → q < s + m → FPar (M 70) (M 71) (M 72) (M 73) V s q) : ∃ M' : MI, pD X m_M_findAll [.ref 54, .int (nI f)] (sh0, M, Ml, mr0) = some (some (.int 1), (sh0, M', Ml, mr0)) ∧ (∀ k, k ≠ 76 → k ≠ 77 → M' k = M k) ∧ (∀ q, s ≤ q → q < s + m → rowA (M' 76) (M' 77) q (V q)) ∧ (∀ q l, (q < s ∨ s + m ≤ q) → rowA (M 76) (M 77) q l → rowA (M' 76) (M' 77) q l) := by
  rw [d_M_findAll, if_pos (pin_nI hf (by decide)), nI_clamp (by omega), h74]
  exact c_fa_go hf hm V m s M rfl (Nat.le_refl s) h74 h75 hP (fun q q1 q2 => by omega)
/-- the relation does not look at rows that are found anew, nor at lists that are made anew -/
theorem Inv_scr {Mi Mi' : MI} {Ml : ML} (h : Inv Mi Ml) (f : ∀ k, k ≠ 76 → k ≠ 77 → k ≠ 78 → k ≠ 83 → k ≠ 45 → Mi' k = Mi k) : Inv Mi' Ml := by
  have F := fun k (q : k ≠ 76 ∧ k ≠ 77 ∧ k ≠ 78 ∧ k ≠ 83 ∧ k ≠ 45) => f k q.1 q.2.1 q.2.2.1 q.2.2.2.1 q.2.2.2.2
  unfold Inv at h ⊢
  rw [F 55 (by decide), F 3 (by decide), F 4 (by decide), F 2 (by decide), F 8 (by decide), F 56 (by decide), F 5 (by decide), F 54 (by decide), F 9 (by decide), F 6 (by decide), F 7 (by decide), F 10 (by decide), F 57 (by decide), F 58 (by decide), F 59 (by decide), F 11 (by decide), F 12 (by decide), F 13 (by decide), F 14 (by decide), F 15 (by decide), F 18 (by decide), F 19 (by decide), F 20 (by decide), F 21 (by decide), F 60 (by decide), F 61 (by decide), F 62 (by decide), F 63 (by decide), F 64 (by decide), F 65 (by decide), F 34 (by decide), F 35 (by decide), F 68 (by decide), F 1 (by decide), F 41 (by decide), F 42 (by decide), F 43 (by decide), F 44 (by decide), F 80 (by decide), F 81 (by decide), F 82 (by decide), F 47 (by decide), F 49 (by decide), F 51 (by decide), F 53 (by decide), F 66 (by decide), F 22 (by decide), F 79 (by decide), F 23 (by decide), F 16 (by decide), F 17 (by decide), F 74 (by decide), F 75 (by decide), F 24 (by decide), F 69 (by decide), F 25 (by decide), F 70 (by decide), F 26 (by decide), F 71 (by decide), F 27 (by decide), F 28 (by decide), F 30 (by decide), F 31 (by decide), F 32 (by decide), F 72 (by decide), F 73 (by decide)]
  exact h
theorem c_isClaim {X : Nat × (Nat → Int32)} {Mi : MI} {Ml : ML} (a : Int32) {n : Nat} (hn : n < 2 ^ 31) (e : Mi 54 23 = nI n) : pD X m_M_isClaim [.ref 54, .int a] (sh0, Mi, Ml, mr0) = some (some (.int (bI (pin a n))), (sh0, Mi, Ml, mr0)) := by
  have hc : (Int32.toInt64 (nI n - 1)).toInt + 1 = (n : Int) := by
    rw [show (Int32.toInt64 (nI n - 1)).toInt = (nI n - 1).toInt from Int32.toInt_toInt64 _, nI_m1 hn]; omega
  rw [d_M_isClaim, e, c_inP a _ (n := n) hc, Option.bind_some, pb_i, e_M_isClaim_13, if_pos (bI_nar _)]
/-- what the relation tells of claim c: the class's row of versions, and that the reference finds the same -/
theorem claim_rows {X : Nat × (Nat → Int32)} {Mi : MI} {Ml : ML} (h : Inv Mi Ml) {n : Nat} (e : Mi 23 9 = nI n) (hn : n ≤ 40) {c : Nat} (hc : c < n) : ∃ l : List Int32, rowA (Mi 27) (Mi 28) c l ∧ ∃ f, f < 8 ∧ Mi 24 c = nI f ∧ Mi 69 c = nI f ∧ ∀ M : MI, (∀ k, k ≠ 76 → k ≠ 77 → k ≠ 78 → k ≠ 83 → k ≠ 45 → M k = Mi k) → ∃ M' : MI, pD X m_M_findAll [.ref 54, .int (Mi 69 c)] (sh0, M, Ml, mr0) = some (some (.int 1), (sh0, M', Ml, mr0)) ∧ (∀ k, k ≠ 76 → k ≠ 77 → M' k = M k) ∧ rowA (M' 76) (M' 77) c l := by
  obtain ⟨n', h40, e1, e2, _, fs, mn, fo, ps, pe, V, hF, hQ⟩ := h.2.2.2.2.2.2.2.2.2
  obtain rfl : n' = n := (nI_eq (by omega) (by omega)).mp (e1.symm.trans e)
  obtain ⟨⟨q1, q2, q3, q4, q5⟩, _, _, ⟨r1, _⟩, _⟩ := hQ c hc
  refine ⟨V c, r1, fo c, q1, q2, q3, fun M hM => ?_⟩
  have F := fun k (q : k ≠ 76 ∧ k ≠ 77 ∧ k ≠ 78 ∧ k ≠ 83 ∧ k ≠ 45) => hM k q.1 q.2.1 q.2.2.1 q.2.2.2.1 q.2.2.2.2
  obtain ⟨m1, m2, m3, m4, m5⟩ := hF (fo c) q1
  have hpos : 0 < mn (fo c) := by omega
  obtain ⟨M', t1, t2, t3, _⟩ := c_findAll (X := X) (Ml := Ml) (f := fo c) (s := fs (fo c)) (m := mn (fo c)) q1 (by omega) V M (by rw [F 74 (by decide)]; exact (m4 hpos).2) (by rw [F 75 (by decide)]; exact m2) (by
    intro q hq1 hq2
    rw [F 70 (by decide), F 71 (by decide), F 72 (by decide), F 73 (by decide)]
    obtain ⟨_, ⟨o1, _, o3, _⟩, ⟨_, _, p3, p4, _, _, p7, p8⟩, ⟨_, v2⟩, _⟩ := hQ q (by omega)
    have hfo : fo q = fo c := m5 q hq1 hq2
    refine ⟨pe q - ps q, fun k => (Mi 32 (ps q + k)).toNatClampNeg, by omega, fun k hk => ?_, p7, fun k hk => ?_, ?_⟩
    · obtain ⟨p, a1, a2, a3, _⟩ := p8 k hk
      show fs (fo c) ≤ (Mi 32 (ps q + k)).toNatClampNeg ∧ (Mi 32 (ps q + k)).toNatClampNeg < q
      rw [a3, nI_clamp (by omega)]; rw [hfo] at a1; exact ⟨a1, a2⟩
    · obtain ⟨p, a1, a2, a3, a4⟩ := p8 k hk
      show Mi 73 (40 * q + k) = nI (Mi 32 (ps q + k)).toNatClampNeg
      rw [a3, nI_clamp (by omega)]; exact a4
    · rw [← o1, ← o3]; exact v2)
  rw [q3]
  exact ⟨M', t1, t2, t3 c q4 q5⟩
theorem ls_version {X : Nat × (Nat → Int32)} {Mi : MI} {Ml : ML} (h : Inv Mi Ml) (a b : Int32) : LStp Inv X m_CT_version m_M_version [.int a, .int b] Mi Ml := by
  obtain ⟨n, h40, e1, e2, _⟩ := h.2.2.2.2.2.2.2.2.2
  have w2 : n < 2 ^ 31 := by omega
  have w1 : (Mi 23 9).toInt = (n : Int) := by rw [e1, nI_toInt w2]
  by_cases h1 : pin a n
  · obtain ⟨c, hc, rfl⟩ := pin_ex w2 h1
    obtain ⟨l, hl, f, hf, g1, g2, hM⟩ := claim_rows (X := X) h e1 h40 hc
    obtain ⟨M', t1, t2, t3⟩ := hM Mi (fun _ _ _ _ _ _ => rfl)
    have l8 := hl.2.1
    have p40 : pin (nI c) 40 := pin_nI (by omega) (by decide)
    have cc : (nI c).toNatClampNeg = c := nI_clamp (by omega)
    have w27 : (Mi 27 c).toInt = (l.length : Int) := by rw [hl.1, nI_toInt (by omega)]
    have w76 : (Int32.toInt64 (M' 76 c - 1)).toInt + 1 = (l.length : Int) := by
      rw [show (Int32.toInt64 (M' 76 c - 1)).toInt = (M' 76 c - 1).toInt from Int32.toInt_toInt64 _, t3.1, nI_m1 (by omega)]; omega
    have hI : Inv M' Ml := Inv_scr h (fun k q1 q2 _ _ _ => t2 k q1 q2)
    by_cases h2 : pin b l.length
    · obtain ⟨v, hv, rfl⟩ := pin_ex (by omega) h2
      have i1 : nI c * 8 + nI v = nI (8 * c + v) := by rw [show (8 : Int32) = nI 8 from rfl, nI_mul', nI_add, Nat.mul_comm]
      have i2 : 8 * nI c + nI v = nI (8 * c + v) := by rw [show (8 : Int32) = nI 8 from rfl, nI_mul', nI_add]
      have ci : (nI (8 * c + v)).toNatClampNeg = 8 * c + v := nI_clamp (by omega)
      have p320 : pin (nI (8 * c + v)) 320 := pin_nI (by omega) (by decide)
      refine LS_mk (r := l.getD v 0) (Mi1 := Mi) (Ml1 := Ml) (Mi2 := M') (Ml2 := Ml) ?_ ?_ hI
      · rw [d_CT_version, c_within (nI c) (Mi 23 9) (n := n) w1, Option.bind_some, pb_i, e_CT_version_11, bI_t h1, if_neg (by decide), if_pos p40, cc, c_within (nI v) (Mi 27 c) (n := l.length) w27, Option.bind_some, pb_i, e_CT_version_31, bI_t h2, if_neg (by decide), d_Claims_versionAt, i1, if_pos p320, ci, Option.bind_some, pb_i, e_CT_version_43, hl.2.2 v hv]
      · rw [d_M_version, c_isClaim (nI c) w2 e2, Option.bind_some, pb_i, e_M_version_5, bI_t h1, if_neg (by decide), if_pos p40, cc, t1, Option.bind_some, pb_i, e_M_version_22, if_pos p40, cc, c_inP (nI v) _ (n := l.length) w76, Option.bind_some, pb_i, e_M_version_38, bI_t h2, if_neg (by decide), i2, if_pos p320, ci, t3.2.2 v hv]
    · refine LS_mk (r := -1) (Mi1 := Mi) (Ml1 := Ml) (Mi2 := M') (Ml2 := Ml) ?_ ?_ hI
      · rw [d_CT_version, c_within (nI c) (Mi 23 9) (n := n) w1, Option.bind_some, pb_i, e_CT_version_11, bI_t h1, if_neg (by decide), if_pos p40, cc, c_within b (Mi 27 c) (n := l.length) w27, Option.bind_some, pb_i, e_CT_version_31, if_pos (bI_f h2)]
      · rw [d_M_version, c_isClaim (nI c) w2 e2, Option.bind_some, pb_i, e_M_version_5, bI_t h1, if_neg (by decide), if_pos p40, cc, t1, Option.bind_some, pb_i, e_M_version_22, if_pos p40, cc, c_inP b _ (n := l.length) w76, Option.bind_some, pb_i, e_M_version_38, if_pos (bI_f h2)]
  · refine LS_mk (r := -1001) (Mi1 := Mi) (Ml1 := Ml) (Mi2 := Mi) (Ml2 := Ml) ?_ ?_ h
    · rw [d_CT_version, c_within a (Mi 23 9) (n := n) w1, Option.bind_some, pb_i, e_CT_version_11, if_pos (bI_f h1)]
    · rw [d_M_version, c_isClaim a w2 e2, Option.bind_some, pb_i, e_M_version_5, if_pos (bI_f h1)]
