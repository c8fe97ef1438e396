/-! all rows at once: what the relation tells of them, and that finding some keeps the others -/
theorem claim_V {X : Nat × (Nat → Int32)} {Mi : MI} {Ml : ML} (h : Inv Mi Ml) {n : Nat} (e : Mi 23 9 = nI n) (hn : n ≤ 40) : ∃ V : Nat → List Int32, (∀ q, q < n → rowA (Mi 27) (Mi 28) q (V q) ∧ ∀ x, x ∈ V q → pin x 1073741824) ∧ ∀ c, c < n → ∀ M : MI, (∀ k, k ≠ 76 → k ≠ 77 → k ≠ 78 → k ≠ 83 → k ≠ 45 → M k = Mi k) → ∃ M' : MI, pD X m_M_findAll [.ref 54, .int (Mi 69 c)] (sh0, M, Ml, mr0) = some (some (.int 1), (sh0, M', Ml, mr0)) ∧ (∀ k, k ≠ 76 → k ≠ 77 → M' k = M k) ∧ rowA (M' 76) (M' 77) c (V c) ∧ ∀ q, q < n → rowA (M 76) (M 77) q (V q) → rowA (M' 76) (M' 77) q (V q) := by
  obtain ⟨n', h40, e1, e2, _, fs, mn, fo, ps, pe, V, hF, hQ⟩ := h.2.2.2.2.2.2.2.2.2
  obtain rfl : n' = n := (nI_eq (by omega) (by omega)).mp (e1.symm.trans e)
  have hrow : ∀ q, q < n' → rowA (Mi 27) (Mi 28) q (V q) := fun q hq => (hQ q hq).2.2.2.1.1
  refine ⟨V, fun q hq => ⟨hrow q hq, row_set h e hn hq (hrow q hq)⟩, fun c hc M hM => ?_⟩
  obtain ⟨⟨q1, q2, q3, q4, q5⟩, _, _, ⟨r1, _⟩, _⟩ := hQ c hc
  have F := fun k (q : k ≠ 76 ∧ k ≠ 77 ∧ k ≠ 78 ∧ k ≠ 83 ∧ k ≠ 45) => hM k q.1 q.2.1 q.2.2.1 q.2.2.2.1 q.2.2.2.2
  obtain ⟨m1, m2, m3, m4, m5⟩ := hF (fo c) q1
  have hpos : 0 < mn (fo c) := by omega
  obtain ⟨M', t1, t2, t3, t4⟩ := c_findAll (X := X) (Ml := Ml) (f := fo c) (s := fs (fo c)) (m := mn (fo c)) q1 (by omega) V M (by rw [F 74 (by decide)]; exact (m4 hpos).2) (by rw [F 75 (by decide)]; exact m2) (by
    intro q hq1 hq2
    rw [F 70 (by decide), F 71 (by decide), F 72 (by decide), F 73 (by decide)]
    obtain ⟨_, ⟨o1, _, o3, _⟩, ⟨_, _, p3, p4, _, _, p7, p8⟩, ⟨_, v2⟩, _⟩ := hQ q (by omega)
    have hfo : fo q = fo c := m5 q hq1 hq2
    refine ⟨pe q - ps q, fun k => (Mi 32 (ps q + k)).toNatClampNeg, by omega, fun k hk => ?_, p7, fun k hk => ?_, ?_⟩
    · obtain ⟨p, a1, a2, a3, _⟩ := p8 k hk
      show fs (fo c) ≤ (Mi 32 (ps q + k)).toNatClampNeg ∧ (Mi 32 (ps q + k)).toNatClampNeg < q
      rw [a3, nI_clamp (by omega)]; rw [hfo] at a1; exact ⟨a1, a2⟩
    · obtain ⟨p, a1, a2, a3, a4⟩ := p8 k hk
      show Mi 73 (40 * q + k) = nI (Mi 32 (ps q + k)).toNatClampNeg
      rw [a3, nI_clamp (by omega)]; exact a4
    · rw [← o1, ← o3]; exact v2)
  rw [q3]
  refine ⟨M', t1, t2, t3 c q4 q5, fun q hq hr => ?_⟩
  by_cases hq2 : fs (fo c) ≤ q ∧ q < fs (fo c) + mn (fo c)
  · exact t3 q hq2.1 hq2.2
  · exact t4 q _ (by omega) hr
