/-! a row tells its list; the rows that the relation knows hold sets -/
theorem row_one {fc fv : Nat → Int32} {q : Nat} {l l' : List Int32} (h : rowA fc fv q l) (h' : rowA fc fv q l') : l = l' := by
  have a := h.2.1
  have b := h'.2.1
  have e : l.length = l'.length := (nI_eq (by omega) (by omega)).mp (h.1.symm.trans h'.1)
  apply List.ext_getElem e
  intro i h1 h2
  rw [← gD_at h1, ← gD_at h2, ← h.2.2 i h1, ← h'.2.2 i h2]
theorem row_set {Mi : MI} {Ml : ML} (h : Inv Mi Ml) {n : Nat} (e : Mi 23 9 = nI n) (hn : n ≤ 40) {c : Nat} (hc : c < n) {l : List Int32} (hl : rowA (Mi 27) (Mi 28) c l) : ∀ x, x ∈ l → pin x 1073741824 := by
  obtain ⟨n', h40, e1, e2, _, fs, mn, fo, ps, pe, V, hF, hQ⟩ := h.2.2.2.2.2.2.2.2.2
  obtain rfl : n' = n := (nI_eq (by omega) (by omega)).mp (e1.symm.trans e)
  have all : ∀ m q, q < m → q < n' → ∀ x, x ∈ V q → pin x 1073741824 := by
    intro m
    induction m with
    | zero => intro q hq; exact absurd hq (Nat.not_lt_zero q)
    | succ m ih =>
      intro q hqm hqn
      obtain ⟨_, ⟨_, o2, _, o4⟩, ⟨_, _, _, _, _, _, _, p8⟩, ⟨_, v2⟩, _⟩ := hQ q hqn
      refine bldv_set (or_set o2 o4) (fun l2 hl2 => ?_) v2
      obtain ⟨k, hk, rfl⟩ := List.mem_map.mp hl2
      obtain ⟨p, a1, a2, a3, _⟩ := p8 k (List.mem_range.mp hk)
      rw [a3, nI_clamp (by omega)]
      exact ih p (by omega) (by omega)
  obtain ⟨_, _, _, ⟨r1, _⟩, _⟩ := hQ c hc
  rw [row_one hl r1]
  exact all (c + 1) c (by omega) hc
