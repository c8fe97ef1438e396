/-! NARROWING: what stays, and what is built anew -/
theorem pe_bound {ps pe : Nat → Nat} {n : Nat} (h : ∀ q, q < n → pe q ≤ ps q + q ∧ (q = 0 → ps q = 0) ∧ (0 < q → ps q = pe (q - 1))) : ∀ q, q < n → 2 * pe q ≤ q * (q + 1) := by
  intro q
  induction q with
  | zero => intro hq; obtain ⟨h1, h2, _⟩ := h 0 hq; have := h2 rfl; omega
  | succ q ih =>
    intro hq
    obtain ⟨h1, _, h3⟩ := h (q + 1) hq
    have h4 := h3 (by omega)
    have h5 := ih (by omega)
    have e : (q + 1) * (q + 1 + 1) = q * (q + 1) + 2 * (q + 1) := by
      rw [show q + 1 + 1 = q + 2 from rfl, Nat.mul_comm (q + 1) (q + 2), Nat.add_mul]
    rw [show q + 1 - 1 = q from rfl] at h4
    omega
theorem pe_800 {ps pe : Nat → Nat} {n : Nat} (hn : n ≤ 40) (h : ∀ q, q < n → pe q ≤ ps q + q ∧ (q = 0 → ps q = 0) ∧ (0 < q → ps q = pe (q - 1))) {q : Nat} (hq : q < n) : pe q ≤ 780 := by
  have h1 := pe_bound h q hq
  have h2 : q * (q + 1) ≤ 39 * 40 := Nat.mul_le_mul (by omega) (by omega)
  omega
/-- where one list of rows is built all the way, another that is built so is the same -/
theorem bl_uniq {s e : Nat} {mo : Nat → Int32} {np : Nat → Nat} {pr : Nat → Nat → Nat} {W W' : Nat → List Int32} (hp : ∀ q, s ≤ q → q < e → ∀ k, k < np q → s ≤ pr q k ∧ pr q k < q) (hW : ∀ q, s ≤ q → q < e → ∀ l, bl mo np pr W q = some l → W q = l) (hW' : ∀ q, s ≤ q → q < e → ∀ l, bl mo np pr W' q = some l → W' q = l) : ∀ i, i ≤ e → (∀ q, s ≤ q → q < i → (bl mo np pr W q).isSome = true) → ∀ q, s ≤ q → q < i → W' q = W q ∧ bl mo np pr W' q = bl mo np pr W q := by
  intro i
  induction i with
  | zero => intro _ _ q _ h; exact absurd h (Nat.not_lt_zero q)
  | succ i ih =>
    intro hi hok q q1 q2
    by_cases e : q = i
    · subst e
      have eb : bl mo np pr W' q = bl mo np pr W q := bl_cong (fun k hk => by
        obtain ⟨a, b⟩ := hp q q1 (by omega) k hk
        exact (ih (by omega) (fun q' a b => hok q' a (by omega)) _ a b).1)
      refine ⟨?_, eb⟩
      have ho := hok q q1 (by omega)
      cases hb : bl mo np pr W q with
      | none => rw [hb] at ho; exact absurd ho (by decide)
      | some l => rw [hW q q1 (by omega) l hb, hW' q q1 (by omega) l (eb.trans hb)]
    · exact ih (by omega) (fun q' a b => hok q' a (by omega)) q q1 (by omega)
theorem bl_all {s m : Nat} {mo : Nat → Int32} {np : Nat → Nat} {pr : Nat → Nat → Nat} {W W' : Nat → List Int32} (hp : ∀ q, s ≤ q → q < s + m → ∀ k, k < np q → s ≤ pr q k ∧ pr q k < q) (hW : ∀ q, s ≤ q → q < s + m → ∀ l, bl mo np pr W q = some l → W q = l) (hW' : ∀ q, s ≤ q → q < s + m → ∀ l, bl mo np pr W' q = some l → W' q = l) : allF (fun q => (bl mo np pr W' q).isSome) m s = allF (fun q => (bl mo np pr W q).isSome) m s := by
  rw [Bool.eq_iff_iff, allF_iff, allF_iff]
  constructor
  · intro h q q1 q2
    rw [(bl_uniq hp hW' hW (s + m) (Nat.le_refl _) h q q1 q2).2]
    exact h q q1 q2
  · intro h q q1 q2
    rw [(bl_uniq hp hW hW' (s + m) (Nat.le_refl _) h q q1 q2).2]
    exact h q q1 q2
theorem allF_add {p : Nat → Bool} : ∀ (a b i : Nat), allF p (a + b) i = (allF p a i && allF p b (i + a))
  | 0, b, i => by rw [Nat.zero_add]; show _ = (true && allF p b i); rw [Bool.true_and]
  | a + 1, b, i => by rw [show a + 1 + b = (a + b) + 1 by omega, allF, allF, allF_add a b (i + 1), Bool.and_assoc, show i + 1 + a = i + (a + 1) by omega]
theorem Inv_ic {Mi M : MI} {Ml Ml' : ML} (h : Inv Mi Ml) (F : ∀ k, (k ≠ 76 ∧ k ≠ 77 ∧ k ≠ 78 ∧ k ≠ 83 ∧ k ≠ 45 ∧ k ≠ 26 ∧ k ≠ 71 ∧ k ≠ 27 ∧ k ≠ 28) → M k = Mi k) (hC : IC (Mi 23 9) (Mi 54 23) (Mi 16) (Mi 17) (Mi 74) (Mi 75) (Mi 24) (Mi 69) (Mi 25) (Mi 70) (M 26) (M 71) (M 27) (M 28) (Mi 30) (Mi 31) (Mi 32) (Mi 72) (Mi 73) (Ml' 29) (Mi 11 11)) : Inv M Ml' := by
  obtain ⟨a1, a2, a3, a4, a5, a6, a7, a8, a9, _⟩ := h
  unfold Inv
  rw [F 55 (by decide), F 3 (by decide), F 4 (by decide), F 2 (by decide), F 8 (by decide), F 56 (by decide), F 5 (by decide), F 54 (by decide), F 9 (by decide), F 6 (by decide), F 7 (by decide), F 10 (by decide), F 57 (by decide), F 58 (by decide), F 59 (by decide), F 11 (by decide), F 12 (by decide), F 13 (by decide), F 14 (by decide), F 15 (by decide), F 18 (by decide), F 19 (by decide), F 20 (by decide), F 21 (by decide), F 60 (by decide), F 61 (by decide), F 62 (by decide), F 63 (by decide), F 64 (by decide), F 65 (by decide), F 34 (by decide), F 35 (by decide), F 68 (by decide), F 1 (by decide), F 41 (by decide), F 42 (by decide), F 43 (by decide), F 44 (by decide), F 80 (by decide), F 81 (by decide), F 82 (by decide), F 47 (by decide), F 49 (by decide), F 51 (by decide), F 53 (by decide), F 66 (by decide), F 22 (by decide), F 79 (by decide), F 23 (by decide), F 16 (by decide), F 17 (by decide), F 74 (by decide), F 75 (by decide), F 24 (by decide), F 69 (by decide), F 25 (by decide), F 70 (by decide), F 30 (by decide), F 31 (by decide), F 32 (by decide), F 72 (by decide), F 73 (by decide)]
  exact ⟨a1, a2, a3, a4, a5, a6, a7, a8, a9, hC⟩
