/-! the operation rules -/
theorem c_rlM {X : Nat × (Nat → Int32)} {t : Nat → Int32} {N : Nat} (hN : N ≤ 200) (hb : ∀ j, j < N → ¬ t j < 0) (v1 : Int32) : ∀ (f s n q : Nat) (M : MI) (Ml : ML) (seen : Int32) (d : Nat → Int32), N ≤ s + f → s ≤ N → q ≤ N → rnT isp t N q = s → RT t N M q → M 54 33 = seen → (∀ j, j < 6 → M 67 j = d j) → ∃ (M' : MI) (Ml' : ML) (c n' : Nat), pdn X m_M_rules (47, [.ref 54, .int v1, .int (nI n), .int 0], [], (sh0, M, Ml, mr0), 0, 0) = pdn X m_M_rules (69, [.ref 54, .int v1, .int (nI n'), .int (nI c)], [], (sh0, M', Ml', mr0), 0, 0) ∧ (∀ k, k ≠ 54 → k ≠ 67 → M' k = M k) ∧ (∀ j, j ≠ 17 → j ≠ 18 → j ≠ 20 → j ≠ 21 → j ≠ 22 → j ≠ 33 → M' 54 j = M 54 j) ∧ (∀ k, k ≠ 54 → Ml' k = Ml k) ∧ match rlp t N f s n seen d with
    | Sum.inl (c', pl) => c = c' ∧ 0 < c ∧ c ≤ 3 ∧ M' 54 17 = nI pl
    | Sum.inr (n'', d') => c = 0 ∧ n' = n'' ∧ M' 54 17 = M 54 17 ∧ ∀ j, j < 6 → M' 67 j = d' j := by
  intro f
  induction f with
  | zero =>
    intro s n q M Ml seen d hf hs hq hsk hR hse hd
    obtain ⟨M1, g1, ⟨g2, g3⟩, g4⟩ := c_here (X := X) (Ml := Ml) hN hq hR
    rw [hsk] at g1
    refine ⟨M1, Ml, 0, n, ?_, fun k a _ => g2 k a, fun j _ b _ _ _ _ => g3 j b, fun _ _ => rfl, rfl, rfl, g3 17 (by decide), fun j hj => by rw [g2 67 (by decide)]; exact hd j hj⟩
    rw [w_M_rules_47, if_pos rfl, g1, Option.bind_some, pb_i, w_M_rules_55, if_pos (by unfold hrv; rw [if_neg (by omega)]; decide)]; rfl
  | succ f ih =>
    intro s n q M Ml seen d hf hs hq hsk hR hse hd
    obtain ⟨M1, g1, ⟨g2, g3⟩, g4⟩ := c_here (X := X) (Ml := Ml) hN hq hR
    rw [hsk] at g1 g4
    rw [w_M_rules_47, if_pos rfl, g1, Option.bind_some, pb_i, w_M_rules_55, rlp]
    by_cases z : s < N
    · rw [if_pos z, if_neg (show ¬ hrv t N s < 0 by unfold hrv; rw [if_pos z]; exact hb s z)]
      obtain ⟨M2, Ml2, c, k1, k2, k3, k4, k5⟩ := c_rcM (X := X) (M := M1) (Ml := Ml) (seen := seen) (d := d) hN hs (by rw [← hsk]; exact rnT_idem) g4 (by rw [g3 33 (by decide)]; exact hse) (fun j hj => by rw [g2 67 (by decide)]; exact hd j hj)
      rw [k1, Option.bind_some, pb_i, w_M_rules_62, nI_1]
      have fr : ∀ k, k ≠ 54 → k ≠ 67 → M2 k = M k := fun k a b => (k2 k a b).trans (g2 k a)
      have fr54 : ∀ j, j ≠ 17 → j ≠ 18 → j ≠ 20 → j ≠ 21 → j ≠ 22 → j ≠ 33 → M2 54 j = M 54 j := fun j a b c e f g => (k3 j a b c e f g).trans (g3 j b)
      cases hr : rcl t N s seen d with
      | inl x =>
        obtain ⟨c', pl⟩ := x
        rw [hr] at k5
        obtain ⟨rfl, c0, c3, c4⟩ := k5
        refine ⟨M2, Ml2, c, n + 1, ?_, fr, fr54, k4, rfl, c0, c3, c4⟩
        rw [w_M_rules_47, if_neg (show ¬ nI c = 0 from fun z => by have := (nI_is (m := 0) rfl (by omega) (by decide)).mp z; omega)]
      | inr x =>
        obtain ⟨s', seen', d'⟩ := x
        rw [hr] at k5
        obtain ⟨rfl, ⟨q', c1, c2, c3⟩, c4, c5, c6, c7, c8⟩ := k5
        obtain ⟨M3, Ml3, c', n', m1, m2, m3, m4, m5⟩ := ih s' (n + 1) q' M2 Ml2 seen' d' (by omega) c4 c1 c3 c2 c6 c8
        refine ⟨M3, Ml3, c', n', m1, fun k a b => (m2 k a b).trans (fr k a b), fun j a b c e f g => (m3 j a b c e f g).trans (fr54 j a b c e f g), fun k a => (m4 k a).trans (k4 k a), ?_⟩
        show match rlp t N f s' (n + 1) seen' d' with
          | Sum.inl (c'', pl) => c' = c'' ∧ 0 < c' ∧ c' ≤ 3 ∧ M3 54 17 = nI pl
          | Sum.inr (n'', d'') => c' = 0 ∧ n' = n'' ∧ M3 54 17 = M 54 17 ∧ ∀ j, j < 6 → M3 67 j = d'' j
        cases hq2 : rlp t N f s' (n + 1) seen' d' with
        | inl y => rw [hq2] at m5; exact m5
        | inr y =>
          rw [hq2] at m5
          exact ⟨m5.1, m5.2.1, (m5.2.2.1.trans c7).trans (g3 17 (by decide)), m5.2.2.2⟩
    · rw [if_neg z, if_pos (show hrv t N s < 0 by unfold hrv; rw [if_neg z]; decide)]
      exact ⟨M1, Ml, 0, n, rfl, fun k a _ => g2 k a, fun j _ b _ _ _ _ => g3 j b, fun _ _ => rfl, rfl, rfl, g3 17 (by decide), fun j hj => by rw [g2 67 (by decide)]; exact hd j hj⟩
/-! what the values come to -/
def AF (j : Nat) : Int32 := ([2, 365, 0, 1, 7300, 0] : List Int32).getD j 0
theorem AF_ran : RRan AF := by unfold RRan pin AF; decide
theorem rvl_ran {t : Nat → Int32} {N k s : Nat} {v : Int32} {e : Nat} (hk : k < 6) (h : rvl t N k s = Sum.inr (v, e)) {d : Nat → Int32} (hd : RRan d) : RRan (upn d k (if k = 5 then d 5 ||| (1 <<< (v &&& 31)) else v)) := by
  obtain ⟨a0, a1, a2, a3, a4, a5⟩ := hd
  unfold rvl at h
  by_cases h3 : k = 3
  · subst h3
    rw [if_pos rfl] at h
    have hv : v = 0 ∨ v = 1 := by
      split at h
      · have := Sum.inr.inj h; exact Or.inr (Prod.ext_iff.mp this).1.symm
      · split at h
        · have := Sum.inr.inj h; exact Or.inl (Prod.ext_iff.mp this).1.symm
        · exact absurd h (by simp)
    exact ⟨a0, a1, a2, hv, a4, a5⟩
  · rw [if_neg h3] at h
    split at h
    · rename_i hty
      split at h
      · rename_i hg
        have hvv := (Prod.ext_iff.mp (Sum.inr.inj h)).1
        have hv : v = nI (dv t s (nx t N s - s)) := hvv.symm
        obtain ⟨_, g1, g2⟩ := hg
        have : k = 0 ∨ k = 1 ∨ k = 2 ∨ k = 4 ∨ k = 5 := by omega
        rcases this with e | e | e | e | e
        · subst e
          have g1' : 1 ≤ dv t s (nx t N s - s) := g1
          have g2' : dv t s (nx t N s - s) ≤ 3 := g2
          refine ⟨⟨?_, ?_⟩, a1, a2, a3, a4, a5⟩
          · show pin v 4
            rw [hv]; exact pin_nI (by omega) (by decide)
          · show ¬ v = 0
            rw [hv]; exact fun z => by have := (nI_is (m := 0) rfl (by omega) (by decide)).mp z; omega
        · subst e
          have g2' : dv t s (nx t N s - s) ≤ 999 := g2
          refine ⟨a0, ?_, a2, a3, a4, a5⟩
          show pin v 10000
          rw [hv]; exact pin_nI (by omega) (by decide)
        · subst e
          have g2' : dv t s (nx t N s - s) ≤ 999 := g2
          refine ⟨a0, a1, ?_, a3, a4, a5⟩
          show pin v 10000
          rw [hv]; exact pin_nI (by omega) (by decide)
        · subst e
          have g2' : dv t s (nx t N s - s) ≤ 9999 := g2
          refine ⟨a0, a1, a2, a3, ?_, a5⟩
          show pin v 10000
          rw [hv]; exact pin_nI (by omega) (by decide)
        · subst e
          have g2' : dv t s (nx t N s - s) ≤ 29 := g2
          refine ⟨a0, a1, a2, a3, a4, ?_⟩
          show pin (d 5 ||| ((1 : Int32) <<< (v &&& 31))) 1073741824
          rw [hv]
          refine or_set a5 (hi_set (fun i h1 h2 => ?_))
          rw [x_one (by omega) h1]; exact decide_eq_false (by omega)
      · exact absurd h (by simp)
    · exact absurd h (by simp)
theorem rcl_ran {t : Nat → Int32} {N s : Nat} {seen : Int32} {d : Nat → Int32} {s' : Nat} {seen' : Int32} {d' : Nat → Int32} (hd : RRan d) (h : rcl t N s seen d = Sum.inr (s', seen', d')) : RRan d' := by
  unfold rcl at h
  have hk6 := kwd_le t N s
  by_cases q6 : kwd t N s = 6
  · rw [if_pos q6] at h; exact absurd h (by simp)
  · rw [if_neg q6] at h
    by_cases qs : kwd t N s < 5 ∧ bt seen (kwd t N s) = true
    · rw [if_pos qs] at h; exact absurd h (by simp)
    · rw [if_neg qs] at h
      cases hv : rvl t N (kwd t N s) (rnT isp t N (nx t N s)) with
      | inl c => rw [hv] at h; exact absurd h (by simp)
      | inr ve =>
        obtain ⟨v, e⟩ := ve
        rw [hv] at h
        have h' : (if rnT isp t N e < N ∧ t (rnT isp t N e) = 59 then Sum.inr (rnT isp t N (rnT isp t N e + 1), seen ||| one (kwd t N s), upn d (kwd t N s) (if kwd t N s = 5 then d 5 ||| (1 <<< (v &&& 31)) else v)) else Sum.inl (1, rnT isp t N e) : Sum (Nat × Nat) (Nat × Int32 × (Nat → Int32))) = Sum.inr (s', seen', d') := h
        split at h'
        · have e1 := Sum.inr.inj h'
          have e2 := (Prod.ext_iff.mp (Prod.ext_iff.mp e1).2).2
          have e3 : upn d (kwd t N s) (if kwd t N s = 5 then d 5 ||| (1 <<< (v &&& 31)) else v) = d' := e2
          rw [← e3]
          exact rvl_ran (by omega) hv hd
        · exact absurd h' (by simp)
theorem rlp_ran {t : Nat → Int32} {N : Nat} : ∀ (f s n : Nat) (seen : Int32) (d : Nat → Int32) (n' : Nat) (d' : Nat → Int32), RRan d → rlp t N f s n seen d = Sum.inr (n', d') → RRan d'
  | 0, _, _, _, d, n', d', hd, h => by
    have := (Prod.ext_iff.mp (Sum.inr.inj h)).2
    have e : d = d' := this
    rw [← e]; exact hd
  | f + 1, s, n, seen, d, n', d', hd, h => by
    rw [rlp] at h
    by_cases z : s < N
    · rw [if_pos z] at h
      cases hr : rcl t N s seen d with
      | inl x => rw [hr] at h; exact absurd h (by simp)
      | inr x =>
        obtain ⟨s2, seen2, d2⟩ := x
        rw [hr] at h
        exact rlp_ran f s2 (n + 1) seen2 d2 n' d' (rcl_ran hd hr) h
    · rw [if_neg z] at h
      have := (Prod.ext_iff.mp (Sum.inr.inj h)).2
      have e : d = d' := this
      rw [← e]; exact hd
theorem rlp_n {t : Nat → Int32} {N : Nat} : ∀ (f s n : Nat) (seen : Int32) (d : Nat → Int32) (n' : Nat) (d' : Nat → Int32), rlp t N f s n seen d = Sum.inr (n', d') → n' ≤ n + f
  | 0, _, n, _, d, n', d', h => by
    have := (Prod.ext_iff.mp (Sum.inr.inj h)).1
    have e : n = n' := this
    omega
  | f + 1, s, n, seen, d, n', d', h => by
    rw [rlp] at h
    by_cases z : s < N
    · rw [if_pos z] at h
      cases hr : rcl t N s seen d with
      | inl x => rw [hr] at h; exact absurd h (by simp)
      | inr x =>
        obtain ⟨s2, seen2, d2⟩ := x
        rw [hr] at h
        have := rlp_n f s2 (n + 1) seen2 d2 n' d' h
        omega
    · rw [if_neg z] at h
      have := (Prod.ext_iff.mp (Sum.inr.inj h)).1
      have e : n = n' := this
      omega
