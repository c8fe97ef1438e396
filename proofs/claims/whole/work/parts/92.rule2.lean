/-! RULES: the class reads clauses -/
theorem c_isSign {X : Nat × (Nat → Int32)} {M : MI} {Ml : ML} {t : Nat → Int32} {N s : Nat} (hN : N ≤ 200) (hT : Tok t N M s) (ht : ∀ j, j < N → M 35 j = t j) {x : Int32} (h1 : ¬ ilt x = true) (h2 : ¬ ifg x = true) : pD X m_Text_isSign [.ref 34, .int x] (sh0, M, Ml, mr0) = some (some (.int (bI (s < N ∧ t s = x))), (sh0, M, Ml, mr0)) := by
  rw [d_Text_isSign, hT.2.1, hT.1]
  by_cases q : ty t N s = 3
  · have q1 := (ty_3.mp q).1
    rw [if_pos (tyI3.mpr q), if_pos (pin_nI (by omega) (by decide)), nI_clamp (by omega), ht s q1]
    by_cases r : t s = x
    · rw [if_pos r, bI_t ⟨q1, r⟩]
    · rw [if_neg r, bI_f (fun z => r z.2)]
  · rw [if_neg (fun z => q (tyI3.mp z)), bI_f]
    rintro ⟨z1, z2⟩
    exact q (ty_3.mpr ⟨z1, by rw [z2]; exact h1, by rw [z2]; exact h2⟩)
theorem c_rcC {X : Nat × (Nat → Int32)} {M : MI} {Ml : ML} {t : Nat → Int32} {N s : Nat} {seen : Int32} {d : Nat → Int32} (hN : N ≤ 200) (hs : s ≤ N) (hT : Tok t N M s) (h1 : M 34 1 = nI N) (ht : ∀ j, j < N → M 35 j = t j) (hse : M 37 2 = seen) (hd : ∀ j, j < 6 → M 39 j = d j) : ∃ (M' : MI) (c : Nat), pD X m_RuleReader_readClause [.ref 37] (sh0, M, Ml, mr0) = some (some (.int (nI c)), (sh0, M', Ml, mr0)) ∧ URC N M M' ∧ match rcl t N s seen d with
    | Sum.inl (c', pl) => c = c' ∧ 0 < c ∧ c ≤ 3 ∧ M' 37 3 = nI pl
    | Sum.inr (s', seen', d') => c = 0 ∧ Tok t N M' s' ∧ s' ≤ N ∧ s < s' ∧ M' 37 2 = seen' ∧ M' 37 3 = M 37 3 ∧ ∀ j, j < 6 → M' 39 j = d' j := by
  rw [d_RuleReader_readClause, c_ruleNamed hN hs hT ht, Option.bind_some, pb_i, w_RuleReader_readClause_4]
  unfold rcl
  have hk6 := kwd_le t N s
  generalize hk : kwd t N s = k at *
  by_cases q6 : k = 6
  · subst q6
    refine ⟨pm_up M 37 3 (M 34 3), 1, ?_, ⟨fun k a b _ => up_off b, by rw [up_off (by decide)]; exact h1, by rw [up_kk (by decide)]⟩, ?_⟩
    · rw [if_pos (by rfl), d_RuleReader_faulty, Option.bind_some, pb_i, w_RuleReader_readClause_15]; rfl
    · rw [if_pos rfl]
      exact ⟨rfl, by omega, by omega, by rw [up_ok]; exact hT.1⟩
  · have k6 : k < 6 := by omega
    have ek : kI k = nI k := if_pos k6
    rw [ek, if_neg (nI_ne1 (by omega)), if_neg q6, hse, x_bit (show k < 32 by omega)]
    have tyk : ty t N s = 1 := kwd_ty (by rw [hk]; exact q6)
    by_cases qs : k < 5 ∧ bt seen k = true
    · refine ⟨pm_up M 37 3 (M 34 3), 3, ?_, ⟨fun k a b _ => up_off b, by rw [up_off (by decide)]; exact h1, by rw [up_kk (by decide)]⟩, ?_⟩
      · rw [if_neg (show ¬ nI k = 5 from fun z => by have := (nI_is (m := 5) rfl (by omega) (by decide)).mp z; omega), if_neg (by rw [bI_t qs.2]; decide), d_RuleReader_faulty, Option.bind_some, pb_i, w_RuleReader_readClause_37]; rfl
      · rw [if_pos qs]
        exact ⟨rfl, by omega, by omega, by rw [up_ok]; exact hT.1⟩
    · rw [if_neg qs]
      have e38 : (if nI k = 5 then pdn X m_RuleReader_readClause (38, [.ref 37, .int (nI k), pm_nul], [], (sh0, M, Ml, mr0), 0, 0) else if bI (bt seen k = true) = 0 then pdn X m_RuleReader_readClause (38, [.ref 37, .int (nI k), pm_nul], [], (sh0, M, Ml, mr0), 0, 0) else (pD X m_RuleReader_faulty [.ref 37, .int 3] (sh0, M, Ml, mr0)).bind (fun r => pdn X m_RuleReader_readClause (pm_back (37, [.ref 37, .int (nI k), pm_nul], [], (sh0, M, Ml, mr0), 0, 0) r))) = pdn X m_RuleReader_readClause (38, [.ref 37, .int (nI k), pm_nul], [], (sh0, M, Ml, mr0), 0, 0) := by
        by_cases e5 : k = 5
        · rw [if_pos (by rw [e5]; rfl)]
        · rw [if_neg (show ¬ nI k = 5 from fun z => e5 ((nI_is (m := 5) rfl (by omega) (by decide)).mp z)), if_pos (bI_f (fun z => qs ⟨by omega, z⟩))]
      rw [e38, w_RuleReader_readClause_38, hse]
      have hn := nx_le t hs
      have hge := nx_ge t N s
      have so : (1 : Int32) <<< (nI k &&& 31) = one k := rfl
      rw [so]
      obtain ⟨M2, g1, ⟨g2, g3⟩, g4⟩ := c_step (X := X) (Ml := Ml) (t := t) (p := nx t N s) (M := pm_up M 37 2 (seen ||| one k)) hN hn (by rw [up_off (by decide)]; exact h1) (by rw [up_off (by decide)]; exact hT.2.2.1) (fun j hj => by rw [up_off (by decide)]; exact ht j hj)
      have hs2 := rnT_le isp t hn
      have hs2g := rnT_ge isp t N (nx t N s)
      generalize rnT isp t N (nx t N s) = s2 at *
      have ht2 : ∀ j, j < N → M2 35 j = t j := fun j hj => by rw [g2 35 (by decide), up_off (by decide)]; exact ht j hj
      obtain ⟨M3, c, k1, k2, k3, k4, k5⟩ := c_rvC (X := X) (Ml := Ml) (M := M2) (k := k) (d := d) hN hs2 k6 g4 ht2 (fun j hj => by rw [g2 39 (by decide), up_off (by decide)]; exact hd j hj)
      have e74 : pdn X m_RuleReader_readClause (57, [.ref 37, .int (nI k), pm_nul], [], (sh0, M2, Ml, mr0), 0, 0) = pdn X m_RuleReader_readClause (74, [.ref 37, .int (nI k), pm_nul], [.int (nI c)], (sh0, M3, Ml, mr0), 0, 0) := by
        rw [w_RuleReader_readClause_57]
        by_cases e3 : k = 3
        · rw [if_pos e3] at k1
          rw [if_pos (show nI k = 3 by rw [e3]; rfl), k1, Option.bind_some, pb_i, w_RuleReader_readClause_66]
        · rw [if_neg e3] at k1
          rw [if_neg (show ¬ nI k = 3 from fun z => e3 ((nI_is (m := 3) rfl (by omega) (by decide)).mp z)), k1, Option.bind_some, pb_i]
      have f3 : ∀ j, j ≠ 34 → j ≠ 37 → j ≠ 39 → M3 j = M j := fun j a b e => ((k3 j b e).trans (g2 j a)).trans (up_off b)
      have f34 : M3 34 = M2 34 := k3 34 (by decide) (by decide)
      have f374 : M3 37 4 = M 37 4 := by rw [k4 4 (by decide), g2 37 (by decide), up_kk (by decide)]
      have f372 : M3 37 2 = seen ||| one k := by rw [k4 2 (by decide), g2 37 (by decide), up_ok]
      rw [g1, Option.bind_some, pb_n, e74, w_RuleReader_readClause_74]
      cases hv : rvl t N k s2 with
      | inl c' =>
        rw [hv] at k5
        obtain ⟨rfl, c0, c1⟩ := k5
        refine ⟨M3, c, by rw [if_neg (show ¬ nI c = 0 from fun z => by have := (nI_is (m := 0) rfl (by omega) (by decide)).mp z; omega)], ⟨f3, by rw [f34]; exact g3, f374⟩, rfl, c0, by omega, c1⟩
      | inr ve =>
        obtain ⟨v, e⟩ := ve
        rw [hv] at k5
        obtain ⟨rfl, he, c1, c2⟩ := k5
        have hn2 := nx_le t hs2
        have hg2 := nx_ge t N s2
        rw [if_pos (show nI 0 = 0 from rfl)]
        obtain ⟨M4, m1, ⟨m2, m3⟩, m4⟩ := c_step (X := X) (Ml := Ml) (t := t) (p := e) (M := M3) hN (by omega) (by rw [f34]; exact g3) (by rw [f34, he]; exact g4.2.2.1) (fun j hj => by rw [k3 35 (by decide) (by decide)]; exact ht2 j hj)
        have hs3 := rnT_le isp t (show e ≤ N by omega)
        have hs3g := rnT_ge isp t N e
        show ∃ (M' : MI) (c : Nat), _ ∧ URC N M M' ∧ match (if rnT isp t N e < N ∧ t (rnT isp t N e) = 59 then Sum.inr (rnT isp t N (rnT isp t N e + 1), seen ||| one k, upn d k (if k = 5 then d 5 ||| (1 <<< (v &&& 31)) else v)) else Sum.inl (1, rnT isp t N e) : Sum (Nat × Nat) (Nat × Int32 × (Nat → Int32))) with
          | Sum.inl (c', pl) => c = c' ∧ 0 < c ∧ c ≤ 3 ∧ M' 37 3 = nI pl
          | Sum.inr (s', seen', d') => c = 0 ∧ Tok t N M' s' ∧ s' ≤ N ∧ s < s' ∧ M' 37 2 = seen' ∧ M' 37 3 = M 37 3 ∧ ∀ j, j < 6 → M' 39 j = d' j
        generalize rnT isp t N e = s3 at *
        have ht4 : ∀ j, j < N → M4 35 j = t j := fun j hj => by rw [m2 35 (by decide), k3 35 (by decide) (by decide)]; exact ht2 j hj
        have f4 : ∀ j, j ≠ 34 → j ≠ 37 → j ≠ 39 → M4 j = M j := fun j a b e => (m2 j a).trans (f3 j a b e)
        rw [m1, Option.bind_some, pb_n, w_RuleReader_readClause_88, c_isSign hN m4 ht4 (x := 59) (by decide) (by decide), Option.bind_some, pb_i, w_RuleReader_readClause_97]
        by_cases z : s3 < N ∧ t s3 = 59
        · have ty3 : ty t N s3 = 3 := ty_3.mpr ⟨z.1, by rw [z.2]; decide, by rw [z.2]; decide⟩
          obtain ⟨M5, n1, ⟨n2, n3⟩, n4⟩ := c_step (X := X) (Ml := Ml) (t := t) (p := s3 + 1) (M := M4) hN (by omega) m3 (by rw [m4.2.2.1, nx_s ty3]) ht4
          have hs5 := rnT_le isp t (show s3 + 1 ≤ N by omega)
          have hs5g := rnT_ge isp t N (s3 + 1)
          rw [if_neg (by rw [bI_t z]; decide), n1, Option.bind_some, pb_n, w_RuleReader_readClause_113, if_pos z]
          refine ⟨M5, 0, rfl, ⟨fun j a b e => (n2 j a).trans (f4 j a b e), n3, ?_⟩, rfl, n4, hs5, by omega, ?_, ?_, ?_⟩
          · rw [n2 37 (by decide), m2 37 (by decide)]; exact f374
          · rw [n2 37 (by decide), m2 37 (by decide)]; exact f372
          · rw [n2 37 (by decide), m2 37 (by decide), c1, g2 37 (by decide), up_kk (by decide)]
          · intro j hj
            rw [n2 39 (by decide), m2 39 (by decide)]; exact c2 j hj
        · rw [if_pos (bI_f z), d_RuleReader_faulty, Option.bind_some, pb_i, w_RuleReader_readClause_105, if_neg z]
          refine ⟨pm_up M4 37 3 (M4 34 3), 1, rfl, ⟨fun j a b e => (up_off b).trans (f4 j a b e), by rw [up_off (by decide)]; exact m3, ?_⟩, rfl, by omega, by omega, by rw [up_ok]; exact m4.1⟩
          rw [up_kk (by decide), m2 37 (by decide)]; exact f374
/-- all clauses -/
def rlp (t : Nat → Int32) (N : Nat) : Nat → Nat → Nat → Int32 → (Nat → Int32) → Sum (Nat × Nat) (Nat × (Nat → Int32))
  | 0, _, n, _, d => Sum.inr (n, d)
  | f + 1, s, n, seen, d => if s < N then (match rcl t N s seen d with
    | Sum.inl x => Sum.inl x
    | Sum.inr (s', seen', d') => rlp t N f s' (n + 1) seen' d') else Sum.inr (n, d)
theorem c_rlC {X : Nat × (Nat → Int32)} {Ml : ML} {t : Nat → Int32} {N : Nat} (hN : N ≤ 200) : ∀ (f s n : Nat) (M : MI) (seen : Int32) (d : Nat → Int32) (w2 : Value), N ≤ s + f → n ≤ s → s ≤ N → Tok t N M s → M 34 1 = nI N → (∀ j, j < N → M 35 j = t j) → M 37 2 = seen → (∀ j, j < 6 → M 39 j = d j) → M 37 4 = nI n → ∃ (M' : MI) (c : Nat), pdn X m_RuleReader_read (31, [.ref 37, .int (nI n), w2], [], (sh0, M, Ml, mr0), 0, 0) = some (some (.int (nI c)), (sh0, M', Ml, mr0)) ∧ (∀ k, k ≠ 34 → k ≠ 37 → k ≠ 39 → M' k = M k) ∧ match rlp t N f s n seen d with
    | Sum.inl (c', pl) => c = c' ∧ 0 < c ∧ c ≤ 3 ∧ M' 37 3 = nI pl
    | Sum.inr (n', d') => c = 0 ∧ M' 37 4 = nI n' ∧ M' 37 3 = M 37 3 ∧ ∀ j, j < 6 → M' 39 j = d' j := by
  intro f
  induction f with
  | zero =>
    intro s n M seen d w2 hf hns hs hT h1 ht hse hd hc
    have hz : ¬ s < N := by omega
    refine ⟨M, 0, ?_, fun _ _ _ _ => rfl, rfl, hc, rfl, hd⟩
    rw [w_RuleReader_read_31, hT.2.1, if_pos (tyI0.mpr (ty_0.mpr hz))]
    split <;> rfl
  | succ f ih =>
    intro s n M seen d w2 hf hns hs hT h1 ht hse hd hc
    rw [w_RuleReader_read_31, hT.2.1, rlp]
    by_cases z : s < N
    · rw [if_pos z, if_pos (show nI n < 200 from (x_nlt (n := 200) rfl (by omega)).mpr (by omega)), if_neg (fun y => (ty_0.mp (tyI0.mp y)) z)]
      obtain ⟨M1, c, g1, ⟨g2, g3, g4⟩, g5⟩ := c_rcC (X := X) (Ml := Ml) hN hs hT h1 ht hse hd
      rw [g1, Option.bind_some, pb_i]
      cases hr : rcl t N s seen d with
      | inl x =>
        obtain ⟨c', pl⟩ := x
        rw [hr] at g5
        obtain ⟨rfl, c0, c3, c4⟩ := g5
        refine ⟨M1, c, ?_, g2, rfl, c0, c3, c4⟩
        have := e_RuleReader_read_52 X M1 Ml (nI n) (nI c)
        first
          | rw [w_RuleReader_read_52, if_neg (show ¬ nI c = 0 from fun z => by have := (nI_is (m := 0) rfl (by omega) (by decide)).mp z; omega)]
      | inr x =>
        obtain ⟨s', seen', d'⟩ := x
        rw [hr] at g5
        obtain ⟨rfl, c1, c2, c3, c4, c5, c6⟩ := g5
        rw [w_RuleReader_read_52, if_pos (show nI 0 = 0 from rfl), g4, hc, nI_1]
        obtain ⟨M2, c', k1, k2, k3⟩ := ih s' (n + 1) (pm_up M1 37 4 (nI (n + 1))) seen' d' (.int (nI 0)) (by omega) (by omega) c2 (by unfold Tok at c1 ⊢; rw [up_off (by decide)]; exact c1) (by rw [up_off (by decide)]; exact g3) (fun j hj => by rw [up_off (by decide), g2 35 (by decide) (by decide) (by decide)]; exact ht j hj) (by rw [up_kk (by decide)]; exact c4) (fun j hj => by rw [up_off (by decide)]; exact c6 j hj) (by rw [up_ok])
        refine ⟨M2, c', k1, fun k a b e => ((k2 k a b e).trans (up_off b)).trans (g2 k a b e), ?_⟩
        show match rlp t N f s' (n + 1) seen' d' with
          | Sum.inl (c'', pl) => c' = c'' ∧ 0 < c' ∧ c' ≤ 3 ∧ M2 37 3 = nI pl
          | Sum.inr (n', d'') => c' = 0 ∧ M2 37 4 = nI n' ∧ M2 37 3 = M 37 3 ∧ ∀ j, j < 6 → M2 39 j = d'' j
        cases hq : rlp t N f s' (n + 1) seen' d' with
        | inl y => rw [hq] at k3; exact k3
        | inr y =>
          rw [hq] at k3
          exact ⟨k3.1, k3.2.1, k3.2.2.1.trans ((up_kk (by decide)).trans c5), k3.2.2.2⟩
    · rw [if_neg z]
      refine ⟨M, 0, ?_, fun _ _ _ _ => rfl, rfl, hc, rfl, hd⟩
      rw [if_pos (tyI0.mpr (ty_0.mpr z))]
      split <;> rfl
