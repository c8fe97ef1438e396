def pm_X0 : Nat × (Nat → Int32) := (0, fun _ => 0)
def pm_tch (st : List Value) : Bool := match st with
  | .ref o :: _ => Nat.beq o 2000
  | .int _ :: .ref o :: _ => Nat.beq o 2000
  | _ => false
theorem old_free (X Y : Nat × (Nat → Int32)) (j : Nat) (hj : j < 3) : pm_old X (2001 + j) = pm_old Y (2001 + j) := by
  unfold pm_old
  rw [show 2001 + j - 2000 = j + 1 by omega]
  match j, hj with
  | 0, _ => rfl
  | 1, _ => rfl
  | 2, _ => rfl
theorem step_free {X Y : Nat × (Nat → Int32)} {mid : Nat} {q : PCf} (h : pm_tch q.2.2.1 = false) : pm_step X mid q = pm_step Y mid q := by
  unfold pm_step
  cases pm_lk (pt_code mid) q.1 with
  | none => rfl
  | some i =>
    obtain ⟨pc, L, st, hp, cs, ss⟩ := q
    obtain ⟨ins, n, v, a, b, ts⟩ := i
    dsimp only at h ⊢
    cases ins
    case iaload =>
      simp only [pm_ex, pm_iald]
      split
      · rename_i i o r
        have ho : Nat.beq o 2000 = false := h
        have hne : ¬ @Eq Nat o 2000 := fun q => by rw [q] at ho; cases ho
        cases hb : (Nat.ble 2000 o && Nat.blt o 2004) with
        | false => simp only [cond_false]
        | true =>
          simp only [Bool.and_eq_true] at hb
          have h1 := ble_le hb.1
          have h2 := blt_lt hb.2
          have e : pm_old X o = pm_old Y o := by
            obtain ⟨j, hj⟩ : ∃ j : Nat, @Eq Nat o (2001 + j) := ⟨o - 2001, by omega⟩
            subst hj
            exact old_free X Y j (by omega)
          rw [e]
      · rfl
    case arraylength =>
      simp only [pm_ex, pm_alen]
      split
      · rename_i o r
        have ho : Nat.beq o 2000 = false := h
        rw [ho]
        rfl
      · rfl
    all_goals rfl
def pm_run0 (K : Nat → List Value → PHp → Option PRs) (mid : Nat) : Nat → PCf → Option PRs
  | 0, _ => none
  | n + 1, q => bif pm_tch q.2.2.1 then none else match pm_step pm_X0 mid q with
    | none => none
    | some (.inl q') => pm_run0 K mid n q'
    | some (.inr (.inl r)) => some r
    | some (.inr (.inr q')) => match (bif Nat.blt q'.1 mid then K q'.1 q'.2.1 q'.2.2.2.2.2.1 else none) with
      | none => none
      | some r => pm_run0 K mid n (pm_back q'.2.2 r)
theorem run0_run {X : Nat × (Nat → Int32)} {K K' : Nat → List Value → PHp → Option PRs} {mid : Nat} (hK : ∀ k as h r, K k as h = some r → K' k as h = some r) : ∀ (n : Nat) (q : PCf) (r : PRs), pm_run0 K mid n q = some r → pm_run X K' mid n q = some r := by
  intro n
  induction n with
  | zero => intro q r h; cases h
  | succ n ih =>
    intro q r h
    rw [pm_run_succ]
    rw [pm_run0] at h
    cases ht : pm_tch q.2.2.1 with
    | true => rw [ht] at h; cases h
    | false =>
      rw [ht] at h
      dsimp only [cond] at h
      rw [step_free (Y := pm_X0) ht]
      cases hs : pm_step pm_X0 mid q with
      | none => rw [hs] at h; cases h
      | some o =>
        rw [hs] at h
        rcases o with q' | r' | q'
        · exact ih _ _ h
        · exact h
        · dsimp only at h ⊢
          cases hb : Nat.blt q'.1 mid with
          | false => rw [hb] at h; cases h
          | true =>
            rw [hb] at h
            dsimp only [cond] at h ⊢
            cases hk : K q'.1 q'.2.1 q'.2.2.2.2.2.1 with
            | none => rw [hk] at h; cases h
            | some r0 =>
              rw [hk] at h
              rw [hK _ _ _ _ hk]
              exact ih _ _ h
def pE0 (N : Nat) : Nat → Nat → List Value → PHp → Option PRs
  | 0, _, _, _ => none
  | k + 1, mid, as, h => bif Nat.blt mid k then pE0 N k mid as h else bif Nat.beq mid k then pm_run0 (pE0 N k) k N (pm_init k as h) else none
theorem pE0_pE {X : Nat × (Nat → Int32)} {N : Nat} : ∀ (k mid : Nat) (as : List Value) (h : PHp) (r : PRs), pE0 N k mid as h = some r → pE X N k mid as h = some r := by
  intro k
  induction k with
  | zero => intro mid as h r e; cases e
  | succ k ih =>
    intro mid as h r e
    rw [pE0] at e
    rw [pE]
    cases h1 : Nat.blt mid k with
    | true => rw [h1] at e; exact ih _ _ _ _ e
    | false =>
      rw [h1] at e
      dsimp only [cond] at e ⊢
      cases h2 : Nat.beq mid k with
      | false => rw [h2] at e; cases e
      | true =>
        rw [h2] at e
        exact run0_run (fun k as h r q => ih k as h r q) N _ _ e
def sh2 : List (Nat × Nat) := [(4, 10), (4, 2), (0, 30), (1, 30), (4, 6), (0, 24), (0, 24), (0, 5), (0, 24), (0, 24), (4, 3), (0, 8), (0, 8), (0, 8), (0, 8), (0, 8), (0, 8), (0, 8), (0, 24), (0, 24), (0, 24), (0, 32), (4, 1), (0, 40), (0, 40), (0, 40), (0, 40), (0, 320), (2, 40), (0, 40), (0, 40), (0, 800), (3, 4), (4, 9), (0, 200), (4, 0), (4, 7), (4, 8), (0, 6), (4, 4), (4, 5), (0, 12), (0, 12), (0, 12), (0, 40), (4, 8), (0, 6), (4, 8), (0, 6), (4, 8), (0, 6), (4, 8), (0, 6)]
def mr2 : List (List Nat) := [[2, 5, 11, 23, 33, 34, 36, 37, 40, 41, 0], [3, 4, 0], List.replicate 30 0, List.replicate 30 0, [6, 7, 8, 9, 10, 0], List.replicate 24 0, List.replicate 24 0, List.replicate 5 0, List.replicate 24 0, List.replicate 24 0, [12, 13, 14, 15, 16, 17, 18, 19, 20, 21, 22, 0], List.replicate 8 0, List.replicate 8 0, List.replicate 8 0, List.replicate 8 0, List.replicate 8 0, List.replicate 8 0, List.replicate 8 0, List.replicate 24 0, List.replicate 24 0, List.replicate 24 0, List.replicate 32 0, [24, 25, 26, 27, 28, 29, 30, 31, 32, 0], List.replicate 40 0, List.replicate 40 0, List.replicate 40 0, List.replicate 40 0, List.replicate 320 0, List.replicate 40 0, List.replicate 40 0, List.replicate 40 0, List.replicate 800 0, [46, 48, 50, 52], [35, 0, 0, 0, 0, 0], List.replicate 200 0, [34, 23, 0, 0], [34, 38, 0, 0, 0], [39], List.replicate 6 0, [2, 5, 11, 23], [2, 11, 23, 40, 42, 43, 44, 45, 0, 0], List.replicate 12 0, List.replicate 12 0, List.replicate 12 0, List.replicate 40 0, [47], List.replicate 6 0, [49], List.replicate 6 0, [51], List.replicate 6 0, [53], List.replicate 6 0]
def hp1 : PHp := ([] ++ [(4, 10)], pm_cell (fun _ _ => 0) 1 (fun _ => 0), pm_cell (fun _ _ => 0) 1 (fun _ => 0), [] ++ [List.replicate 11 0])
def hp2 : PHp := ((pE0 3000 12 11 [.ref 1] hp1).getD (none, hp1)).2
def hp3 : PHp := (sh2 ++ [(4, 11)], pm_cell hp2.2.1 54 (fun _ => 0), pm_cell hp2.2.2.1 54 (fun _ => 0), mr2 ++ [List.replicate 41 0])
def hp4 : PHp := ((pE0 3000 15 14 [.ref 54] hp3).getD (none, hp3)).2
theorem hp2_ok : ((pE0 3000 12 11 [.ref 1] hp1).map (fun q => decide (q.1 = none ∧ q.2.1 = sh2 ∧ q.2.2.2.2 = mr2))) = some true := by decide +kernel
theorem hp4_ok : ((pE0 3000 15 14 [.ref 54] hp3).map (fun q => decide (q.1 = none ∧ q.2.1 = sh0 ∧ q.2.2.2.2 = mr0))) = some true := by decide +kernel
theorem hp2_is : pE0 3000 12 11 [.ref 1] hp1 = some (none, (sh2, hp2.2.1, hp2.2.2.1, mr2)) := by
  have h := hp2_ok
  unfold hp2
  cases hx : pE0 3000 12 11 [.ref 1] hp1 with
  | none => rw [hx] at h; cases h
  | some q =>
    rw [hx] at h
    obtain ⟨v, s, a, b, c⟩ := q
    simp only [Option.map_some, Option.some.injEq, decide_eq_true_eq] at h
    obtain ⟨rfl, rfl, rfl⟩ := h
    rfl
theorem hp4_is : pE0 3000 15 14 [.ref 54] hp3 = some (none, (sh0, hp4.2.1, hp4.2.2.1, mr0)) := by
  have h := hp4_ok
  unfold hp4
  cases hx : pE0 3000 15 14 [.ref 54] hp3 with
  | none => rw [hx] at h; cases h
  | some q =>
    rw [hx] at h
    obtain ⟨v, s, a, b, c⟩ := q
    simp only [Option.map_some, Option.some.injEq, decide_eq_true_eq] at h
    obtain ⟨rfl, rfl, rfl⟩ := h
    rfl
set_option maxRecDepth 50000 in
theorem law_pre (X : Nat × (Nat → Int32)) : pD X 191 [.ref 2000] pm_h0 = pdn X 191 (18, [.ref 2000, .ref 1, .ref 54, .int 0], [], (sh0, hp4.2.1, hp4.2.2.1, mr0), 2002, 200052) := by
  rw [pD_eq]
  refine (pdn_steps (q' := (4, [.ref 2000, pm_nul, pm_nul, pm_nul], [.ref 1, .ref 1], hp1, 1, 11)) 2 rfl rfl).trans ?_
  refine (pdn_cl (k := 11) (as := [.ref 1]) (q' := (7, [.ref 2000, pm_nul, pm_nul, pm_nul], [.ref 1], hp1, 1001, 100011)) rfl rfl rfl).trans ?_
  rw [show pD X 11 [.ref 1] hp1 = some (none, (sh2, hp2.2.1, hp2.2.2.1, mr2)) from pE_pD (pE0_pE _ _ _ _ _ hp2_is)]
  show pdn X 191 (7, [.ref 2000, pm_nul, pm_nul, pm_nul], [.ref 1], (sh2, hp2.2.1, hp2.2.2.1, mr2), 1001, 100011) = _
  refine (pdn_steps (q' := (12, [.ref 2000, .ref 1, pm_nul, pm_nul], [.ref 54, .ref 54], hp3, 1002, 100052)) 3 rfl rfl).trans ?_
  refine (pdn_cl (k := 14) (as := [.ref 54]) (q' := (15, [.ref 2000, .ref 1, pm_nul, pm_nul], [.ref 54], hp3, 2002, 200052)) rfl rfl rfl).trans ?_
  rw [show pD X 14 [.ref 54] hp3 = some (none, (sh0, hp4.2.1, hp4.2.2.1, mr0)) from pE_pD (pE0_pE _ _ _ _ _ hp4_is)]
  show pdn X 191 (15, [.ref 2000, .ref 1, pm_nul, pm_nul], [.ref 54], (sh0, hp4.2.1, hp4.2.2.1, mr0), 2002, 200052) = _
  exact pdn_steps 3 rfl rfl
