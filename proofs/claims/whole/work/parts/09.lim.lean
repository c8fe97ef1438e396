noncomputable def pm_lim {α : Type} (f : Nat → Option α) : Option α := @dite _ (∃ n, (f n).isSome = true) (Classical.propDecidable _) (fun h => f h.choose) (fun _ => none)
theorem pm_mono {α : Type} {f : Nat → Option α} (hm : ∀ n r, f n = some r → f (n + 1) = some r) {n : Nat} {r : α} (h : f n = some r) : ∀ k, f (n + k) = some r := by
  intro k
  induction k with
  | zero => exact h
  | succ k ih => exact hm _ _ ih
theorem pm_lim_iff {α : Type} {f : Nat → Option α} (hm : ∀ n r, f n = some r → f (n + 1) = some r) {r : α} : pm_lim f = some r ↔ ∃ n, f n = some r := by
  constructor
  · intro h
    unfold pm_lim at h
    split at h
    · exact ⟨_, h⟩
    · cases h
  · rintro ⟨n, h⟩
    have hx : ∃ n, (f n).isSome = true := ⟨n, by rw [h]; rfl⟩
    unfold pm_lim
    rw [dif_pos hx]
    obtain ⟨r', hr'⟩ := Option.isSome_iff_exists.mp hx.choose_spec
    rw [hr']
    have a := pm_mono hm h hx.choose
    have b := pm_mono hm hr' n
    rw [Nat.add_comm] at b
    rw [a] at b
    exact b.symm
theorem pm_lim_congr {α : Type} {f g : Nat → Option α} (hf : ∀ n r, f n = some r → f (n + 1) = some r) (hg : ∀ n r, g n = some r → g (n + 1) = some r) (h : ∀ r, (∃ n, f n = some r) ↔ ∃ n, g n = some r) : pm_lim f = pm_lim g := by
  cases hx : pm_lim f with
  | some r => exact ((pm_lim_iff hg).mpr ((h r).mp ((pm_lim_iff hf).mp hx))).symm
  | none =>
    cases hy : pm_lim g with
    | none => rfl
    | some r =>
      rw [(pm_lim_iff hf).mpr ((h r).mpr ((pm_lim_iff hg).mp hy))] at hx
      cases hx
theorem pm_run_succ (X : Nat × (Nat → Int32)) (K : Nat → List Value → PHp → Option PRs) (mid n : Nat) (q : PCf) : pm_run X K mid (n + 1) q = match pm_step X mid q with
    | none => none
    | some (.inl q') => pm_run X K mid n q'
    | some (.inr (.inl r)) => some r
    | some (.inr (.inr q')) => match (bif Nat.blt q'.1 mid then K q'.1 q'.2.1 q'.2.2.2.2.2.1 else none) with
      | none => none
      | some r => pm_run X K mid n (pm_back q'.2.2 r) := rfl
theorem pm_run_mono {X : Nat × (Nat → Int32)} {K K' : Nat → List Value → PHp → Option PRs} {mid : Nat} (hK : ∀ k as h r, k < mid → K k as h = some r → K' k as h = some r) : ∀ (n : Nat) (q : PCf) (r : PRs), pm_run X K mid n q = some r → ∀ m, n ≤ m → pm_run X K' mid m q = some r := by
  intro n
  induction n with
  | zero => intro q r h; cases h
  | succ n ih =>
    intro q r h m hm
    obtain ⟨m, rfl⟩ : ∃ k, m = k + 1 := ⟨m - 1, by omega⟩
    have hm' : n ≤ m := by omega
    rw [pm_run_succ] at h ⊢
    cases hs : pm_step X mid q with
    | none => rw [hs] at h; cases h
    | some o =>
      rw [hs] at h
      rcases o with q' | r' | q'
      · exact ih _ _ h m hm'
      · exact h
      · dsimp only at h ⊢
        cases hb : Nat.blt q'.1 mid with
        | false => rw [hb] at h; cases h
        | true =>
          rw [hb] at h
          dsimp only [cond] at h ⊢
          cases hk : K q'.1 q'.2.1 q'.2.2.2.2.2.1 with
          | none => rw [hk] at h; cases h
          | some r0 =>
            rw [hk] at h
            have hl : q'.1 < mid := by simpa [Nat.blt_eq] using hb
            rw [hK _ _ _ _ hl hk]
            exact ih _ _ h m hm'
noncomputable def pT (X : Nat × (Nat → Int32)) : Nat → Nat → List Value → PHp → Option PRs
  | 0, _, _, _ => none
  | k + 1, mid, as, h => if mid < k then pT X k mid as h else if mid = k then pm_lim (fun n => pm_run X (pT X k) k n (pm_init k as h)) else none
noncomputable def pD (X : Nat × (Nat → Int32)) (mid : Nat) (as : List Value) (h : PHp) : Option PRs := pT X (mid + 1) mid as h
noncomputable def pdn (X : Nat × (Nat → Int32)) (mid : Nat) (q : PCf) : Option PRs := pm_lim (fun n => pm_run X (pD X) mid n q)
theorem pT_eq {X : Nat × (Nat → Int32)} {mid : Nat} (as : List Value) (h : PHp) : ∀ k, mid < k → pT X k mid as h = pD X mid as h := by
  intro k
  induction k with
  | zero => intro hk; omega
  | succ k ih =>
    intro hk
    by_cases hl : mid < k
    · rw [pT, if_pos hl]; exact ih hl
    · have : mid = k := by omega
      subst this
      rfl
theorem pm_run_m1 {X : Nat × (Nat → Int32)} {K : Nat → List Value → PHp → Option PRs} {mid : Nat} {q : PCf} : ∀ n r, pm_run X K mid n q = some r → pm_run X K mid (n + 1) q = some r := fun n r h => pm_run_mono (fun _ _ _ _ _ h => h) n q r h (n + 1) (Nat.le_succ n)
theorem pdn_iff {X : Nat × (Nat → Int32)} {mid : Nat} {q : PCf} {r : PRs} : pdn X mid q = some r ↔ ∃ n, pm_run X (pD X) mid n q = some r := pm_lim_iff pm_run_m1
theorem pD_eq (X : Nat × (Nat → Int32)) (mid : Nat) (as : List Value) (h : PHp) : pD X mid as h = pdn X mid (pm_init mid as h) := by
  show pT X (mid + 1) mid as h = _
  rw [pT, if_neg (Nat.lt_irrefl _), if_pos rfl]
  refine pm_lim_congr pm_run_m1 pm_run_m1 (fun r => ?_)
  constructor
  · rintro ⟨n, hn⟩
    exact ⟨n, pm_run_mono (fun k as h r hk e => by rw [← pT_eq as h mid hk]; exact e) n _ r hn n (Nat.le_refl n)⟩
  · rintro ⟨n, hn⟩
    exact ⟨n, pm_run_mono (fun k as h r hk e => by rw [pT_eq as h mid hk]; exact e) n _ r hn n (Nat.le_refl n)⟩
theorem pdn_go {X : Nat × (Nat → Int32)} {mid : Nat} {q q' : PCf} (h : pm_step X mid q = some (.inl q')) : pdn X mid q = pdn X mid q' := by
  refine pm_lim_congr pm_run_m1 pm_run_m1 (fun r => ?_)
  constructor
  · rintro ⟨n, hn⟩
    cases n with
    | zero => cases hn
    | succ n => rw [pm_run_succ, h] at hn; exact ⟨n, hn⟩
  · rintro ⟨n, hn⟩
    exact ⟨n + 1, by rw [pm_run_succ, h]; exact hn⟩
theorem pdn_no {X : Nat × (Nat → Int32)} {mid : Nat} {q : PCf} (h : pm_step X mid q = none) : pdn X mid q = none := by
  cases hx : pdn X mid q with
  | none => rfl
  | some r =>
    obtain ⟨n, hn⟩ := pdn_iff.mp hx
    cases n with
    | zero => cases hn
    | succ n => rw [pm_run_succ, h] at hn; cases hn
theorem pdn_ret {X : Nat × (Nat → Int32)} {mid : Nat} {q : PCf} {r : PRs} (h : pm_step X mid q = some (.inr (.inl r))) : pdn X mid q = some r := pdn_iff.mpr ⟨1, by rw [pm_run_succ, h]⟩
theorem pdn_call {X : Nat × (Nat → Int32)} {mid : Nat} {q : PCf} {k : Nat} {as : List Value} {q' : PCf} (h : pm_step X mid q = some (.inr (.inr (k, as, q')))) (hk : Nat.blt k mid = true) : pdn X mid q = (pD X k as q'.2.2.2.1).bind (fun r => pdn X mid (pm_back q' r)) := by
  cases hd : pD X k as q'.2.2.2.1 with
  | none =>
    show _ = none
    cases hx : pdn X mid q with
    | none => rfl
    | some r =>
      obtain ⟨n, hn⟩ := pdn_iff.mp hx
      cases n with
      | zero => cases hn
      | succ n =>
        rw [pm_run_succ, h] at hn
        simp only [hk, cond] at hn
        rw [hd] at hn
        cases hn
  | some r0 =>
    show pdn X mid q = pdn X mid (pm_back q' r0)
    refine pm_lim_congr pm_run_m1 pm_run_m1 (fun r => ?_)
    constructor
    · rintro ⟨n, hn⟩
      cases n with
      | zero => cases hn
      | succ n =>
        rw [pm_run_succ, h] at hn
        simp only [hk, cond] at hn
        rw [hd] at hn
        exact ⟨n, hn⟩
    · rintro ⟨n, hn⟩
      refine ⟨n + 1, ?_⟩
      rw [pm_run_succ, h]
      simp only [hk, cond]
      rw [hd]
      exact hn
def pm_steps (X : Nat × (Nat → Int32)) (mid : Nat) : Nat → PCf → Option PCf
  | 0, q => some q
  | n + 1, q => match pm_step X mid q with
    | some (.inl q') => pm_steps X mid n q'
    | _ => none
theorem pdn_steps {X : Nat × (Nat → Int32)} {mid : Nat} {q q' : PCf} {rhs : Option PRs} (n : Nat) (h : pm_steps X mid n q = some q') (hr : pdn X mid q' = rhs) : pdn X mid q = rhs := by
  subst hr
  induction n generalizing q with
  | zero => cases h; rfl
  | succ n ih =>
    rw [pm_steps] at h
    cases hs : pm_step X mid q with
    | none => rw [hs] at h; cases h
    | some o =>
      rw [hs] at h
      rcases o with q1 | o
      · rw [pdn_go hs]; exact ih h
      · cases h
theorem pdn_gd {X : Nat × (Nat → Int32)} {mid : Nat} {q q' : PCf} {c : Prop} [Decidable c] {rhs : Option PRs} (h : pm_step X mid q = if c then some (.inl q') else none) (hr : pdn X mid q' = rhs) : pdn X mid q = if c then rhs else none := by
  subst hr
  by_cases hc : c
  · rw [if_pos hc] at h ⊢; exact pdn_go h
  · rw [if_neg hc] at h ⊢; exact pdn_no h
theorem pdn_br {X : Nat × (Nat → Int32)} {mid : Nat} {q : PCf} {c : Prop} [Decidable c] {a b : Nat} {w : List Value × List Value × PHp × Nat × Nat} {r1 r2 : Option PRs} (h : pm_step X mid q = some (.inl (if c then a else b, w))) (h1 : pdn X mid (a, w) = r1) (h2 : pdn X mid (b, w) = r2) : pdn X mid q = if c then r1 else r2 := by
  subst h1; subst h2
  rw [pdn_go h]
  by_cases hc : c
  · rw [if_pos hc, if_pos hc]
  · rw [if_neg hc, if_neg hc]
theorem pdn_rt {X : Nat × (Nat → Int32)} {mid : Nat} {q : PCf} {r : PRs} {c : Prop} [Decidable c] (h : pm_step X mid q = if c then some (.inr (.inl r)) else none) : pdn X mid q = if c then some r else none := by
  by_cases hc : c
  · rw [if_pos hc] at h ⊢; exact pdn_ret h
  · rw [if_neg hc] at h ⊢; exact pdn_no h
theorem pdn_cl {X : Nat × (Nat → Int32)} {mid : Nat} {q : PCf} {k : Nat} {as : List Value} {q' : PCf} {rhs : Option PRs} (h : pm_step X mid q = some (.inr (.inr (k, as, q')))) (hk : Nat.blt k mid = true) (hr : (pD X k as q'.2.2.2.1).bind (fun r => pdn X mid (pm_back q' r)) = rhs) : pdn X mid q = rhs := (pdn_call h hk).trans hr
/-- the computable table, for runs without unknowns -/
def pE (X : Nat × (Nat → Int32)) (N : Nat) : Nat → Nat → List Value → PHp → Option PRs
  | 0, _, _, _ => none
  | k + 1, mid, as, h => bif Nat.blt mid k then pE X N k mid as h else bif Nat.beq mid k then pm_run X (pE X N k) k N (pm_init k as h) else none
theorem pE_pT {X : Nat × (Nat → Int32)} {N : Nat} : ∀ (k mid : Nat) (as : List Value) (h : PHp) (r : PRs), pE X N k mid as h = some r → pT X k mid as h = some r := by
  intro k
  induction k with
  | zero => intro mid as h r e; cases e
  | succ k ih =>
    intro mid as h r e
    rw [pE] at e
    cases h1 : Nat.blt mid k with
    | true =>
      rw [h1] at e
      have hl : mid < k := by simpa [Nat.blt_eq] using h1
      rw [pT, if_pos hl]
      exact ih _ _ _ _ e
    | false =>
      rw [h1] at e
      have hl : ¬ mid < k := by
        intro hx
        have : Nat.blt mid k = true := by simpa [Nat.blt_eq] using hx
        rw [this] at h1; cases h1
      dsimp only [cond] at e
      cases h2 : Nat.beq mid k with
      | false => rw [h2] at e; cases e
      | true =>
        rw [h2] at e
        have hm : mid = k := Nat.eq_of_beq_eq_true h2
        subst hm
        rw [pT, if_neg hl, if_pos rfl]
        exact (pm_lim_iff pm_run_m1).mpr ⟨N, pm_run_mono (fun k as h r _ q => ih k as h r q) N _ _ e N (Nat.le_refl N)⟩
theorem pE_pD {X : Nat × (Nat → Int32)} {N mid : Nat} {as : List Value} {h : PHp} {r : PRs} (e : pE X N (mid + 1) mid as h = some r) : pD X mid as h = some r := pE_pT _ _ _ _ _ e
