/-! JUDGING: the fewest papers, found either way -/
theorem b_inv (y : Int32) {i : Nat} (hi : i < 32) : bt (y ^^^ (-1)) i = !bt y i := by rw [b_xor, b_m1 i hi, Bool.xor_true]
theorem i_zero {x : Int32} : x = 0 ↔ ∀ i, i < 32 → bt x i = false := ⟨fun h i _ => by rw [h, b_0], fun h => b_ext (fun i hi => by rw [h i hi, b_0])⟩
theorem opn_bt (Mi : MI) (nd : Int32) (p : Nat) {i : Nat} (hi : i < 32) : bt (opn Mi nd p) i = (bt nd i && !bt (Mi 6 p) i) := by unfold opn; rw [b_and, b_inv _ hi]
theorem opn_same {Mi : MI} {nd : Int32} {p : Nat} : opn Mi nd p = nd ↔ (nd &&& Mi 6 p) = 0 := by
  rw [i_zero]
  constructor
  · intro h i hi
    have := opn_bt Mi nd p hi
    rw [h] at this
    rw [b_and]
    cases q : bt nd i <;> cases r : bt (Mi 6 p) i <;> simp_all
  · intro h
    apply b_ext; intro i hi
    rw [opn_bt Mi nd p hi]
    have := h i hi
    rw [b_and] at this
    cases q : bt nd i <;> cases r : bt (Mi 6 p) i <;> simp_all
theorem opn_meet {Mi : MI} {nd n0 : Int32} {p : Nat} (hs : ∀ i, i < 32 → bt nd i = true → bt n0 i = true) (h : ¬ opn Mi nd p = nd) : ¬ (n0 &&& Mi 6 p) = 0 := by
  intro q
  apply h
  rw [opn_same, i_zero]
  intro i hi
  have := (i_zero.mp q) i hi
  rw [b_and] at this ⊢
  have := hs i hi
  cases r : bt nd i <;> cases r' : bt (Mi 6 p) i <;> simp_all
theorem opn_sub (Mi : MI) (nd : Int32) (p : Nat) : ∀ i, i < 32 → bt (opn Mi nd p) i = true → bt nd i = true := by
  intro i hi h
  rw [opn_bt Mi nd p hi] at h
  cases q : bt nd i
  · rw [q, Bool.false_and] at h; exact absurd h (by decide)
  · rfl
theorem opn_z {Mi : MI} {nd : Int32} {p : Nat} (h0 : ¬ nd = 0) (h : opn Mi nd p = 0) : ¬ opn Mi nd p = nd := fun q => h0 (by rw [← q]; exact h)
theorem opn_3 (Mi : MI) (nd : Int32) (a b c : Nat) : nd &&& (((Mi 6 a ||| Mi 6 b) ||| Mi 6 c) ^^^ (-1)) = opn Mi (opn Mi (opn Mi nd a) b) c := by
  apply b_ext; intro i hi
  rw [opn_bt _ _ _ hi, opn_bt _ _ _ hi, opn_bt _ _ _ hi, b_and, b_inv _ hi, b_or, b_or]
  cases bt nd i <;> cases bt (Mi 6 a) i <;> cases bt (Mi 6 b) i <;> cases bt (Mi 6 c) i <;> rfl
theorem opn_2 (Mi : MI) (nd : Int32) (b : Nat) : opn Mi (opn Mi nd b) b = opn Mi nd b := by
  apply b_ext; intro i hi
  rw [opn_bt _ _ _ hi, opn_bt _ _ _ hi]
  cases bt nd i <;> cases bt (Mi 6 b) i <;> rfl
def gdB (Mi : MI) (bf : Int32) (ff p : Nat) : Bool := cnB Mi bf p && bt (Mi 8 ff) (fd7 Mi p)
def nr2 (Mi : MI) (a b : Nat) : Bool := bt (Mi 8 (fd7 Mi a)) (fd7 Mi b)
def one (p : Nat) : Int32 := (1 : Int32) <<< (nI p &&& 31)
theorem T3 (Mi : MI) (nd bf : Int32) (ff a b c : Nat) : t3 Mi nd bf ff a b c = if gdB Mi bf ff a = true ∧ gdB Mi bf ff b = true ∧ gdB Mi bf ff c = true ∧ nr2 Mi a b = true ∧ nr2 Mi b c = true ∧ nr2 Mi a c = true ∧ opn Mi (opn Mi (opn Mi nd a) b) c = 0 then some ((one a ||| one b) ||| one c) else none := by
  unfold t3
  rw [opn_3]
  refine ite_iffI ?_ _ _
  unfold gdB nr2 nrB
  simp only [Bool.and_eq_true]
  constructor
  · rintro ⟨⟨⟨a1, a2⟩, a3⟩, ⟨⟨⟨⟨b1, b2⟩, b3⟩, ⟨⟨b4, b5⟩, b6⟩⟩, ⟨⟨b7, b8⟩, b9⟩⟩, c1⟩
    exact ⟨⟨a1, b2⟩, ⟨a2, b3⟩, ⟨a3, b6⟩, b1, b4, b7, c1⟩
  · rintro ⟨⟨a1, b2⟩, ⟨a2, b3⟩, ⟨a3, b6⟩, b1, b4, b7, c1⟩
    exact ⟨⟨⟨a1, a2⟩, a3⟩, ⟨⟨⟨⟨b1, b2⟩, b3⟩, ⟨⟨b4, b3⟩, b6⟩⟩, ⟨⟨b7, b2⟩, b6⟩⟩, c1⟩
theorem T2 {Mi : MI} (nd bf : Int32) (ff a : Nat) {b : Nat} (hb : nr2 Mi b b = true) : t3 Mi nd bf ff a b b = if gdB Mi bf ff a = true ∧ gdB Mi bf ff b = true ∧ nr2 Mi a b = true ∧ opn Mi (opn Mi nd a) b = 0 then some (one a ||| one b) else none := by
  rw [T3, opn_2, show (one a ||| one b) ||| one b = one a ||| one b from b_ext (fun i _ => by rw [b_or, b_or]; cases bt (one a) i <;> cases bt (one b) i <;> rfl)]
  exact ite_iffI ⟨fun ⟨h1, h2, _, h3, _, _, h4⟩ => ⟨h1, h2, h3, h4⟩, fun ⟨h1, h2, h3, h4⟩ => ⟨h1, h2, h2, h3, hb, h3, h4⟩⟩ _ _
theorem T1 {Mi : MI} (nd bf : Int32) (ff : Nat) {a : Nat} (ha : nr2 Mi a a = true) : t3 Mi nd bf ff a a a = if gdB Mi bf ff a = true ∧ opn Mi nd a = 0 then some (one a) else none := by
  rw [T2 nd bf ff a ha, opn_2, show one a ||| one a = one a from b_ext (fun i _ => by rw [b_or, Bool.or_self])]
  exact ite_iffI ⟨fun ⟨h1, _, _, h4⟩ => ⟨h1, h4⟩, fun ⟨h1, h4⟩ => ⟨h1, h1, ha, h4⟩⟩ _ _
theorem srch_1 {α : Type} (g : Nat → Option α) (i : Nat) : srch g 1 i = g i := by
  cases e : g i with
  | none => rw [srch_n e]; rfl
  | some x => rw [srch_s e]
theorem rA1 (Mi : MI) (nd bf : Int32) (ff np : Nat) : rA Mi nd bf ff np 1 = srch (fun a => t3 Mi nd bf ff a a a) np 0 := by
  unfold rA
  refine srch_cong (fun a _ _ => ?_)
  show srch _ (if 1 < 1 then np - (a + 1) else 1) (if 1 < 1 then a + 1 else a) = _
  rw [if_neg (by decide), if_neg (by decide), srch_1]
  show srch _ (if 2 < 1 then np - (a + 1) else 1) (if 2 < 1 then a + 1 else a) = _
  rw [if_neg (by decide), if_neg (by decide), srch_1]
theorem rA2 (Mi : MI) (nd bf : Int32) (ff np : Nat) : rA Mi nd bf ff np 2 = srch (fun a => srch (fun b => t3 Mi nd bf ff a b b) (np - (a + 1)) (a + 1)) np 0 := by
  unfold rA
  refine srch_cong (fun a _ _ => ?_)
  show srch _ (if 1 < 2 then np - (a + 1) else 1) (if 1 < 2 then a + 1 else a) = _
  rw [if_pos (by decide), if_pos (by decide)]
  refine srch_cong (fun b _ _ => ?_)
  show srch _ (if 2 < 2 then np - (b + 1) else 1) (if 2 < 2 then b + 1 else b) = _
  rw [if_neg (by decide), if_neg (by decide), srch_1]
theorem rA3 (Mi : MI) (nd bf : Int32) (ff np : Nat) : rA Mi nd bf ff np 3 = srch (fun a => srch (fun b => srch (fun c => t3 Mi nd bf ff a b c) (np - (b + 1)) (b + 1)) (np - (a + 1)) (a + 1)) np 0 := by
  unfold rA
  refine srch_cong (fun a _ _ => ?_)
  show srch _ (if 1 < 3 then np - (a + 1) else 1) (if 1 < 3 then a + 1 else a) = _
  rw [if_pos (by decide), if_pos (by decide)]
  refine srch_cong (fun b _ _ => ?_)
  show srch _ (if 2 < 3 then np - (b + 1) else 1) (if 2 < 3 then b + 1 else b) = _
  rw [if_pos (by decide), if_pos (by decide)]
/-- one paper more, the last -/
theorem cv1 {Mi : MI} {hp : Int32} {np : Nat} {nd fl : Int32} (h0 : ¬ nd = 0) (fr : Nat) : cvr Mi hp np 1 nd fl fr = srch (fun p => if opn Mi nd p = 0 ∧ bt hp p = true ∧ bt fl (fd7 Mi p) = true then some (one p) else none) (np - fr) fr := by
  show (if nd = 0 then some 0 else srch (cvg Mi hp (cvr Mi hp np 0) 0 nd fl) (np - fr) fr) = _
  rw [if_neg h0]
  refine srch_cong (fun p _ _ => ?_)
  unfold cvg
  by_cases g : opn Mi nd p = 0
  · by_cases g2 : bt hp p = true ∧ bt fl (fd7 Mi p) = true
    · rw [if_pos (show cvh 0 nd (opn Mi nd p) = true ∧ bt hp p = true ∧ bt fl (fd7 Mi p) = true from ⟨by unfold cvh; rw [if_pos rfl]; exact decide_eq_true g, g2⟩), if_pos ⟨g, g2⟩]
      show Option.map _ (if opn Mi nd p = 0 then some 0 else none) = _
      rw [if_pos g]
      show some ((0 : Int32) ||| one p) = some (one p)
      rw [show (0 : Int32) ||| one p = one p from b_ext (fun i _ => by rw [b_or, b_0, Bool.false_or])]
    · rw [if_neg (fun q => g2 q.2), if_neg (fun q => g2 q.2)]
  · rw [if_neg (fun q => g (by have := q.1; unfold cvh at this; rw [if_pos rfl] at this; exact of_decide_eq_true this)), if_neg (fun q => g q.1)]
theorem cvS {Mi : MI} {hp : Int32} {np m : Nat} {nd fl : Int32} (h0 : ¬ nd = 0) (fr : Nat) : cvr Mi hp np (m + 2) nd fl fr = srch (fun p => if (¬ opn Mi nd p = nd) ∧ bt hp p = true ∧ bt fl (fd7 Mi p) = true then (cvr Mi hp np (m + 1) (opn Mi nd p) (fl &&& Mi 8 (fd7 Mi p)) (p + 1)).map (fun r => r ||| one p) else none) (np - fr) fr := by
  show (if nd = 0 then some 0 else srch (cvg Mi hp (cvr Mi hp np (m + 1)) (m + 1) nd fl) (np - fr) fr) = _
  rw [if_neg h0]
  refine srch_cong (fun p _ _ => ?_)
  unfold cvg
  refine ite_iffI ?_ _ _
  unfold cvh
  rw [if_neg (by omega)]
  constructor
  · rintro ⟨h1, h2⟩; exact ⟨fun q => by rw [decide_eq_true q] at h1; exact absurd h1 (by decide), h2⟩
  · rintro ⟨h1, h2⟩; exact ⟨by rw [decide_eq_false h1]; rfl, h2⟩
theorem srch_map {α β : Type} (u : α → β) (g : Nat → Option α) : ∀ n i, (srch g n i).map u = srch (fun k => (g k).map u) n i
  | 0, _ => rfl
  | n + 1, i => by
    cases e : g i with
    | none => rw [srch_n e, srch_map u g n (i + 1)]; exact (srch_n (g := fun k => (g k).map u) (by show (g i).map u = none; rw [e]; rfl)).symm
    | some x => rw [srch_s e]; exact (srch_s (g := fun k => (g k).map u) (x := u x) (by show (g i).map u = _; rw [e]; rfl)).symm
