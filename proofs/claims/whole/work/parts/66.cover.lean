/-! JUDGING: the class's covers -/
theorem ite_iffI {c d : Prop} [Decidable c] [Decidable d] {α : Type} (h : c ↔ d) (x y : α) : (if c then x else y) = (if d then x else y) := by
  by_cases q : c
  · rw [if_pos q, if_pos (h.mp q)]
  · rw [if_neg q, if_neg (fun t => q (h.mpr t))]
def opn (Mi : MI) (nd : Int32) (p : Nat) : Int32 := nd &&& ((Mi 6 p) ^^^ (-1))
def fd7 (Mi : MI) (p : Nat) : Nat := (Mi 7 p).toNatClampNeg
def cvh (m : Nat) (nd o : Int32) : Bool := if m = 0 then decide (o = 0) else !decide (o = nd)
def cvg (Mi : MI) (hp : Int32) (c : Int32 → Int32 → Nat → Option Int32) (m : Nat) (nd fl : Int32) (p : Nat) : Option Int32 := if cvh m nd (opn Mi nd p) = true ∧ bt hp p = true ∧ bt fl (fd7 Mi p) = true then (c (opn Mi nd p) (fl &&& Mi 8 (fd7 Mi p)) (p + 1)).map (fun r => r ||| ((1 : Int32) <<< (nI p &&& 31))) else none
def cvr (Mi : MI) (hp : Int32) (P : Nat) : Nat → Int32 → Int32 → Nat → Option Int32
  | 0 => fun nd _ _ => if nd = 0 then some 0 else none
  | m + 1 => fun nd fl fr => if nd = 0 then some 0 else srch (cvg Mi hp (cvr Mi hp P m) m nd fl) (P - fr) fr
theorem cvr_hi {Mi : MI} {hp : Int32} {P : Nat} (hP : P ≤ 24) : ∀ (m : Nat) (nd fl : Int32) (fr : Nat) (r : Int32), fr ≤ P → cvr Mi hp P m nd fl fr = some r → ∀ i, 24 ≤ i → i < 32 → bt r i = false := by
  intro m
  induction m with
  | zero =>
    intro nd fl fr r _ h i _ _
    have h' : (if nd = 0 then some 0 else none) = some r := h
    split at h'
    · cases h'; exact b_0 i
    · exact absurd h' (by simp)
  | succ m ih =>
    intro nd fl fr r hfr h i h24 h32
    have h' : (if nd = 0 then some 0 else srch (cvg Mi hp (cvr Mi hp P m) m nd fl) (P - fr) fr) = some r := h
    split at h'
    · cases h'; exact b_0 i
    · obtain ⟨k, k1, k2, hg⟩ := srch_some h'
      unfold cvg at hg
      split at hg
      · cases hc : cvr Mi hp P m (opn Mi nd k) (fl &&& Mi 8 (fd7 Mi k)) (k + 1) with
        | none => rw [hc] at hg; exact absurd hg (by simp)
        | some r' =>
          rw [hc] at hg
          have e : r' ||| ((1 : Int32) <<< (nI k &&& 31)) = r := Option.some.inj hg
          rw [← e, b_or, ih _ _ _ _ (by omega) hc i h24 h32, x_one (by omega) h32, decide_eq_false (by omega)]; rfl
      · exact absurd hg (by simp)
theorem cvr_ne {Mi : MI} {hp : Int32} {P : Nat} (hP : P ≤ 24) {m : Nat} {nd fl : Int32} {fr : Nat} {r : Int32} (hfr : fr ≤ P) (h : cvr Mi hp P m nd fl fr = some r) : r ≠ -1 := by
  intro e
  have := cvr_hi hP m nd fl fr r hfr h 31 (by decide) (by decide)
  rw [e] at this
  revert this; decide +kernel
theorem c_cov0 {X : Nat × (Nat → Int32)} {Mi : MI} {Ml : ML} (hp : Int32) (P : Nat) (nd fl : Int32) (fr : Nat) : pD X m_Judge_cover0 [.ref 5, .int nd, .int hp, .int fl, .int (nI fr), .int (nI 0)] (sh0, Mi, Ml, mr0) = some (some (.int ((cvr Mi hp P 0 nd fl fr).getD (-1))), (sh0, Mi, Ml, mr0)) := by
  rw [d_Judge_cover0]
  show _ = some (some (Value.int ((if nd = 0 then some 0 else none : Option Int32).getD (-1))), (sh0, Mi, Ml, mr0))
  by_cases h : nd = 0
  · rw [if_pos h, if_pos h]; rfl
  · rw [if_neg h, if_neg h, if_neg (show ¬ (0 : Int32) < nI 0 by decide)]; rfl
theorem c_cov1_go {X : Nat × (Nat → Int32)} {Mi : MI} {Ml : ML} {np : Nat} (e : Mi 5 5 = nI np) (hnp : np ≤ 24) (h7 : ∀ p, p < np → pin (Mi 7 p) 5) (hp : Int32) {m : Nat} (hm : m < 1) (nd fl : Int32) (w4 : Value) : ∀ n i (w7 w8 w9 w10 : Value), i + n = np → pdn X m_Judge_cover1 (17, [.ref 5, .int nd, .int hp, .int fl, w4, .int (nI (m + 1)), .int (nI i), w7, w8, w9, w10], [], (sh0, Mi, Ml, mr0), 0, 0) = some (some (.int ((srch (cvg Mi hp (cvr Mi hp np m) m nd fl) n i).getD (-1))), (sh0, Mi, Ml, mr0)) := by
  intro n
  induction n with
  | zero =>
    intro i w7 w8 w9 w10 hi
    obtain rfl : i = np := by omega
    rw [w_Judge_cover1_17, e, if_neg (by rw [nI_lt' (by omega) (by omega)]; omega)]; rfl
  | succ n ih =>
    intro i w7 w8 w9 w10 hi
    obtain rfl : m = 0 := by omega
    have p24 : pin (nI i) 24 := pin_nI (by omega) (by decide)
    have ci : (nI i).toNatClampNeg = i := nI_clamp (by omega)
    obtain ⟨fd, hfd, e7⟩ := pin_ex (by decide) (h7 i (by omega))
    have cfd : (nI fd).toNatClampNeg = fd := nI_clamp (by omega)
    have efd : fd7 Mi i = fd := by unfold fd7; rw [e7, cfd]
    have low := c_cov0 (Mi := Mi) hp np (X := X) (Ml := Ml) (opn Mi nd i) (fl &&& Mi 8 fd) (i + 1)
    have back : ∀ t, pdn X m_Judge_cover1 (69, [.ref 5, .int nd, .int hp, .int fl, w4, .int (nI (0 + 1)), .int (nI i), .int (nd &&& ((Mi 6 i) ^^^ (-1))), w8, w9, w10], [.int t], (sh0, Mi, Ml, mr0), 0, 0) = some (some (.int ((if ¬ t = 0 ∧ bt hp i = true ∧ bt fl fd = true then (cvr Mi hp np 0 (opn Mi nd i) (fl &&& Mi 8 fd) (i + 1)).map (fun r => r ||| ((1 : Int32) <<< (nI i &&& 31))) else none : Option Int32).getD ((srch (cvg Mi hp (cvr Mi hp np 0) 0 nd fl) n (i + 1)).getD (-1)))), (sh0, Mi, Ml, mr0)) := by
      intro t
      rw [w_Judge_cover1_69, x_bit (show i < 32 by omega), if_pos p24, ci, e7, x_bit (show fd < 32 by omega), if_pos p24, if_pos (pin_nI hfd (by decide)), cfd, nI_1, show nI (0 + 1) - 1 = nI 0 by rw [← nI_1, nI_pm], show (nd &&& ((Mi 6 i) ^^^ (-1))) = opn Mi nd i from rfl, low, Option.bind_some, pb_i, w_Judge_cover1_132, nI_1, ih (i + 1) _ _ _ _ (by omega), ih (i + 1) _ _ _ _ (by omega)]
      by_cases g0 : t = 0
      · rw [if_pos g0, if_neg (fun q => q.1 g0)]; rfl
      · rw [if_neg g0]
        by_cases g1 : bt hp i = true
        · rw [if_neg (by rw [bI_t g1]; decide)]
          by_cases g2 : bt fl fd = true
          · rw [if_neg (by rw [bI_t g2]; decide), if_pos (show ¬ t = 0 ∧ bt hp i = true ∧ bt fl fd = true from ⟨g0, g1, g2⟩)]
            cases hc : cvr Mi hp np 0 (opn Mi nd i) (fl &&& Mi 8 fd) (i + 1) with
            | none => rw [if_pos (by rfl)]; rfl
            | some r => rw [if_neg (show ¬ (some r).getD (-1) = -1 from cvr_ne hnp (by omega) hc)]; rfl
          · rw [if_pos (bI_f g2), if_neg (fun q => g2 q.2.2)]; rfl
        · rw [if_pos (bI_f g1), if_neg (fun q => g1 q.2.1)]; rfl
    have step : ∀ (c : Prop) [Decidable c], ((if c then 1 else 0 : Int32) = 0) ↔ ¬ c := fun c _ => bI_0
    rw [w_Judge_cover1_17, e, if_pos (by rw [nI_lt' (by omega) (by omega)]; omega), if_pos p24, ci, back, back]
    have fin : ∀ (c : Prop) [Decidable c] (z : Option Int32), (if c then z else none : Option Int32) = cvg Mi hp (cvr Mi hp np 0) 0 nd fl i → (if c then z else none : Option Int32).getD ((srch (cvg Mi hp (cvr Mi hp np 0) 0 nd fl) n (i + 1)).getD (-1)) = (srch (cvg Mi hp (cvr Mi hp np 0) 0 nd fl) (n + 1) i).getD (-1) := by
      intro c _ z hz
      rw [hz]
      cases hg : cvg Mi hp (cvr Mi hp np 0) 0 nd fl i with
      | none => rw [srch_n hg]; rfl
      | some r => rw [srch_s hg]; rfl
    have un : cvg Mi hp (cvr Mi hp np 0) 0 nd fl i = if cvh 0 nd (opn Mi nd i) = true ∧ bt hp i = true ∧ bt fl fd = true then (cvr Mi hp np 0 (opn Mi nd i) (fl &&& Mi 8 fd) (i + 1)).map (fun r => r ||| ((1 : Int32) <<< (nI i &&& 31))) else none := by unfold cvg; rw [efd]
    by_cases hm0 : 0 = 0
    · rw [if_pos (by rw [hm0]; rfl)]
      by_cases ho : opn Mi nd i = 0
      · rw [if_pos (by exact ho)]
        refine congrArg (fun z => some (some (Value.int z), ((sh0, Mi, Ml, mr0) : PHp))) (fin _ _ ?_)
        rw [un]
        exact ite_iffI ⟨fun q => ⟨by unfold cvh; rw [if_pos hm0]; exact decide_eq_true ho, q.2⟩, fun q => ⟨by decide, q.2⟩⟩ _ _
      · rw [if_neg (by exact ho)]
        refine congrArg (fun z => some (some (Value.int z), ((sh0, Mi, Ml, mr0) : PHp))) (fin _ _ ?_)
        rw [un]
        exact ite_iffI ⟨fun q => absurd rfl q.1, fun q => absurd (by have := q.1; unfold cvh at this; rw [if_pos hm0] at this; exact of_decide_eq_true this) ho⟩ _ _
    · rw [if_neg (fun q => hm0 (by have := (nI_is (m := 1) rfl (by omega) (by decide)).mp q; omega))]
      by_cases ho : opn Mi nd i = nd
      · rw [if_pos (by exact ho)]
        refine congrArg (fun z => some (some (Value.int z), ((sh0, Mi, Ml, mr0) : PHp))) (fin _ _ ?_)
        rw [un]
        exact ite_iffI ⟨fun q => absurd rfl q.1, fun q => absurd (by have := q.1; unfold cvh at this; rw [if_neg hm0, decide_eq_true ho] at this; exact this) (by decide)⟩ _ _
      · rw [if_neg (by exact ho)]
        refine congrArg (fun z => some (some (Value.int z), ((sh0, Mi, Ml, mr0) : PHp))) (fin _ _ ?_)
        rw [un]
        exact ite_iffI ⟨fun q => ⟨by unfold cvh; rw [if_neg hm0, decide_eq_false ho]; rfl, q.2⟩, fun q => ⟨by decide, q.2⟩⟩ _ _
theorem c_cov1 {X : Nat × (Nat → Int32)} {Mi : MI} {Ml : ML} {np : Nat} (e : Mi 5 5 = nI np) (hnp : np ≤ 24) (h7 : ∀ p, p < np → pin (Mi 7 p) 5) (hp : Int32) {m : Nat} (hm : m ≤ 1) (nd fl : Int32) (fr : Nat) (hfr : fr ≤ np) : pD X m_Judge_cover1 [.ref 5, .int nd, .int hp, .int fl, .int (nI fr), .int (nI m)] (sh0, Mi, Ml, mr0) = some (some (.int ((cvr Mi hp np m nd fl fr).getD (-1))), (sh0, Mi, Ml, mr0)) := by
  rw [d_Judge_cover1]
  cases m with
  | zero =>
    show _ = some (some (Value.int ((if nd = 0 then some 0 else none : Option Int32).getD (-1))), (sh0, Mi, Ml, mr0))
    by_cases h : nd = 0
    · rw [if_pos h, if_pos h]; rfl
    · rw [if_neg h, if_neg h, if_neg (show ¬ (0 : Int32) < nI 0 by decide)]; rfl
  | succ m =>
    show _ = some (some (Value.int ((if nd = 0 then some 0 else srch (cvg Mi hp (cvr Mi hp np m) m nd fl) (np - fr) fr : Option Int32).getD (-1))), (sh0, Mi, Ml, mr0))
    by_cases h : nd = 0
    · rw [if_pos h, if_pos h]; rfl
    · rw [if_neg h, if_neg h, if_pos (show (0 : Int32) < nI (m + 1) from (nI_lt' (a := 0) (by decide) (by omega)).mpr (by omega))]
      exact c_cov1_go e hnp h7 hp (by omega) nd fl _ (np - fr) fr _ _ _ _ (by omega)
theorem c_cov2_go {X : Nat × (Nat → Int32)} {Mi : MI} {Ml : ML} {np : Nat} (e : Mi 5 5 = nI np) (hnp : np ≤ 24) (h7 : ∀ p, p < np → pin (Mi 7 p) 5) (hp : Int32) {m : Nat} (hm : m < 2) (nd fl : Int32) (w4 : Value) : ∀ n i (w7 w8 w9 w10 : Value), i + n = np → pdn X m_Judge_cover2 (17, [.ref 5, .int nd, .int hp, .int fl, w4, .int (nI (m + 1)), .int (nI i), w7, w8, w9, w10], [], (sh0, Mi, Ml, mr0), 0, 0) = some (some (.int ((srch (cvg Mi hp (cvr Mi hp np m) m nd fl) n i).getD (-1))), (sh0, Mi, Ml, mr0)) := by
  intro n
  induction n with
  | zero =>
    intro i w7 w8 w9 w10 hi
    obtain rfl : i = np := by omega
    rw [w_Judge_cover2_17, e, if_neg (by rw [nI_lt' (by omega) (by omega)]; omega)]; rfl
  | succ n ih =>
    intro i w7 w8 w9 w10 hi
    have p24 : pin (nI i) 24 := pin_nI (by omega) (by decide)
    have ci : (nI i).toNatClampNeg = i := nI_clamp (by omega)
    obtain ⟨fd, hfd, e7⟩ := pin_ex (by decide) (h7 i (by omega))
    have cfd : (nI fd).toNatClampNeg = fd := nI_clamp (by omega)
    have efd : fd7 Mi i = fd := by unfold fd7; rw [e7, cfd]
    have low := c_cov1 e hnp h7 hp (show m ≤ 1 by omega) (X := X) (Ml := Ml) (opn Mi nd i) (fl &&& Mi 8 fd) (i + 1) (by omega)
    have back : ∀ t, pdn X m_Judge_cover2 (69, [.ref 5, .int nd, .int hp, .int fl, w4, .int (nI (m + 1)), .int (nI i), .int (nd &&& ((Mi 6 i) ^^^ (-1))), w8, w9, w10], [.int t], (sh0, Mi, Ml, mr0), 0, 0) = some (some (.int ((if ¬ t = 0 ∧ bt hp i = true ∧ bt fl fd = true then (cvr Mi hp np m (opn Mi nd i) (fl &&& Mi 8 fd) (i + 1)).map (fun r => r ||| ((1 : Int32) <<< (nI i &&& 31))) else none : Option Int32).getD ((srch (cvg Mi hp (cvr Mi hp np m) m nd fl) n (i + 1)).getD (-1)))), (sh0, Mi, Ml, mr0)) := by
      intro t
      rw [w_Judge_cover2_69, x_bit (show i < 32 by omega), if_pos p24, ci, e7, x_bit (show fd < 32 by omega), if_pos p24, if_pos (pin_nI hfd (by decide)), cfd, nI_1, show nI (m + 1) - 1 = nI m by rw [← nI_1, nI_pm], show (nd &&& ((Mi 6 i) ^^^ (-1))) = opn Mi nd i from rfl, low, Option.bind_some, pb_i, w_Judge_cover2_132, nI_1, ih (i + 1) _ _ _ _ (by omega), ih (i + 1) _ _ _ _ (by omega)]
      by_cases g0 : t = 0
      · rw [if_pos g0, if_neg (fun q => q.1 g0)]; rfl
      · rw [if_neg g0]
        by_cases g1 : bt hp i = true
        · rw [if_neg (by rw [bI_t g1]; decide)]
          by_cases g2 : bt fl fd = true
          · rw [if_neg (by rw [bI_t g2]; decide), if_pos (show ¬ t = 0 ∧ bt hp i = true ∧ bt fl fd = true from ⟨g0, g1, g2⟩)]
            cases hc : cvr Mi hp np m (opn Mi nd i) (fl &&& Mi 8 fd) (i + 1) with
            | none => rw [if_pos (by rfl)]; rfl
            | some r => rw [if_neg (show ¬ (some r).getD (-1) = -1 from cvr_ne hnp (by omega) hc)]; rfl
          · rw [if_pos (bI_f g2), if_neg (fun q => g2 q.2.2)]; rfl
        · rw [if_pos (bI_f g1), if_neg (fun q => g1 q.2.1)]; rfl
    have step : ∀ (c : Prop) [Decidable c], ((if c then 1 else 0 : Int32) = 0) ↔ ¬ c := fun c _ => bI_0
    rw [w_Judge_cover2_17, e, if_pos (by rw [nI_lt' (by omega) (by omega)]; omega), if_pos p24, ci, back, back]
    have fin : ∀ (c : Prop) [Decidable c] (z : Option Int32), (if c then z else none : Option Int32) = cvg Mi hp (cvr Mi hp np m) m nd fl i → (if c then z else none : Option Int32).getD ((srch (cvg Mi hp (cvr Mi hp np m) m nd fl) n (i + 1)).getD (-1)) = (srch (cvg Mi hp (cvr Mi hp np m) m nd fl) (n + 1) i).getD (-1) := by
      intro c _ z hz
      rw [hz]
      cases hg : cvg Mi hp (cvr Mi hp np m) m nd fl i with
      | none => rw [srch_n hg]; rfl
      | some r => rw [srch_s hg]; rfl
    have un : cvg Mi hp (cvr Mi hp np m) m nd fl i = if cvh m nd (opn Mi nd i) = true ∧ bt hp i = true ∧ bt fl fd = true then (cvr Mi hp np m (opn Mi nd i) (fl &&& Mi 8 fd) (i + 1)).map (fun r => r ||| ((1 : Int32) <<< (nI i &&& 31))) else none := by unfold cvg; rw [efd]
    by_cases hm0 : m = 0
    · rw [if_pos (by rw [hm0]; rfl)]
      by_cases ho : opn Mi nd i = 0
      · rw [if_pos (by exact ho)]
        refine congrArg (fun z => some (some (Value.int z), ((sh0, Mi, Ml, mr0) : PHp))) (fin _ _ ?_)
        rw [un]
        exact ite_iffI ⟨fun q => ⟨by unfold cvh; rw [if_pos hm0]; exact decide_eq_true ho, q.2⟩, fun q => ⟨by decide, q.2⟩⟩ _ _
      · rw [if_neg (by exact ho)]
        refine congrArg (fun z => some (some (Value.int z), ((sh0, Mi, Ml, mr0) : PHp))) (fin _ _ ?_)
        rw [un]
        exact ite_iffI ⟨fun q => absurd rfl q.1, fun q => absurd (by have := q.1; unfold cvh at this; rw [if_pos hm0] at this; exact of_decide_eq_true this) ho⟩ _ _
    · rw [if_neg (fun q => hm0 (by have := (nI_is (m := 1) rfl (by omega) (by decide)).mp q; omega))]
      by_cases ho : opn Mi nd i = nd
      · rw [if_pos (by exact ho)]
        refine congrArg (fun z => some (some (Value.int z), ((sh0, Mi, Ml, mr0) : PHp))) (fin _ _ ?_)
        rw [un]
        exact ite_iffI ⟨fun q => absurd rfl q.1, fun q => absurd (by have := q.1; unfold cvh at this; rw [if_neg hm0, decide_eq_true ho] at this; exact this) (by decide)⟩ _ _
      · rw [if_neg (by exact ho)]
        refine congrArg (fun z => some (some (Value.int z), ((sh0, Mi, Ml, mr0) : PHp))) (fin _ _ ?_)
        rw [un]
        exact ite_iffI ⟨fun q => ⟨by unfold cvh; rw [if_neg hm0, decide_eq_false ho]; rfl, q.2⟩, fun q => ⟨by decide, q.2⟩⟩ _ _
theorem c_cov2 {X : Nat × (Nat → Int32)} {Mi : MI} {Ml : ML} {np : Nat} (e : Mi 5 5 = nI np) (hnp : np ≤ 24) (h7 : ∀ p, p < np → pin (Mi 7 p) 5) (hp : Int32) {m : Nat} (hm : m ≤ 2) (nd fl : Int32) (fr : Nat) (hfr : fr ≤ np) : pD X m_Judge_cover2 [.ref 5, .int nd, .int hp, .int fl, .int (nI fr), .int (nI m)] (sh0, Mi, Ml, mr0) = some (some (.int ((cvr Mi hp np m nd fl fr).getD (-1))), (sh0, Mi, Ml, mr0)) := by
  rw [d_Judge_cover2]
  cases m with
  | zero =>
    show _ = some (some (Value.int ((if nd = 0 then some 0 else none : Option Int32).getD (-1))), (sh0, Mi, Ml, mr0))
    by_cases h : nd = 0
    · rw [if_pos h, if_pos h]; rfl
    · rw [if_neg h, if_neg h, if_neg (show ¬ (0 : Int32) < nI 0 by decide)]; rfl
  | succ m =>
    show _ = some (some (Value.int ((if nd = 0 then some 0 else srch (cvg Mi hp (cvr Mi hp np m) m nd fl) (np - fr) fr : Option Int32).getD (-1))), (sh0, Mi, Ml, mr0))
    by_cases h : nd = 0
    · rw [if_pos h, if_pos h]; rfl
    · rw [if_neg h, if_neg h, if_pos (show (0 : Int32) < nI (m + 1) from (nI_lt' (a := 0) (by decide) (by omega)).mpr (by omega))]
      exact c_cov2_go e hnp h7 hp (by omega) nd fl _ (np - fr) fr _ _ _ _ (by omega)
theorem c_cov3_go {X : Nat × (Nat → Int32)} {Mi : MI} {Ml : ML} {np : Nat} (e : Mi 5 5 = nI np) (hnp : np ≤ 24) (h7 : ∀ p, p < np → pin (Mi 7 p) 5) (hp : Int32) {m : Nat} (hm : m < 3) (nd fl : Int32) (w4 : Value) : ∀ n i (w7 w8 w9 w10 : Value), i + n = np → pdn X m_Judge_cover3 (17, [.ref 5, .int nd, .int hp, .int fl, w4, .int (nI (m + 1)), .int (nI i), w7, w8, w9, w10], [], (sh0, Mi, Ml, mr0), 0, 0) = some (some (.int ((srch (cvg Mi hp (cvr Mi hp np m) m nd fl) n i).getD (-1))), (sh0, Mi, Ml, mr0)) := by
  intro n
  induction n with
  | zero =>
    intro i w7 w8 w9 w10 hi
    obtain rfl : i = np := by omega
    rw [w_Judge_cover3_17, e, if_neg (by rw [nI_lt' (by omega) (by omega)]; omega)]; rfl
  | succ n ih =>
    intro i w7 w8 w9 w10 hi
    have p24 : pin (nI i) 24 := pin_nI (by omega) (by decide)
    have ci : (nI i).toNatClampNeg = i := nI_clamp (by omega)
    obtain ⟨fd, hfd, e7⟩ := pin_ex (by decide) (h7 i (by omega))
    have cfd : (nI fd).toNatClampNeg = fd := nI_clamp (by omega)
    have efd : fd7 Mi i = fd := by unfold fd7; rw [e7, cfd]
    have low := c_cov2 e hnp h7 hp (show m ≤ 2 by omega) (X := X) (Ml := Ml) (opn Mi nd i) (fl &&& Mi 8 fd) (i + 1) (by omega)
    have back : ∀ t, pdn X m_Judge_cover3 (69, [.ref 5, .int nd, .int hp, .int fl, w4, .int (nI (m + 1)), .int (nI i), .int (nd &&& ((Mi 6 i) ^^^ (-1))), w8, w9, w10], [.int t], (sh0, Mi, Ml, mr0), 0, 0) = some (some (.int ((if ¬ t = 0 ∧ bt hp i = true ∧ bt fl fd = true then (cvr Mi hp np m (opn Mi nd i) (fl &&& Mi 8 fd) (i + 1)).map (fun r => r ||| ((1 : Int32) <<< (nI i &&& 31))) else none : Option Int32).getD ((srch (cvg Mi hp (cvr Mi hp np m) m nd fl) n (i + 1)).getD (-1)))), (sh0, Mi, Ml, mr0)) := by
      intro t
      rw [w_Judge_cover3_69, x_bit (show i < 32 by omega), if_pos p24, ci, e7, x_bit (show fd < 32 by omega), if_pos p24, if_pos (pin_nI hfd (by decide)), cfd, nI_1, show nI (m + 1) - 1 = nI m by rw [← nI_1, nI_pm], show (nd &&& ((Mi 6 i) ^^^ (-1))) = opn Mi nd i from rfl, low, Option.bind_some, pb_i, w_Judge_cover3_132, nI_1, ih (i + 1) _ _ _ _ (by omega), ih (i + 1) _ _ _ _ (by omega)]
      by_cases g0 : t = 0
      · rw [if_pos g0, if_neg (fun q => q.1 g0)]; rfl
      · rw [if_neg g0]
        by_cases g1 : bt hp i = true
        · rw [if_neg (by rw [bI_t g1]; decide)]
          by_cases g2 : bt fl fd = true
          · rw [if_neg (by rw [bI_t g2]; decide), if_pos (show ¬ t = 0 ∧ bt hp i = true ∧ bt fl fd = true from ⟨g0, g1, g2⟩)]
            cases hc : cvr Mi hp np m (opn Mi nd i) (fl &&& Mi 8 fd) (i + 1) with
            | none => rw [if_pos (by rfl)]; rfl
            | some r => rw [if_neg (show ¬ (some r).getD (-1) = -1 from cvr_ne hnp (by omega) hc)]; rfl
          · rw [if_pos (bI_f g2), if_neg (fun q => g2 q.2.2)]; rfl
        · rw [if_pos (bI_f g1), if_neg (fun q => g1 q.2.1)]; rfl
    have step : ∀ (c : Prop) [Decidable c], ((if c then 1 else 0 : Int32) = 0) ↔ ¬ c := fun c _ => bI_0
    rw [w_Judge_cover3_17, e, if_pos (by rw [nI_lt' (by omega) (by omega)]; omega), if_pos p24, ci, back, back]
    have fin : ∀ (c : Prop) [Decidable c] (z : Option Int32), (if c then z else none : Option Int32) = cvg Mi hp (cvr Mi hp np m) m nd fl i → (if c then z else none : Option Int32).getD ((srch (cvg Mi hp (cvr Mi hp np m) m nd fl) n (i + 1)).getD (-1)) = (srch (cvg Mi hp (cvr Mi hp np m) m nd fl) (n + 1) i).getD (-1) := by
      intro c _ z hz
      rw [hz]
      cases hg : cvg Mi hp (cvr Mi hp np m) m nd fl i with
      | none => rw [srch_n hg]; rfl
      | some r => rw [srch_s hg]; rfl
    have un : cvg Mi hp (cvr Mi hp np m) m nd fl i = if cvh m nd (opn Mi nd i) = true ∧ bt hp i = true ∧ bt fl fd = true then (cvr Mi hp np m (opn Mi nd i) (fl &&& Mi 8 fd) (i + 1)).map (fun r => r ||| ((1 : Int32) <<< (nI i &&& 31))) else none := by unfold cvg; rw [efd]
    by_cases hm0 : m = 0
    · rw [if_pos (by rw [hm0]; rfl)]
      by_cases ho : opn Mi nd i = 0
      · rw [if_pos (by exact ho)]
        refine congrArg (fun z => some (some (Value.int z), ((sh0, Mi, Ml, mr0) : PHp))) (fin _ _ ?_)
        rw [un]
        exact ite_iffI ⟨fun q => ⟨by unfold cvh; rw [if_pos hm0]; exact decide_eq_true ho, q.2⟩, fun q => ⟨by decide, q.2⟩⟩ _ _
      · rw [if_neg (by exact ho)]
        refine congrArg (fun z => some (some (Value.int z), ((sh0, Mi, Ml, mr0) : PHp))) (fin _ _ ?_)
        rw [un]
        exact ite_iffI ⟨fun q => absurd rfl q.1, fun q => absurd (by have := q.1; unfold cvh at this; rw [if_pos hm0] at this; exact of_decide_eq_true this) ho⟩ _ _
    · rw [if_neg (fun q => hm0 (by have := (nI_is (m := 1) rfl (by omega) (by decide)).mp q; omega))]
      by_cases ho : opn Mi nd i = nd
      · rw [if_pos (by exact ho)]
        refine congrArg (fun z => some (some (Value.int z), ((sh0, Mi, Ml, mr0) : PHp))) (fin _ _ ?_)
        rw [un]
        exact ite_iffI ⟨fun q => absurd rfl q.1, fun q => absurd (by have := q.1; unfold cvh at this; rw [if_neg hm0, decide_eq_true ho] at this; exact this) (by decide)⟩ _ _
      · rw [if_neg (by exact ho)]
        refine congrArg (fun z => some (some (Value.int z), ((sh0, Mi, Ml, mr0) : PHp))) (fin _ _ ?_)
        rw [un]
        exact ite_iffI ⟨fun q => ⟨by unfold cvh; rw [if_neg hm0, decide_eq_false ho]; rfl, q.2⟩, fun q => ⟨by decide, q.2⟩⟩ _ _
theorem c_cov3 {X : Nat × (Nat → Int32)} {Mi : MI} {Ml : ML} {np : Nat} (e : Mi 5 5 = nI np) (hnp : np ≤ 24) (h7 : ∀ p, p < np → pin (Mi 7 p) 5) (hp : Int32) {m : Nat} (hm : m ≤ 3) (nd fl : Int32) (fr : Nat) (hfr : fr ≤ np) : pD X m_Judge_cover3 [.ref 5, .int nd, .int hp, .int fl, .int (nI fr), .int (nI m)] (sh0, Mi, Ml, mr0) = some (some (.int ((cvr Mi hp np m nd fl fr).getD (-1))), (sh0, Mi, Ml, mr0)) := by
  rw [d_Judge_cover3]
  cases m with
  | zero =>
    show _ = some (some (Value.int ((if nd = 0 then some 0 else none : Option Int32).getD (-1))), (sh0, Mi, Ml, mr0))
    by_cases h : nd = 0
    · rw [if_pos h, if_pos h]; rfl
    · rw [if_neg h, if_neg h, if_neg (show ¬ (0 : Int32) < nI 0 by decide)]; rfl
  | succ m =>
    show _ = some (some (Value.int ((if nd = 0 then some 0 else srch (cvg Mi hp (cvr Mi hp np m) m nd fl) (np - fr) fr : Option Int32).getD (-1))), (sh0, Mi, Ml, mr0))
    by_cases h : nd = 0
    · rw [if_pos h, if_pos h]; rfl
    · rw [if_neg h, if_neg h, if_pos (show (0 : Int32) < nI (m + 1) from (nI_lt' (a := 0) (by decide) (by omega)).mpr (by omega))]
      exact c_cov3_go e hnp h7 hp (by omega) nd fl _ (np - fr) fr _ _ _ _ (by omega)
