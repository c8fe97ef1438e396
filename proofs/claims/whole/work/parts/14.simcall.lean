def pt_rm (mid : Nat) : Room := { frames := mid + 1, cells := pt_mc mid, slots := pt_ms mid, locals := 40 * (mid + 1) }
def pt_ws (mid : Nat) : List Cond := .code (pt_y mid) (pt_bytes mid) (pt_maxL mid) (pt_retT mid) :: lw_g
def pw_Pc (G : PG) (as : List Value) (h : PHp) : Array Value → State → Prop := va_Pc (as.map (vl G)) (fun U => pw_H G h U.heap ∧ va_K (gD G) vwCl (pw_tys G) U ∧ pw_O G U)
def pw_Qc (G : PG) (r : PRs) : Array Value → State → Outcome → State → Prop := fun _ st o t => o = .returned (r.1.map (vl G)) ∧ pw_H G r.2 t.heap ∧ va_F (pw_Ag G) st t
def pw_M (G : PG) (l : Launch) (mid : Nat) (as : List Value) (h : PHp) (r : PRs) : Prop := Met l (pt_y mid) (pt_ws mid) (pt_rm mid) (pw_Pc G as h) (pw_Qc G r) (pt_mc mid) (pt_ms mid) (pw_Ag G)
theorem pw_O_to {G : PG} {s U : State} (hO : pw_O G s) (hW : s.WarmedH U.vm) (hq : ∀ q : Nat, q < s.heap.size → ¬ pw_Ag G q → U.heap[q]? = s.heap[q]?) (hsz : s.heap.size ≤ U.heap.size) : pw_O G U := by
  obtain ⟨h1, h2, h3, h4, h5, h6, h7, h8, h9, h10, h11, h12⟩ := hO
  refine ⟨Nat.le_trans h1 hsz, (h2.kept (hq _ (by omega) (by show ¬ gz G ≤ _; omega))).moved hW.alike, h3, fun i hi => ((h4 i hi).kept hq).moved hW.alike, fun i hi => ((h5 i hi).kept hq).moved hW.alike, (h6.kept hq).moved hW.alike, (h7.kept hq).moved hW.alike, h8, (h9.kept hq).moved hW.alike, fun i hi => (h10 i hi).warm hW, fun w hw => ?_, h12.moved hW.alike⟩
  have hz := h11 w hw
  simp only [pt_nest, List.mem_cons, List.not_mem_nil, or_false] at hw
  rcases hw with rfl | rfl | rfl | rfl | rfl <;> exact va_Nw.warmM hW hz
theorem pw_blind (G : PG) (as : List Value) (h : PHp) : FrameBlind (pw_Pc G as h) := fun _ U _ _ ⟨e1, e2, e3, e4⟩ => ⟨e1, e2, va_K.moved (Vm.Alike.refl U.vm) e3, pw_O_to e4 (State.WarmedH.refl U) (fun _ _ _ => rfl) (Nat.le_refl _)⟩
theorem lw_gd : ∀ w ∈ lw_g, (w.onTables && w.keeps) = true ∨ ∃ ty, w = .arrayClass ty := fun w hw => good_of_word (List.mem_filter.mp hw).2
theorem ws_in {k : Nat} (hk : k < 191) : ∀ w ∈ pt_ws k, w ∈ lw_g := by
  intro w hw
  rcases List.mem_cons.mp hw with rfl | h
  · exact List.mem_filter.mpr ⟨List.mem_of_getElem? (pk_all k hk), rfl⟩
  · exact h
theorem good_of {ws : List Cond} (h : ∀ w ∈ ws, w ∈ lw_g) : GoodIn lw_g ws := fun w hw => ⟨h w hw, lw_gd w (h w hw)⟩
theorem cat_sum {G : PG} (hg : (gs G).category = 1) : ∀ r : List Value, ((r.map (vl G)).map fun v => v.category).sum = pm_cat r := by
  intro r
  induction r with
  | nil => rfl
  | cons v r ih => simp only [List.map_cons, List.sum_cons, pm_cat, ih, vl_cat hg]
theorem pop_inv : ∀ (b : Nat) (st acc as r : List Value), pm_pop b st acc = some (as, r) → ∃ xs, st = xs ++ r ∧ xs.length = b ∧ as = xs.reverse ++ acc := by
  intro b
  induction b with
  | zero => intro st acc as r h; cases h; exact ⟨[], rfl, rfl, rfl⟩
  | succ b ih =>
    intro st acc as r h
    cases st with
    | nil => cases h
    | cons v st =>
      obtain ⟨xs, h1, h2, h3⟩ := ih st (v :: acc) as r h
      exact ⟨v :: xs, by rw [h1]; rfl, by simp [h2], by rw [h3]; simp⟩
theorem call_inv {mid pc : Nat} {L st : List Value} {hp : PHp} {cs ss n : Nat} {rc : Bool} {a b k : Nat} {as : List Value} {q' : PCf} (h : pm_call mid pc L st hp cs ss n rc a b = some (.inr (.inr (k, as, q')))) : k = a ∧ ∃ r, st = as.reverse ++ r ∧ as.length = b ∧ q' = (pc + n, L, r, hp, cs + pt_mc a, ss + pt_ms a) ∧ cs + pt_mc a ≤ pt_mc mid ∧ ss + pt_ms a ≤ pt_ms mid ∧ pm_cat r ≤ 8 ∧ a < mid ∧ (rc = true → ∃ o t, as = .ref o :: t ∧ pm_rcv hp o (pt_cls a) = true) := by
  unfold pm_call at h
  cases h1 : Nat.beq a 9998 with
  | true =>
    rw [h1] at h
    dsimp only [cond] at h
    split at h
    · rename_i o r
      cases hc : (Nat.ble (pm_cat r) 8 && Nat.blt o 2000) <;> rw [hc] at h <;> cases h
    · cases h
  | false =>
    rw [h1] at h
    dsimp only [cond] at h
    cases h2 : Nat.beq a 9990 with
    | true =>
      rw [h2] at h
      dsimp only at h
      split at h
      · rename_i r
        cases hc : Nat.ble (pm_cat r) 8 <;> rw [hc] at h <;> cases h
      · cases h
    | false =>
      rw [h2] at h
      dsimp only at h
      cases h3 : Nat.beq a 9991 with
      | true =>
        rw [h3] at h
        dsimp only at h
        split at h
        · rename_i r
          cases hc : Nat.ble (pm_cat r) 8 <;> rw [hc] at h <;> cases h
        · cases h
      | false =>
        rw [h3] at h
        dsimp only at h
        cases hpop : pm_pop b st [] with
        | none => rw [hpop] at h; cases h
        | some q =>
          obtain ⟨as1, r⟩ := q
          rw [hpop] at h
          dsimp only at h
          split at h
          · rename_i hc
            simp only [Option.some.injEq, Sum.inr.injEq, Prod.mk.injEq] at h
            obtain ⟨rfl, rfl, rfl⟩ := h
            obtain ⟨xs, e1, e2, e3⟩ := pop_inv b st [] _ r hpop
            simp only [Bool.and_eq_true] at hc
            obtain ⟨⟨⟨⟨c1, c2⟩, c3⟩, c4⟩, c5⟩ := hc
            refine ⟨rfl, r, ?_, ?_, rfl, Nat.le_of_ble_eq_true c1, Nat.le_of_ble_eq_true c2, Nat.le_of_ble_eq_true c3, by simpa [Nat.blt_eq] using c4, fun hrc => ?_⟩
            · rw [e3, e1]; simp
            · rw [e3]; simp [e2]
            · rw [hrc] at c5
              simp only [Bool.not_true, Bool.false_or] at c5
              split at c5
              · exact ⟨_, _, rfl, c5⟩
              · cases c5
          · cases h
