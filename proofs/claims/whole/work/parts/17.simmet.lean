theorem lk_none : ∀ m, m < 192 → (pm_lk (pt_code m) 99999).isNone = true := by decide +kernel
theorem nar_b (x : Int32) : narrow .boolean (.int x) = .int (vp_nar .boolean x) := by simp [vp_nar, narrow]
theorem nar_c (x : Int32) : narrow .char (.int x) = .int (vp_nar .char x) := by simp [vp_nar, narrow]
theorem nar_y (x : Int32) : narrow .byte (.int x) = .int (vp_nar .byte x) := by simp [vp_nar, narrow]
theorem args_len {G : PG} (hg : (gs G).category = 1) : ∀ as : List Value, (lg_sl (as.map (vl G))).length = (pm_args as).length := by
  intro as
  induction as with
  | nil => rfl
  | cons v as ih =>
    have e : lg_sl ((v :: as).map (vl G)) = (if (vl G v).category = 2 then [Slot.val (vl G v), .second] else [.val (vl G v)]) ++ lg_sl (as.map (vl G)) := by simp [lg_sl]
    rw [e, List.length_append, ih, vl_cat hg]
    cases v <;> simp [Value.category, pm_args] <;> omega
theorem args_mem {G : PG} (hg : (gs G).category = 1) : ∀ (as : List Value) (i j : Nat) (v : Value), (pm_args as)[j]? = some v → (∀ r, v ≠ .retAddr r) → (i + j, vl G v) ∈ lv_args i (as.map (vl G)) := by
  intro as
  induction as with
  | nil => intro i j v h; simp [pm_args] at h
  | cons w as ih =>
    intro i j v h hv
    rw [List.map_cons, lv_args, List.mem_cons]
    have one : ∀ (hc : w.category = 1) (hp : pm_args (w :: as) = w :: pm_args as), (i + j, vl G v) = (i, vl G w) ∨ (i + j, vl G v) ∈ lv_args (if (vl G w).category = 2 then i + 2 else i + 1) (as.map (vl G)) := by
      intro hc hp
      rw [hp] at h
      cases j with
      | zero => simp at h; left; rw [h]; rfl
      | succ j =>
        right
        rw [List.getElem?_cons_succ] at h
        rw [vl_cat hg, hc, if_neg (by decide)]
        have := ih (i + 1) j v h hv
        rw [show i + (j + 1) = i + 1 + j by omega]
        exact this
    have two : ∀ (hc : w.category = 2) (hp : pm_args (w :: as) = w :: pm_nul :: pm_args as), (i + j, vl G v) = (i, vl G w) ∨ (i + j, vl G v) ∈ lv_args (if (vl G w).category = 2 then i + 2 else i + 1) (as.map (vl G)) := by
      intro hc hp
      rw [hp] at h
      match j, h with
      | 0, h => simp at h; left; rw [h]; rfl
      | 1, h =>
        exfalso
        simp at h
        exact hv 0 h.symm
      | j + 2, h =>
        right
        rw [List.getElem?_cons_succ, List.getElem?_cons_succ] at h
        rw [vl_cat hg, hc, if_pos rfl]
        have := ih (i + 2) j v h hv
        rw [show i + (j + 2) = i + 2 + j by omega]
        exact this
    cases w
    case long => exact two rfl rfl
    case double => exact two rfl rfl
    all_goals exact one rfl rfl
theorem args_has {G : PG} (hg : (gs G).category = 1) {as : List Value} {n : Nat} {ls : Array Slot} (h : lv_has ls n (lv_args 0 (as.map (vl G)))) : lv_has ls n (pw_L G (pm_pad (pm_args as) n)) := by
  refine ⟨h.1, h.2.1, fun q hq => ?_⟩
  obtain ⟨h1, h2, h3⟩ := pw_L_inv hq
  apply h.2.2
  by_cases hl : q.1 < (pm_args as).length
  · have e : (pm_pad (pm_args as) n).getD q.1 .null = (pm_args as)[q.1] := by simp [pm_pad, List.getD, List.getElem?_append_left hl, hl]
    rw [e] at h2 h3
    have := args_mem hg as 0 q.1 _ (List.getElem?_eq_getElem hl) h2.1
    rw [Nat.zero_add, ← h3] at this
    exact this
  · exfalso
    apply h2.1 0
    have hx : q.1 - (pm_args as).length < n - (pm_args as).length := by
      simp [pm_pad] at h1
      omega
    simp [pm_pad, List.getD, List.getElem?_append_right (Nat.le_of_not_lt hl), hx, pm_nul]
theorem pad_len {L : List Value} {n : Nat} (h : L.length ≤ n) : (pm_pad L n).length = n := by
  simp [pm_pad]
  omega
section ST
variable {G : PG} {mid : Nat} {p : Program} {l : Launch} {e : Env} {R : Room} {s : State} {m : MethodId} {args : Array Value} {below : List Frame} {meth : Method} {c : Code} {Q : State → Prop}
theorem sim_run {K : Nat → List Value → PHp → Option PRs} (A : pw_A G mid p R s m args meth c) (hKm : ∀ k as h r, k < mid → K k as h = some r → pw_M G l k as h r) {r : PRs} (fin : ∀ (H : Heap) (locs : List Loc) (ls : Array Slot) (q : PCf), pw_S G mid s H locs ls q → pm_step (gX G) mid q = some (.inr (.inl r)) → pw_W G p l e R s m args below meth c Q H locs ls q) : ∀ (N : Nat) (q : PCf), pm_run (gX G) K mid N q = some r → ∀ (H : Heap) (locs : List Loc) (ls : Array Slot), pw_S G mid s H locs ls q → pw_W G p l e R s m args below meth c Q H locs ls q := by
  intro N
  have hm : mid < 192 := A.2.2.2.2.2.2.2.2.2.2
  induction N with
  | zero => intro q h; cases h
  | succ N ih =>
    intro q h H locs ls S
    rw [pm_run_succ] at h
    cases hs : pm_step (gX G) mid q with
    | none => rw [hs] at h; cases h
    | some o =>
      rw [hs] at h
      have hs0 := hs
      unfold pm_step at hs
      cases hl : pm_lk (pt_code mid) q.1 with
      | none => rw [hl] at hs; cases hs
      | some i =>
        rw [hl] at hs
        dsimp only at hs
        have hok := List.all_eq_true.mp (po_all mid hm) _ (lk_mem hl)
        simp only [pl_ok, Bool.and_eq_true, decide_eq_true_eq] at hok
        rcases o with q1 | r1 | ⟨k, as, q1⟩
        · exact sx_all A hok.1 hok.2 hs H locs ls S (fun H' locs' ls' S' => ih q1 h H' locs' ls' S')
        · cases h
          exact fin H locs ls q S hs0
        · dsimp only at h
          cases hb : Nat.blt k mid with
          | false => rw [hb] at h; cases h
          | true =>
            rw [hb] at h
            dsimp only [cond] at h
            cases hk : K k as q1.2.2.2.1 with
            | none => rw [hk] at h; cases h
            | some r0 =>
              rw [hk] at h
              dsimp only at h
              have hM := hKm k as _ r0 (blt_lt hb) hk
              obtain ⟨ins, n, v, a, b, ts⟩ := i
              rcases ex_call hs with ⟨j, rfl⟩ | ⟨j, rfl⟩ | ⟨j, rfl⟩
              · exact sx_cV A hok.1 hok.2 hs hM S (fun H' locs' ls' S' => ih _ h H' locs' ls' S')
              · exact sx_cS A hok.1 hok.2 hs hM S (fun H' locs' ls' S' => ih _ h H' locs' ls' S')
              · exact sx_cI A hok.1 hok.2 hs hM S (fun H' locs' ls' S' => ih _ h H' locs' ls' S')
theorem sx_ret (A : pw_A G mid p R s m args meth c) (hr0 : meth.sig.returnType = pt_retT mid) (hm1 : mid < 191) {r : PRs} {q : PCf} (hs : pm_step (gX G) mid q = some (.inr (.inl r))) {H : Heap} {locs : List Loc} {ls : Array Slot} (S : pw_S G mid s H locs ls q) : pw_W G p l e R s m args below meth c (MQ below (pw_Qc G r) args s (pt_mc mid) (pt_ms mid) (pw_Ag G)) H locs ls q := by
  obtain ⟨hx, hb, hml, hown, hts, hin, hlk, hK, hO, hR, hm⟩ := A
  obtain ⟨-, -, -, -, -, wt, -, -⟩ := pm_ok_of hm1
  unfold pm_step at hs
  cases hl : pm_lk (pt_code mid) q.1 with
  | none => rw [hl] at hs; cases hs
  | some i =>
    rw [hl] at hs
    dsimp only at hs
    have hok := List.all_eq_true.mp (po_all mid hm) _ (lk_mem hl)
    have hpr := List.all_eq_true.mp (pr_all mid hm) _ (lk_mem hl)
    simp only [pl_ok, Bool.and_eq_true, decide_eq_true_eq] at hok
    obtain ⟨ins, n, v, a, b, ts⟩ := i
    obtain ⟨pc, L, st, hp, cs, ss⟩ := q
    dsimp only at hs hok
    have hf : ∀ q ∈ locs, pw_Ag G q.base := S.2.2.2.1.2.2
    refine W.widen (k := pt_mc mid) (n := pt_ms mid) S.2.2.2.2.1 S.2.2.2.2.2 ?_
    rcases ex_ret hs with rfl | rfl | rfl
    · have hn := Nat.eq_of_beq_eq_true hok.2
      subst hn
      simp only [pm_ex, pm_iret] at hs
      split at hs
      · rename_i x
        split at hs
        · rename_i hg
          simp only [Option.some.injEq, Sum.inr.injEq, Sum.inl.injEq] at hs
          subst hs
          have hq : ∀ t : State, t.heap = H → s.WarmedH t.vm → pw_Qc G (some (.int x), hp) args s (.returned (some (.int x))) t := fun t ht hW => ⟨rfl, by rw [ht]; exact S.2.2.1, S.2.2.2.1.F ht⟩
          simp only [pr_ok, Bool.or_eq_true] at hpr
          rcases hpr with ((h1 | h1) | h1) | h1
          · have h1 := Nat.eq_of_beq_eq_true h1
            rw [h1] at wt
            exact W.zret (ty := .int) hx hb (hr0.trans wt) rfl hq hf hok.1
          · have h1 := Nat.eq_of_beq_eq_true h1
            rw [h1] at wt hg
            exact W.zret (ty := .boolean) hx hb (hr0.trans wt) (by rw [nar_b]; exact congrArg _ hg) hq hf hok.1
          · have h1 := Nat.eq_of_beq_eq_true h1
            rw [h1] at wt hg
            exact W.zret (ty := .char) hx hb (hr0.trans wt) (by rw [nar_c]; exact congrArg _ hg) hq hf hok.1
          · have h1 := Nat.eq_of_beq_eq_true h1
            rw [h1] at wt hg
            exact W.zret (ty := .byte) hx hb (hr0.trans wt) (by rw [nar_y]; exact congrArg _ hg) hq hf hok.1
        · cases hs
      · cases hs
    · have hn := Nat.eq_of_beq_eq_true hok.2
      subst hn
      simp only [pm_ex] at hs
      split at hs
      · rename_i x
        simp only [Option.some.injEq, Sum.inr.injEq, Sum.inl.injEq] at hs
        subst hs
        have h1 := Nat.eq_of_beq_eq_true hpr
        rw [h1] at wt
        exact W.lret hx hb (hr0.trans wt) (fun t ht hW => ⟨rfl, by rw [ht]; exact S.2.2.1, S.2.2.2.1.F ht⟩) hf hok.1
      · cases hs
    · have hn := Nat.eq_of_beq_eq_true hok.2
      subst hn
      simp only [pm_ex] at hs
      split at hs
      · simp only [Option.some.injEq, Sum.inr.injEq, Sum.inl.injEq] at hs
        subst hs
        have h1 := Nat.eq_of_beq_eq_true hpr
        rw [h1] at wt
        exact W.vret hx hb (hr0.trans wt) (fun t ht hW => ⟨rfl, by rw [ht]; exact S.2.2.1, S.2.2.2.1.F ht⟩) hf hok.1
      · cases hs
end ST
theorem init_run {X : Nat × (Nat → Int32)} {K : Nat → List Value → PHp → Option PRs} {mid N : Nat} (hm : mid < 192) {as : List Value} {h : PHp} {r : PRs} (e : pm_run X K mid N (pm_init mid as h) = some r) : (pm_args as).length ≤ pt_maxL mid ∧ pm_run X K mid N (0, pm_pad (pm_args as) (pt_maxL mid), [], h, 0, 0) = some r := by
  cases hb : Nat.ble (pm_args as).length (pt_maxL mid) with
  | true =>
    simp only [pm_init, hb, cond] at e
    exact ⟨ble_le hb, e⟩
  | false =>
    exfalso
    simp only [pm_init, hb, cond] at e
    cases N with
    | zero => cases e
    | succ N =>
      have hn : pm_lk (pt_code mid) 99999 = none := by simpa using lk_none mid hm
      have hs : pm_step X mid (99999, [], [], h, 0, 0) = none := by
        unfold pm_step
        dsimp only
        rw [hn]
      rw [pm_run_succ, hs] at e
      cases e
theorem sim_met (G : PG) (l : Launch) : ∀ k, k ≤ 191 → ∀ mid, mid < k → ∀ (as : List Value) (h : PHp) (r : PRs), pT (gX G) k mid as h = some r → pw_M G l mid as h r := by
  intro k
  induction k with
  | zero => intro _ mid hm; omega
  | succ k ih =>
    intro hk mid hmid as h r e
    by_cases hl : mid < k
    · rw [pT, if_pos hl] at e
      exact ih (by omega) mid hl as h r e
    · have hmk : mid = k := by omega
      subst hmk
      rw [pT, if_neg hl, if_pos rfl] at e
      obtain ⟨N, hN⟩ := (pm_lim_iff pm_run_m1).mp e
      have hm1 : mid < 191 := by omega
      obtain ⟨hal, hN⟩ := init_run (by omega) hN
      obtain ⟨-, -, -, -, wn, -, -, wp⟩ := pm_ok_of hm1
      refine Met.ofW (cc := pt_bytes mid) (maxL := pt_maxL mid) (ret := pt_retT mid) wp rfl ?_
      intro p e0 s m args below meth c s₁ B hml hv
      obtain ⟨rfl, hH, hK, hO⟩ := hv
      have hts := atoms_spec (ws := pt_ws mid) B.pre
      have hlk : meth.locks = false := B.notSynchronized
      have A : pw_A G mid p (headSpec (pt_ws mid) (pt_rm mid)).room s m (as.map (vl G)).toArray meth c := ⟨B.exec, B.bytes, hml, findClass_of_methodNamed B.named, fun w hw => hts w (List.mem_cons_of_mem _ hw), fun hi => by
        rw [hi] at wn
        rw [(name_of_methodNamed B.named B.method).1]
        exact of_decide_eq_true wn.symm, hlk, hK, hO, ⟨Nat.le_refl _, Nat.le_refl _, Nat.le_refl _, Nat.le_refl _⟩, by omega⟩
      have hg : (gs G).category = 1 := hO.2.2.2.2.2.2.2.1
      have hl := lv_entry (as.map (vl G)) (n := pt_maxL mid) (by rw [args_len hg]; exact hal)
      rw [lg_entry_eq]
      generalize (lg_sl (as.map (vl G)) ++ List.replicate (pt_maxL mid - (lg_sl (as.map (vl G))).length) Slot.unset).toArray = ls at hl ⊢
      exact sim_run A (fun k2 as2 h2 r2 hk2 e2 => ih (by omega) k2 hk2 as2 h2 r2 e2) (fun H locs ls q S hs => sx_ret A B.returns hm1 hs S) N _ hN s.heap [] ls ⟨args_has hg hl, pad_len hal, hH, va_S.rf, Nat.zero_le _, Nat.zero_le _⟩
