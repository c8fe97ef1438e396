theorem call_inl {mid pc : Nat} {L st : List Value} {hp : PHp} {cs ss n : Nat} {rc : Bool} {a b : Nat} {q' : PCf} (h : pm_call mid pc L st hp cs ss n rc a b = some (.inl q')) : (a = 9998 ∧ ∃ (o : Nat) (r : List Value), st = .ref o :: r ∧ pm_cat r ≤ 8 ∧ o < 2000 ∧ q' = (pc + n, L, r, hp, cs, ss)) ∨ (a = 9990 ∧ ∃ (x y : Int32) (r : List Value), st = .int y :: .int x :: r ∧ pm_cat r ≤ 8 ∧ q' = (pc + n, L, .int (if y < x then y else x) :: r, hp, cs, ss)) ∨ (a = 9991 ∧ ∃ (x y : Int32) (r : List Value), st = .int y :: .int x :: r ∧ pm_cat r ≤ 8 ∧ q' = (pc + n, L, .int (if x < y then y else x) :: r, hp, cs, ss)) := by
  unfold pm_call at h
  cases h1 : Nat.beq a 9998 with
  | true =>
    rw [h1] at h
    dsimp only [cond] at h
    split at h
    · rename_i o r
      cases hc : (Nat.ble (pm_cat r) 8 && Nat.blt o 2000) with
      | false => rw [hc] at h; cases h
      | true =>
        rw [hc] at h
        simp only [Option.some.injEq, Sum.inl.injEq] at h
        simp only [Bool.and_eq_true] at hc
        exact Or.inl ⟨Nat.eq_of_beq_eq_true h1, o, r, rfl, Nat.le_of_ble_eq_true hc.1, blt_lt hc.2, h.symm⟩
    · cases h
  | false =>
    rw [h1] at h
    dsimp only [cond] at h
    cases h2 : Nat.beq a 9990 with
    | true =>
      rw [h2] at h
      dsimp only at h
      split at h
      · rename_i y x r
        cases hc : Nat.ble (pm_cat r) 8 with
        | false => rw [hc] at h; cases h
        | true =>
          rw [hc] at h
          simp only [Option.some.injEq, Sum.inl.injEq] at h
          exact Or.inr (Or.inl ⟨Nat.eq_of_beq_eq_true h2, x, y, r, rfl, Nat.le_of_ble_eq_true hc, h.symm⟩)
      · cases h
    | false =>
      rw [h2] at h
      dsimp only at h
      cases h3 : Nat.beq a 9991 with
      | true =>
        rw [h3] at h
        dsimp only at h
        split at h
        · rename_i y x r
          cases hc : Nat.ble (pm_cat r) 8 with
          | false => rw [hc] at h; cases h
          | true =>
            rw [hc] at h
            simp only [Option.some.injEq, Sum.inl.injEq] at h
            exact Or.inr (Or.inr ⟨Nat.eq_of_beq_eq_true h3, x, y, r, rfl, Nat.le_of_ble_eq_true hc, h.symm⟩)
        · cases h
      | false =>
        rw [h3] at h
        dsimp only at h
        cases hpop : pm_pop b st [] with
        | none => rw [hpop] at h; cases h
        | some q =>
          rw [hpop] at h
          dsimp only at h
          split at h <;> cases h
theorem call_nr {mid pc : Nat} {L st : List Value} {hp : PHp} {cs ss n : Nat} {rc : Bool} {a b : Nat} {r : PRs} (h : pm_call mid pc L st hp cs ss n rc a b = some (.inr (.inl r))) : False := by
  unfold pm_call at h
  cases h1 : Nat.beq a 9998 with
  | true =>
    rw [h1] at h
    dsimp only [cond] at h
    split at h
    · split at h <;> cases h
    · cases h
  | false =>
    rw [h1] at h
    dsimp only [cond] at h
    cases h2 : Nat.beq a 9990 with
    | true =>
      rw [h2] at h
      dsimp only at h
      split at h
      · split at h <;> cases h
      · cases h
    | false =>
      rw [h2] at h
      dsimp only at h
      cases h3 : Nat.beq a 9991 with
      | true =>
        rw [h3] at h
        dsimp only at h
        split at h
        · split at h <;> cases h
        · cases h
      | false =>
        rw [h3] at h
        dsimp only at h
        cases hpop : pm_pop b st [] with
        | none => rw [hpop] at h; cases h
        | some q =>
          rw [hpop] at h
          dsimp only at h
          split at h <;> cases h
theorem new_nr {mid pc n cs ss z : Nat} {L r : List Value} {hp : PHp} {q : Nat × Nat} {y : PRs ⊕ (Nat × List Value × PCf)} (h : pm_new mid pc L hp cs ss n q z r = some (.inr y)) : False := by
  simp only [pm_new, Bool.cond_eq_ite] at h
  split at h <;> cases h
section SM
variable {G : PG} {mid : Nat} {p : Program} {l : Launch} {e : Env} {R : Room} {s : State} {m : MethodId} {args : Array Value} {below : List Frame} {meth : Method} {c : Code} {Q : State → Prop}
variable {pc n a b cs ss : Nat} {ts : List Nat} {v : Value} {L st : List Value} {hp : PHp} {q' : PCf}
theorem sx_invokespecial (A : pw_A G mid p R s m args meth c) {i : Nat} (hd : decode (pt_bytes mid) pc = .ok (.invokespecial i, n)) (hi : pl_i mid pc n v a b ts (.invokespecial i) = true) (h : pm_ex (gX G) mid pc L st hp cs ss n v a b ts (.invokespecial i) = some (.inl q')) : pw_Nx G mid p l e R s m args below meth c Q (pc, L, st, hp, cs, ss) q' := by
  obtain ⟨hx, hb, hml, hown, hts, hin, hlk, hK, hO, hR, hm⟩ := A
  intro H locs ls S kk
  simp only [pl_i, Bool.and_eq_true] at hi
  have hn := Nat.eq_of_beq_eq_true hi.1
  subst hn
  have hi2 := hi.2
  simp only [pm_ex] at h
  rcases call_inl h with ⟨rfl, o, r, rfl, hcat, ho, rfl⟩ | ⟨rfl, -⟩ | ⟨rfl, -⟩
  · have h99 : Nat.beq 9998 9999 = false := rfl
    have h98 : Nat.beq 9998 9998 = true := rfl
    have hlt : Nat.blt 9998 mid = false := by
      cases hq : Nat.blt 9998 mid with
      | false => rfl
      | true => have := blt_lt hq; omega
    rw [h99, h98, hlt] at hi2
    simp only [Bool.false_or, Bool.false_and, Bool.or_false, Bool.true_and] at hi2
    have hvl : ∃ b0 : Nat, vl G (.ref o) = .ref b0 := ⟨rn G o, by simp only [vl]; rw [if_neg (show ¬ o = 2300 by omega)]⟩
    obtain ⟨b0, hb0⟩ := hvl
    show W _ _ _ _ _ _ _ _ _ _ _ _ _ _ _ (F0 m pc ls (vl G (.ref o) :: r.map (vl G)))
    rw [hb0]
    refine W.objInit hx hb hown (hts _ (pl_w_in hi2)) (hts _ ob_i) (hts _ ob_c) rfl (by show ls.size = _; rw [hml]; exact S.1.1) rfl hd (by omega) ?_ (kk H locs ls S)
    rw [cat_sum hO.2.2.2.2.2.2.2.1]
    show 2 * 0 + _ + 12 ≤ _
    omega
  · exfalso
    have hlt : Nat.blt 9990 mid = false := by
      cases hq : Nat.blt 9990 mid with
      | false => rfl
      | true => have := blt_lt hq; omega
    rw [hlt] at hi2
    simp [show Nat.beq 9990 9999 = false from rfl, show Nat.beq 9990 9998 = false from rfl] at hi2
  · exfalso
    have hlt : Nat.blt 9991 mid = false := by
      cases hq : Nat.blt 9991 mid with
      | false => rfl
      | true => have := blt_lt hq; omega
    rw [hlt] at hi2
    simp [show Nat.beq 9991 9999 = false from rfl, show Nat.beq 9991 9998 = false from rfl] at hi2
theorem sx_invokevirtual (A : pw_A G mid p R s m args meth c) {i : Nat} (hd : decode (pt_bytes mid) pc = .ok (.invokevirtual i, n)) (hi : pl_i mid pc n v a b ts (.invokevirtual i) = true) (h : pm_ex (gX G) mid pc L st hp cs ss n v a b ts (.invokevirtual i) = some (.inl q')) : pw_Nx G mid p l e R s m args below meth c Q (pc, L, st, hp, cs, ss) q' := by
  obtain ⟨hx, hb, hml, hown, hts, hin, hlk, hK, hO, hR, hm⟩ := A
  exfalso
  simp only [pl_i, Bool.and_eq_true] at hi
  have hi2 := hi.2
  simp only [pm_ex] at h
  have ha : a = 9998 ∨ a = 9990 ∨ a = 9991 := by
    rcases call_inl h with ⟨q, -⟩ | ⟨q, -⟩ | ⟨q, -⟩
    · exact Or.inl q
    · exact Or.inr (Or.inl q)
    · exact Or.inr (Or.inr q)
  have hlt : Nat.blt a mid = false := by
    cases hq : Nat.blt a mid with
    | false => rfl
    | true => have := blt_lt hq; omega
  have h99 : Nat.beq a 9999 = false := by
    cases hq : Nat.beq a 9999 with
    | false => rfl
    | true => have := Nat.eq_of_beq_eq_true hq; omega
  rw [hlt, h99] at hi2
  simp at hi2
theorem sx_invokestatic (A : pw_A G mid p R s m args meth c) {i : Nat} (hd : decode (pt_bytes mid) pc = .ok (.invokestatic i, n)) (hi : pl_i mid pc n v a b ts (.invokestatic i) = true) (h : pm_ex (gX G) mid pc L st hp cs ss n v a b ts (.invokestatic i) = some (.inl q')) : pw_Nx G mid p l e R s m args below meth c Q (pc, L, st, hp, cs, ss) q' := by
  obtain ⟨hx, hb, hml, hown, hts, hin, hlk, hK, hO, hR, hm⟩ := A
  intro H locs ls S kk
  simp only [pl_i, Bool.and_eq_true] at hi
  have hn := Nat.eq_of_beq_eq_true hi.1
  subst hn
  have hi2 := hi.2
  simp only [pm_ex] at h
  have hcat3 : ∀ r : List Value, pm_cat r ≤ 8 → ((r.map (vl G)).map fun v => v.category).sum + 13 ≤ R.locals := by
    intro r hr
    rw [cat_sum hO.2.2.2.2.2.2.2.1]
    omega
  have hcs : cs ≤ R.cells := by have := S.2.2.2.2.1; dsimp only at this; omega
  have hss : ss ≤ R.slots := by have := S.2.2.2.2.2; dsimp only at this; omega
  rcases call_inl h with ⟨rfl, -⟩ | ⟨rfl, x, y, r, rfl, hcat, rfl⟩ | ⟨rfl, x, y, r, rfl, hcat, rfl⟩
  · exfalso
    have hlt : Nat.blt 9998 mid = false := by
      cases hq : Nat.blt 9998 mid with
      | false => rfl
      | true => have := blt_lt hq; omega
    rw [hlt] at hi2
    simp [show Nat.beq 9998 9999 = false from rfl, show Nat.beq 9998 9990 = false from rfl, show Nat.beq 9998 9991 = false from rfl] at hi2
  · have hlt : Nat.blt 9990 mid = false := by
      cases hq : Nat.blt 9990 mid with
      | false => rfl
      | true => have := blt_lt hq; omega
    rw [hlt] at hi2
    simp only [show Nat.beq 9990 9999 = false from rfl, show Nat.beq 9990 9990 = true from rfl, show Nat.beq 9990 9991 = false from rfl, Bool.false_or, Bool.false_and, Bool.or_false, Bool.true_and] at hi2
    exact va_mmin hx hb (by rw [hml]; exact S.1.1.symm) hown (hts _ (pl_w_in hi2)) (hts _ mi_s) (hts _ mm_i) (hts _ mi_c) (by omega) (hcat3 r hcat) hcs hss hd (kk H locs ls S)
  · have hlt : Nat.blt 9991 mid = false := by
      cases hq : Nat.blt 9991 mid with
      | false => rfl
      | true => have := blt_lt hq; omega
    rw [hlt] at hi2
    simp only [show Nat.beq 9991 9999 = false from rfl, show Nat.beq 9991 9990 = false from rfl, show Nat.beq 9991 9991 = true from rfl, Bool.false_or, Bool.false_and, Bool.or_false, Bool.true_and] at hi2
    exact va_mmax hx hb (by rw [hml]; exact S.1.1.symm) hown (hts _ (pl_w_in hi2)) (hts _ ma_s) (hts _ mm_i) (hts _ ma_c) (by omega) (hcat3 r hcat) hcs hss hd (kk H locs ls S)
theorem sx_all (A : pw_A G mid p R s m args meth c) {ins : Instr} (hd : decode (pt_bytes mid) pc = .ok (ins, n)) (hi : pl_i mid pc n v a b ts ins = true) (h : pm_ex (gX G) mid pc L st hp cs ss n v a b ts ins = some (.inl q')) : pw_Nx G mid p l e R s m args below meth c Q (pc, L, st, hp, cs, ss) q' := by
  cases ins

  case iconst => exact sx_iconst A hd hi h
  case bipush => exact sx_bipush A hd hi h
  case sipush => exact sx_sipush A hd hi h
  case ldc => exact sx_ldc A hd hi h
  case ldc_w => exact sx_ldc_w A hd hi h
  case lconst => exact sx_lconst A hd hi h
  case ldc2_w => exact sx_ldc2_w A hd hi h
  case getstatic => exact sx_getstatic A hd hi h
  case iload => exact sx_iload A hd hi h
  case iload_n => exact sx_iload_n A hd hi h
  case lload => exact sx_lload A hd hi h
  case lload_n => exact sx_lload_n A hd hi h
  case aload => exact sx_aload A hd hi h
  case aload_n => exact sx_aload_n A hd hi h
  case istore => exact sx_istore A hd hi h
  case istore_n => exact sx_istore_n A hd hi h
  case astore_n => exact sx_astore_n A hd hi h
  case lstore => exact sx_lstore A hd hi h
  case lstore_n => exact sx_lstore_n A hd hi h
  case iinc => exact sx_iinc A hd hi h
  case iadd => exact sx_iadd A hd hi h
  case isub => exact sx_isub A hd hi h
  case imul => exact sx_imul A hd hi h
  case iand => exact sx_iand A hd hi h
  case ior => exact sx_ior A hd hi h
  case ixor => exact sx_ixor A hd hi h
  case ishl => exact sx_ishl A hd hi h
  case ishr => exact sx_ishr A hd hi h
  case iushr => exact sx_iushr A hd hi h
  case ladd => exact sx_ladd A hd hi h
  case lsub => exact sx_lsub A hd hi h
  case lmul => exact sx_lmul A hd hi h
  case land => exact sx_land A hd hi h
  case lor => exact sx_lor A hd hi h
  case lshl => exact sx_lshl A hd hi h
  case lshr => exact sx_lshr A hd hi h
  case i2l => exact sx_i2l A hd hi h
  case l2i => exact sx_l2i A hd hi h
  case i2c => exact sx_i2c A hd hi h
  case lcmp => exact sx_lcmp A hd hi h
  case ifCond => exact sx_ifCond A hd hi h
  case if_icmp => exact sx_if_icmp A hd hi h
  case goto => exact sx_goto A hd hi h
  case tableswitch => exact sx_tableswitch A hd hi h
  case dup => exact sx_dup A hd hi h
  case dup2 => exact sx_dup2 A hd hi h
  case pop => exact sx_pop A hd hi h
  case getfield => exact sx_getfield A hd hi h
  case putfield => exact sx_putfield A hd hi h
  case iaload => exact sx_iaload A hd hi h
  case baload => exact sx_baload A hd hi h
  case laload => exact sx_laload A hd hi h
  case aaload => exact sx_aaload A hd hi h
  case iastore => exact sx_iastore A hd hi h
  case bastore => exact sx_bastore A hd hi h
  case lastore => exact sx_lastore A hd hi h
  case aastore => exact sx_aastore A hd hi h
  case arraylength => exact sx_arraylength A hd hi h
  case new => exact sx_new A hd hi h
  case newarray => exact sx_newarray A hd hi h
  case anewarray => exact sx_anewarray A hd hi h
  case invokespecial => exact sx_invokespecial A hd hi h
  case invokevirtual => exact sx_invokevirtual A hd hi h
  case invokestatic => exact sx_invokestatic A hd hi h
  case ireturn =>
    exfalso
    simp only [pm_ex, pm_iret] at h
    split at h
    · split at h <;> cases h
    · cases h
  case lreturn =>
    exfalso
    simp only [pm_ex] at h
    split at h <;> cases h
  case return_ =>
    exfalso
    simp only [pm_ex] at h
    split at h <;> cases h
  all_goals (exfalso; simp only [pm_ex] at h; cases h)
theorem ex_ret {X : Nat × (Nat → Int32)} {ins : Instr} {r : PRs} (h : pm_ex X mid pc L st hp cs ss n v a b ts ins = some (.inr (.inl r))) : ins = .ireturn ∨ ins = .lreturn ∨ ins = .return_ := by
  cases ins
  case ireturn => exact Or.inl rfl
  case lreturn => exact Or.inr (Or.inl rfl)
  case return_ => exact Or.inr (Or.inr rfl)
  case invokespecial => exact (call_nr h).elim
  case invokevirtual => exact (call_nr h).elim
  case invokestatic => exact (call_nr h).elim
  case new => exact (new_nr h).elim
  case newarray =>
    exfalso
    simp only [pm_ex, Bool.cond_eq_ite] at h
    split at h
    · split at h
      · exact new_nr h
      · cases h
    · cases h
  case anewarray =>
    exfalso
    simp only [pm_ex, Bool.cond_eq_ite] at h
    split at h
    · split at h
      · exact new_nr h
      · cases h
    · cases h
  all_goals (exfalso; simp only [pm_ex, pm_i2, pm_l2, pm_ls, pm_st1, pm_getf, pm_putf, pm_iald, pm_bald, pm_lald, pm_aald, pm_iast, pm_bast, pm_last, pm_aast, pm_alen, Bool.cond_eq_ite] at h; (repeat' split at h) <;> cases h)
theorem ex_call {X : Nat × (Nat → Int32)} {ins : Instr} {y : Nat × List Value × PCf} (h : pm_ex X mid pc L st hp cs ss n v a b ts ins = some (.inr (.inr y))) : (∃ i, ins = .invokevirtual i) ∨ (∃ i, ins = .invokestatic i) ∨ ∃ i, ins = .invokespecial i := by
  cases ins
  case invokespecial i => exact Or.inr (Or.inr ⟨i, rfl⟩)
  case invokevirtual i => exact Or.inl ⟨i, rfl⟩
  case invokestatic i => exact Or.inr (Or.inl ⟨i, rfl⟩)
  case new => exact (new_nr h).elim
  case newarray =>
    exfalso
    simp only [pm_ex, Bool.cond_eq_ite] at h
    split at h
    · split at h
      · exact new_nr h
      · cases h
    · cases h
  case anewarray =>
    exfalso
    simp only [pm_ex, Bool.cond_eq_ite] at h
    split at h
    · split at h
      · exact new_nr h
      · cases h
    · cases h
  all_goals (exfalso; simp only [pm_ex, pm_i2, pm_l2, pm_ls, pm_st1, pm_getf, pm_putf, pm_iald, pm_bald, pm_lald, pm_aald, pm_iast, pm_bast, pm_last, pm_aast, pm_alen, pm_iret, Bool.cond_eq_ite] at h; (repeat' split at h) <;> cases h)
end SM
