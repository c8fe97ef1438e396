/-! THE CLAIM OUT OF ONE WALK OF THE LAW'S BODY. Your part is whole_start (and what it stands on); all else here is the same for every law, but numbers. -/
def R_law : String := "ClaimTreesLaw"
def lw_P (b : Addr) (xs : List Int32) (args : Array Value) (s : State) : Prop := args = #[.ref b] ∧ s.IntsAt b xs ∧ xs.length ≤ 2560 ∧ (Jvm.Cond.and given_1 narrow_1).before args s = true
def lw_Q (_ : Array Value) (s : State) (o : Outcome) (t : State) : Prop := o = .returned (some (.int 1)) ∧ Framed s o t [] 600000 7302249
def lw_Z (below : List Frame) (a : Array Value) (s : State) : State → Prop := fun t => ∃ o, t.status = .running ∧ Ended t below o ∧ lw_Q a s o t
/-- the law's own end, with 1 on the stack, nothing written that was there before, its room as the claim has it -/
theorem lw_ret {p : Program} {l : Launch} {e : Env} {s : State} {m : MethodId} {below : List Frame} {meth : Method} {c : Code} {b : Nat} (hx : p.tables.exec = Jvm.exec) (hb : c.code = code) (hr : meth.sig.returnType = ret) (hlocks : meth.locks = false) {pc : Nat} {H : Heap} {ls : Array Slot} (hdg : decode code pc = .ok (.ireturn, 1)) : W p l e room_1 s m #[Value.ref b] below meth c H [] 600000 7302249 (lw_Z below #[Value.ref b] s) (F0 m pc ls [.int 1]) := by
  intro T hT X
  obtain ⟨fs, hret, hrun, hended, hW, hframe⟩ := X.leave (v := some (.int 1)) (hlocks := hlocks) (fun h => by rw [hr] at h; cases h)
  have hmeth' : T.vm.method? m = some meth := X.method'
  refine ⟨T.setFrames fs, ?_, .returned (some (.int 1)), hrun, hended, rfl, ⟨_, rfl⟩, hW, hframe⟩
  jvm_step X.here [X.here.top, hx, hb, hdg, hmeth', hr, ret, narrow_b1]
  (try refine ⟨rfl, ?_⟩); (try refine ⟨rfl, ?_⟩)
  first | (intro acts; rw [hret _ acts rfl rfl rfl]) | rw [hret _ _ rfl rfl rfl]
  exact Steps.refl _
/-- what holds at the law's entry: the machine, the code, the tables' words (any of lw_tbl by 'hts w (by decide +kernel)'), the script of L ints xs at the cell b, what the Statement gives of the start (any of its parts by flat_of_before) -/
def lw_At (p : Program) (s : State) (m : MethodId) (meth : Method) (c : Code) (b L : Nat) (xs : Nat → Int32) : Prop :=
  p.tables.exec = Jvm.exec ∧ c.code = code ∧ meth.sig.returnType = ret ∧ c.maxLocals = 4 ∧ s.vm.findClass R_law = some m.cls ∧ (∀ w ∈ lw_tbl, w.before #[Value.ref b] s = true) ∧ va_X b L xs s s.heap ∧ b < s.heap.size ∧ meth.locks = false ∧ (Jvm.Cond.and given_1 narrow_1).before #[Value.ref b] s = true
def pm_h0 : PHp := ([], (fun _ _ => 0), (fun _ _ => 0), [])
abbrev lw_C : Cond := Jvm.Cond.and given_1 narrow_1
def lw_ar : List (String × String × List Int32) := [("ClaimTrees$Rules", "AT_FIRST", [2, 365, 0, 1, 7300, 0]), ("ClaimTrees$RuleReader", "LEAST", [1, 0, 0, 0, 1, 0]), ("ClaimTrees$RuleReader", "HIGHEST", [3, 999, 999, 1, 9999, 29])]
def lw_at (i : Nat) : Term := .static (lw_ar.getD i ("", "", [])).1 (lw_ar.getD i ("", "", [])).2.1 "[I"
def lw_st (i : Nat) : Term := .string (pt_sr.getD i ("", 0, "")).1 (pt_sr.getD i ("", 0, "")).2.1
theorem lm_ao : ∀ i, i < 3 → Cond.arrayOf (lw_at i) .int ∈ flatC lw_C := by decide +kernel
theorem lm_al : ∀ i, i < 3 → Cond.eq (.length (lw_at i)) (.int (Int32.ofNat 6)) ∈ flatC lw_C := by decide +kernel
theorem lm_ae : ∀ i, i < 3 → ∀ j, j < 6 → Cond.eq (.elem (lw_at i) (.int (Int32.ofNat j))) (.int ((lw_ar.getD i ("", "", [])).2.2.getD j 0)) ∈ flatC lw_C := by decide +kernel
theorem lm_ls : ∀ i, i < 3 → Cond.laysStatic (lw_ar.getD i ("", "", [])).1 (lw_ar.getD i ("", "", [])).2.1 "[I" ∈ lw_tbl := by decide +kernel
theorem lm_li : ∀ i, i < 3 → Cond.initialized (lw_ar.getD i ("", "", [])).1 ∈ lw_tbl := by decide +kernel
theorem lm_eq : ∀ i, i < 3 → (pt_stat.getD i ("", "", "", .null)).1 = (lw_ar.getD i ("", "", [])).1 ∧ (pt_stat.getD i ("", "", "", .null)).2.1 = (lw_ar.getD i ("", "", [])).2.1 ∧ (pt_stat.getD i ("", "", "", .null)).2.2.1 = "[I" := by decide +kernel
theorem lm_cs : Cond.eq (.static "java/lang/String" "COMPACT_STRINGS" "Z") (.int 1) ∈ flatC lw_C := by decide +kernel
theorem lm_cl : Cond.laysStatic "java/lang/String" "COMPACT_STRINGS" "Z" ∈ lw_tbl := by decide +kernel
theorem lm_ci : Cond.initialized "java/lang/String" ∈ lw_tbl := by decide +kernel
theorem lm_ps : Cond.isRef (.static "jdk/internal/util/Preconditions" "SIOOBE_FORMATTER" "Ljava/util/function/BiFunction;") ∈ flatC lw_C := by decide +kernel
theorem lm_pl : Cond.laysStatic "jdk/internal/util/Preconditions" "SIOOBE_FORMATTER" "Ljava/util/function/BiFunction;" ∈ lw_tbl := by decide +kernel
theorem lm_pi : Cond.initialized "jdk/internal/util/Preconditions" ∈ lw_tbl := by decide +kernel
theorem lm_sl : ∀ i, i < 10 → (pt_str.map List.length).getD i 0 < 2 ^ 31 := by decide +kernel
theorem lm_sx : ∀ i, i < 10 → Cond.exactly (lw_st i) "java/lang/String" ∈ flatC lw_C := by decide +kernel
theorem lm_sc : ∀ i, i < 10 → Cond.eq (.field (lw_st i) "java/lang/String" "coder" "B") (.int 0) ∈ flatC lw_C := by decide +kernel
theorem lm_sa : ∀ i, i < 10 → Cond.arrayOf (.field (lw_st i) "java/lang/String" "value" "[B") .byte ∈ flatC lw_C := by decide +kernel
theorem lm_sn : ∀ i, i < 10 → Cond.eq (.length (.field (lw_st i) "java/lang/String" "value" "[B")) (.int (Int32.ofNat ((pt_str.map List.length).getD i 0))) ∈ flatC lw_C := by decide +kernel
theorem lm_se : ∀ i, i < 10 → ∀ j, j < (pt_str.map List.length).getD i 0 → Cond.eq (.elem (.field (lw_st i) "java/lang/String" "value" "[B") (.int (Int32.ofNat j))) (.int ((pt_str.getD i []).getD j 0)) ∈ flatC lw_C := by decide +kernel
theorem lm_sd : ∀ i, i < 10 → ∀ j, j < 10 → i ≠ j → Cond.not (Cond.eq (lw_st i) (lw_st j)) ∈ flatC lw_C ∨ Cond.not (Cond.eq (lw_st j) (lw_st i)) ∈ flatC lw_C := by decide +kernel
theorem lm_sr : ∀ i, i < 10 → Cond.stringRef (pt_sr.getD i ("", 0, "")).1 (pt_sr.getD i ("", 0, "")).2.1 (pt_sr.getD i ("", 0, "")).2.2 ∈ lw_tbl := by decide +kernel
theorem lm_ne : ∀ w ∈ pt_nest, w ∈ lw_tbl ∧ w.onTables = true := by decide +kernel
theorem lm_ov : Cond.arrayOver (.object "ClaimTrees$Rules") ∈ lw_tbl := by decide +kernel
theorem lm_a1 : Cond.arrayClass .int ∈ lw_tbl := by decide +kernel
theorem lm_a2 : Cond.arrayClass .boolean ∈ lw_tbl := by decide +kernel
theorem lm_a3 : Cond.arrayClass .long ∈ lw_tbl := by decide +kernel
theorem lm_in : ∀ c, c < 12 → Cond.instantiable (vwCl.getD c ("", TX0, 0)).1 (vwCl.getD c ("", TX0, 0)).2.2 ∈ lw_tbl := by decide +kernel
theorem lm_g (w : Cond) (h : w ∈ lw_g) : w ∈ lw_tbl := (List.mem_filter.mp h).1
