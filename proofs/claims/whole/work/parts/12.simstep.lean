theorem up_off {α : Type} {f : Nat → Nat → α} {o k : Nat} {x : α} {a : Nat} (h : a ≠ o) : pm_up f o k x a = f a := by
  funext b
  have hb : Nat.beq a o = false := by
    cases hb : Nat.beq a o with
    | false => rfl
    | true => exact absurd (Nat.eq_of_beq_eq_true hb) h
  simp [pm_up, hb]
theorem up_kk {α : Type} {f : Nat → Nat → α} {o k : Nat} {x : α} {b : Nat} (h : b ≠ k) : pm_up f o k x o b = f o b := by
  have hb : Nat.beq b k = false := by
    cases hb : Nat.beq b k with
    | false => rfl
    | true => exact absurd (Nat.eq_of_beq_eq_true hb) h
  simp [pm_up, hb]
theorem up_ok {α : Type} {f : Nat → Nat → α} {o k : Nat} {x : α} : pm_up f o k x o k = x := by simp [pm_up, Nat.beq_refl]
theorem up_at (f : Nat → Nat → Int32) (o k : Nat) (x : Int32) : pm_up f o k x o = upd (f o) k x := by
  funext b
  by_cases h : b = k
  · subst h; rw [up_ok, pk_us]
  · rw [up_kk h, pk_un h]
theorem up_atL (f : Nat → Nat → Int64) (o k : Nat) (x : Int64) : pm_up f o k x o = vp_updL (f o) k x := by
  funext b
  by_cases h : b = k
  · subst h; rw [up_ok, pk_uLs]
  · rw [up_kk h, pk_uLn h]
theorem rd_ok {R : List (List Nat)} {o k r : Nat} (h1 : o - 1 < R.length) (h2 : k < (R.getD (o - 1) []).length) : pm_rd (pm_wr R o k r) o k = r := by
  have e : (R.getD (o - 1) []) = R[o - 1] := by simp [List.getD, h1]
  rw [e] at h2
  simp [pm_rd, pm_wr, List.getD, h1, h2]
theorem rd_kk {R : List (List Nat)} {o k r j : Nat} (h : j ≠ k) : pm_rd (pm_wr R o k r) o j = pm_rd R o j := by
  by_cases h1 : o - 1 < R.length
  · simp [pm_rd, pm_wr, List.getD, h1, List.getElem?_set, Ne.symm h]
  · simp [pm_rd, pm_wr, List.getD, List.getElem?_set, h1]
theorem rd_off {R : List (List Nat)} {o o' k r j : Nat} (h : o' - 1 ≠ o - 1) : pm_rd (pm_wr R o k r) o' j = pm_rd R o' j := by
  simp [pm_rd, pm_wr, List.getD, List.getElem?_set, Ne.symm h]
theorem pw_e_congr {G : PG} {M M' : PMm} {a : Nat} (q : Nat × Nat) (h1 : M'.1 a = M.1 a) (h2 : M'.2.1 a = M.2.1 a) (h3 : ∀ b, pm_rd M'.2.2 a b = pm_rd M.2.2 a b) : pw_e G M' a q = pw_e G M a q := by
  have h4 : pw_fs G M' a q.2 = pw_fs G M a q.2 := by
    unfold pw_fs
    apply List.map_congr_left
    intro j _
    unfold pw_fv
    rw [h1, h2, h3]
  unfold pw_e
  rw [h1, h2, h4]
  have h5 : (fun j => rno G (pm_rd M'.2.2 a j)) = fun j => rno G (pm_rd M.2.2 a j) := by funext j; rw [h3]
  rw [h5]
theorem ws_set {G : PG} {h : PHp} {M' : PMm} {k : Nat} (hk : k < h.1.length) (h1 : ∀ j, j ≠ k → M'.1 (j + 1) = h.2.1 (j + 1)) (h2 : ∀ j, j ≠ k → M'.2.1 (j + 1) = h.2.2.1 (j + 1)) (h3 : ∀ j, j ≠ k → ∀ b, pm_rd M'.2.2 (j + 1) b = pm_rd h.2.2.2 (j + 1) b) : (pw_ws G h).set k (gz G + k, pw_e G M' (k + 1) (h.1.getD k (9, 0))) = pw_ws G (h.1, M') := by
  apply List.ext_getElem?
  intro j
  by_cases hj : j = k
  · subst hj
    rw [List.getElem?_set_self (by rw [ws_len]; exact hk)]
    exact (ws_get G (h.1, M') hk).symm
  · rw [List.getElem?_set_ne (Ne.symm hj)]
    by_cases hl : j < h.1.length
    · rw [ws_get G h hl, ws_get G (h.1, M') hl]
      rw [pw_e_congr (M := h.2) (M' := M') _ (h1 j hj) (h2 j hj) (h3 j hj)]
    · rw [List.getElem?_eq_none (by rw [ws_len]; omega), List.getElem?_eq_none (by rw [ws_len]; exact Nat.le_of_not_lt hl)]
theorem fs_len (G : PG) (M : PMm) (o c : Nat) : (pw_fs G M o c).length = (pt_fty c).length := by simp [pw_fs]
theorem fs_get (G : PG) (M : PMm) (o c : Nat) {j : Nat} (hj : j < (pt_fty c).length) : (pw_fs G M o c)[j]? = some (pw_fv G M o j ((pt_fty c).getD j 9)) := by simp [pw_fs, hj]
theorem fs_set {G : PG} {M M' : PMm} {o c b : Nat} {v : Value} (hb : b < (pt_fty c).length) (h1 : pw_fv G M' o b ((pt_fty c).getD b 9) = v) (h2 : ∀ j, j ≠ b → pw_fv G M' o j ((pt_fty c).getD j 9) = pw_fv G M o j ((pt_fty c).getD j 9)) : (pw_fs G M o c).set b v = pw_fs G M' o c := by
  apply List.ext_getElem?
  intro j
  by_cases hj : j = b
  · subst hj
    rw [List.getElem?_set_self (by rw [fs_len]; exact hb), fs_get G M' o c hb, h1]
  · rw [List.getElem?_set_ne (Ne.symm hj)]
    by_cases hl : j < (pt_fty c).length
    · rw [fs_get G M o c hl, fs_get G M' o c hl, h2 j hj]
    · rw [List.getElem?_eq_none (by rw [fs_len]; omega), List.getElem?_eq_none (by rw [fs_len]; omega)]
theorem pin_vp {i : Int32} {n : Nat} (h : pin i n) : vp_in i n := vp_in_iff.mpr h
/-- the classes' tables, decided -/
def tc_ok (c : Nat) : Bool := (List.range (vwCl.getD c ("", TX0, 0)).2.2).all (fun k => decide (parseFieldDescriptor ((vwCl.getD c ("", TX0, 0)).2.1 k).2.2.1 = some ((parseFieldDescriptor ((vwCl.getD c ("", TX0, 0)).2.1 k).2.2.1).getD .int)) && decide ((pt_fin c).getD k true = ((vwCl.getD c ("", TX0, 0)).2.1 k).2.2.2) && decide (((vwCl.getD c ("", TX0, 0)).2.1 k).1 = (vwCl.getD c ("", TX0, 0)).1)
    && (match (pt_fty c).getD k 9 with
      | 0 => decide (parseFieldDescriptor ((vwCl.getD c ("", TX0, 0)).2.1 k).2.2.1 = some .int)
      | 1 => decide (parseFieldDescriptor ((vwCl.getD c ("", TX0, 0)).2.1 k).2.2.1 = some .long)
      | 2 => match parseFieldDescriptor ((vwCl.getD c ("", TX0, 0)).2.1 k).2.2.1 with
        | some (.object _) => true
        | some (.array _) => true
        | _ => false
      | _ => false)) && Nat.beq (pt_fty c).length (vwCl.getD c ("", TX0, 0)).2.2
theorem tc_all : ∀ c, c < 12 → tc_ok c = true := by decide +kernel
theorem tc_nm : ∀ c, c < 12 → ∀ a, a < (vwCl.getD c ("", TX0, 0)).2.2 → ∀ b, b < (vwCl.getD c ("", TX0, 0)).2.2 → a ≠ b → ((vwCl.getD c ("", TX0, 0)).2.1 a).2.1 ≠ ((vwCl.getD c ("", TX0, 0)).2.1 b).2.1 := by decide +kernel
theorem tc_iw : ∀ c, c < 12 → ∀ w ∈ u_ws (vwCl.getD c ("", TX0, 0)).1 (vwCl.getD c ("", TX0, 0)).2.1 (vwCl.getD c ("", TX0, 0)).2.2, w ∈ lw_g := by decide +kernel
theorem tc_at {c : Nat} (hc : c < 12) : vwCl[c]? = some ((vwCl.getD c ("", TX0, 0)).1, (vwCl.getD c ("", TX0, 0)).2.1, (vwCl.getD c ("", TX0, 0)).2.2) := by
  have hl : c < vwCl.length := hc
  simp only [List.getD, List.getElem?_eq_getElem hl, Option.getD_some]
theorem tc_k {c k : Nat} (hc : c < 12) (hk : k < (vwCl.getD c ("", TX0, 0)).2.2) : parseFieldDescriptor ((vwCl.getD c ("", TX0, 0)).2.1 k).2.2.1 = some ((parseFieldDescriptor ((vwCl.getD c ("", TX0, 0)).2.1 k).2.2.1).getD .int) ∧ (pt_fin c).getD k true = ((vwCl.getD c ("", TX0, 0)).2.1 k).2.2.2 ∧ ((vwCl.getD c ("", TX0, 0)).2.1 k).1 = (vwCl.getD c ("", TX0, 0)).1
    ∧ (match (pt_fty c).getD k 9 with
      | 0 => decide (parseFieldDescriptor ((vwCl.getD c ("", TX0, 0)).2.1 k).2.2.1 = some .int)
      | 1 => decide (parseFieldDescriptor ((vwCl.getD c ("", TX0, 0)).2.1 k).2.2.1 = some .long)
      | 2 => match parseFieldDescriptor ((vwCl.getD c ("", TX0, 0)).2.1 k).2.2.1 with
        | some (.object _) => true
        | some (.array _) => true
        | _ => false
      | _ => false) = true ∧ (pt_fty c).length = (vwCl.getD c ("", TX0, 0)).2.2 := by
  have h := tc_all c hc
  simp only [tc_ok, Bool.and_eq_true] at h
  have h1 := List.all_eq_true.mp h.1 k (List.mem_range.mpr hk)
  simp only [Bool.and_eq_true, decide_eq_true_eq] at h1
  exact ⟨h1.1.1.1, h1.1.1.2, h1.1.2, h1.2, Nat.eq_of_beq_eq_true h.2⟩
theorem tc_len {c : Nat} (hc : c < 12) : (pt_fty c).length = (vwCl.getD c ("", TX0, 0)).2.2 := by
  have h := tc_all c hc
  simp only [tc_ok, Bool.and_eq_true] at h
  exact Nat.eq_of_beq_eq_true h.2
theorem sw_out {x : Int32} {d : Nat} : ∀ (ts : List Nat) (k : Nat), (∀ i, i < ts.length → x ≠ Int32.ofNat (k + i)) → pm_sw x ts k d = d := by
  intro ts
  induction ts with
  | nil => intro k _; rfl
  | cons t r ih =>
    intro k h
    have h0 := h 0 (by simp)
    rw [Nat.add_zero] at h0
    rw [pm_sw, if_neg h0]
    refine ih (k + 1) (fun i hi => ?_)
    have := h (i + 1) (by simp; omega)
    rw [show k + 1 + i = k + (i + 1) by omega]
    exact this
theorem sw_in {d : Nat} : ∀ (ts : List Nat) (k i : Nat), i < ts.length → k + ts.length < 2 ^ 31 → some (pm_sw (Int32.ofNat (k + i)) ts k d) = ts[i]? := by
  intro ts
  induction ts with
  | nil => intro k i h; simp at h
  | cons t r ih =>
    intro k i hi hk
    cases i with
    | zero => simp [pm_sw]
    | succ i =>
      have hne : ¬ Int32.ofNat (k + (i + 1)) = Int32.ofNat k := by
        intro e
        have := (nI_eq (a := k + (i + 1)) (b := k) (by simp at hi hk; omega) (by simp at hi hk; omega)).mp e
        omega
      rw [pm_sw, if_neg hne, show k + (i + 1) = k + 1 + i by omega, List.getElem?_cons_succ]
      exact ih (k + 1) i (by simpa using hi) (by simp at hk; omega)
section SX
variable {G : PG} {mid : Nat} {p : Program} {l : Launch} {e : Env} {R : Room} {s : State} {m : MethodId} {args : Array Value} {below : List Frame} {meth : Method} {c : Code} {Q : State → Prop}
variable {pc n a b cs ss : Nat} {ts : List Nat} {v : Value} {L st : List Value} {hp : PHp} {q' : PCf}
def pw_Nx (G : PG) (mid : Nat) (p : Program) (l : Launch) (e : Env) (R : Room) (s : State) (m : MethodId) (args : Array Value) (below : List Frame) (meth : Method) (c : Code) (Q : State → Prop) (q q' : PCf) : Prop :=
  ∀ (H : Heap) (locs : List Loc) (ls : Array Slot), pw_S G mid s H locs ls q → (∀ (H' : Heap) (locs' : List Loc) (ls' : Array Slot), pw_S G mid s H' locs' ls' q' → pw_W G p l e R s m args below meth c Q H' locs' ls' q') → pw_W G p l e R s m args below meth c Q H locs ls q

theorem sx_iconst (A : pw_A G mid p R s m args meth c) {i : Int} (hd : decode (pt_bytes mid) pc = .ok (.iconst i, n)) (hi : pl_i mid pc n v a b ts (.iconst i) = true) (h : pm_ex (gX G) mid pc L st hp cs ss n v a b ts (.iconst i) = some (.inl q')) : pw_Nx G mid p l e R s m args below meth c Q (pc, L, st, hp, cs, ss) q' := by
  obtain ⟨hx, hb, hml, hown, hts, hin, hlk, hK, hO, hR, hm⟩ := A
  intro H locs ls S kk
  simp only [pl_i, Bool.and_eq_true, decide_eq_true_eq] at hi
  have hn := Nat.eq_of_beq_eq_true hi.1
  subst hn
  have hv := hi.2
  subst hv
  simp only [pm_ex, Option.some.injEq, Sum.inl.injEq] at h
  subst h
  exact lv_iconst hx hb hd rfl (kk H locs ls S)
theorem sx_bipush (A : pw_A G mid p R s m args meth c) {i : Int} (hd : decode (pt_bytes mid) pc = .ok (.bipush i, n)) (hi : pl_i mid pc n v a b ts (.bipush i) = true) (h : pm_ex (gX G) mid pc L st hp cs ss n v a b ts (.bipush i) = some (.inl q')) : pw_Nx G mid p l e R s m args below meth c Q (pc, L, st, hp, cs, ss) q' := by
  obtain ⟨hx, hb, hml, hown, hts, hin, hlk, hK, hO, hR, hm⟩ := A
  intro H locs ls S kk
  simp only [pl_i, Bool.and_eq_true, decide_eq_true_eq] at hi
  have hn := Nat.eq_of_beq_eq_true hi.1
  subst hn
  have hv := hi.2
  subst hv
  simp only [pm_ex, Option.some.injEq, Sum.inl.injEq] at h
  subst h
  exact lv_bipush hx hb hd rfl (kk H locs ls S)
theorem sx_sipush (A : pw_A G mid p R s m args meth c) {i : Int} (hd : decode (pt_bytes mid) pc = .ok (.sipush i, n)) (hi : pl_i mid pc n v a b ts (.sipush i) = true) (h : pm_ex (gX G) mid pc L st hp cs ss n v a b ts (.sipush i) = some (.inl q')) : pw_Nx G mid p l e R s m args below meth c Q (pc, L, st, hp, cs, ss) q' := by
  obtain ⟨hx, hb, hml, hown, hts, hin, hlk, hK, hO, hR, hm⟩ := A
  intro H locs ls S kk
  simp only [pl_i, Bool.and_eq_true, decide_eq_true_eq] at hi
  have hn := Nat.eq_of_beq_eq_true hi.1
  subst hn
  have hv := hi.2
  subst hv
  simp only [pm_ex, Option.some.injEq, Sum.inl.injEq] at h
  subst h
  exact lv_sipush hx hb hd rfl (kk H locs ls S)
theorem sx_lconst (A : pw_A G mid p R s m args meth c) {i : Fin 2} (hd : decode (pt_bytes mid) pc = .ok (.lconst i, n)) (hi : pl_i mid pc n v a b ts (.lconst i) = true) (h : pm_ex (gX G) mid pc L st hp cs ss n v a b ts (.lconst i) = some (.inl q')) : pw_Nx G mid p l e R s m args below meth c Q (pc, L, st, hp, cs, ss) q' := by
  obtain ⟨hx, hb, hml, hown, hts, hin, hlk, hK, hO, hR, hm⟩ := A
  intro H locs ls S kk
  simp only [pl_i, Bool.and_eq_true, decide_eq_true_eq] at hi
  have hn := Nat.eq_of_beq_eq_true hi.1
  subst hn
  have hv := hi.2
  subst hv
  simp only [pm_ex, Option.some.injEq, Sum.inl.injEq] at h
  subst h
  exact lv_lconst hx hb hd rfl (kk H locs ls S)
theorem sx_ldc_w (A : pw_A G mid p R s m args meth c) {i : Nat} (hd : decode (pt_bytes mid) pc = .ok (.ldc_w i, n)) (hi : pl_i mid pc n v a b ts (.ldc_w i) = true) (h : pm_ex (gX G) mid pc L st hp cs ss n v a b ts (.ldc_w i) = some (.inl q')) : pw_Nx G mid p l e R s m args below meth c Q (pc, L, st, hp, cs, ss) q' := by
  obtain ⟨hx, hb, hml, hown, hts, hin, hlk, hK, hO, hR, hm⟩ := A
  intro H locs ls S kk
  simp only [pl_i, Bool.and_eq_true] at hi
  have hn := Nat.eq_of_beq_eq_true hi.1
  subst hn
  have h2 := hi.2
  split at h2
  · simp only [pm_ex, Option.some.injEq, Sum.inl.injEq] at h
    subst h
    exact lv_ldcw hx hb hown (hts _ (pl_w_in h2)) hd (kk H locs ls S)
  · cases h2
theorem sx_ldc2_w (A : pw_A G mid p R s m args meth c) {i : Nat} (hd : decode (pt_bytes mid) pc = .ok (.ldc2_w i, n)) (hi : pl_i mid pc n v a b ts (.ldc2_w i) = true) (h : pm_ex (gX G) mid pc L st hp cs ss n v a b ts (.ldc2_w i) = some (.inl q')) : pw_Nx G mid p l e R s m args below meth c Q (pc, L, st, hp, cs, ss) q' := by
  obtain ⟨hx, hb, hml, hown, hts, hin, hlk, hK, hO, hR, hm⟩ := A
  intro H locs ls S kk
  simp only [pl_i, Bool.and_eq_true] at hi
  have hn := Nat.eq_of_beq_eq_true hi.1
  subst hn
  have h2 := hi.2
  split at h2
  · simp only [pm_ex, Option.some.injEq, Sum.inl.injEq] at h
    subst h
    exact lv_ldc2 hx hb hown (hts _ (pl_w_in h2)) hd (kk H locs ls S)
  · cases h2
theorem sx_ldc (A : pw_A G mid p R s m args meth c) {i : Nat} (hd : decode (pt_bytes mid) pc = .ok (.ldc i, n)) (hi : pl_i mid pc n v a b ts (.ldc i) = true) (h : pm_ex (gX G) mid pc L st hp cs ss n v a b ts (.ldc i) = some (.inl q')) : pw_Nx G mid p l e R s m args below meth c Q (pc, L, st, hp, cs, ss) q' := by
  obtain ⟨hx, hb, hml, hown, hts, hin, hlk, hK, hO, hR, hm⟩ := A
  intro H locs ls S kk
  simp only [pl_i, Bool.and_eq_true] at hi
  have hn := Nat.eq_of_beq_eq_true hi.1
  subst hn
  have h2 := hi.2
  split at h2
  · simp only [pm_ex, Option.some.injEq, Sum.inl.injEq] at h
    subst h
    exact lv_ldc hx hb hown (hts _ (pl_w_in h2)) hd (kk H locs ls S)
  · simp only [Bool.and_eq_true, decide_eq_true_eq] at h2
    obtain ⟨⟨⟨g1, g2⟩, g3⟩, g4⟩ := h2
    have e1 := Nat.eq_of_beq_eq_true g1
    have e2 : a < 10 := by simpa [Nat.blt_eq] using g2
    have e4 := Nat.eq_of_beq_eq_true g4
    subst e1
    simp only [pm_ex, Option.some.injEq, Sum.inl.injEq] at h
    subst h
    obtain ⟨-, -, -, -, -, -, -, -, -, hr, -⟩ := hO
    have hr := hr a e2
    rw [g3, e4] at hr
    have kk := kk H locs ls S
    simp only [pw_W, List.map_cons] at kk
    rw [vl_old (by omega) (by omega)] at kk
    exact va_ldcS hx hb hown hr hd kk
  · cases h2
theorem sx_getstatic (A : pw_A G mid p R s m args meth c) {i : Nat} (hd : decode (pt_bytes mid) pc = .ok (.getstatic i, n)) (hi : pl_i mid pc n v a b ts (.getstatic i) = true) (h : pm_ex (gX G) mid pc L st hp cs ss n v a b ts (.getstatic i) = some (.inl q')) : pw_Nx G mid p l e R s m args below meth c Q (pc, L, st, hp, cs, ss) q' := by
  obtain ⟨hx, hb, hml, hown, hts, hin, hlk, hK, hO, hR, hm⟩ := A
  intro H locs ls S kk
  simp only [pl_i, Bool.and_eq_true, decide_eq_true_eq] at hi
  obtain ⟨⟨⟨g1, g2⟩, g3⟩, g4⟩ := hi
  have hn := Nat.eq_of_beq_eq_true g1
  subst hn
  subst g4
  have hlink := hts _ (pl_w_in g3)
  have hS := S.2.2.2.1
  simp only [pm_ex, Option.some.injEq, Sum.inl.injEq] at h
  subst h
  have kk := kk H locs ls S
  simp only [pw_W, List.map_cons] at kk
  obtain ⟨-, -, -, hz, -, hz3, hz4, -⟩ := hO
  have ha : a < 5 := by simpa [Nat.blt_eq] using g2
  match a, ha, hlink, kk with
  | 0, _, hlink, kk => exact va_gets hx hb (hz 0 (by decide)) hS hown hlink (fun _ h => h) hd (by rw [show vl G (pt_stat.getD 0 ("", "", "", .null)).2.2.2 = .ref (go G 2001) from vl_old (r := 2001) (by omega) (by omega)] at kk; exact kk)
  | 1, _, hlink, kk => exact va_gets hx hb (hz 1 (by decide)) hS hown hlink (fun _ h => h) hd (by rw [show vl G (pt_stat.getD 1 ("", "", "", .null)).2.2.2 = .ref (go G 2002) from vl_old (r := 2002) (by omega) (by omega)] at kk; exact kk)
  | 2, _, hlink, kk => exact va_gets hx hb (hz 2 (by decide)) hS hown hlink (fun _ h => h) hd (by rw [show vl G (pt_stat.getD 2 ("", "", "", .null)).2.2.2 = .ref (go G 2003) from vl_old (r := 2003) (by omega) (by omega)] at kk; exact kk)
  | 3, _, hlink, kk => exact va_gets hx hb hz3 hS hown hlink (fun _ h => h) hd kk
  | 4, _, hlink, kk => exact va_gets hx hb hz4 hS hown hlink (fun _ h => h) hd (by rw [show vl G (pt_stat.getD 4 ("", "", "", .null)).2.2.2 = gs G from by simp [pt_stat, vl]] at kk; exact kk)
theorem sx_iload (A : pw_A G mid p R s m args meth c) {i : Nat} (hd : decode (pt_bytes mid) pc = .ok (.iload i, n)) (hi : pl_i mid pc n v a b ts (.iload i) = true) (h : pm_ex (gX G) mid pc L st hp cs ss n v a b ts (.iload i) = some (.inl q')) : pw_Nx G mid p l e R s m args below meth c Q (pc, L, st, hp, cs, ss) q' := by
  obtain ⟨hx, hb, hml, hown, hts, hin, hlk, hK, hO, hR, hm⟩ := A
  intro H locs ls S kk
  simp only [pl_i, Bool.and_eq_true] at hi
  have hn := Nat.eq_of_beq_eq_true hi.1
  subst hn
  have e1 := Nat.eq_of_beq_eq_true hi.2
  subst e1
  simp only [pm_ex] at h
  split at h
  · rename_i x hg
    simp only [Option.some.injEq, Sum.inl.injEq] at h
    subst h
    exact lv_iload hx hb hd (pw_L_get S.1 hg (fun _ h => by cases h) (fun _ h => by cases h) (fun h => by cases h)) (kk H locs ls S)
  · cases h
theorem sx_iload_n (A : pw_A G mid p R s m args meth c) {i : Fin 4} (hd : decode (pt_bytes mid) pc = .ok (.iload_n i, n)) (hi : pl_i mid pc n v a b ts (.iload_n i) = true) (h : pm_ex (gX G) mid pc L st hp cs ss n v a b ts (.iload_n i) = some (.inl q')) : pw_Nx G mid p l e R s m args below meth c Q (pc, L, st, hp, cs, ss) q' := by
  obtain ⟨hx, hb, hml, hown, hts, hin, hlk, hK, hO, hR, hm⟩ := A
  intro H locs ls S kk
  simp only [pl_i, Bool.and_eq_true] at hi
  have hn := Nat.eq_of_beq_eq_true hi.1
  subst hn
  have e1 := Nat.eq_of_beq_eq_true hi.2
  simp only [pm_ex] at h
  split at h
  · rename_i x hg
    simp only [Option.some.injEq, Sum.inl.injEq] at h
    subst h
    exact lv_iload_n hx hb hd e1.symm (pw_L_get S.1 hg (fun _ h => by cases h) (fun _ h => by cases h) (fun h => by cases h)) (kk H locs ls S)
  · cases h
theorem sx_lload (A : pw_A G mid p R s m args meth c) {i : Nat} (hd : decode (pt_bytes mid) pc = .ok (.lload i, n)) (hi : pl_i mid pc n v a b ts (.lload i) = true) (h : pm_ex (gX G) mid pc L st hp cs ss n v a b ts (.lload i) = some (.inl q')) : pw_Nx G mid p l e R s m args below meth c Q (pc, L, st, hp, cs, ss) q' := by
  obtain ⟨hx, hb, hml, hown, hts, hin, hlk, hK, hO, hR, hm⟩ := A
  intro H locs ls S kk
  simp only [pl_i, Bool.and_eq_true] at hi
  have hn := Nat.eq_of_beq_eq_true hi.1
  subst hn
  have e1 := Nat.eq_of_beq_eq_true hi.2
  subst e1
  simp only [pm_ex] at h
  split at h
  · rename_i x hg
    simp only [Option.some.injEq, Sum.inl.injEq] at h
    subst h
    exact lv_lload hx hb hd (pw_L_get S.1 hg (fun _ h => by cases h) (fun _ h => by cases h) (fun h => by cases h)) (kk H locs ls S)
  · cases h
theorem sx_lload_n (A : pw_A G mid p R s m args meth c) {i : Fin 4} (hd : decode (pt_bytes mid) pc = .ok (.lload_n i, n)) (hi : pl_i mid pc n v a b ts (.lload_n i) = true) (h : pm_ex (gX G) mid pc L st hp cs ss n v a b ts (.lload_n i) = some (.inl q')) : pw_Nx G mid p l e R s m args below meth c Q (pc, L, st, hp, cs, ss) q' := by
  obtain ⟨hx, hb, hml, hown, hts, hin, hlk, hK, hO, hR, hm⟩ := A
  intro H locs ls S kk
  simp only [pl_i, Bool.and_eq_true] at hi
  have hn := Nat.eq_of_beq_eq_true hi.1
  subst hn
  have e1 := Nat.eq_of_beq_eq_true hi.2
  simp only [pm_ex] at h
  split at h
  · rename_i x hg
    simp only [Option.some.injEq, Sum.inl.injEq] at h
    subst h
    exact lv_lload_n hx hb hd e1.symm (pw_L_get S.1 hg (fun _ h => by cases h) (fun _ h => by cases h) (fun h => by cases h)) (kk H locs ls S)
  · cases h
theorem sx_aload (A : pw_A G mid p R s m args meth c) {i : Nat} (hd : decode (pt_bytes mid) pc = .ok (.aload i, n)) (hi : pl_i mid pc n v a b ts (.aload i) = true) (h : pm_ex (gX G) mid pc L st hp cs ss n v a b ts (.aload i) = some (.inl q')) : pw_Nx G mid p l e R s m args below meth c Q (pc, L, st, hp, cs, ss) q' := by
  obtain ⟨hx, hb, hml, hown, hts, hin, hlk, hK, hO, hR, hm⟩ := A
  intro H locs ls S kk
  simp only [pl_i, Bool.and_eq_true] at hi
  have hn := Nat.eq_of_beq_eq_true hi.1
  subst hn
  have e1 := Nat.eq_of_beq_eq_true hi.2
  subst e1
  simp only [pm_ex] at h
  split at h
  · rename_i x hg
    cases hx2 : Nat.beq x 2300 with
    | true => rw [hx2] at h; cases h
    | false =>
      rw [hx2] at h
      simp only [cond, Option.some.injEq, Sum.inl.injEq] at h
      subst h
      have hne : x ≠ 2300 := fun q => by rw [q] at hx2; cases hx2
      have hvl : vl G (.ref x) = .ref (rn G x) := by simp [vl, hne]
      have hg2 := pw_L_get S.1 hg (fun _ h => by cases h) (fun _ h => by cases h) (fun h => by cases h)
      have kk := kk H locs ls S
      simp only [pw_W, List.map_cons] at kk
      rw [hvl] at hg2 kk
      exact lv_aload hx hb hd hg2 kk
  · cases h
theorem sx_aload_n (A : pw_A G mid p R s m args meth c) {i : Fin 4} (hd : decode (pt_bytes mid) pc = .ok (.aload_n i, n)) (hi : pl_i mid pc n v a b ts (.aload_n i) = true) (h : pm_ex (gX G) mid pc L st hp cs ss n v a b ts (.aload_n i) = some (.inl q')) : pw_Nx G mid p l e R s m args below meth c Q (pc, L, st, hp, cs, ss) q' := by
  obtain ⟨hx, hb, hml, hown, hts, hin, hlk, hK, hO, hR, hm⟩ := A
  intro H locs ls S kk
  simp only [pl_i, Bool.and_eq_true] at hi
  have hn := Nat.eq_of_beq_eq_true hi.1
  subst hn
  have e1 := Nat.eq_of_beq_eq_true hi.2
  simp only [pm_ex] at h
  split at h
  · rename_i x hg
    cases hx2 : Nat.beq x 2300 with
    | true => rw [hx2] at h; cases h
    | false =>
      rw [hx2] at h
      simp only [cond, Option.some.injEq, Sum.inl.injEq] at h
      subst h
      have hne : x ≠ 2300 := fun q => by rw [q] at hx2; cases hx2
      have hvl : vl G (.ref x) = .ref (rn G x) := by simp [vl, hne]
      have hg2 := pw_L_get S.1 hg (fun _ h => by cases h) (fun _ h => by cases h) (fun h => by cases h)
      have kk := kk H locs ls S
      simp only [pw_W, List.map_cons] at kk
      rw [hvl] at hg2 kk
      exact lv_aload_n hx hb hd e1.symm hg2 kk
  · cases h
theorem sx_istore (A : pw_A G mid p R s m args meth c) {i : Nat} (hd : decode (pt_bytes mid) pc = .ok (.istore i, n)) (hi : pl_i mid pc n v a b ts (.istore i) = true) (h : pm_ex (gX G) mid pc L st hp cs ss n v a b ts (.istore i) = some (.inl q')) : pw_Nx G mid p l e R s m args below meth c Q (pc, L, st, hp, cs, ss) q' := by
  obtain ⟨hx, hb, hml, hown, hts, hin, hlk, hK, hO, hR, hm⟩ := A
  intro H locs ls S kk
  simp only [pl_i, Bool.and_eq_true] at hi
  have hn := Nat.eq_of_beq_eq_true hi.1
  subst hn
  have e1 := Nat.eq_of_beq_eq_true hi.2
  subst e1
  simp only [pm_ex] at h
  split at h
  · unfold pm_st1 at h
    cases hok : pm_ok1 L a with
    | false => rw [hok] at h; cases h
    | true =>
      rw [hok] at h
      simp only [cond, Option.some.injEq, Sum.inl.injEq] at h
      subst h
      have hl : a < L.length := by
        simp only [pm_ok1, Bool.and_eq_true] at hok
        simpa [Nat.blt_eq] using hok.1
      refine lv_istore hx hb hd S.1 (by rw [← S.2.1]; exact hl) rfl (fun ls' hl' => kk H locs ls' ⟨pw_L_set1 hO.2.2.2.2.2.2.2.1 hok hl', ?_, S.2.2⟩)
      show (L.set _ _).length = _
      rw [List.length_set]
      exact S.2.1
  · cases h
theorem sx_istore_n (A : pw_A G mid p R s m args meth c) {i : Fin 4} (hd : decode (pt_bytes mid) pc = .ok (.istore_n i, n)) (hi : pl_i mid pc n v a b ts (.istore_n i) = true) (h : pm_ex (gX G) mid pc L st hp cs ss n v a b ts (.istore_n i) = some (.inl q')) : pw_Nx G mid p l e R s m args below meth c Q (pc, L, st, hp, cs, ss) q' := by
  obtain ⟨hx, hb, hml, hown, hts, hin, hlk, hK, hO, hR, hm⟩ := A
  intro H locs ls S kk
  simp only [pl_i, Bool.and_eq_true] at hi
  have hn := Nat.eq_of_beq_eq_true hi.1
  subst hn
  have e1 := Nat.eq_of_beq_eq_true hi.2
  simp only [pm_ex] at h
  split at h
  · unfold pm_st1 at h
    cases hok : pm_ok1 L a with
    | false => rw [hok] at h; cases h
    | true =>
      rw [hok] at h
      simp only [cond, Option.some.injEq, Sum.inl.injEq] at h
      subst h
      have hl : a < L.length := by
        simp only [pm_ok1, Bool.and_eq_true] at hok
        simpa [Nat.blt_eq] using hok.1
      refine lv_istore_n hx hb hd e1.symm S.1 (by rw [← S.2.1]; exact hl) rfl (fun ls' hl' => kk H locs ls' ⟨pw_L_set1 hO.2.2.2.2.2.2.2.1 hok hl', ?_, S.2.2⟩)
      show (L.set _ _).length = _
      rw [List.length_set]
      exact S.2.1
  · cases h
theorem sx_astore_n (A : pw_A G mid p R s m args meth c) {i : Fin 4} (hd : decode (pt_bytes mid) pc = .ok (.astore_n i, n)) (hi : pl_i mid pc n v a b ts (.astore_n i) = true) (h : pm_ex (gX G) mid pc L st hp cs ss n v a b ts (.astore_n i) = some (.inl q')) : pw_Nx G mid p l e R s m args below meth c Q (pc, L, st, hp, cs, ss) q' := by
  obtain ⟨hx, hb, hml, hown, hts, hin, hlk, hK, hO, hR, hm⟩ := A
  intro H locs ls S kk
  simp only [pl_i, Bool.and_eq_true] at hi
  have hn := Nat.eq_of_beq_eq_true hi.1
  subst hn
  have e1 := Nat.eq_of_beq_eq_true hi.2
  simp only [pm_ex] at h
  split at h
  · rename_i x r
    cases hx2 : Nat.beq x 2300 with
    | true => rw [hx2] at h; cases h
    | false =>
      rw [hx2] at h
      dsimp only [cond] at h
      have hne : x ≠ 2300 := fun q => by rw [q] at hx2; cases hx2
      have hvl : vl G (.ref x) = .ref (rn G x) := by simp [vl, hne]
      unfold pm_st1 at h
      cases hok : pm_ok1 L a with
      | false => rw [hok] at h; cases h
      | true =>
        rw [hok] at h
        simp only [cond, Option.some.injEq, Sum.inl.injEq] at h
        subst h
        have hl : a < L.length := by
          simp only [pm_ok1, Bool.and_eq_true] at hok
          simpa [Nat.blt_eq] using hok.1
        show W _ _ _ _ _ _ _ _ _ _ _ _ _ _ _ (F0 m pc ls (vl G (.ref x) :: r.map (vl G)))
        rw [hvl]
        refine lv_astore_n hx hb hd e1.symm S.1 (by rw [← S.2.1]; exact hl) rfl (fun ls' hl' => kk H locs ls' ⟨pw_L_set1 hO.2.2.2.2.2.2.2.1 hok (by rw [hvl]; exact hl'), ?_, S.2.2⟩)
        show (L.set _ _).length = _
        rw [List.length_set]
        exact S.2.1
  · cases h
theorem sx_lstore (A : pw_A G mid p R s m args meth c) {i : Nat} (hd : decode (pt_bytes mid) pc = .ok (.lstore i, n)) (hi : pl_i mid pc n v a b ts (.lstore i) = true) (h : pm_ex (gX G) mid pc L st hp cs ss n v a b ts (.lstore i) = some (.inl q')) : pw_Nx G mid p l e R s m args below meth c Q (pc, L, st, hp, cs, ss) q' := by
  obtain ⟨hx, hb, hml, hown, hts, hin, hlk, hK, hO, hR, hm⟩ := A
  intro H locs ls S kk
  simp only [pl_i, Bool.and_eq_true] at hi
  have hn := Nat.eq_of_beq_eq_true hi.1
  subst hn
  have e1 := Nat.eq_of_beq_eq_true hi.2
  subst e1
  simp only [pm_ex] at h
  split at h
  · cases hok2 : (pm_ok1 L a && Nat.blt (a + 1) L.length) with
    | false => rw [hok2] at h; cases h
    | true =>
      rw [hok2] at h
      simp only [cond, Option.some.injEq, Sum.inl.injEq] at h
      subst h
      simp only [Bool.and_eq_true] at hok2
      have hl : a + 1 < L.length := by simpa [Nat.blt_eq] using hok2.2
      refine lv_lstore hx hb hd S.1 (by rw [← S.2.1]; exact hl) rfl (fun ls' hl' => kk H locs ls' ⟨pw_L_set2 hO.2.2.2.2.2.2.2.1 hok2.1 hl hl', ?_, S.2.2⟩)
      show ((L.set _ _).set _ _).length = _
      rw [List.length_set, List.length_set]
      exact S.2.1
  · cases h
theorem sx_lstore_n (A : pw_A G mid p R s m args meth c) {i : Fin 4} (hd : decode (pt_bytes mid) pc = .ok (.lstore_n i, n)) (hi : pl_i mid pc n v a b ts (.lstore_n i) = true) (h : pm_ex (gX G) mid pc L st hp cs ss n v a b ts (.lstore_n i) = some (.inl q')) : pw_Nx G mid p l e R s m args below meth c Q (pc, L, st, hp, cs, ss) q' := by
  obtain ⟨hx, hb, hml, hown, hts, hin, hlk, hK, hO, hR, hm⟩ := A
  intro H locs ls S kk
  simp only [pl_i, Bool.and_eq_true] at hi
  have hn := Nat.eq_of_beq_eq_true hi.1
  subst hn
  have e1 := Nat.eq_of_beq_eq_true hi.2
  simp only [pm_ex] at h
  split at h
  · cases hok2 : (pm_ok1 L a && Nat.blt (a + 1) L.length) with
    | false => rw [hok2] at h; cases h
    | true =>
      rw [hok2] at h
      simp only [cond, Option.some.injEq, Sum.inl.injEq] at h
      subst h
      simp only [Bool.and_eq_true] at hok2
      have hl : a + 1 < L.length := by simpa [Nat.blt_eq] using hok2.2
      refine lv_lstore_n hx hb hd e1.symm S.1 (by rw [← S.2.1]; exact hl) rfl (fun ls' hl' => kk H locs ls' ⟨pw_L_set2 hO.2.2.2.2.2.2.2.1 hok2.1 hl hl', ?_, S.2.2⟩)
      show ((L.set _ _).set _ _).length = _
      rw [List.length_set, List.length_set]
      exact S.2.1
  · cases h
theorem sx_iinc (A : pw_A G mid p R s m args meth c) {i : Nat} {d : Int} (hd : decode (pt_bytes mid) pc = .ok (.iinc i d, n)) (hi : pl_i mid pc n v a b ts (.iinc i d) = true) (h : pm_ex (gX G) mid pc L st hp cs ss n v a b ts (.iinc i d) = some (.inl q')) : pw_Nx G mid p l e R s m args below meth c Q (pc, L, st, hp, cs, ss) q' := by
  obtain ⟨hx, hb, hml, hown, hts, hin, hlk, hK, hO, hR, hm⟩ := A
  intro H locs ls S kk
  simp only [pl_i, Bool.and_eq_true, decide_eq_true_eq] at hi
  have hn := Nat.eq_of_beq_eq_true hi.1.1
  subst hn
  have e1 := Nat.eq_of_beq_eq_true hi.1.2
  subst e1
  have hv := hi.2
  subst hv
  simp only [pm_ex] at h
  split at h
  · rename_i x d' hg hd'
    cases hd'
    unfold pm_st1 at h
    cases hok : pm_ok1 L a with
    | false => rw [hok] at h; cases h
    | true =>
      rw [hok] at h
      simp only [cond, Option.some.injEq, Sum.inl.injEq] at h
      subst h
      have hl : a < L.length := by
        simp only [pm_ok1, Bool.and_eq_true] at hok
        simpa [Nat.blt_eq] using hok.1
      obtain ⟨k, hk⟩ := List.getElem?_of_mem (pw_L_mem (G := G) hg hl (fun _ h => by cases h) (fun _ h => by cases h))
      refine lv_iinc hx hb hd S.1 hk rfl (by rw [← S.2.1]; exact hl) rfl (fun ls' hl' => kk H locs ls' ⟨pw_L_set1 hO.2.2.2.2.2.2.2.1 hok hl', ?_, S.2.2⟩)
      show (L.set _ _).length = _
      rw [List.length_set]
      exact S.2.1
  · cases h
theorem sx_iadd (A : pw_A G mid p R s m args meth c) (hd : decode (pt_bytes mid) pc = .ok (.iadd, n)) (hi : pl_i mid pc n v a b ts (.iadd) = true) (h : pm_ex (gX G) mid pc L st hp cs ss n v a b ts (.iadd) = some (.inl q')) : pw_Nx G mid p l e R s m args below meth c Q (pc, L, st, hp, cs, ss) q' := by
  obtain ⟨hx, hb, hml, hown, hts, hin, hlk, hK, hO, hR, hm⟩ := A
  intro H locs ls S kk
  have hn := Nat.eq_of_beq_eq_true hi
  subst hn
  simp only [pm_ex, pm_i2] at h
  split at h
  · simp only [Option.some.injEq, Sum.inl.injEq] at h
    subst h
    exact lv_iadd hx hb hd (kk H locs ls S)
  · cases h
theorem sx_isub (A : pw_A G mid p R s m args meth c) (hd : decode (pt_bytes mid) pc = .ok (.isub, n)) (hi : pl_i mid pc n v a b ts (.isub) = true) (h : pm_ex (gX G) mid pc L st hp cs ss n v a b ts (.isub) = some (.inl q')) : pw_Nx G mid p l e R s m args below meth c Q (pc, L, st, hp, cs, ss) q' := by
  obtain ⟨hx, hb, hml, hown, hts, hin, hlk, hK, hO, hR, hm⟩ := A
  intro H locs ls S kk
  have hn := Nat.eq_of_beq_eq_true hi
  subst hn
  simp only [pm_ex, pm_i2] at h
  split at h
  · simp only [Option.some.injEq, Sum.inl.injEq] at h
    subst h
    exact lv_isub hx hb hd (kk H locs ls S)
  · cases h
theorem sx_imul (A : pw_A G mid p R s m args meth c) (hd : decode (pt_bytes mid) pc = .ok (.imul, n)) (hi : pl_i mid pc n v a b ts (.imul) = true) (h : pm_ex (gX G) mid pc L st hp cs ss n v a b ts (.imul) = some (.inl q')) : pw_Nx G mid p l e R s m args below meth c Q (pc, L, st, hp, cs, ss) q' := by
  obtain ⟨hx, hb, hml, hown, hts, hin, hlk, hK, hO, hR, hm⟩ := A
  intro H locs ls S kk
  have hn := Nat.eq_of_beq_eq_true hi
  subst hn
  simp only [pm_ex, pm_i2] at h
  split at h
  · simp only [Option.some.injEq, Sum.inl.injEq] at h
    subst h
    exact lv_imul hx hb hd (kk H locs ls S)
  · cases h
theorem sx_iand (A : pw_A G mid p R s m args meth c) (hd : decode (pt_bytes mid) pc = .ok (.iand, n)) (hi : pl_i mid pc n v a b ts (.iand) = true) (h : pm_ex (gX G) mid pc L st hp cs ss n v a b ts (.iand) = some (.inl q')) : pw_Nx G mid p l e R s m args below meth c Q (pc, L, st, hp, cs, ss) q' := by
  obtain ⟨hx, hb, hml, hown, hts, hin, hlk, hK, hO, hR, hm⟩ := A
  intro H locs ls S kk
  have hn := Nat.eq_of_beq_eq_true hi
  subst hn
  simp only [pm_ex, pm_i2] at h
  split at h
  · simp only [Option.some.injEq, Sum.inl.injEq] at h
    subst h
    exact lv_iand hx hb hd (kk H locs ls S)
  · cases h
theorem sx_ior (A : pw_A G mid p R s m args meth c) (hd : decode (pt_bytes mid) pc = .ok (.ior, n)) (hi : pl_i mid pc n v a b ts (.ior) = true) (h : pm_ex (gX G) mid pc L st hp cs ss n v a b ts (.ior) = some (.inl q')) : pw_Nx G mid p l e R s m args below meth c Q (pc, L, st, hp, cs, ss) q' := by
  obtain ⟨hx, hb, hml, hown, hts, hin, hlk, hK, hO, hR, hm⟩ := A
  intro H locs ls S kk
  have hn := Nat.eq_of_beq_eq_true hi
  subst hn
  simp only [pm_ex, pm_i2] at h
  split at h
  · simp only [Option.some.injEq, Sum.inl.injEq] at h
    subst h
    exact lv_ior hx hb hd (kk H locs ls S)
  · cases h
theorem sx_ixor (A : pw_A G mid p R s m args meth c) (hd : decode (pt_bytes mid) pc = .ok (.ixor, n)) (hi : pl_i mid pc n v a b ts (.ixor) = true) (h : pm_ex (gX G) mid pc L st hp cs ss n v a b ts (.ixor) = some (.inl q')) : pw_Nx G mid p l e R s m args below meth c Q (pc, L, st, hp, cs, ss) q' := by
  obtain ⟨hx, hb, hml, hown, hts, hin, hlk, hK, hO, hR, hm⟩ := A
  intro H locs ls S kk
  have hn := Nat.eq_of_beq_eq_true hi
  subst hn
  simp only [pm_ex, pm_i2] at h
  split at h
  · simp only [Option.some.injEq, Sum.inl.injEq] at h
    subst h
    exact lv_ixor hx hb hd (kk H locs ls S)
  · cases h
theorem sx_ishl (A : pw_A G mid p R s m args meth c) (hd : decode (pt_bytes mid) pc = .ok (.ishl, n)) (hi : pl_i mid pc n v a b ts (.ishl) = true) (h : pm_ex (gX G) mid pc L st hp cs ss n v a b ts (.ishl) = some (.inl q')) : pw_Nx G mid p l e R s m args below meth c Q (pc, L, st, hp, cs, ss) q' := by
  obtain ⟨hx, hb, hml, hown, hts, hin, hlk, hK, hO, hR, hm⟩ := A
  intro H locs ls S kk
  have hn := Nat.eq_of_beq_eq_true hi
  subst hn
  simp only [pm_ex, pm_i2] at h
  split at h
  · simp only [Option.some.injEq, Sum.inl.injEq] at h
    subst h
    exact lv_ishl hx hb hd (kk H locs ls S)
  · cases h
theorem sx_ishr (A : pw_A G mid p R s m args meth c) (hd : decode (pt_bytes mid) pc = .ok (.ishr, n)) (hi : pl_i mid pc n v a b ts (.ishr) = true) (h : pm_ex (gX G) mid pc L st hp cs ss n v a b ts (.ishr) = some (.inl q')) : pw_Nx G mid p l e R s m args below meth c Q (pc, L, st, hp, cs, ss) q' := by
  obtain ⟨hx, hb, hml, hown, hts, hin, hlk, hK, hO, hR, hm⟩ := A
  intro H locs ls S kk
  have hn := Nat.eq_of_beq_eq_true hi
  subst hn
  simp only [pm_ex, pm_i2] at h
  split at h
  · simp only [Option.some.injEq, Sum.inl.injEq] at h
    subst h
    exact lv_ishr hx hb hd (kk H locs ls S)
  · cases h
theorem sx_iushr (A : pw_A G mid p R s m args meth c) (hd : decode (pt_bytes mid) pc = .ok (.iushr, n)) (hi : pl_i mid pc n v a b ts (.iushr) = true) (h : pm_ex (gX G) mid pc L st hp cs ss n v a b ts (.iushr) = some (.inl q')) : pw_Nx G mid p l e R s m args below meth c Q (pc, L, st, hp, cs, ss) q' := by
  obtain ⟨hx, hb, hml, hown, hts, hin, hlk, hK, hO, hR, hm⟩ := A
  intro H locs ls S kk
  have hn := Nat.eq_of_beq_eq_true hi
  subst hn
  simp only [pm_ex, pm_i2] at h
  split at h
  · simp only [Option.some.injEq, Sum.inl.injEq] at h
    subst h
    exact lv_iushr hx hb hd rfl (kk H locs ls S)
  · cases h
theorem sx_ladd (A : pw_A G mid p R s m args meth c) (hd : decode (pt_bytes mid) pc = .ok (.ladd, n)) (hi : pl_i mid pc n v a b ts (.ladd) = true) (h : pm_ex (gX G) mid pc L st hp cs ss n v a b ts (.ladd) = some (.inl q')) : pw_Nx G mid p l e R s m args below meth c Q (pc, L, st, hp, cs, ss) q' := by
  obtain ⟨hx, hb, hml, hown, hts, hin, hlk, hK, hO, hR, hm⟩ := A
  intro H locs ls S kk
  have hn := Nat.eq_of_beq_eq_true hi
  subst hn
  simp only [pm_ex, pm_l2] at h
  split at h
  · simp only [Option.some.injEq, Sum.inl.injEq] at h
    subst h
    exact lv_ladd hx hb hd (kk H locs ls S)
  · cases h
theorem sx_lsub (A : pw_A G mid p R s m args meth c) (hd : decode (pt_bytes mid) pc = .ok (.lsub, n)) (hi : pl_i mid pc n v a b ts (.lsub) = true) (h : pm_ex (gX G) mid pc L st hp cs ss n v a b ts (.lsub) = some (.inl q')) : pw_Nx G mid p l e R s m args below meth c Q (pc, L, st, hp, cs, ss) q' := by
  obtain ⟨hx, hb, hml, hown, hts, hin, hlk, hK, hO, hR, hm⟩ := A
  intro H locs ls S kk
  have hn := Nat.eq_of_beq_eq_true hi
  subst hn
  simp only [pm_ex, pm_l2] at h
  split at h
  · simp only [Option.some.injEq, Sum.inl.injEq] at h
    subst h
    exact lv_lsub hx hb hd (kk H locs ls S)
  · cases h
theorem sx_lmul (A : pw_A G mid p R s m args meth c) (hd : decode (pt_bytes mid) pc = .ok (.lmul, n)) (hi : pl_i mid pc n v a b ts (.lmul) = true) (h : pm_ex (gX G) mid pc L st hp cs ss n v a b ts (.lmul) = some (.inl q')) : pw_Nx G mid p l e R s m args below meth c Q (pc, L, st, hp, cs, ss) q' := by
  obtain ⟨hx, hb, hml, hown, hts, hin, hlk, hK, hO, hR, hm⟩ := A
  intro H locs ls S kk
  have hn := Nat.eq_of_beq_eq_true hi
  subst hn
  simp only [pm_ex, pm_l2] at h
  split at h
  · simp only [Option.some.injEq, Sum.inl.injEq] at h
    subst h
    exact lv_lmul hx hb hd (kk H locs ls S)
  · cases h
theorem sx_land (A : pw_A G mid p R s m args meth c) (hd : decode (pt_bytes mid) pc = .ok (.land, n)) (hi : pl_i mid pc n v a b ts (.land) = true) (h : pm_ex (gX G) mid pc L st hp cs ss n v a b ts (.land) = some (.inl q')) : pw_Nx G mid p l e R s m args below meth c Q (pc, L, st, hp, cs, ss) q' := by
  obtain ⟨hx, hb, hml, hown, hts, hin, hlk, hK, hO, hR, hm⟩ := A
  intro H locs ls S kk
  have hn := Nat.eq_of_beq_eq_true hi
  subst hn
  simp only [pm_ex, pm_l2] at h
  split at h
  · simp only [Option.some.injEq, Sum.inl.injEq] at h
    subst h
    exact lv_land hx hb hd (kk H locs ls S)
  · cases h
theorem sx_lor (A : pw_A G mid p R s m args meth c) (hd : decode (pt_bytes mid) pc = .ok (.lor, n)) (hi : pl_i mid pc n v a b ts (.lor) = true) (h : pm_ex (gX G) mid pc L st hp cs ss n v a b ts (.lor) = some (.inl q')) : pw_Nx G mid p l e R s m args below meth c Q (pc, L, st, hp, cs, ss) q' := by
  obtain ⟨hx, hb, hml, hown, hts, hin, hlk, hK, hO, hR, hm⟩ := A
  intro H locs ls S kk
  have hn := Nat.eq_of_beq_eq_true hi
  subst hn
  simp only [pm_ex, pm_l2] at h
  split at h
  · simp only [Option.some.injEq, Sum.inl.injEq] at h
    subst h
    exact lv_lor hx hb hd (kk H locs ls S)
  · cases h
theorem sx_lshl (A : pw_A G mid p R s m args meth c) (hd : decode (pt_bytes mid) pc = .ok (.lshl, n)) (hi : pl_i mid pc n v a b ts (.lshl) = true) (h : pm_ex (gX G) mid pc L st hp cs ss n v a b ts (.lshl) = some (.inl q')) : pw_Nx G mid p l e R s m args below meth c Q (pc, L, st, hp, cs, ss) q' := by
  obtain ⟨hx, hb, hml, hown, hts, hin, hlk, hK, hO, hR, hm⟩ := A
  intro H locs ls S kk
  have hn := Nat.eq_of_beq_eq_true hi
  subst hn
  simp only [pm_ex, pm_ls] at h
  split at h
  · simp only [Option.some.injEq, Sum.inl.injEq] at h
    subst h
    exact lv_lshl hx hb hd rfl (kk H locs ls S)
  · cases h
theorem sx_lshr (A : pw_A G mid p R s m args meth c) (hd : decode (pt_bytes mid) pc = .ok (.lshr, n)) (hi : pl_i mid pc n v a b ts (.lshr) = true) (h : pm_ex (gX G) mid pc L st hp cs ss n v a b ts (.lshr) = some (.inl q')) : pw_Nx G mid p l e R s m args below meth c Q (pc, L, st, hp, cs, ss) q' := by
  obtain ⟨hx, hb, hml, hown, hts, hin, hlk, hK, hO, hR, hm⟩ := A
  intro H locs ls S kk
  have hn := Nat.eq_of_beq_eq_true hi
  subst hn
  simp only [pm_ex, pm_ls] at h
  split at h
  · simp only [Option.some.injEq, Sum.inl.injEq] at h
    subst h
    exact lv_lshr hx hb hd rfl (kk H locs ls S)
  · cases h
theorem sx_i2l (A : pw_A G mid p R s m args meth c) (hd : decode (pt_bytes mid) pc = .ok (.i2l, n)) (hi : pl_i mid pc n v a b ts (.i2l) = true) (h : pm_ex (gX G) mid pc L st hp cs ss n v a b ts (.i2l) = some (.inl q')) : pw_Nx G mid p l e R s m args below meth c Q (pc, L, st, hp, cs, ss) q' := by
  obtain ⟨hx, hb, hml, hown, hts, hin, hlk, hK, hO, hR, hm⟩ := A
  intro H locs ls S kk
  have hn := Nat.eq_of_beq_eq_true hi
  subst hn
  simp only [pm_ex] at h
  split at h
  · simp only [Option.some.injEq, Sum.inl.injEq] at h
    subst h
    exact lv_i2l hx hb hd rfl (kk H locs ls S)
  · cases h
theorem sx_l2i (A : pw_A G mid p R s m args meth c) (hd : decode (pt_bytes mid) pc = .ok (.l2i, n)) (hi : pl_i mid pc n v a b ts (.l2i) = true) (h : pm_ex (gX G) mid pc L st hp cs ss n v a b ts (.l2i) = some (.inl q')) : pw_Nx G mid p l e R s m args below meth c Q (pc, L, st, hp, cs, ss) q' := by
  obtain ⟨hx, hb, hml, hown, hts, hin, hlk, hK, hO, hR, hm⟩ := A
  intro H locs ls S kk
  have hn := Nat.eq_of_beq_eq_true hi
  subst hn
  simp only [pm_ex] at h
  split at h
  · simp only [Option.some.injEq, Sum.inl.injEq] at h
    subst h
    exact lv_l2i hx hb hd rfl (kk H locs ls S)
  · cases h
theorem sx_i2c (A : pw_A G mid p R s m args meth c) (hd : decode (pt_bytes mid) pc = .ok (.i2c, n)) (hi : pl_i mid pc n v a b ts (.i2c) = true) (h : pm_ex (gX G) mid pc L st hp cs ss n v a b ts (.i2c) = some (.inl q')) : pw_Nx G mid p l e R s m args below meth c Q (pc, L, st, hp, cs, ss) q' := by
  obtain ⟨hx, hb, hml, hown, hts, hin, hlk, hK, hO, hR, hm⟩ := A
  intro H locs ls S kk
  have hn := Nat.eq_of_beq_eq_true hi
  subst hn
  simp only [pm_ex] at h
  split at h
  · simp only [Option.some.injEq, Sum.inl.injEq] at h
    subst h
    exact lv_i2c hx hb hd rfl (kk H locs ls S)
  · cases h
theorem sx_lcmp (A : pw_A G mid p R s m args meth c) (hd : decode (pt_bytes mid) pc = .ok (.lcmp, n)) (hi : pl_i mid pc n v a b ts (.lcmp) = true) (h : pm_ex (gX G) mid pc L st hp cs ss n v a b ts (.lcmp) = some (.inl q')) : pw_Nx G mid p l e R s m args below meth c Q (pc, L, st, hp, cs, ss) q' := by
  obtain ⟨hx, hb, hml, hown, hts, hin, hlk, hK, hO, hR, hm⟩ := A
  intro H locs ls S kk
  have hn := Nat.eq_of_beq_eq_true hi
  subst hn
  simp only [pm_ex] at h
  split at h
  · simp only [Option.some.injEq, Sum.inl.injEq] at h
    subst h
    exact W.lcmp hx hb hd (kk H locs ls S)
  · cases h
theorem sx_ifCond (A : pw_A G mid p R s m args meth c) {k : ClassFile.Cond} {d : Int} (hd : decode (pt_bytes mid) pc = .ok (.ifCond k d, n)) (hi : pl_i mid pc n v a b ts (.ifCond k d) = true) (h : pm_ex (gX G) mid pc L st hp cs ss n v a b ts (.ifCond k d) = some (.inl q')) : pw_Nx G mid p l e R s m args below meth c Q (pc, L, st, hp, cs, ss) q' := by
  obtain ⟨hx, hb, hml, hown, hts, hin, hlk, hK, hO, hR, hm⟩ := A
  intro H locs ls S kk
  simp only [pl_i, Bool.and_eq_true, decide_eq_true_eq] at hi
  have hn := Nat.eq_of_beq_eq_true hi.1
  subst hn
  simp only [pm_ex] at h
  split at h
  · simp only [Option.some.injEq, Sum.inl.injEq] at h
    subst h
    have kk := kk H locs ls S
    cases k
    · exact lv_if_eq hx hb hd hi.2 (fun hc => by simp only [pw_W, pm_c, if_pos hc] at kk; exact kk) (fun hc => by simp only [pw_W, pm_c, if_neg hc] at kk; exact kk)
    · exact lv_if_ne hx hb hd hi.2 (fun hc => by simp only [pw_W, pm_c, if_neg hc] at kk; exact kk) (fun hc => by simp only [pw_W, pm_c, if_pos hc] at kk; exact kk)
    · exact lv_if_lt hx hb hd hi.2 (fun hc => by simp only [pw_W, pm_c, if_pos hc] at kk; exact kk) (fun hc => by simp only [pw_W, pm_c, if_neg hc] at kk; exact kk)
    · exact lv_if_ge hx hb hd hi.2 (fun hc => by simp only [pw_W, pm_c, if_neg (Int32.not_lt.mpr hc)] at kk; exact kk) (fun hc => by simp only [pw_W, pm_c, if_pos (Int32.not_le.mp hc)] at kk; exact kk)
    · exact lv_if_gt hx hb hd hi.2 (fun hc => by simp only [pw_W, pm_c, if_pos hc] at kk; exact kk) (fun hc => by simp only [pw_W, pm_c, if_neg hc] at kk; exact kk)
    · exact lv_if_le hx hb hd hi.2 (fun hc => by simp only [pw_W, pm_c, if_neg (Int32.not_lt.mpr hc)] at kk; exact kk) (fun hc => by simp only [pw_W, pm_c, if_pos (Int32.not_le.mp hc)] at kk; exact kk)
  · cases h
theorem sx_if_icmp (A : pw_A G mid p R s m args meth c) {k : ClassFile.Cond} {d : Int} (hd : decode (pt_bytes mid) pc = .ok (.if_icmp k d, n)) (hi : pl_i mid pc n v a b ts (.if_icmp k d) = true) (h : pm_ex (gX G) mid pc L st hp cs ss n v a b ts (.if_icmp k d) = some (.inl q')) : pw_Nx G mid p l e R s m args below meth c Q (pc, L, st, hp, cs, ss) q' := by
  obtain ⟨hx, hb, hml, hown, hts, hin, hlk, hK, hO, hR, hm⟩ := A
  intro H locs ls S kk
  simp only [pl_i, Bool.and_eq_true, decide_eq_true_eq] at hi
  have hn := Nat.eq_of_beq_eq_true hi.1
  subst hn
  simp only [pm_ex] at h
  split at h
  · simp only [Option.some.injEq, Sum.inl.injEq] at h
    subst h
    have kk := kk H locs ls S
    cases k
    · exact lv_icmp_eq hx hb hd hi.2 (fun hc => by simp only [pw_W, pm_c, if_pos hc] at kk; exact kk) (fun hc => by simp only [pw_W, pm_c, if_neg hc] at kk; exact kk)
    · exact lv_icmp_ne hx hb hd hi.2 (fun hc => by simp only [pw_W, pm_c, if_neg hc] at kk; exact kk) (fun hc => by simp only [pw_W, pm_c, if_pos hc] at kk; exact kk)
    · exact lv_icmp_lt hx hb hd hi.2 (fun hc => by simp only [pw_W, pm_c, if_pos hc] at kk; exact kk) (fun hc => by simp only [pw_W, pm_c, if_neg hc] at kk; exact kk)
    · exact lv_icmp_ge hx hb hd hi.2 (fun hc => by simp only [pw_W, pm_c, if_neg (Int32.not_lt.mpr hc)] at kk; exact kk) (fun hc => by simp only [pw_W, pm_c, if_pos (Int32.not_le.mp hc)] at kk; exact kk)
    · exact lv_icmp_gt hx hb hd hi.2 (fun hc => by simp only [pw_W, pm_c, if_pos hc] at kk; exact kk) (fun hc => by simp only [pw_W, pm_c, if_neg hc] at kk; exact kk)
    · exact lv_icmp_le hx hb hd hi.2 (fun hc => by simp only [pw_W, pm_c, if_neg (Int32.not_lt.mpr hc)] at kk; exact kk) (fun hc => by simp only [pw_W, pm_c, if_pos (Int32.not_le.mp hc)] at kk; exact kk)
  · cases h
theorem sx_goto (A : pw_A G mid p R s m args meth c) {d : Int} (hd : decode (pt_bytes mid) pc = .ok (.goto d, n)) (hi : pl_i mid pc n v a b ts (.goto d) = true) (h : pm_ex (gX G) mid pc L st hp cs ss n v a b ts (.goto d) = some (.inl q')) : pw_Nx G mid p l e R s m args below meth c Q (pc, L, st, hp, cs, ss) q' := by
  obtain ⟨hx, hb, hml, hown, hts, hin, hlk, hK, hO, hR, hm⟩ := A
  intro H locs ls S kk
  simp only [pl_i, Bool.and_eq_true, decide_eq_true_eq] at hi
  have hn := Nat.eq_of_beq_eq_true hi.1
  subst hn
  simp only [pm_ex, Option.some.injEq, Sum.inl.injEq] at h
  subst h
  exact lv_goto hx hb hd hi.2 (kk H locs ls S)
theorem sx_tableswitch (A : pw_A G mid p R s m args meth c) {d lo h2 : Int} {offs : Array Int} (hd : decode (pt_bytes mid) pc = .ok (.tableswitch d lo h2 offs, n)) (hi : pl_i mid pc n v a b ts (.tableswitch d lo h2 offs) = true) (h : pm_ex (gX G) mid pc L st hp cs ss n v a b ts (.tableswitch d lo h2 offs) = some (.inl q')) : pw_Nx G mid p l e R s m args below meth c Q (pc, L, st, hp, cs, ss) q' := by
  obtain ⟨hx, hb, hml, hown, hts, hin, hlk, hK, hO, hR, hm⟩ := A
  intro H locs ls S kk
  simp only [pl_i, Bool.and_eq_true, decide_eq_true_eq] at hi
  obtain ⟨⟨⟨⟨g1, g2⟩, g3⟩, g4⟩, g5⟩ := hi
  subst g1
  have g5 : ts.length < 100 := by simpa [Nat.blt_eq] using g5
  simp only [pm_ex] at h
  split at h
  · rename_i x r
    simp only [Option.some.injEq, Sum.inl.injEq] at h
    subst h
    have kk := kk H locs ls S
    simp only [pw_W] at kk
    by_cases hr : x.toInt < 0 ∨ h2 < x.toInt
    · refine lv_tableOut hx hb hd hr g2 ?_
      have e : pm_sw x ts 0 a = a := by
        refine sw_out ts 0 (fun i hi q => ?_)
        rw [Nat.zero_add] at q
        have ht : x.toInt = (i : Int) := by rw [q]; exact nI_toInt (by omega)
        omega
      rw [e] at kk
      exact kk
    · have h0 : 0 ≤ x.toInt := by omega
      obtain ⟨i, hi⟩ : ∃ i : Nat, x.toInt = (i : Int) := ⟨x.toInt.toNat, by omega⟩
      have hil : i < ts.length := by omega
      have hxi : x = Int32.ofNat (0 + i) := by
        rw [Nat.zero_add]
        apply Int32.toInt_inj.mp
        rw [hi]
        exact (nI_toInt (by omega)).symm
      have e := sw_in (d := a) ts 0 i hil (by omega)
      rw [← hxi] at e
      have h5 : (offs.toList.map (fun o => (pc : Int) + o))[i]? = (ts.map (fun t : Nat => (t : Int)))[i]? := by rw [g4]
      rw [List.getElem?_map, List.getElem?_map, ← e] at h5
      cases ho : offs.toList[i]? with
      | none => rw [ho] at h5; cases h5
      | some off =>
        rw [ho] at h5
        simp only [Option.map_some, Option.some.injEq] at h5
        refine lv_tableIn (off := off) hx hb hd (by omega) (by omega) ?_ h5 kk
        rw [hi, Int.sub_zero, Int.toNat_natCast, ← Array.getElem?_toList]
        exact ho
  · cases h
theorem sx_dup (A : pw_A G mid p R s m args meth c) (hd : decode (pt_bytes mid) pc = .ok (.dup, n)) (hi : pl_i mid pc n v a b ts (.dup) = true) (h : pm_ex (gX G) mid pc L st hp cs ss n v a b ts (.dup) = some (.inl q')) : pw_Nx G mid p l e R s m args below meth c Q (pc, L, st, hp, cs, ss) q' := by
  obtain ⟨hx, hb, hml, hown, hts, hin, hlk, hK, hO, hR, hm⟩ := A
  intro H locs ls S kk
  have hn := Nat.eq_of_beq_eq_true hi
  subst hn
  simp only [pm_ex] at h
  split at h
  · rename_i v r
    cases hc : Nat.beq v.category 1 with
    | false => rw [hc] at h; cases h
    | true =>
      rw [hc] at h
      simp only [cond, Option.some.injEq, Sum.inl.injEq] at h
      subst h
      exact lv_dup hx hb hd (by rw [vl_cat hO.2.2.2.2.2.2.2.1]; exact Nat.eq_of_beq_eq_true hc) (kk H locs ls S)
  · cases h
theorem sx_pop (A : pw_A G mid p R s m args meth c) (hd : decode (pt_bytes mid) pc = .ok (.pop, n)) (hi : pl_i mid pc n v a b ts (.pop) = true) (h : pm_ex (gX G) mid pc L st hp cs ss n v a b ts (.pop) = some (.inl q')) : pw_Nx G mid p l e R s m args below meth c Q (pc, L, st, hp, cs, ss) q' := by
  obtain ⟨hx, hb, hml, hown, hts, hin, hlk, hK, hO, hR, hm⟩ := A
  intro H locs ls S kk
  have hn := Nat.eq_of_beq_eq_true hi
  subst hn
  simp only [pm_ex] at h
  split at h
  · rename_i v r
    cases hc : Nat.beq v.category 1 with
    | false => rw [hc] at h; cases h
    | true =>
      rw [hc] at h
      simp only [cond, Option.some.injEq, Sum.inl.injEq] at h
      subst h
      exact lv_pop hx hb hd (by rw [vl_cat hO.2.2.2.2.2.2.2.1]; exact Nat.eq_of_beq_eq_true hc) (kk H locs ls S)
  · cases h
theorem sx_dup2 (A : pw_A G mid p R s m args meth c) (hd : decode (pt_bytes mid) pc = .ok (.dup2, n)) (hi : pl_i mid pc n v a b ts (.dup2) = true) (h : pm_ex (gX G) mid pc L st hp cs ss n v a b ts (.dup2) = some (.inl q')) : pw_Nx G mid p l e R s m args below meth c Q (pc, L, st, hp, cs, ss) q' := by
  obtain ⟨hx, hb, hml, hown, hts, hin, hlk, hK, hO, hR, hm⟩ := A
  intro H locs ls S kk
  have hn := Nat.eq_of_beq_eq_true hi
  subst hn
  simp only [pm_ex] at h
  split at h
  · rename_i v w r
    cases hc : (Nat.beq v.category 1 && Nat.beq w.category 1) with
    | false => rw [hc] at h; cases h
    | true =>
      rw [hc] at h
      simp only [cond, Option.some.injEq, Sum.inl.injEq] at h
      subst h
      simp only [Bool.and_eq_true] at hc
      exact lv_dup2_11 hx hb hd (by rw [vl_cat hO.2.2.2.2.2.2.2.1]; exact Nat.eq_of_beq_eq_true hc.1) (by rw [vl_cat hO.2.2.2.2.2.2.2.1]; exact Nat.eq_of_beq_eq_true hc.2) (kk H locs ls S)
  · cases h
end SX
