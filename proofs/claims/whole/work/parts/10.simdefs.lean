/-! THE SIMULATION: what the pure machine's states are on the machine. G: the first own address, the old cells' addresses, a static nobody reads, the classes, the array classes, the script -/
abbrev PG : Type := Nat × (Nat → Nat) × Value × va_G × (ClassId × ClassId × ClassId × ClassId) × (Nat × (Nat → Int32))
abbrev gz (G : PG) : Nat := G.1
abbrev go (G : PG) : Nat → Nat := G.2.1
abbrev gs (G : PG) : Value := G.2.2.1
abbrev gD (G : PG) : va_G := G.2.2.2.1
abbrev gA (G : PG) : ClassId × ClassId × ClassId × ClassId := G.2.2.2.2.1
abbrev gX (G : PG) : Nat × (Nat → Int32) := G.2.2.2.2.2
def rn (G : PG) (r : Nat) : Nat := if r < 2000 then gz G + (r - 1) else go G r
def vl (G : PG) : Value → Value
  | .ref r => if r = 2300 then gs G else .ref (rn G r)
  | v => v
def rno (G : PG) : Nat → Option Nat
  | 0 => none
  | k + 1 => some (rn G (k + 1))
def pw_fv (G : PG) (M : PMm) (o j t : Nat) : Value := match t with
  | 0 => .int (M.1 o j)
  | 1 => .long (M.2.1 o j)
  | _ => va_rf (rno G (pm_rd M.2.2 o j))
def pw_fs (G : PG) (M : PMm) (o c : Nat) : List Value := (List.range (pt_fty c).length).map (fun j => pw_fv G M o j ((pt_fty c).getD j 9))
def pw_e (G : PG) (M : PMm) (o : Nat) (q : Nat × Nat) : va_E := match q.1 with
  | 0 => .inl ((gA G).1, q.2, .inl (M.1 o))
  | 1 => .inl ((gA G).2.1, q.2, .inl (M.1 o))
  | 2 => .inl ((gA G).2.2.1, q.2, .inr (.inl (M.2.1 o)))
  | 3 => .inl ((gA G).2.2.2, q.2, .inr (.inr (.inr (.inr (fun j => rno G (pm_rd M.2.2 o j))))))
  | _ => .inr (q.2, pw_fs G M o q.2)
def pw_ws (G : PG) (h : PHp) : va_W := (List.range h.1.length).map (fun k => (gz G + k, pw_e G h.2 (k + 1) (h.1.getD k (9, 0))))
def pw_tys (G : PG) : List (ClassId × FieldType) := [((gA G).1, .int), ((gA G).2.1, .boolean), ((gA G).2.2.1, .long), ((gA G).2.2.2, .object "ClaimTrees$Rules")]
def pw_H (G : PG) (h : PHp) (H : Heap) : Prop := H.size = gz G + h.1.length ∧ va_P (gD G) vwCl (pw_ws G h) H
def pw_Ag (G : PG) : Nat → Prop := fun q => gz G ≤ q
/-- what was there before, and what no call changes -/
def pw_O (G : PG) (U : State) : Prop :=
  gz G ≤ U.heap.size ∧ va_X (go G 2000) (gX G).1 (gX G).2 U U.heap ∧ go G 2000 < gz G
  ∧ (∀ i, i < 3 → va_Z (pt_stat.getD i ("", "", "", .null)).1 (pt_stat.getD i ("", "", "", .null)).2.1 (pt_stat.getD i ("", "", "", .null)).2.2.1 (.ref (go G (2001 + i))) (pw_Ag G) U U.heap)
  ∧ (∀ i, i < 3 → va_T .int (go G (2001 + i)) 6 (fun j => .int ((pm_old (gX G) (2001 + i)).2 j)) (pw_Ag G) U U.heap)
  ∧ va_Z "java/lang/String" "COMPACT_STRINGS" "Z" (.int 1) (pw_Ag G) U U.heap
  ∧ va_Z "jdk/internal/util/Preconditions" "SIOOBE_FORMATTER" "Ljava/util/function/BiFunction;" (gs G) (pw_Ag G) U U.heap
  ∧ (gs G).category = 1
  ∧ vk_S 10 (pt_str.map List.length) pt_str (fun i => go G (2100 + i)) (fun i => go G (2200 + i)) (pw_Ag G) U U.heap
  ∧ (∀ i, i < 10 → vk_R (pt_sr.getD i ("", 0, "")).1 (pt_sr.getD i ("", 0, "")).2.1 (pt_sr.getD i ("", 0, "")).2.2 (go G (2100 + i)) U)
  ∧ (∀ w ∈ pt_nest, va_Nw w U) ∧ va_AO "ClaimTrees$Rules" U
def pw_A (G : PG) (mid : Nat) (p : Program) (R : Room) (s : State) (m : MethodId) (args : Array Value) (meth : Method) (c : Code) : Prop :=
  p.tables.exec = Jvm.exec ∧ c.code = pt_bytes mid ∧ c.maxLocals = pt_maxL mid ∧ s.vm.findClass (pl_own mid) = some m.cls ∧ (∀ w ∈ lw_g, w.before args s = true) ∧ (pt_init mid = true → meth.name = "<init>") ∧ meth.locks = false
  ∧ va_K (gD G) vwCl (pw_tys G) s ∧ pw_O G s ∧ (mid + 1 ≤ R.frames ∧ 40 * (mid + 1) ≤ R.locals ∧ pt_mc mid ≤ R.cells ∧ pt_ms mid ≤ R.slots) ∧ mid < 192
def pw_L (G : PG) (L : List Value) : List (Nat × Value) := (List.range L.length).filterMap (fun i => match L.getD i .null with
  | .retAddr _ => none
  | .double _ => none
  | v => some (i, vl G v))
def pw_S (G : PG) (mid : Nat) (s : State) (H : Heap) (locs : List Loc) (ls : Array Slot) (q : PCf) : Prop :=
  lv_has ls (pt_maxL mid) (pw_L G q.2.1) ∧ q.2.1.length = pt_maxL mid ∧ pw_H G q.2.2.2.1 H ∧ va_S (pw_Ag G) s.heap H locs ∧ q.2.2.2.2.1 ≤ pt_mc mid ∧ q.2.2.2.2.2 ≤ pt_ms mid
abbrev pw_W (G : PG) (p : Program) (l : Launch) (e : Env) (R : Room) (s : State) (m : MethodId) (args : Array Value) (below : List Frame) (meth : Method) (c : Code) (Q : State → Prop) (H : Heap) (locs : List Loc) (ls : Array Slot) (q : PCf) : Prop :=
  W p l e R s m args below meth c H locs q.2.2.2.2.1 q.2.2.2.2.2 Q (F0 m q.1 ls (q.2.2.1.map (vl G)))
theorem ws_get (G : PG) (h : PHp) {k : Nat} (hk : k < h.1.length) : (pw_ws G h)[k]? = some (gz G + k, pw_e G h.2 (k + 1) (h.1.getD k (9, 0))) := by
  simp [pw_ws, List.getElem?_map, hk]
theorem ws_len (G : PG) (h : PHp) : (pw_ws G h).length = h.1.length := by simp [pw_ws]
theorem ws_D (G : PG) (h : PHp) : va_D (pw_Ag G) (pw_ws G h) := by
  have key : ∀ (k : Nat) (q : Nat × va_E), (pw_ws G h)[k]? = some q → q.1 = gz G + k := by
    intro k q hk
    have hl : k < h.1.length := by rw [← ws_len G h]; exact (List.getElem?_eq_some_iff.mp hk).1
    rw [ws_get G h hl] at hk
    cases hk
    rfl
  refine ⟨fun i j x y hi hj hxy => ?_, fun k q hk => ?_⟩
  · have h1 := key i x hi
    have h2 := key j y hj
    rw [h1, h2] at hxy
    omega
  · show gz G ≤ q.1
    rw [key k q hk]
    omega
/-- shapes: a ref of a known shape is a cell of the world -/
theorem sh_in {h : PHp} {o t n : Nat} (hs : pm_sh h o = (t, n)) (ht : t ≠ 9) : ∃ k, o = k + 1 ∧ k < h.1.length ∧ h.1.getD k (9, 0) = (t, n) := by
  cases o with
  | zero => cases hs; exact absurd rfl ht
  | succ k =>
    refine ⟨k, rfl, ?_, hs⟩
    by_cases hl : k < h.1.length
    · exact hl
    · exfalso
      have h1 : pm_sh h (k + 1) = h.1.getD k (9, 0) := rfl
      rw [h1] at hs
      have h2 : h.1.getD k (9, 0) = (9, 0) := by simp [List.getD, Nat.le_of_not_lt hl]
      rw [h2] at hs
      cases hs
      exact ht rfl
theorem obj_in {h : PHp} {o c : Nat} (hs : pm_obj h o c = true) : ∃ k, o = k + 1 ∧ k < h.1.length ∧ h.1.getD k (9, 0) = (4, c) ∧ o < 2000 := by
  simp only [pm_obj, Bool.and_eq_true] at hs
  have h1 := Nat.eq_of_beq_eq_true hs.1.1
  have h2 := Nat.eq_of_beq_eq_true hs.1.2
  have h3 : o < 2000 := by simpa [Nat.blt_eq] using hs.2
  obtain ⟨k, e1, e2, e3⟩ := sh_in (h := h) (o := o) (t := (pm_sh h o).1) (n := (pm_sh h o).2) rfl (by rw [h1]; decide)
  exact ⟨k, e1, e2, by rw [e3, h1, h2], h3⟩
theorem arr_in {h : PHp} {o t : Nat} (ht : t ≠ 9) (hs : pm_arr h o t = true) : ∃ k, o = k + 1 ∧ k < h.1.length ∧ h.1.getD k (9, 0) = (t, (pm_sh h o).2) ∧ o < 2000 := by
  simp only [pm_arr, Bool.and_eq_true] at hs
  have h1 := Nat.eq_of_beq_eq_true hs.1
  have h3 : o < 2000 := by simpa [Nat.blt_eq] using hs.2
  obtain ⟨k, e1, e2, e3⟩ := sh_in (h := h) (o := o) (t := (pm_sh h o).1) (n := (pm_sh h o).2) rfl (by rw [h1]; exact ht)
  exact ⟨k, e1, e2, by rw [e3, h1], h3⟩
theorem rn_own {G : PG} {k : Nat} (h : k + 1 < 2000) : rn G (k + 1) = gz G + k := by simp [rn, h]
theorem vl_own {G : PG} {k : Nat} (h : k + 1 < 2000) : vl G (.ref (k + 1)) = .ref (gz G + k) := by
  simp only [vl]
  rw [if_neg (show ¬ k + 1 = 2300 by omega), rn_own h]
theorem vl_old {G : PG} {r : Nat} (h : 2000 ≤ r) (h2 : r ≠ 2300) : vl G (.ref r) = .ref (go G r) := by
  simp only [vl, rn]
  rw [if_neg h2, if_neg (show ¬ r < 2000 by omega)]
theorem vl_cat {G : PG} (hg : (gs G).category = 1) (v : Value) : (vl G v).category = v.category := by
  cases v <;> try rfl
  rename_i r
  simp only [vl]
  split
  · exact hg
  · rfl
theorem pw_L_mem {G : PG} {L : List Value} {i : Nat} {v : Value} (hv : L.getD i .null = v) (hi : i < L.length) (hn : ∀ r, v ≠ .retAddr r) (hn2 : ∀ r, v ≠ .double r) : (i, vl G v) ∈ pw_L G L := by
  refine List.mem_filterMap.mpr ⟨i, List.mem_range.mpr hi, ?_⟩
  rw [hv]
  cases v <;> first | rfl | exact absurd rfl (hn _) | exact absurd rfl (hn2 _)
theorem pw_L_get {G : PG} {L : List Value} {ls : Array Slot} {n i : Nat} {v : Value} (h : lv_has ls n (pw_L G L)) (hv : L.getD i .null = v) (hn : ∀ r, v ≠ .retAddr r) (hn2 : ∀ r, v ≠ .double r) (h0 : v ≠ .null) : ls[i]? = some (.val (vl G v)) := by
  have hi : i < L.length := by
    by_cases hl : i < L.length
    · exact hl
    · exfalso
      apply h0
      rw [← hv]
      simp [List.getD, Nat.le_of_not_lt hl]
  exact h.2.2 _ (pw_L_mem hv hi hn hn2)
theorem pw_L_inv {G : PG} {L : List Value} {q : Nat × Value} (h : q ∈ pw_L G L) : q.1 < L.length ∧ ((∀ r, L.getD q.1 .null ≠ .retAddr r) ∧ ∀ r, L.getD q.1 .null ≠ .double r) ∧ q.2 = vl G (L.getD q.1 .null) := by
  obtain ⟨i, h1, h2⟩ := List.mem_filterMap.mp h
  have h1 := List.mem_range.mp h1
  split at h2
  · cases h2
  · cases h2
  · rename_i hx hx2
    cases h2
    exact ⟨h1, ⟨hx, hx2⟩, rfl⟩
/-- what is stored at i, the rest stays -/
theorem pw_L_set1 {G : PG} {L : List Value} {ls : Array Slot} {n i : Nat} {v : Value} (hg : (gs G).category = 1) (hok : pm_ok1 L i = true) (h : lv_has ls n ((i, vl G v) :: (pw_L G L).filter (fun q => !(q.1 == i) && !(q.1 + 1 == i && q.2.category == 2)))) : lv_has ls n (pw_L G (L.set i v)) := by
  refine ⟨h.1, h.2.1, fun q hq => ?_⟩
  obtain ⟨h1, h2, h3⟩ := pw_L_inv hq
  simp only [pm_ok1, Bool.and_eq_true] at hok
  by_cases hi : q.1 = i
  · have hl : i < L.length := by simpa [Nat.blt_eq] using hok.1
    have e : (L.set i v).getD q.1 .null = v := by simp [List.getD, hi, hl]
    rw [e] at h3
    apply h.2.2 q
    rw [List.mem_cons]
    left
    exact Prod.ext hi h3
  · have e : (L.set i v).getD q.1 .null = L.getD q.1 .null := by simp [List.getD, List.getElem?_set, Ne.symm hi]
    rw [e] at h2 h3
    apply h.2.2 q
    rw [List.mem_cons]
    right
    rw [List.length_set] at h1
    refine List.mem_filter.mpr ⟨?_, ?_⟩
    · have := pw_L_mem (G := G) (L := L) (i := q.1) rfl h1 h2.1 h2.2
      rw [← h3] at this
      exact this
    · simp only [Bool.and_eq_true, Bool.not_eq_true', beq_eq_false_iff_ne, Bool.and_eq_false_iff, ne_eq]
      refine ⟨hi, ?_⟩
      by_cases hj : q.1 + 1 = i
      · right
        have h5 := hok.2
        rw [← hj] at h5
        dsimp only at h5
        have h6 : q.2.category ≠ 2 := by
          rw [h3, vl_cat hg]
          cases hx : L.getD q.1 .null <;> rw [hx] at h5 <;> first | (cases h5; done) | (simp [Value.category]; done) | exact absurd hx (h2.2 _)
        simpa using h6
      · left; exact hj
theorem pw_L_set2 {G : PG} {L : List Value} {ls : Array Slot} {n i : Nat} {v : Value} (hg : (gs G).category = 1) (hok : pm_ok1 L i = true) (hi1 : i + 1 < L.length) (h : lv_has ls n ((i, vl G v) :: (pw_L G L).filter (fun q => !(q.1 == i) && (!(q.1 == i + 1) && !(q.1 + 1 == i && q.2.category == 2))))) : lv_has ls n (pw_L G ((L.set i v).set (i + 1) pm_nul)) := by
  refine ⟨h.1, h.2.1, fun q hq => ?_⟩
  obtain ⟨h1, h2, h3⟩ := pw_L_inv hq
  simp only [pm_ok1, Bool.and_eq_true] at hok
  have hl : i < L.length := by omega
  by_cases hi2 : q.1 = i + 1
  · exfalso
    have e : ((L.set i v).set (i + 1) pm_nul).getD q.1 .null = pm_nul := by simp [List.getD, hi2, hi1]
    exact h2.1 0 e
  · by_cases hi : q.1 = i
    · have e : ((L.set i v).set (i + 1) pm_nul).getD q.1 .null = v := by simp [List.getD, hi, hl, List.getElem?_set]
      rw [e] at h3
      apply h.2.2 q
      rw [List.mem_cons]
      left
      exact Prod.ext hi h3
    · have e : ((L.set i v).set (i + 1) pm_nul).getD q.1 .null = L.getD q.1 .null := by simp [List.getD, List.getElem?_set, Ne.symm hi, Ne.symm hi2]
      rw [e] at h2 h3
      apply h.2.2 q
      rw [List.mem_cons]
      right
      rw [List.length_set, List.length_set] at h1
      refine List.mem_filter.mpr ⟨?_, ?_⟩
      · have := pw_L_mem (G := G) (L := L) (i := q.1) rfl h1 h2.1 h2.2
        rw [← h3] at this
        exact this
      · simp only [Bool.and_eq_true, Bool.not_eq_true', beq_eq_false_iff_ne, Bool.and_eq_false_iff, ne_eq]
        refine ⟨hi, hi2, ?_⟩
        by_cases hj : q.1 + 1 = i
        · right
          have h5 := hok.2
          rw [← hj] at h5
          dsimp only at h5
          have h6 : q.2.category ≠ 2 := by
            rw [h3, vl_cat hg]
            cases hx : L.getD q.1 .null <;> rw [hx] at h5 <;> first | (cases h5; done) | (simp [Value.category]; done) | exact absurd hx (h2.2 _)
          simpa using h6
        · left; exact hj
