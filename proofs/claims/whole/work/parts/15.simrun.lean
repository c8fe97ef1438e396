theorem ob_i : Cond.instanceMethod objectInit ∈ lw_g := pl_w_in (p := 76) (by decide +kernel)
theorem ob_c : Cond.code objectInit ⟨#[0xb1]⟩ 1 none ∈ lw_g := pl_w_in (p := 77) (by decide +kernel)
theorem mi_s : Cond.static Lib.Math.min.name ∈ lw_g := pl_w_in (p := 538) (by decide +kernel)
theorem mi_c : Cond.code Lib.Math.min.name Lib.Math.min.code 2 (some .int) ∈ lw_g := pl_w_in (p := 539) (by decide +kernel)
theorem ma_s : Cond.static Lib.Math.max.name ∈ lw_g := pl_w_in (p := 905) (by decide +kernel)
theorem ma_c : Cond.code Lib.Math.max.name Lib.Math.max.code 2 (some .int) ∈ lw_g := pl_w_in (p := 906) (by decide +kernel)
theorem mm_i : Cond.initialized "java/lang/Math" ∈ lw_g := pl_w_in (p := 65) (by decide +kernel)
def pr_ok (mid : Nat) (q : Nat × PIn) : Bool := match q.2.1 with
  | .ireturn => Nat.beq (pt_ret mid) 1 || Nat.beq (pt_ret mid) 2 || Nat.beq (pt_ret mid) 4 || Nat.beq (pt_ret mid) 5
  | .lreturn => Nat.beq (pt_ret mid) 3
  | .return_ => Nat.beq (pt_ret mid) 0
  | _ => true
theorem pr_all : ∀ m, m < 192 → (pt_code m).all (pr_ok m) = true := by decide +kernel
theorem lk_mem : ∀ {l : List (Nat × PIn)} {pc : Nat} {i : PIn}, pm_lk l pc = some i → (pc, i) ∈ l := by
  intro l
  induction l with
  | nil => intro pc i h; cases h
  | cons q r ih =>
    intro pc i h
    rw [pm_lk] at h
    cases hb : Nat.beq q.1 pc with
    | true =>
      rw [hb] at h
      cases h
      have := Nat.eq_of_beq_eq_true hb
      rw [← this]
      exact List.mem_cons_self
    | false =>
      rw [hb] at h
      exact List.mem_cons_of_mem _ (ih h)
theorem pm_ok_of {mid : Nat} (hm : mid < 191) : (Cond.initialized (pl_own mid)) ∈ lw_g ∧ (if pt_st mid = true then Cond.static (pt_y mid) ∈ lw_g else Cond.instanceMethod (pt_y mid) ∈ lw_g) ∧ (pl_own mid ≠ "java/lang/invoke/MethodHandle" ∧ pl_own mid ≠ "java/lang/invoke/VarHandle") ∧ pt_maxL mid ≤ 12 ∧ (pt_init mid = decide ((pt_y mid).name = "<init>")) ∧ pt_retT mid = [none, some .int, some .boolean, some .long, some .char, some .byte].getD (pt_ret mid) none ∧ ((pt_cls mid < 12 ∧ (vwCl.getD (pt_cls mid) ("", TX0, 0)).1 = pl_own mid) ∨ (pt_cls mid = 100 ∧ (pt_st mid = true ∨ pl_own mid = "java/lang/String"))) ∧ plainName (pl_own mid) = true := by
  have h := pm_all mid hm
  simp only [pl_m, Bool.and_eq_true, Bool.or_eq_true, decide_eq_true_eq] at h
  obtain ⟨⟨⟨⟨⟨⟨⟨⟨h1, h3⟩, h4⟩, h5⟩, h6⟩, h7⟩, h8⟩, h9⟩, h10⟩ := h
  refine ⟨pl_w_in h3, ?_, ⟨h5, h6⟩, Nat.le_of_ble_eq_true h7, h8, h9, ?_, h1⟩
  · cases hs : pt_st mid with
    | true => rw [hs] at h4; simp only [if_pos]; exact pl_w_in h4
    | false => rw [hs] at h4; simp only [Bool.false_eq_true, if_false]; exact pl_w_in h4
  · rcases h10 with q | q
    · exact Or.inl ⟨blt_lt q.1, q.2⟩
    · exact Or.inr ⟨Nat.eq_of_beq_eq_true q.1, q.2⟩
theorem ini_void : ∀ k, k < 191 → pt_init k = true → pt_retT k = none := by decide +kernel
section SR
variable {G : PG} {mid : Nat} {p : Program} {l : Launch} {e : Env} {R : Room} {s : State} {m : MethodId} {args : Array Value} {below : List Frame} {meth : Method} {c : Code} {Q : State → Prop}
variable {pc n a b cs ss : Nat} {ts : List Nat} {v : Value} {L st : List Value} {hp : PHp} {q' : PCf}
theorem pw_back {H : Heap} {locs : List Loc} {ls : Array Slot} {mc ms : Nat} {st0 rest : List Value} {r : PRs} {aa : Array Value} (hr : va_Run p l e R s m args below meth c H locs cs ss mc ms (F0 m pc ls st0) rest (pw_Qc G r aa) (pw_Ag G)) (hS : va_S (pw_Ag G) s.heap H locs)
    (kk : ∀ (H1 : Heap) (locs1 : List Loc), pw_H G r.2 H1 → va_S (pw_Ag G) s.heap H1 locs1 → W p l e R s m args below meth c H1 locs1 (cs + mc) (ss + ms) Q (F0 m (pc + 3) ls ((r.1.map (vl G)).toList ++ rest))) : W p l e R s m args below meth c H locs cs ss Q (F0 m pc ls st0) := by
  intro T hT X
  obtain ⟨v, st₀, t, T', L, h0, X', hL, e1, e2, ⟨hv, hw, hz, hk⟩, st⟩ := hr T hT X
  cases hv
  rw [h0] at hz hk
  obtain ⟨t2, a1, b1⟩ := kk T'.heap (locs ++ L) (by rw [e1]; exact hw)
    ⟨Nat.le_trans hS.1 (by rw [e1]; exact hz), fun q h1 h2 => by rw [e1, hk q (Nat.lt_of_lt_of_le h1 hS.1) h2]; exact hS.2.1 q h1 h2, fun q hq => by
      rcases List.mem_append.mp hq with h | h
      · exact hS.2.2 q h
      · exact hL q h⟩ T' rfl X'
  exact ⟨t2, st t2 a1, b1⟩
theorem back_stack (G : PG) (r : PRs) (rest : List Value) : (r.1.map (vl G)).toList ++ rest.map (vl G) = (r.1.toList ++ rest).map (vl G) := by
  cases r.1 <;> rfl
theorem pw_pre {H : Heap} {locs : List Loc} {as : List Value} (hK : va_K (gD G) vwCl (pw_tys G) s) (hO : pw_O G s) (hH : pw_H G hp H) (hS : va_S (pw_Ag G) s.heap H locs) : ∀ U : State, U.heap = H → s.WarmedH U.vm → pw_Pc G as hp (as.map (vl G)).toArray U := by
  intro U hU hW
  exact ⟨rfl, by rw [hU]; exact hH, va_K.moved hW.alike hK, pw_O_to hO hW (by rw [hU]; exact hS.2.1) (by rw [hU]; exact hS.1)⟩
/-- behind a call -/
theorem sx_after {k : Nat} {r : PRs} {rest : List Value} {H : Heap} {locs : List Loc} {ls : Array Slot} (hn : n = 3) (S : pw_S G mid s H locs ls (pc, L, st, hp, cs, ss)) (h1 : cs + pt_mc k ≤ pt_mc mid) (h2 : ss + pt_ms k ≤ pt_ms mid) {st0 : List Value} (hst : st0 = st.map (vl G)) {aa : Array Value}
    (hr : va_Run p l e R s m args below meth c H locs cs ss (pt_mc k) (pt_ms k) (F0 m pc ls st0) (rest.map (vl G)) (pw_Qc G r aa) (pw_Ag G))
    (kk : ∀ (H' : Heap) (locs' : List Loc) (ls' : Array Slot), pw_S G mid s H' locs' ls' (pm_back (pc + n, L, rest, hp, cs + pt_mc k, ss + pt_ms k) r) → pw_W G p l e R s m args below meth c Q H' locs' ls' (pm_back (pc + n, L, rest, hp, cs + pt_mc k, ss + pt_ms k) r)) : pw_W G p l e R s m args below meth c Q H locs ls (pc, L, st, hp, cs, ss) := by
  subst hn
  subst hst
  refine pw_back hr S.2.2.2.1 (fun H1 locs1 hH1 hS1 => ?_)
  rw [back_stack]
  exact kk H1 locs1 ls ⟨S.1, S.2.1, hH1, hS1, h1, h2⟩
theorem rm_fit {k : Nat} (hk : k < mid) (hR : mid + 1 ≤ R.frames ∧ 40 * (mid + 1) ≤ R.locals) (hx : pt_maxL k ≤ 12) : (pt_rm k).frames + 1 ≤ R.frames ∧ 8 + (pt_maxL k + 11) + (pt_rm k).locals ≤ R.locals := by
  constructor
  · show k + 1 + 1 ≤ _
    omega
  · show 8 + (pt_maxL k + 11) + 40 * (k + 1) ≤ _
    omega
theorem sx_cS (A : pw_A G mid p R s m args meth c) {i k : Nat} {as : List Value} {r : PRs} (hd : decode (pt_bytes mid) pc = .ok (.invokestatic i, n)) (hi : pl_i mid pc n v a b ts (.invokestatic i) = true) (h : pm_ex (gX G) mid pc L st hp cs ss n v a b ts (.invokestatic i) = some (.inr (.inr (k, as, q')))) (hM : pw_M G l k as q'.2.2.2.1 r) {H : Heap} {locs : List Loc} {ls : Array Slot} (S : pw_S G mid s H locs ls (pc, L, st, hp, cs, ss)) (kk : ∀ (H' : Heap) (locs' : List Loc) (ls' : Array Slot), pw_S G mid s H' locs' ls' (pm_back q' r) → pw_W G p l e R s m args below meth c Q H' locs' ls' (pm_back q' r)) : pw_W G p l e R s m args below meth c Q H locs ls (pc, L, st, hp, cs, ss) := by
  obtain ⟨hx, hb, hml, hown, hts, hin, hlk, hK, hO, hR, hm⟩ := A
  simp only [pl_i, Bool.and_eq_true] at hi
  have hn := Nat.eq_of_beq_eq_true hi.1
  have hi2 := hi.2
  simp only [pm_ex] at h
  obtain ⟨rfl, rest, hst, hlen, rfl, hc1, hc2, hcat, hkm, hrc⟩ := call_inv h
  have hk191 : k < 191 := by omega
  obtain ⟨wi, wk, wh, wl, wn, wt, wc, wp⟩ := pm_ok_of hk191
  have hne : Nat.beq k 9999 = false := by
    cases hb9 : Nat.beq k 9999 with
    | false => rfl
    | true => have := Nat.eq_of_beq_eq_true hb9; omega
  subst hn
  rw [hne] at hi2
  have h90 : Nat.beq k 9990 = false := by
    cases hb9 : Nat.beq k 9990 with
    | false => rfl
    | true => have := Nat.eq_of_beq_eq_true hb9; omega
  have h91 : Nat.beq k 9991 = false := by
    cases hb9 : Nat.beq k 9991 with
    | false => rfl
    | true => have := Nat.eq_of_beq_eq_true hb9; omega
  rw [h90, h91] at hi2
  simp only [Bool.false_or, Bool.false_and, Bool.and_eq_true, decide_eq_true_eq] at hi2
  obtain ⟨⟨⟨g1, g2⟩, g3⟩, g4⟩ := hi2
  rw [g2] at wk
  simp only [if_true] at wk
  have hcat2 : 2 * (F0 m pc ls (st.map (vl G))).monitorRoom + ((rest.map (vl G)).map fun v => v.category).sum ≤ 8 := by
    rw [cat_sum hO.2.2.2.2.2.2.2.1]
    show 2 * 0 + _ ≤ 8
    omega
  have hstk : (F0 m pc ls (st.map (vl G))).stack = (as.map (vl G)).reverse ++ rest.map (vl G) := by
    show st.map (vl G) = _
    rw [hst, List.map_append, List.map_reverse]
  refine sx_after (aa := (as.map (vl G)).toArray) rfl S hc1 hc2 rfl ?_ kk
  split at g3
  · have hl := pl_w_in g3
    exact va_runS (As := as.map (vl G)) (rest := rest.map (vl G)) ⟨hx, hb, hml, hown, hts⟩ hM (va_cwS b hts (good_of (fun w hw => by
      simp only [va_wsS, List.cons_append, List.nil_append, List.mem_cons] at hw
      rcases hw with rfl | rfl | rfl | hw
      · exact hl
      · exact wk
      · exact wi
      · exact ws_in hk191 w hw)) rfl rfl rfl ⟨wh.1, wh.2, g4⟩ (rm_fit hkm ⟨hR.1, hR.2.1⟩ wl)) ⟨pw_blind G as hp, pw_pre hK hO S.2.2.1 S.2.2.2.1⟩ rfl (by simp [hlen]) S.1.1 hstk hcat2 hd ⟨by show cs + _ ≤ _; omega, by show ss + _ ≤ _; omega⟩
  · simp only [decide_eq_true_eq] at g3
    have hl := hO.2.2.2.2.2.2.2.2.2.2.1 _ (List.mem_of_getElem? g3)
    exact va_runSN (As := as.map (vl G)) (rest := rest.map (vl G)) ⟨hx, hb, hml, hown, hts⟩ hM ⟨va_cnB b hts (good_of (ws_in hk191)) rfl rfl rfl hl (hts _ wi) ⟨wh.1, wh.2, g4⟩ (rm_fit hkm ⟨hR.1, hR.2.1⟩ wl), hts _ wk, trivial⟩ ⟨pw_blind G as hp, pw_pre hK hO S.2.2.1 S.2.2.2.1⟩ rfl (by simp [hlen]) S.1.1 hstk hcat2 hd ⟨by show cs + _ ≤ _; omega, by show ss + _ ≤ _; omega⟩
  · cases g3
theorem sx_cI (A : pw_A G mid p R s m args meth c) {i k : Nat} {as : List Value} {r : PRs} (hd : decode (pt_bytes mid) pc = .ok (.invokespecial i, n)) (hi : pl_i mid pc n v a b ts (.invokespecial i) = true) (h : pm_ex (gX G) mid pc L st hp cs ss n v a b ts (.invokespecial i) = some (.inr (.inr (k, as, q')))) (hM : pw_M G l k as q'.2.2.2.1 r) {H : Heap} {locs : List Loc} {ls : Array Slot} (S : pw_S G mid s H locs ls (pc, L, st, hp, cs, ss)) (kk : ∀ (H' : Heap) (locs' : List Loc) (ls' : Array Slot), pw_S G mid s H' locs' ls' (pm_back q' r) → pw_W G p l e R s m args below meth c Q H' locs' ls' (pm_back q' r)) : pw_W G p l e R s m args below meth c Q H locs ls (pc, L, st, hp, cs, ss) := by
  obtain ⟨hx, hb, hml, hown, hts, hin, hlk, hK, hO, hR, hm⟩ := A
  simp only [pl_i, Bool.and_eq_true] at hi
  have hn := Nat.eq_of_beq_eq_true hi.1
  have hi2 := hi.2
  simp only [pm_ex] at h
  obtain ⟨rfl, rest, hst, hlen, rfl, hc1, hc2, hcat, hkm, hrc⟩ := call_inv h
  have hk191 : k < 191 := by omega
  obtain ⟨wi, wk, wh, wl, wn, wt, wc, wp⟩ := pm_ok_of hk191
  have hne : Nat.beq k 9999 = false := by
    cases hb9 : Nat.beq k 9999 with
    | false => rfl
    | true => have := Nat.eq_of_beq_eq_true hb9; omega
  subst hn
  rw [hne] at hi2
  have h98 : Nat.beq k 9998 = false := by
    cases hb9 : Nat.beq k 9998 with
    | false => rfl
    | true => have := Nat.eq_of_beq_eq_true hb9; omega
  rw [h98] at hi2
  simp only [Bool.false_or, Bool.false_and, Bool.and_eq_true, decide_eq_true_eq, Bool.not_eq_true'] at hi2
  obtain ⟨⟨⟨⟨g1, g2⟩, g5⟩, g3⟩, g4⟩ := hi2
  rw [g2] at wk
  simp only [Bool.false_eq_true, if_false] at wk
  have hyi : (pt_y k).name = "<init>" := by
    rw [g5] at wn
    exact of_decide_eq_true wn.symm
  have hrt : pt_retT k = none := by
    have := ini_void k hk191
    exact this g5
  obtain ⟨o, as, rfl, hrv⟩ := hrc rfl
  have hv0 : ∃ b0 : Nat, vl G (.ref o) = .ref b0 := by
    simp only [pm_rcv, Bool.or_eq_true, Bool.and_eq_true] at hrv
    rcases hrv with q | ⟨⟨q1, q2⟩, q3⟩
    · obtain ⟨k2, rfl, hk2, hsh2, hlt2⟩ := obj_in q
      exact ⟨_, vl_own hlt2⟩
    · have h1 := ble_le q2
      have h2 := blt_lt q3
      exact ⟨_, vl_old (Nat.le_trans (by decide) h1) (fun q => by rw [q] at h2; exact absurd h2 (by decide))⟩
  have hgo : True → pw_W G p l e R s m args below meth c Q H locs ls (pc, L, st, hp, cs, ss) := by
    intro _
    obtain ⟨b0, hb0⟩ := hv0
    have g4' : (parseMethodDescriptor (pt_y k).desc).map (fun d => d.parameters.length) = some as.length := by
      cases hpd : parseMethodDescriptor (pt_y k).desc with
      | none => rw [hpd] at g4; cases g4
      | some d =>
        rw [hpd] at g4
        simp only [Option.map_some, Option.some.injEq] at g4 ⊢
        simp only [List.length_cons] at hlen
        omega
    have hcat2 : 2 * (F0 m pc ls (st.map (vl G))).monitorRoom + ((rest.map (vl G)).map fun v => v.category).sum ≤ 8 := by
      rw [cat_sum hO.2.2.2.2.2.2.2.1]
      show 2 * 0 + _ ≤ 8
      omega
    have hstk : (F0 m pc ls (st.map (vl G))).stack = (as.map (vl G)).reverse ++ .ref b0 :: rest.map (vl G) := by
      show st.map (vl G) = _
      rw [hst, List.map_append, List.map_reverse, List.map_cons, hb0]
      simp
    have hpre : ∀ U : State, U.heap = H → s.WarmedH U.vm → pw_Pc G (.ref o :: as) hp (Value.ref b0 :: as.map (vl G)).toArray U := by
      have := pw_pre (as := .ref o :: as) hK hO S.2.2.1 S.2.2.2.1
      rw [List.map_cons, hb0] at this
      exact this
    have hws : pt_ws k = Cond.code (pt_y k) (pt_bytes k) (pt_maxL k) none :: lw_g := by
      show Cond.code _ _ _ (pt_retT k) :: lw_g = _
      rw [hrt]
    refine sx_after (aa := (Value.ref b0 :: as.map (vl G)).toArray) rfl S hc1 hc2 rfl ?_ kk
    split at g3
    · have hl := pl_w_in g3
      exact va_runI (As := as.map (vl G)) (rest := rest.map (vl G)) (b := b0) ⟨hx, hb, hml, hown, hts⟩ hM (cwI as.length hts (good_of (ws_in hk191)) hws rfl rfl (hts _ wi) (hts _ hl) (hts _ wk) hyi ⟨wh.1, wh.2, g4'⟩ (rm_fit hkm ⟨hR.1, hR.2.1⟩ wl)) ⟨pw_blind G _ hp, hpre⟩ rfl (by simp) S.1.1 hstk hcat2 hd ⟨by show cs + _ ≤ _; omega, by show ss + _ ≤ _; omega⟩
    · simp only [decide_eq_true_eq] at g3
      have hl := hO.2.2.2.2.2.2.2.2.2.2.1 _ (List.mem_of_getElem? g3)
      exact va_runIN (As := as.map (vl G)) (rest := rest.map (vl G)) (b := b0) ⟨hx, hb, hml, hown, hts⟩ hM ⟨va_cnB as.length hts (good_of (ws_in hk191)) hws rfl rfl hl (hts _ wi) ⟨wh.1, wh.2, g4'⟩ (rm_fit hkm ⟨hR.1, hR.2.1⟩ wl), hyi, hts _ wk⟩ ⟨pw_blind G _ hp, hpre⟩ rfl (by simp) S.1.1 hstk hcat2 hd ⟨by show cs + _ ≤ _; omega, by show ss + _ ≤ _; omega⟩
    · cases g3
  exact hgo trivial
theorem sx_cV (A : pw_A G mid p R s m args meth c) {i k : Nat} {as : List Value} {r : PRs} (hd : decode (pt_bytes mid) pc = .ok (.invokevirtual i, n)) (hi : pl_i mid pc n v a b ts (.invokevirtual i) = true) (h : pm_ex (gX G) mid pc L st hp cs ss n v a b ts (.invokevirtual i) = some (.inr (.inr (k, as, q')))) (hM : pw_M G l k as q'.2.2.2.1 r) {H : Heap} {locs : List Loc} {ls : Array Slot} (S : pw_S G mid s H locs ls (pc, L, st, hp, cs, ss)) (kk : ∀ (H' : Heap) (locs' : List Loc) (ls' : Array Slot), pw_S G mid s H' locs' ls' (pm_back q' r) → pw_W G p l e R s m args below meth c Q H' locs' ls' (pm_back q' r)) : pw_W G p l e R s m args below meth c Q H locs ls (pc, L, st, hp, cs, ss) := by
  obtain ⟨hx, hb, hml, hown, hts, hin, hlk, hK, hO, hR, hm⟩ := A
  simp only [pl_i, Bool.and_eq_true] at hi
  have hn := Nat.eq_of_beq_eq_true hi.1
  have hi2 := hi.2
  simp only [pm_ex] at h
  obtain ⟨rfl, rest, hst, hlen, rfl, hc1, hc2, hcat, hkm, hrc⟩ := call_inv h
  have hk191 : k < 191 := by omega
  obtain ⟨wi, wk, wh, wl, wn, wt, wc, wp⟩ := pm_ok_of hk191
  have hne : Nat.beq k 9999 = false := by
    cases hb9 : Nat.beq k 9999 with
    | false => rfl
    | true => have := Nat.eq_of_beq_eq_true hb9; omega
  subst hn
  rw [hne] at hi2
  simp only [Bool.false_or, Bool.and_eq_true, decide_eq_true_eq, Bool.not_eq_true'] at hi2
  obtain ⟨⟨⟨⟨g1, g2⟩, g3⟩, g5⟩, g4⟩ := hi2
  rw [g2] at wk
  simp only [Bool.false_eq_true, if_false] at wk
  have hsel := pl_w_in g5
  obtain ⟨o, as, rfl, hrv⟩ := hrc rfl
  have hbR : ∃ b0 : Nat, vl G (.ref o) = .ref b0 ∧ ∃ cellB : Cell, H[b0]? = some cellB ∧ cellB.vm.isStatics = false ∧ s.vm.findClass (pl_own k) = some cellB.cls := by
    simp only [pm_rcv, Bool.or_eq_true, Bool.and_eq_true] at hrv
    rcases hrv with q | ⟨⟨q1, q2⟩, q3⟩
    · obtain ⟨k2, rfl, hk2, hsh2, hlt2⟩ := obj_in q
      have he2 := ws_get G hp hk2
      rw [hsh2] at he2
      have hc12 : pt_cls k < 12 ∧ (vwCl.getD (pt_cls k) ("", TX0, 0)).1 = pl_own k := by
        rcases wc with w | ⟨w1, w2⟩
        · exact w
        · exfalso
          rw [w1] at he2
          obtain ⟨r9, h9, -⟩ := S.2.2.1.2 k2 _ he2
          exact absurd h9 (by rw [show vwCl[(100 : Nat)]? = none from rfl]; intro q9; cases q9)
      refine ⟨_, vl_own hlt2, ?_⟩
      have := va_recv hK S.2.2.1.2 (tc_at hc12.1) he2
      rw [← hc12.2]
      exact this
    · have h1 := ble_le q2
      have h2 := blt_lt q3
      have q1 := Nat.eq_of_beq_eq_true q1
      obtain ⟨j, hoj⟩ : ∃ j : Nat, @Eq Nat o (2100 + j) := ⟨o - 2100, by omega⟩
      subst hoj
      refine ⟨_, vl_old (by omega) (by omega), ?_⟩
      have hstr : pl_own k = "java/lang/String" := by
        rcases wc with ⟨w, -⟩ | ⟨-, w | w⟩
        · omega
        · rw [g2] at w; cases w
        · exact w
      rw [hstr]
      exact vk_recv (i := j) hO.2.2.2.2.2.2.2.2.1 (by omega) S.2.2.2.1
  obtain ⟨b0, hb0, hcell⟩ := hbR
  have g4' : (parseMethodDescriptor (pt_y k).desc).map (fun d => d.parameters.length) = some as.length := by
    cases hpd : parseMethodDescriptor (pt_y k).desc with
    | none => rw [hpd] at g4; cases g4
    | some d =>
      rw [hpd] at g4
      simp only [Option.map_some, Option.some.injEq] at g4 ⊢
      simp only [List.length_cons] at hlen
      omega
  have hcat2 : 2 * (F0 m pc ls (st.map (vl G))).monitorRoom + ((rest.map (vl G)).map fun v => v.category).sum ≤ 8 := by
    rw [cat_sum hO.2.2.2.2.2.2.2.1]
    show 2 * 0 + _ ≤ 8
    omega
  have hstk : (F0 m pc ls (st.map (vl G))).stack = (as.map (vl G)).reverse ++ .ref b0 :: rest.map (vl G) := by
    show st.map (vl G) = _
    rw [hst, List.map_append, List.map_reverse, List.map_cons, hb0]
    simp
  have hpre : ∀ U : State, U.heap = H → s.WarmedH U.vm → pw_Pc G (.ref o :: as) hp (Value.ref b0 :: as.map (vl G)).toArray U := by
    have := pw_pre (as := .ref o :: as) hK hO S.2.2.1 S.2.2.2.1
    rw [List.map_cons, hb0] at this
    exact this
  refine sx_after (aa := (Value.ref b0 :: as.map (vl G)).toArray) rfl S hc1 hc2 rfl ?_ kk
  split at g3
  · have hl := pl_w_in g3
    exact va_runV (As := as.map (vl G)) (rest := rest.map (vl G)) (b := b0) (C := pl_own k) ⟨hx, hb, hml, hown, hts⟩ hM (cwV as.length hts (good_of (fun w hw => by
      simp only [wsV, List.cons_append, List.nil_append, List.mem_cons] at hw
      rcases hw with rfl | rfl | rfl | rfl | hw
      · exact hl
      · exact wk
      · exact hsel
      · exact wi
      · exact ws_in hk191 w hw)) rfl rfl rfl ⟨rfl, wh.1, wh.2, g4'⟩ (rm_fit hkm ⟨hR.1, hR.2.1⟩ wl)) ⟨pw_blind G _ hp, hcell, hpre⟩ rfl (by simp) S.1.1 hstk hcat2 hd ⟨by show cs + _ ≤ _; omega, by show ss + _ ≤ _; omega⟩
  · simp only [decide_eq_true_eq] at g3
    have hl := hO.2.2.2.2.2.2.2.2.2.2.1 _ (List.mem_of_getElem? g3)
    exact va_runVN (As := as.map (vl G)) (rest := rest.map (vl G)) (b := b0) (C := pl_own k) ⟨hx, hb, hml, hown, hts⟩ hM ⟨va_cnB as.length hts (good_of (ws_in hk191)) rfl rfl rfl hl (hts _ wi) ⟨wh.1, wh.2, g4'⟩ (rm_fit hkm ⟨hR.1, hR.2.1⟩ wl), hts _ wk, hts _ hsel⟩ ⟨pw_blind G _ hp, hcell, hpre⟩ rfl (by simp) S.1.1 hstk hcat2 hd ⟨by show cs + _ ≤ _; omega, by show ss + _ ≤ _; omega⟩
  · cases g3
end SR
