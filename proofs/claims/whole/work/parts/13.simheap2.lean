theorem old_len (X : Nat × (Nat → Int32)) (j : Nat) (hj : j < 3) : (pm_old X (2001 + j)).1 = 6 := by
  unfold pm_old
  rw [show 2001 + j - 2000 = j + 1 by omega]
  match j, hj with
  | 0, _ => rfl
  | 1, _ => rfl
  | 2, _ => rfl
theorem rno_own {G : PG} {r : Nat} (h0 : 0 < r) (h : r < 2000) : va_rf (rno G r) = vl G (.ref r) := by
  obtain ⟨k, rfl⟩ : ∃ k, r = k + 1 := ⟨r - 1, by omega⟩
  rw [vl_own h]
  show Value.ref (rn G (k + 1)) = _
  rw [rn_own h]
theorem blt_lt {a b : Nat} (h : Nat.blt a b = true) : a < b := by simpa [Nat.blt_eq] using h
theorem ble_le {a b : Nat} (h : Nat.ble a b = true) : a ≤ b := Nat.le_of_ble_eq_true h
theorem pw_H_put {G : PG} {h : PHp} {H H1 : Heap} {M' : PMm} {k : Nat} {x : va_E} (hH : pw_H G h H) (hz : H1.size = H.size) (hP : va_P (gD G) vwCl ((pw_ws G h).set k (gz G + k, x)) H1) (hk : k < h.1.length) (hx : pw_e G M' (k + 1) (h.1.getD k (9, 0)) = x) (h1 : ∀ j, j ≠ k → M'.1 (j + 1) = h.2.1 (j + 1)) (h2 : ∀ j, j ≠ k → M'.2.1 (j + 1) = h.2.2.1 (j + 1)) (h3 : ∀ j, j ≠ k → ∀ b, pm_rd M'.2.2 (j + 1) b = pm_rd h.2.2.2 (j + 1) b) : pw_H G (h.1, M') H1 := by
  subst hx
  rw [ws_set hk h1 h2 h3] at hP
  exact ⟨hz.trans hH.1, hP⟩
theorem pw_S_put {G : PG} {mid : Nat} {s : State} {H H1 : Heap} {locs locs1 : List Loc} {ls : Array Slot} {q : PCf} {pc' : Nat} {st' : List Value} {h' : PHp} (S : pw_S G mid s H locs ls q) (hH : pw_H G h' H1) (hS : va_S (pw_Ag G) s.heap H1 locs1) : pw_S G mid s H1 locs1 ls (pc', q.2.1, st', h', q.2.2.2.2) := ⟨S.1, S.2.1, hH, hS, S.2.2.2.2⟩
section SY
variable {G : PG} {mid : Nat} {p : Program} {l : Launch} {e : Env} {R : Room} {s : State} {m : MethodId} {args : Array Value} {below : List Frame} {meth : Method} {c : Code} {Q : State → Prop}
variable {pc n a b cs ss : Nat} {ts : List Nat} {v : Value} {L st : List Value} {hp : PHp} {q' : PCf}
theorem sx_getfield (A : pw_A G mid p R s m args meth c) {i : Nat} (hd : decode (pt_bytes mid) pc = .ok (.getfield i, n)) (hi : pl_i mid pc n v a b ts (.getfield i) = true) (h : pm_ex (gX G) mid pc L st hp cs ss n v a b ts (.getfield i) = some (.inl q')) : pw_Nx G mid p l e R s m args below meth c Q (pc, L, st, hp, cs, ss) q' := by
  obtain ⟨hx, hb, hml, hown, hts, hin, hlk, hK, hO, hR, hm⟩ := A
  intro H locs ls S kk
  simp only [pl_i, Bool.and_eq_true] at hi
  have hn := Nat.eq_of_beq_eq_true hi.1
  subst hn
  have hi2 := hi.2
  simp only [pm_ex, pm_getf] at h
  split at h
  · rename_i o r
    cases ha : Nat.beq a 100 with
    | true =>
      rw [ha] at h hi2
      dsimp only [cond] at h hi2
      cases ho : (Nat.ble 2100 o && Nat.blt o 2110) with
      | false => rw [ho] at h; cases h
      | true =>
        rw [ho] at h
        simp only [cond, Option.some.injEq, Sum.inl.injEq] at h
        subst h
        simp only [Bool.and_eq_true] at ho
        have h1 := ble_le ho.1
        have h2 := blt_lt ho.2
        obtain ⟨j, hoj⟩ : ∃ j : Nat, @Eq Nat o (2100 + j) := ⟨o - 2100, by omega⟩
        subst hoj
        have hj : j < 10 := by omega
        have hS := S.2.2.2.1
        obtain ⟨-, -, -, -, -, -, -, -, hk, -⟩ := hO
        have kk := kk H locs ls S
        simp only [pw_W, List.map_cons] at kk ⊢
        rw [vl_old (r := 2100 + j) (by omega) (by omega)]
        cases hb0 : Nat.beq b 0 with
        | true =>
          rw [hb0] at kk hi2
          dsimp only at kk hi2
          rw [vl_old (r := 2100 + j + 100) (by omega) (by omega), show 2100 + j + 100 = 2200 + j by omega] at kk
          exact vk_getf hx hb (hk.1 j hj).2.2.1 hS hown (hts _ (pl_w_in hi2)) (fun _ h => h) hd kk
        | false =>
          rw [hb0] at kk hi2
          dsimp only at kk hi2
          exact vk_getf hx hb (hk.1 j hj).2.1 hS hown (hts _ (pl_w_in hi2)) (fun _ h => h) hd kk
    | false =>
      rw [ha] at h hi2
      dsimp only [cond] at h hi2
      cases hobj : pm_obj hp o a with
      | false => rw [hobj] at h; cases h
      | true =>
        rw [hobj] at h
        dsimp only at h
        obtain ⟨k, rfl, hk, hsh, hlt⟩ := obj_in hobj
        simp only [Bool.and_eq_true] at hi2
        have ha12 := blt_lt hi2.1.1
        have hb12 := blt_lt hi2.1.2
        have hlink := hts _ (pl_w_in hi2.2)
        have he := ws_get G hp hk
        rw [hsh] at he
        have hbl : b < (pt_fty a).length := by rw [tc_len ha12]; exact hb12
        have hv := fs_get G hp.2 (k + 1) a hbl
        show W _ _ _ _ _ _ _ _ _ _ _ _ _ _ _ (F0 m pc ls (vl G (.ref (k + 1)) :: r.map (vl G)))
        rw [vl_own hlt]
        refine va_get (D := gD G) (ci := a) (v := pw_fv G hp.2 (k + 1) b ((pt_fty a).getD b 9)) hx hb hts (tc_iw a ha12) hown hK S.2.2.1.2 k he (tc_at ha12) b hb12 hlink (fun _ h => h) hv hd ?_
        split at h
        · rename_i hty
          simp only [Option.some.injEq, Sum.inl.injEq] at h
          subst h
          rw [hty]
          exact kk H locs ls S
        · rename_i hty
          simp only [Option.some.injEq, Sum.inl.injEq] at h
          subst h
          rw [hty]
          exact kk H locs ls S
        · rename_i hty
          cases hr : (Nat.blt 0 (pm_rd hp.2.2.2 (k + 1) b) && Nat.blt (pm_rd hp.2.2.2 (k + 1) b) 2000) with
          | false => rw [hr] at h; cases h
          | true =>
            rw [hr] at h
            simp only [cond, Option.some.injEq, Sum.inl.injEq] at h
            subst h
            simp only [Bool.and_eq_true] at hr
            rw [hty]
            show W _ _ _ _ _ _ _ _ _ _ _ _ _ _ _ (F0 m (pc + 3) ls (va_rf (rno G (pm_rd hp.2.2.2 (k + 1) b)) :: r.map (vl G)))
            rw [rno_own (blt_lt hr.1) (blt_lt hr.2)]
            exact kk H locs ls S
        · cases h
  · cases h
theorem sx_putfield (A : pw_A G mid p R s m args meth c) {i : Nat} (hd : decode (pt_bytes mid) pc = .ok (.putfield i, n)) (hi : pl_i mid pc n v a b ts (.putfield i) = true) (h : pm_ex (gX G) mid pc L st hp cs ss n v a b ts (.putfield i) = some (.inl q')) : pw_Nx G mid p l e R s m args below meth c Q (pc, L, st, hp, cs, ss) q' := by
  obtain ⟨hx, hb, hml, hown, hts, hin, hlk, hK, hO, hR, hm⟩ := A
  intro H locs ls S kk
  simp only [pl_i, Bool.and_eq_true] at hi
  obtain ⟨⟨⟨g1, g2⟩, g3⟩, g4⟩ := hi
  have hn := Nat.eq_of_beq_eq_true g1
  subst hn
  have ha12 := blt_lt g2
  have hb12 := blt_lt g3
  have hlink := hts _ (pl_w_in g4)
  simp only [pm_ex, pm_putf] at h
  split at h
  · rename_i w o r
    cases hg : (pm_obj hp o a && (!((pt_fin a).getD b true) || (pt_init mid && Nat.beq (pt_cls mid) a))) with
    | false => rw [hg] at h; cases h
    | true =>
      rw [hg] at h
      dsimp only [cond] at h
      simp only [Bool.and_eq_true] at hg
      obtain ⟨k, rfl, hk, hsh, hlt⟩ := obj_in hg.1
      have he := ws_get G hp hk
      rw [hsh] at he
      have hbl : b < (pt_fty a).length := by rw [tc_len ha12]; exact hb12
      obtain ⟨t1, t2, t3, t4, -⟩ := tc_k ha12 hb12
      have hfl : b < (pw_fs G hp.2 (k + 1) a).length := by rw [fs_len]; exact hbl
      have core : ∀ (x : Value) (ty : FieldType) (M' : PMm), parseFieldDescriptor ((vwCl.getD a ("", TX0, 0)).2.1 b).2.2.1 = some ty → narrow ty x = x → fits ty x = true → (pw_fs G hp.2 (k + 1) a).set b x = pw_fs G M' (k + 1) a → (∀ j, j ≠ k → M'.1 (j + 1) = hp.2.1 (j + 1)) → (∀ j, j ≠ k → M'.2.1 (j + 1) = hp.2.2.1 (j + 1)) → (∀ j, j ≠ k → ∀ b, pm_rd M'.2.2 (j + 1) b = pm_rd hp.2.2.2 (j + 1) b) → (∀ (H1 : Heap) (locs1 : List Loc), pw_S G mid s H1 locs1 ls (pc + 3, L, r, (hp.1, M'), cs, ss) → W p l e R s m args below meth c H1 locs1 cs ss Q (F0 m (pc + 3) ls (r.map (vl G)))) → W p l e R s m args below meth c H locs cs ss Q (F0 m pc ls (x :: .ref (gz G + k) :: r.map (vl G))) := by
        intro x ty M' hd1 hn1 hf1 hset h1 h2 h3 kk2
        have fin : ∀ (H1 : Heap) (locs1 : List Loc), H1.size = H.size → va_P (gD G) vwCl ((pw_ws G hp).set k (gz G + k, .inr (a, (pw_fs G hp.2 (k + 1) a).set b x))) H1 → va_S (pw_Ag G) s.heap H1 locs1 → W p l e R s m args below meth c H1 locs1 cs ss Q (F0 m (pc + 3) ls (r.map (vl G))) := by
          intro H1 locs1 hz hP1 hS1
          refine kk2 H1 locs1 (pw_S_put S (pw_H_put S.2.2.1 hz hP1 hk ?_ h1 h2 h3) hS1)
          rw [hsh, hset]
          rfl
        cases hfin : ((vwCl.getD a ("", TX0, 0)).2.1 b).2.2.2 with
        | false => exact pv_put (D := gD G) (ci := a) hx hb hts (tc_iw a ha12) (fun k => (parseFieldDescriptor ((vwCl.getD a ("", TX0, 0)).2.1 k).2.2.1).getD .int) (fun k hk => (tc_k ha12 hk).1) (tc_nm a ha12) hown hK S.2.2.1.2 (ws_D G hp) S.2.2.2.1 k he (tc_at ha12) b hb12 hlink (fun _ h => h) hfin hd1 hn1 hf1 hfl hd fin
        | true =>
          have hg2 := hg.2
          rw [t2, hfin] at hg2
          simp only [Bool.not_true, Bool.false_or, Bool.and_eq_true] at hg2
          have hcl := Nat.eq_of_beq_eq_true hg2.2
          have hm2 : mid < 191 := by
            rcases Nat.lt_or_ge mid 191 with q | q
            · exact q
            · have : mid = 191 := by omega
              rw [this] at hg2
              exact absurd hg2.1 (by decide +kernel)
          have hpm := pm_all mid hm2
          simp only [pl_m, Bool.and_eq_true, Bool.or_eq_true, decide_eq_true_eq] at hpm
          have hoc : (vwCl.getD a ("", TX0, 0)).1 = pl_own mid := by
            rcases hpm.2 with q | q
            · rw [hcl] at q; exact q.2
            · have := Nat.eq_of_beq_eq_true q.1
              omega
          exact pv_putF (D := gD G) (ci := a) hx hb hts (tc_iw a ha12) (fun k => (parseFieldDescriptor ((vwCl.getD a ("", TX0, 0)).2.1 k).2.2.1).getD .int) (fun k hk => (tc_k ha12 hk).1) (tc_nm a ha12) hown hK S.2.2.1.2 (ws_D G hp) S.2.2.2.1 k he (tc_at ha12) b hb12 hlink (fun _ h => h) hfin (hin hg2.1) (t3.trans hoc) hd1 hn1 hf1 hfl hd fin
      show W _ _ _ _ _ _ _ _ _ _ _ _ _ _ _ (F0 m pc ls (vl G w :: vl G (.ref (k + 1)) :: r.map (vl G)))
      rw [vl_own hlt]
      split at h
      · rename_i x hty
        simp only [Option.some.injEq, Sum.inl.injEq] at h
        subst h
        rw [hty] at t4
        refine core (.int x) .int (pm_up hp.2.1 (k + 1) b x, hp.2.2) (by simpa using t4) rfl rfl ?_ (fun j hj => up_off (by omega)) (fun j hj => rfl) (fun j hj b => rfl) (fun H1 locs1 S1 => kk H1 locs1 ls S1)
        refine fs_set hbl ?_ (fun j hj => ?_)
        · rw [hty]; simp only [pw_fv, up_ok]
        · unfold pw_fv
          simp only [up_kk hj]
      · rename_i x hty
        simp only [Option.some.injEq, Sum.inl.injEq] at h
        subst h
        rw [hty] at t4
        refine core (.long x) .long (hp.2.1, pm_up hp.2.2.1 (k + 1) b x, hp.2.2.2) (by simpa using t4) rfl rfl ?_ (fun j hj => rfl) (fun j hj => up_off (by omega)) (fun j hj b => rfl) (fun H1 locs1 S1 => kk H1 locs1 ls S1)
        refine fs_set hbl ?_ (fun j hj => ?_)
        · rw [hty]; simp only [pw_fv, up_ok]
        · unfold pw_fv
          simp only [up_kk hj]
      · rename_i x hty
        cases hr : (Nat.blt 0 x && Nat.blt x 2000 && Nat.blt (k + 1 - 1) hp.2.2.2.length && Nat.blt b (hp.2.2.2.getD (k + 1 - 1) []).length) with
        | false => rw [hr] at h; cases h
        | true =>
          rw [hr] at h
          simp only [cond, Option.some.injEq, Sum.inl.injEq] at h
          subst h
          simp only [Bool.and_eq_true] at hr
          rw [hty] at t4
          rw [← rno_own (blt_lt hr.1.1.1) (blt_lt hr.1.1.2)]
          obtain ⟨ty, hpty, hn2, hf2⟩ : ∃ ty, parseFieldDescriptor ((vwCl.getD a ("", TX0, 0)).2.1 b).2.2.1 = some ty ∧ narrow ty (va_rf (rno G x)) = va_rf (rno G x) ∧ fits ty (va_rf (rno G x)) = true := by
            obtain ⟨x', hx'⟩ : ∃ k : Nat, @Eq Nat x (k + 1) := ⟨x - 1, by have := blt_lt hr.1.1.1; omega⟩
            subst hx'
            have t4 : (match parseFieldDescriptor ((vwCl.getD a ("", TX0, 0)).2.1 b).2.2.1 with
              | some (.object _) => true
              | some (.array _) => true
              | _ => false) = true := t4
            split at t4
            · rename_i q hq
              exact ⟨_, hq, rfl, rfl⟩
            · rename_i q hq
              exact ⟨_, hq, rfl, rfl⟩
            · cases t4
          refine core (va_rf (rno G x)) ty (hp.2.1, hp.2.2.1, pm_wr hp.2.2.2 (k + 1) b x) hpty hn2 hf2 ?_ (fun j hj => rfl) (fun j hj => rfl) (fun j hj b => rd_off (by omega)) (fun H1 locs1 S1 => kk H1 locs1 ls S1)
          refine fs_set hbl ?_ (fun j hj => ?_)
          · rw [hty]; simp only [pw_fv]; rw [rd_ok (blt_lt hr.1.2) (blt_lt hr.2)]
          · unfold pw_fv
            simp only [rd_kk hj]
      · cases h
  · cases h
theorem sx_iaload (A : pw_A G mid p R s m args meth c) (hd : decode (pt_bytes mid) pc = .ok (.iaload, n)) (hi : pl_i mid pc n v a b ts (.iaload) = true) (h : pm_ex (gX G) mid pc L st hp cs ss n v a b ts (.iaload) = some (.inl q')) : pw_Nx G mid p l e R s m args below meth c Q (pc, L, st, hp, cs, ss) q' := by
  obtain ⟨hx, hb, hml, hown, hts, hin, hlk, hK, hO, hR, hm⟩ := A
  intro H locs ls S kk
  have hn := Nat.eq_of_beq_eq_true hi
  subst hn
  simp only [pm_ex, pm_iald] at h
  split at h
  · rename_i i o r
    cases ha : pm_arr hp o 0 with
    | true =>
      rw [ha] at h
      dsimp only [cond] at h
      split at h
      · rename_i hpin
        simp only [Option.some.injEq, Sum.inl.injEq] at h
        subst h
        obtain ⟨k, rfl, hk, hsh, hlt⟩ := arr_in (by decide) ha
        have he := ws_get G hp hk
        rw [hsh] at he
        show W _ _ _ _ _ _ _ _ _ _ _ _ _ _ _ (F0 m pc ls (.int i :: vl G (.ref (k + 1)) :: r.map (vl G)))
        rw [vl_own hlt]
        exact va_iald hx hb hK S.2.2.1.2 k 0 he rfl (pin_vp hpin) hd (kk H locs ls S)
      · cases h
    | false =>
      rw [ha] at h
      dsimp only [cond] at h
      cases ho : (Nat.ble 2000 o && Nat.blt o 2004) with
      | false => rw [ho] at h; cases h
      | true =>
        rw [ho] at h
        dsimp only at h
        split at h
        · rename_i hpin
          simp only [Option.some.injEq, Sum.inl.injEq] at h
          subst h
          simp only [Bool.and_eq_true] at ho
          have h1 := ble_le ho.1
          have h2 := blt_lt ho.2
          have hS := S.2.2.2.1
          obtain ⟨hz, hX, hX2, -, hT, -⟩ := hO
          have kk := kk H locs ls S
          show W _ _ _ _ _ _ _ _ _ _ _ _ _ _ _ (F0 m pc ls (.int i :: vl G (.ref o) :: r.map (vl G)))
          rw [vl_old h1 (by omega)]
          by_cases h0 : @Eq Nat o 2000
          · subst h0
            exact va_sld hx hb hX (by omega) (by show ¬ gz G ≤ _; omega) hS (pin_vp hpin) hd kk
          · obtain ⟨j, hoj⟩ : ∃ j : Nat, @Eq Nat o (2001 + j) := ⟨o - 2001, by omega⟩
            subst hoj
            have hj : j < 3 := by omega
            rw [old_len (gX G) j hj] at hpin
            exact va_ti hx hb (hT j hj) hS (pin_vp hpin) rfl hd kk
        · cases h
  · cases h
theorem sx_baload (A : pw_A G mid p R s m args meth c) (hd : decode (pt_bytes mid) pc = .ok (.baload, n)) (hi : pl_i mid pc n v a b ts (.baload) = true) (h : pm_ex (gX G) mid pc L st hp cs ss n v a b ts (.baload) = some (.inl q')) : pw_Nx G mid p l e R s m args below meth c Q (pc, L, st, hp, cs, ss) q' := by
  obtain ⟨hx, hb, hml, hown, hts, hin, hlk, hK, hO, hR, hm⟩ := A
  intro H locs ls S kk
  have hn := Nat.eq_of_beq_eq_true hi
  subst hn
  simp only [pm_ex, pm_bald] at h
  split at h
  · rename_i i o r
    cases ha : pm_arr hp o 1 with
    | true =>
      rw [ha] at h
      dsimp only [cond] at h
      split at h
      · rename_i hpin
        simp only [Option.some.injEq, Sum.inl.injEq] at h
        subst h
        obtain ⟨k, rfl, hk, hsh, hlt⟩ := arr_in (by decide) ha
        have he := ws_get G hp hk
        rw [hsh] at he
        show W _ _ _ _ _ _ _ _ _ _ _ _ _ _ _ (F0 m pc ls (.int i :: vl G (.ref (k + 1)) :: r.map (vl G)))
        rw [vl_own hlt]
        exact va_zald hx hb hK S.2.2.1.2 k 1 he rfl (pin_vp hpin) hd (kk H locs ls S)
      · cases h
    | false =>
      rw [ha] at h
      dsimp only [cond] at h
      cases ho : (Nat.ble 2200 o && Nat.blt o 2210) with
      | false => rw [ho] at h; cases h
      | true =>
        rw [ho] at h
        dsimp only at h
        split at h
        · rename_i hpin
          simp only [Option.some.injEq, Sum.inl.injEq] at h
          subst h
          simp only [Bool.and_eq_true] at ho
          have h1 := ble_le ho.1
          have h2 := blt_lt ho.2
          have hS := S.2.2.2.1
          obtain ⟨-, -, -, -, -, -, -, -, hk, -⟩ := hO
          have kk := kk H locs ls S
          show W _ _ _ _ _ _ _ _ _ _ _ _ _ _ _ (F0 m pc ls (.int i :: vl G (.ref o) :: r.map (vl G)))
          rw [vl_old (by omega) (by omega)]
          obtain ⟨j, hoj⟩ : ∃ j : Nat, @Eq Nat o (2200 + j) := ⟨o - 2200, by omega⟩
          subst hoj
          have hj : j < 10 := by omega
          have e2 : 2200 + j - 2200 = j := by omega
          rw [e2] at hpin
          simp only [pw_W, e2] at kk
          have hT := (hk.1 j hj).2.2.2
          have hl : (pt_str.map List.length).getD j 0 = (pt_str.getD j []).length := by
            have hl2 : j < pt_str.length := hj
            simp [List.getD, hl2]
          rw [hl] at hT
          exact va_tb hx hb hT hS (pin_vp hpin) rfl hd kk
        · cases h
  · cases h
theorem sx_laload (A : pw_A G mid p R s m args meth c) (hd : decode (pt_bytes mid) pc = .ok (.laload, n)) (hi : pl_i mid pc n v a b ts (.laload) = true) (h : pm_ex (gX G) mid pc L st hp cs ss n v a b ts (.laload) = some (.inl q')) : pw_Nx G mid p l e R s m args below meth c Q (pc, L, st, hp, cs, ss) q' := by
  obtain ⟨hx, hb, hml, hown, hts, hin, hlk, hK, hO, hR, hm⟩ := A
  intro H locs ls S kk
  have hn := Nat.eq_of_beq_eq_true hi
  subst hn
  simp only [pm_ex, pm_lald] at h
  split at h
  · rename_i i o r
    cases ha : pm_arr hp o 2 with
    | false => rw [ha] at h; cases h
    | true =>
      rw [ha] at h
      dsimp only [cond] at h
      split at h
      · rename_i hpin
        simp only [Option.some.injEq, Sum.inl.injEq] at h
        subst h
        obtain ⟨k, rfl, hk, hsh, hlt⟩ := arr_in (by decide) ha
        have he := ws_get G hp hk
        rw [hsh] at he
        show W _ _ _ _ _ _ _ _ _ _ _ _ _ _ _ (F0 m pc ls (.int i :: vl G (.ref (k + 1)) :: r.map (vl G)))
        rw [vl_own hlt]
        exact va_lald hx hb hK S.2.2.1.2 k 2 he rfl (pin_vp hpin) hd (kk H locs ls S)
      · cases h
  · cases h
theorem sx_aaload (A : pw_A G mid p R s m args meth c) (hd : decode (pt_bytes mid) pc = .ok (.aaload, n)) (hi : pl_i mid pc n v a b ts (.aaload) = true) (h : pm_ex (gX G) mid pc L st hp cs ss n v a b ts (.aaload) = some (.inl q')) : pw_Nx G mid p l e R s m args below meth c Q (pc, L, st, hp, cs, ss) q' := by
  obtain ⟨hx, hb, hml, hown, hts, hin, hlk, hK, hO, hR, hm⟩ := A
  intro H locs ls S kk
  have hn := Nat.eq_of_beq_eq_true hi
  subst hn
  simp only [pm_ex, pm_aald] at h
  split at h
  · rename_i i o r
    cases ha : pm_arr hp o 3 with
    | false => rw [ha] at h; cases h
    | true =>
      rw [ha] at h
      dsimp only [cond] at h
      split at h
      · rename_i hpin
        simp only [Option.some.injEq, Sum.inl.injEq] at h
        subst h
        obtain ⟨k, rfl, hk, hsh, hlt⟩ := arr_in (by decide) ha
        have he := ws_get G hp hk
        rw [hsh] at he
        have kk := kk H locs ls S
        simp only [pw_W, List.map_cons] at kk
        rw [← rno_own hpin.2.1 hpin.2.2] at kk
        show W _ _ _ _ _ _ _ _ _ _ _ _ _ _ _ (F0 m pc ls (.int i :: vl G (.ref (k + 1)) :: r.map (vl G)))
        rw [vl_own hlt]
        exact va_aldq hx hb hK S.2.2.1.2 k 3 he rfl (pin_vp hpin.1) hd kk
      · cases h
  · cases h
theorem sx_iastore (A : pw_A G mid p R s m args meth c) (hd : decode (pt_bytes mid) pc = .ok (.iastore, n)) (hi : pl_i mid pc n v a b ts (.iastore) = true) (h : pm_ex (gX G) mid pc L st hp cs ss n v a b ts (.iastore) = some (.inl q')) : pw_Nx G mid p l e R s m args below meth c Q (pc, L, st, hp, cs, ss) q' := by
  obtain ⟨hx, hb, hml, hown, hts, hin, hlk, hK, hO, hR, hm⟩ := A
  intro H locs ls S kk
  have hn := Nat.eq_of_beq_eq_true hi
  subst hn
  simp only [pm_ex, pm_iast] at h
  split at h
  · rename_i x i o r
    cases ha : pm_arr hp o 0 with
    | false => rw [ha] at h; cases h
    | true =>
      rw [ha] at h
      dsimp only [cond] at h
      split at h
      · rename_i hpin
        simp only [Option.some.injEq, Sum.inl.injEq] at h
        subst h
        obtain ⟨k, rfl, hk, hsh, hlt⟩ := arr_in (by decide) ha
        have he := ws_get G hp hk
        rw [hsh] at he
        show W _ _ _ _ _ _ _ _ _ _ _ _ _ _ _ (F0 m pc ls (_ :: .int i :: vl G (.ref (k + 1)) :: r.map (vl G)))
        rw [vl_own hlt]
        refine pv_iast hx hb hK S.2.2.1.2 (ws_D G hp) S.2.2.2.1 k 0 he rfl (pin_vp hpin) hd (fun H1 locs1 hz hP1 hS1 => kk H1 locs1 ls (pw_S_put S (pw_H_put (M' := (pm_up hp.2.1 (k + 1) i.toNatClampNeg x, hp.2.2)) S.2.2.1 hz hP1 hk ?_ (fun j hj => up_off (by omega)) (fun j hj => rfl) (fun j hj b => rfl)) hS1))
        rw [hsh]
        show Sum.inl (_, _, _) = Sum.inl (_, _, _)
        simp only [up_at]
      · cases h
  · cases h
theorem sx_bastore (A : pw_A G mid p R s m args meth c) (hd : decode (pt_bytes mid) pc = .ok (.bastore, n)) (hi : pl_i mid pc n v a b ts (.bastore) = true) (h : pm_ex (gX G) mid pc L st hp cs ss n v a b ts (.bastore) = some (.inl q')) : pw_Nx G mid p l e R s m args below meth c Q (pc, L, st, hp, cs, ss) q' := by
  obtain ⟨hx, hb, hml, hown, hts, hin, hlk, hK, hO, hR, hm⟩ := A
  intro H locs ls S kk
  have hn := Nat.eq_of_beq_eq_true hi
  subst hn
  simp only [pm_ex, pm_bast] at h
  split at h
  · rename_i x i o r
    cases ha : pm_arr hp o 1 with
    | false => rw [ha] at h; cases h
    | true =>
      rw [ha] at h
      dsimp only [cond] at h
      split at h
      · rename_i hpin
        simp only [Option.some.injEq, Sum.inl.injEq] at h
        subst h
        obtain ⟨k, rfl, hk, hsh, hlt⟩ := arr_in (by decide) ha
        have he := ws_get G hp hk
        rw [hsh] at he
        show W _ _ _ _ _ _ _ _ _ _ _ _ _ _ _ (F0 m pc ls (_ :: .int i :: vl G (.ref (k + 1)) :: r.map (vl G)))
        rw [vl_own hlt]
        refine pv_zast hx hb hK S.2.2.1.2 (ws_D G hp) S.2.2.2.1 k 1 he rfl (pin_vp hpin) hd (fun H1 locs1 hz hP1 hS1 => kk H1 locs1 ls (pw_S_put S (pw_H_put (M' := (pm_up hp.2.1 (k + 1) i.toNatClampNeg (vp_nar .boolean x), hp.2.2)) S.2.2.1 hz hP1 hk ?_ (fun j hj => up_off (by omega)) (fun j hj => rfl) (fun j hj b => rfl)) hS1))
        rw [hsh]
        show Sum.inl (_, _, _) = Sum.inl (_, _, _)
        simp only [up_at]
      · cases h
  · cases h
theorem sx_lastore (A : pw_A G mid p R s m args meth c) (hd : decode (pt_bytes mid) pc = .ok (.lastore, n)) (hi : pl_i mid pc n v a b ts (.lastore) = true) (h : pm_ex (gX G) mid pc L st hp cs ss n v a b ts (.lastore) = some (.inl q')) : pw_Nx G mid p l e R s m args below meth c Q (pc, L, st, hp, cs, ss) q' := by
  obtain ⟨hx, hb, hml, hown, hts, hin, hlk, hK, hO, hR, hm⟩ := A
  intro H locs ls S kk
  have hn := Nat.eq_of_beq_eq_true hi
  subst hn
  simp only [pm_ex, pm_last] at h
  split at h
  · rename_i x i o r
    cases ha : pm_arr hp o 2 with
    | false => rw [ha] at h; cases h
    | true =>
      rw [ha] at h
      dsimp only [cond] at h
      split at h
      · rename_i hpin
        simp only [Option.some.injEq, Sum.inl.injEq] at h
        subst h
        obtain ⟨k, rfl, hk, hsh, hlt⟩ := arr_in (by decide) ha
        have he := ws_get G hp hk
        rw [hsh] at he
        show W _ _ _ _ _ _ _ _ _ _ _ _ _ _ _ (F0 m pc ls (_ :: .int i :: vl G (.ref (k + 1)) :: r.map (vl G)))
        rw [vl_own hlt]
        refine pv_last hx hb hK S.2.2.1.2 (ws_D G hp) S.2.2.2.1 k 2 he rfl (pin_vp hpin) hd (fun H1 locs1 hz hP1 hS1 => kk H1 locs1 ls (pw_S_put S (pw_H_put (M' := (hp.2.1, pm_up hp.2.2.1 (k + 1) i.toNatClampNeg x, hp.2.2.2)) S.2.2.1 hz hP1 hk ?_ (fun j hj => rfl) (fun j hj => up_off (by omega)) (fun j hj b => rfl)) hS1))
        rw [hsh]
        show Sum.inl (_, _, _) = Sum.inl (_, _, _)
        simp only [up_atL]
      · cases h
  · cases h
theorem sx_aastore (A : pw_A G mid p R s m args meth c) (hd : decode (pt_bytes mid) pc = .ok (.aastore, n)) (hi : pl_i mid pc n v a b ts (.aastore) = true) (h : pm_ex (gX G) mid pc L st hp cs ss n v a b ts (.aastore) = some (.inl q')) : pw_Nx G mid p l e R s m args below meth c Q (pc, L, st, hp, cs, ss) q' := by
  obtain ⟨hx, hb, hml, hown, hts, hin, hlk, hK, hO, hR, hm⟩ := A
  intro H locs ls S kk
  have hn := Nat.eq_of_beq_eq_true hi
  subst hn
  simp only [pm_ex, pm_aast] at h
  split at h
  · rename_i x i o r
    cases ha : (pm_arr hp o 3 && pm_obj hp x 8 && Nat.blt (o - 1) hp.2.2.2.length && Nat.ble (pm_sh hp o).2 (hp.2.2.2.getD (o - 1) []).length) with
    | false => rw [ha] at h; cases h
    | true =>
      rw [ha] at h
      dsimp only [cond] at h
      split at h
      · rename_i hpin
        simp only [Option.some.injEq, Sum.inl.injEq] at h
        subst h
        simp only [Bool.and_eq_true] at ha
        obtain ⟨k, rfl, hk, hsh, hlt⟩ := arr_in (by decide) ha.1.1.1
        obtain ⟨k2, rfl, hk2, hsh2, hlt2⟩ := obj_in ha.1.1.2
        have he := ws_get G hp hk
        rw [hsh] at he
        have he2 := ws_get G hp hk2
        rw [hsh2] at he2
        have hle := ble_le ha.2
        have hlb := blt_lt ha.1.2
        show W _ _ _ _ _ _ _ _ _ _ _ _ _ _ _ (F0 m pc ls (vl G (.ref (k2 + 1)) :: .int i :: vl G (.ref (k + 1)) :: r.map (vl G)))
        rw [vl_own hlt, vl_own hlt2]
        refine pv_astq (r := (RX8, TX8, 1)) hx hb hK S.2.2.1.2 (ws_D G hp) S.2.2.2.1 k 3 k2 8 he rfl he2 rfl (pin_vp hpin) hd (fun H1 locs1 hz hP1 hS1 => kk H1 locs1 ls (pw_S_put S (pw_H_put (M' := (hp.2.1, hp.2.2.1, pm_wr hp.2.2.2 (k + 1) i.toNatClampNeg (k2 + 1))) S.2.2.1 hz hP1 hk ?_ (fun j hj => rfl) (fun j hj => rfl) (fun j hj b => rd_off (by omega))) hS1))
        rw [hsh]
        show Sum.inl (_, _, Sum.inr (Sum.inr (Sum.inr (Sum.inr _)))) = Sum.inl (_, _, Sum.inr (Sum.inr (Sum.inr (Sum.inr _))))
        have e : (fun j => rno G (pm_rd (pm_wr hp.2.2.2 (k + 1) i.toNatClampNeg (k2 + 1)) (k + 1) j)) = va_up (fun j => rno G (pm_rd hp.2.2.2 (k + 1) j)) i.toNatClampNeg (some (gz G + k2)) := by
          funext j
          by_cases hj : j = i.toNatClampNeg
          · subst hj
            have hil : i.toNatClampNeg < (pm_sh hp (k + 1)).2 := by
              have h2 := hpin.2
              show i.toInt.toNat < _
              omega
            rw [rd_ok hlb (by omega)]
            simp [va_up, rno, rn_own hlt2]
          · rw [rd_kk hj]
            simp [va_up, hj]
        rw [e]
      · cases h
  · cases h
theorem sx_arraylength (A : pw_A G mid p R s m args meth c) (hd : decode (pt_bytes mid) pc = .ok (.arraylength, n)) (hi : pl_i mid pc n v a b ts (.arraylength) = true) (h : pm_ex (gX G) mid pc L st hp cs ss n v a b ts (.arraylength) = some (.inl q')) : pw_Nx G mid p l e R s m args below meth c Q (pc, L, st, hp, cs, ss) q' := by
  obtain ⟨hx, hb, hml, hown, hts, hin, hlk, hK, hO, hR, hm⟩ := A
  intro H locs ls S kk
  have hn := Nat.eq_of_beq_eq_true hi
  subst hn
  simp only [pm_ex, pm_alen] at h
  split at h
  · rename_i o r
    show W _ _ _ _ _ _ _ _ _ _ _ _ _ _ _ (F0 m pc ls (vl G (.ref o) :: r.map (vl G)))
    cases ha : (Nat.blt (pm_sh hp o).1 4 && Nat.blt o 2000) with
    | true =>
      rw [ha] at h
      simp only [cond, Option.some.injEq, Sum.inl.injEq] at h
      subst h
      simp only [Bool.and_eq_true] at ha
      have h1 := blt_lt ha.1
      have hlt := blt_lt ha.2
      obtain ⟨k, rfl, hk, hsh⟩ := sh_in (h := hp) (o := o) (t := (pm_sh hp o).1) (n := (pm_sh hp o).2) rfl (by omega)
      have he := ws_get G hp hk
      rw [hsh] at he
      rw [vl_own hlt]
      have kk := kk H locs ls S
      generalize (pm_sh hp (k + 1)).1 = t at h1 he
      match t, h1, he with
      | 0, _, he => exact va_alen hx hb hK S.2.2.1.2 k 0 he (ty := .int) rfl rfl hd kk
      | 1, _, he => exact va_alen hx hb hK S.2.2.1.2 k 1 he (ty := .boolean) rfl rfl hd kk
      | 2, _, he => exact va_alen hx hb hK S.2.2.1.2 k 2 he (ty := .long) rfl rfl hd kk
      | 3, _, he => exact va_alen hx hb hK S.2.2.1.2 k 3 he (ty := .object "ClaimTrees$Rules") rfl rfl hd kk
    | false =>
      rw [ha] at h
      dsimp only [cond] at h
      have hS := S.2.2.2.1
      obtain ⟨hz, hX, hX2, -, -, -, -, -, hk, -⟩ := hO
      cases ho : Nat.beq o 2000 with
      | true =>
        rw [ho] at h
        simp only [Option.some.injEq, Sum.inl.injEq] at h
        subst h
        have ho := Nat.eq_of_beq_eq_true ho
        subst ho
        rw [vl_old (by omega) (by omega)]
        exact va_slen hx hb hX (by omega) (by show ¬ gz G ≤ _; omega) hS hd (kk H locs ls S)
      | false =>
        rw [ho] at h
        dsimp only at h
        cases ho2 : (Nat.ble 2200 o && Nat.blt o 2210) with
        | false => rw [ho2] at h; cases h
        | true =>
          rw [ho2] at h
          simp only [Option.some.injEq, Sum.inl.injEq] at h
          subst h
          simp only [Bool.and_eq_true] at ho2
          have h1 := ble_le ho2.1
          have h2 := blt_lt ho2.2
          obtain ⟨j, hoj⟩ : ∃ j : Nat, @Eq Nat o (2200 + j) := ⟨o - 2200, by omega⟩
          subst hoj
          have hj : j < 10 := by omega
          have e2 : 2200 + j - 2200 = j := by omega
          have kk := kk H locs ls S
          simp only [pw_W, e2] at kk
          have hT := (hk.1 j hj).2.2.2
          have hl : (pt_str.map List.length).getD j 0 = (pt_str.getD j []).length := by
            have hl2 : j < pt_str.length := hj
            simp [List.getD, hl2]
          rw [hl] at hT
          rw [vl_old (by omega) (by omega)]
          exact va_tlen hx hb hT hS rfl hd kk
  · cases h
end SY
theorem cell_off {α : Type} {f : Nat → Nat → α} {o : Nat} {g : Nat → α} {a : Nat} (h : a ≠ o) : pm_cell f o g a = f a := by
  funext b
  have hb : Nat.beq a o = false := by
    cases hb : Nat.beq a o with
    | false => rfl
    | true => exact absurd (Nat.eq_of_beq_eq_true hb) h
  simp [pm_cell, hb]
theorem cell_at {α : Type} {f : Nat → Nat → α} {o : Nat} {g : Nat → α} : pm_cell f o g o = g := by
  funext b
  simp [pm_cell, Nat.beq_refl]
theorem rd_app {R : List (List Nat)} {x : List Nat} {j b : Nat} (h : j < R.length) : pm_rd (R ++ [x]) (j + 1) b = pm_rd R (j + 1) b := by
  simp [pm_rd, List.getD, List.getElem?_append_left h]
theorem rd_new {R : List (List Nat)} {z j b : Nat} (h : j = R.length) : pm_rd (R ++ [List.replicate z 0]) (j + 1) b = 0 := by
  subst h
  simp only [pm_rd, List.getD, Nat.add_sub_cancel, List.getElem?_append_right (Nat.le_refl _), Nat.sub_self]
  by_cases hb : b < z <;> simp [hb]
def pw_nw (h : PHp) (q : Nat × Nat) (z : Nat) : PHp := (h.1 ++ [q], pm_cell h.2.1 (h.1.length + 1) (fun _ => 0), pm_cell h.2.2.1 (h.1.length + 1) (fun _ => 0), h.2.2.2 ++ [List.replicate z 0])
theorem ws_app {G : PG} {h : PHp} {q : Nat × Nat} {z : Nat} (hl : h.2.2.2.length = h.1.length) : pw_ws G (pw_nw h q z) = pw_ws G h ++ [(gz G + h.1.length, pw_e G (pw_nw h q z).2 (h.1.length + 1) q)] := by
  apply List.ext_getElem?
  intro j
  rcases Nat.lt_trichotomy j h.1.length with hj | hj | hj
  · have h1 : j < (pw_nw h q z).1.length := by simp [pw_nw]; omega
    rw [ws_get G _ h1, List.getElem?_append_left (by rw [ws_len]; exact hj), ws_get G h hj]
    have e1 : (pw_nw h q z).1.getD j (9, 0) = h.1.getD j (9, 0) := by simp [pw_nw, List.getD, List.getElem?_append_left hj]
    rw [e1]
    rw [pw_e_congr (M := h.2) (M' := (pw_nw h q z).2) _ (cell_off (by omega)) (cell_off (by omega)) (fun b => rd_app (by omega))]
  · subst hj
    have h1 : h.1.length < (pw_nw h q z).1.length := by simp [pw_nw]
    rw [ws_get G _ h1, List.getElem?_append_right (by rw [ws_len]; exact Nat.le_refl _), ws_len, Nat.sub_self]
    have e1 : (pw_nw h q z).1.getD h.1.length (9, 0) = q := by simp [pw_nw, List.getD]
    rw [e1]
    rfl
  · rw [List.getElem?_eq_none (by rw [ws_len]; simp [pw_nw]; omega), List.getElem?_eq_none (by simp [ws_len]; omega)]
section SZ
variable {G : PG} {mid : Nat} {p : Program} {l : Launch} {e : Env} {R : Room} {s : State} {m : MethodId} {args : Array Value} {below : List Frame} {meth : Method} {c : Code} {Q : State → Prop}
variable {pc n a b cs ss : Nat} {ts : List Nat} {v : Value} {L st : List Value} {hp : PHp} {q' : PCf}
theorem new_inv {q : Nat × Nat} {z : Nat} {r : List Value} (h : pm_new mid pc L hp cs ss n q z r = some (.inl q')) : q' = (pc + n, L, .ref (hp.1.length + 1) :: r, pw_nw hp q z, cs + 1, ss + z) ∧ cs + 1 ≤ pt_mc mid ∧ ss + z ≤ pt_ms mid ∧ hp.1.length < 1900 ∧ hp.2.2.2.length = hp.1.length := by
  unfold pm_new at h
  cases hc : (Nat.ble (cs + 1) (pt_mc mid) && Nat.ble (ss + z) (pt_ms mid) && Nat.blt hp.1.length 1900 && Nat.beq hp.2.2.2.length hp.1.length) with
  | false => rw [hc] at h; cases h
  | true =>
    rw [hc] at h
    simp only [cond, Option.some.injEq, Sum.inl.injEq] at h
    simp only [Bool.and_eq_true] at hc
    exact ⟨h.symm, ble_le hc.1.1.1, ble_le hc.1.1.2, blt_lt hc.1.2, Nat.eq_of_beq_eq_true hc.2⟩
theorem pw_S_new {H H1 : Heap} {locs : List Loc} {ls : Array Slot} {q : Nat × Nat} {z : Nat} {r : List Value} {x : va_E} (S : pw_S G mid s H locs ls (pc, L, st, hp, cs, ss)) (hz : H1.size = H.size + 1) (hP : va_P (gD G) vwCl (pw_ws G hp ++ [(H.size, x)]) H1) (hS : va_S (pw_Ag G) s.heap H1 locs) (hl : hp.2.2.2.length = hp.1.length) (hx : pw_e G (pw_nw hp q z).2 (hp.1.length + 1) q = x) (h1 : cs + 1 ≤ pt_mc mid) (h2 : ss + z ≤ pt_ms mid) (pc' : Nat) : pw_S G mid s H1 locs ls (pc', L, r, pw_nw hp q z, cs + 1, ss + z) := by
  have hHs : H.size = gz G + hp.1.length := S.2.2.1.1
  refine ⟨S.1, S.2.1, ⟨?_, ?_⟩, hS, h1, h2⟩
  · rw [hz, hHs]
    simp [pw_nw]
    omega
  · rw [ws_app hl, hx, ← hHs]
    exact hP

theorem sx_new (A : pw_A G mid p R s m args meth c) {i : Nat} (hd : decode (pt_bytes mid) pc = .ok (.new i, n)) (hi : pl_i mid pc n v a b ts (.new i) = true) (h : pm_ex (gX G) mid pc L st hp cs ss n v a b ts (.new i) = some (.inl q')) : pw_Nx G mid p l e R s m args below meth c Q (pc, L, st, hp, cs, ss) q' := by
  obtain ⟨hx, hb, hml, hown, hts, hin, hlk, hK, hO, hR, hm⟩ := A
  intro H locs ls S kk
  simp only [pl_i, Bool.and_eq_true] at hi
  obtain ⟨⟨⟨⟨⟨g1, g2⟩, g3⟩, g4⟩, g5⟩, g6⟩ := hi
  have hn := Nat.eq_of_beq_eq_true g1
  subst hn
  have ha12 := blt_lt g2
  have hbN := Nat.eq_of_beq_eq_true g3
  simp only [pm_ex] at h
  obtain ⟨rfl, h1, h2, h3, h4⟩ := new_inv h
  have hHs : H.size = gz G + hp.1.length := S.2.2.1.1
  refine pv_new (D := gD G) (ci := a) (fs := pw_fs G (pw_nw hp (4, a) b).2 (hp.1.length + 1) a) hx hb hts (tc_iw a ha12) (fun k => (parseFieldDescriptor ((vwCl.getD a ("", TX0, 0)).2.1 k).2.2.1).getD .int) (fun k hk => (tc_k ha12 hk).1) hown (hts _ (pl_w_in g4)) (hts _ (pl_w_in g5)) (hts _ (pl_w_in g6)) hK S.2.2.1.2 S.2.2.2.1 (tc_at ha12) ?_ (by show cs + 1 ≤ _; omega) (by show ss + _ ≤ _; rw [← hbN]; omega) hd ?_
  · intro j hj
    obtain ⟨t1, -, -, t4, t5⟩ := tc_k ha12 hj
    have hf := fs_get G (pw_nw hp (4, a) b).2 (hp.1.length + 1) a (j := j) (by rw [t5]; exact hj)
    have e0 : vp_V (pw_fs G (pw_nw hp (4, a) b).2 (hp.1.length + 1) a) j = pw_fv G (pw_nw hp (4, a) b).2 (hp.1.length + 1) j ((pt_fty a).getD j 9) := by simp [vp_V, List.getD, hf]
    rw [e0]
    have z1 : (pw_nw hp (4, a) b).2.1 (hp.1.length + 1) j = 0 := by simp [pw_nw, cell_at]
    have z2 : (pw_nw hp (4, a) b).2.2.1 (hp.1.length + 1) j = 0 := by simp [pw_nw, cell_at]
    have z3 : pm_rd (pw_nw hp (4, a) b).2.2.2 (hp.1.length + 1) j = 0 := rd_new h4.symm
    unfold pw_fv
    split at t4
    · rename_i hty
      simp only [decide_eq_true_eq] at t4
      rw [hty, t4]
      simp only [z1]
      rfl
    · rename_i hty
      simp only [decide_eq_true_eq] at t4
      rw [hty, t4]
      simp only [z2]
      rfl
    · rename_i hty
      rw [hty]
      simp only [z3]
      split at t4
      · rename_i q hq; rw [hq]; rfl
      · rename_i q hq; rw [hq]; rfl
      · cases t4
    · cases t4
  · intro H1 hz hP1 hS1
    have kk := kk H1 locs ls (pw_S_new S hz hP1 hS1 h4 rfl h1 h2 (pc + 3))
    simp only [pw_W, List.map_cons] at kk
    rw [vl_own (by omega), ← hHs] at kk
    rw [← hbN]
    exact kk
theorem sx_newarray (A : pw_A G mid p R s m args meth c) {t : ArrayType} (hd : decode (pt_bytes mid) pc = .ok (.newarray t, n)) (hi : pl_i mid pc n v a b ts (.newarray t) = true) (h : pm_ex (gX G) mid pc L st hp cs ss n v a b ts (.newarray t) = some (.inl q')) : pw_Nx G mid p l e R s m args below meth c Q (pc, L, st, hp, cs, ss) q' := by
  obtain ⟨hx, hb, hml, hown, hts, hin, hlk, hK, hO, hR, hm⟩ := A
  intro H locs ls S kk
  simp only [pl_i, Bool.and_eq_true] at hi
  have hn := Nat.eq_of_beq_eq_true hi.1
  subst hn
  have hi2 := hi.2
  simp only [pm_ex] at h
  split at h
  · rename_i x r
    cases hc : (decide (0 ≤ x.toInt) && Nat.ble x.toNatClampNeg 60000) with
    | false => rw [hc] at h; cases h
    | true =>
      rw [hc] at h
      dsimp only [cond] at h
      simp only [Bool.and_eq_true, decide_eq_true_eq] at hc
      have hle := ble_le hc.2
      have hx0 : ¬ x < 0 := by
        intro q
        have q2 := Int32.lt_iff_toInt_lt.mp q
        simp at q2
        omega
      obtain ⟨rfl, h1, h2, h3, h4⟩ := new_inv h
      have hHs : H.size = gz G + hp.1.length := S.2.2.1.1
      have fin : ∀ (H1 : Heap) (x' : va_E), pw_e G (pw_nw hp (a, x.toNatClampNeg) x.toNatClampNeg).2 (hp.1.length + 1) (a, x.toNatClampNeg) = x' → H1.size = H.size + 1 → va_P (gD G) vwCl (pw_ws G hp ++ [(H.size, x')]) H1 → va_S (pw_Ag G) s.heap H1 locs → W p l e R s m args below meth c H1 locs (cs + 1) (ss + x.toNatClampNeg) Q (F0 m (pc + 2) ls (.ref H.size :: r.map (vl G))) := by
        intro H1 x' hx' hz hP1 hS1
        have kk := kk H1 locs ls (pw_S_new S hz hP1 hS1 h4 hx' h1 h2 (pc + 2))
        simp only [pw_W, List.map_cons] at kk
        rw [vl_own (by omega), ← hHs] at kk
        exact kk
      have z1 : (pw_nw hp (a, x.toNatClampNeg) x.toNatClampNeg).2.1 (hp.1.length + 1) = fun _ => 0 := by simp [pw_nw, cell_at]
      have z2 : (pw_nw hp (a, x.toNatClampNeg) x.toNatClampNeg).2.2.1 (hp.1.length + 1) = fun _ => 0 := by simp [pw_nw, cell_at]
      split at hi2
      · refine pv_newa (atype := .int) (a0 := (x.toNatClampNeg, .inl (fun _ => 0))) (cA := (gA G).1) hx hb (hts _ (pl_w_in hi2)) S.2.2.1.2 S.2.2.2.1 ((hK.2 0 _ rfl).2) rfl hx0 rfl ?_ (by show cs + 1 ≤ _; omega) (by show ss + _ ≤ _; omega) hd (fun H1 hz hP1 hS1 => fin H1 _ ?_ hz hP1 hS1)
        · show x.toNatClampNeg * 4 ≤ 536870912
          omega
        · show Sum.inl (_, _, Sum.inl _) = Sum.inl (_, _, Sum.inl _)
          simp only [z1]
      · refine pv_newa (atype := .boolean) (a0 := (x.toNatClampNeg, .inl (fun _ => 0))) (cA := (gA G).2.1) hx hb (hts _ (pl_w_in hi2)) S.2.2.1.2 S.2.2.2.1 ((hK.2 1 _ rfl).2) rfl hx0 rfl ?_ (by show cs + 1 ≤ _; omega) (by show ss + _ ≤ _; omega) hd (fun H1 hz hP1 hS1 => fin H1 _ ?_ hz hP1 hS1)
        · show x.toNatClampNeg * 1 ≤ 536870912
          omega
        · show Sum.inl (_, _, Sum.inl _) = Sum.inl (_, _, Sum.inl _)
          simp only [z1]
      · refine pv_newa (atype := .long) (a0 := (x.toNatClampNeg, .inr (.inl (fun _ => 0)))) (cA := (gA G).2.2.1) hx hb (hts _ (pl_w_in hi2)) S.2.2.1.2 S.2.2.2.1 ((hK.2 2 _ rfl).2) rfl hx0 rfl ?_ (by show cs + 1 ≤ _; omega) (by show ss + _ ≤ _; omega) hd (fun H1 hz hP1 hS1 => fin H1 _ ?_ hz hP1 hS1)
        · show x.toNatClampNeg * 8 ≤ 536870912
          omega
        · show Sum.inl (_, _, Sum.inr (Sum.inl _)) = Sum.inl (_, _, Sum.inr (Sum.inl _))
          simp only [z2]
      · cases hi2
  · cases h
theorem sx_anewarray (A : pw_A G mid p R s m args meth c) {i : Nat} (hd : decode (pt_bytes mid) pc = .ok (.anewarray i, n)) (hi : pl_i mid pc n v a b ts (.anewarray i) = true) (h : pm_ex (gX G) mid pc L st hp cs ss n v a b ts (.anewarray i) = some (.inl q')) : pw_Nx G mid p l e R s m args below meth c Q (pc, L, st, hp, cs, ss) q' := by
  obtain ⟨hx, hb, hml, hown, hts, hin, hlk, hK, hO, hR, hm⟩ := A
  intro H locs ls S kk
  simp only [pl_i, Bool.and_eq_true] at hi
  have hn := Nat.eq_of_beq_eq_true hi.1
  subst hn
  have hi2 := hi.2
  simp only [pm_ex] at h
  split at h
  · rename_i x r
    cases hc : (decide (0 ≤ x.toInt) && Nat.ble x.toNatClampNeg 60000) with
    | false => rw [hc] at h; cases h
    | true =>
      rw [hc] at h
      dsimp only [cond] at h
      simp only [Bool.and_eq_true, decide_eq_true_eq] at hc
      have hle := ble_le hc.2
      have hx0 : ¬ x < 0 := by
        intro q
        have q2 := Int32.lt_iff_toInt_lt.mp q
        simp at q2
        omega
      obtain ⟨rfl, h1, h2, h3, h4⟩ := new_inv h
      have hHs : H.size = gz G + hp.1.length := S.2.2.1.1
      obtain ⟨-, -, -, -, -, -, -, -, -, -, -, hao⟩ := hO
      obtain ⟨kA, comp, -, -, -, hfc⟩ := (hK.2 3 _ rfl).2
      refine pv_newq (cA := (gA G).2.2.2) hx hb hown (hts _ (pl_w_in hi2)) hao S.2.2.1.2 S.2.2.2.1 hfc hx0 rfl (by omega) (by show cs + 1 ≤ _; omega) (by show ss + _ ≤ _; omega) hd (fun H1 hz hP1 hS1 => ?_)
      have kk := kk H1 locs ls (pw_S_new S hz hP1 hS1 h4 ?_ h1 h2 (pc + 3))
      · simp only [pw_W, List.map_cons] at kk
        rw [vl_own (by omega), ← hHs] at kk
        exact kk
      · show Sum.inl (_, _, Sum.inr (Sum.inr (Sum.inr (Sum.inr _)))) = Sum.inl (_, _, Sum.inr (Sum.inr (Sum.inr (Sum.inr _))))
        have e : (fun j => rno G (pm_rd (pw_nw hp (3, x.toNatClampNeg) x.toNatClampNeg).2.2.2 (hp.1.length + 1) j)) = fun _ => none := by
          funext j
          rw [show pm_rd (pw_nw hp (3, x.toNatClampNeg) x.toNatClampNeg).2.2.2 (hp.1.length + 1) j = 0 from rd_new h4.symm]
          rfl
        rw [e]
  · cases h
end SZ
