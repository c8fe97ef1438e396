def lw_od (b : Nat) (t : Nat → Nat) (adK adV : Nat → Nat) (r : Nat) : Nat := if r < 2001 then b else if r < 2004 then t (r - 2001) else if r < 2110 then adK (r - 2100) else adV (r - 2200)
theorem vk_S_to {N : Nat} {len : List Nat} {byt : List (List Int32)} {k1 v1 k2 v2 : Nat → Nat} {A : Nat → Prop} {U : State} {H : Heap} (h : vk_S N len byt k1 v1 A U H) (hk : ∀ i, i < N → k2 i = k1 i) (hv : ∀ i, i < N → v2 i = v1 i) : vk_S N len byt k2 v2 A U H := by
  refine ⟨fun i hi => ?_, fun i j hi hj e => ?_⟩
  · rw [hk i hi, hv i hi]; exact h.1 i hi
  · rw [hk i hi, hk j hj] at e; exact h.2 i j hi hj e
theorem old_eq (X : Nat × (Nat → Int32)) (i j : Nat) (hi : i < 3) : (pm_old X (2001 + i)).2 j = (lw_ar.getD i ("", "", [])).2.2.getD j 0 := by
  unfold pm_old
  rw [show 2001 + i - 2000 = i + 1 by omega]
  match i, hi with
  | 0, _ => rfl
  | 1, _ => rfl
  | 2, _ => rfl
set_option maxRecDepth 100000 in
theorem law_G {p : Program} {s : State} {m : MethodId} {meth : Method} {c : Code} {b L : Nat} {xs : Nat → Int32} (C0 : lw_At p s m meth c b L xs) : ∃ G : PG, gX G = (L, xs) ∧ gz G = s.heap.size ∧ go G 2000 = b ∧ va_K (gD G) vwCl (pw_tys G) s ∧ pw_O G s := by
  obtain ⟨hx, hb, hr, hml, hown, hts, hX, hbl, hlocks, hgv⟩ := C0
  have hs := flat_of_before _ hgv
  have hA : ∀ a : Nat, a < s.heap.size → ¬ (fun q : Nat => s.heap.size ≤ q) a := fun a h => Nat.not_le.mpr h
  have ha : ∀ i : Nat, ∃ t : Nat, i < 3 → va_Z (lw_ar.getD i ("", "", [])).1 (lw_ar.getD i ("", "", [])).2.1 "[I" (.ref t) (fun q : Nat => s.heap.size ≤ q) s s.heap ∧ va_T .int t 6 (fun j => .int ((lw_ar.getD i ("", "", [])).2.2.getD j 0)) (fun q : Nat => s.heap.size ≤ q) s s.heap := by
    intro i
    by_cases hi : i < 3
    · obtain ⟨t, ht, hT⟩ := va_Tof (ty := .int) (N := 6) (f := fun j => .int ((lw_ar.getD i ("", "", [])).2.2.getD j 0)) (A := fun q : Nat => s.heap.size ≤ q) (by decide) (hs _ (lm_ao i hi)) (va_eqt (hs _ (lm_al i hi))) (fun j hj => va_eqt (hs _ (lm_ae i hi j hj))) hA
      exact ⟨t, fun _ => ⟨va_Zof (hts _ (lm_ls i hi)) (hts _ (lm_li i hi)) ht hA, hT⟩⟩
    · exact ⟨0, fun h => absurd h hi⟩
  obtain ⟨t, ht⟩ := Classical.axiomOfChoice ha
  obtain ⟨adK, adV, hk, hkr⟩ := vk_Sof (N := 10) (tm := lw_st) (len := pt_str.map List.length) (byt := pt_str) (A := fun q : Nat => s.heap.size ≤ q) lm_sl (fun i hi => hs _ (lm_sx i hi)) (fun i hi => hs _ (lm_sc i hi)) (fun i hi => hs _ (lm_sa i hi)) (fun i hi => hs _ (lm_sn i hi)) (fun i hi j hj => hs _ (lm_se i hi j hj)) (fun i j hi hj hij => (lm_sd i hi j hj hij).imp (hs _) (hs _)) hA
  have hcz := va_Zof (A := fun q : Nat => s.heap.size ≤ q) (hts _ lm_cl) (hts _ lm_ci) (va_eqi (hs _ lm_cs)) hA
  have hpz : ∃ v : Value, v.category = 1 ∧ va_Z "jdk/internal/util/Preconditions" "SIOOBE_FORMATTER" "Ljava/util/function/BiFunction;" v (fun q : Nat => s.heap.size ≤ q) s s.heap := by
    rcases va_Zqof (A := fun q : Nat => s.heap.size ≤ q) (hts _ lm_pl) (hts _ lm_pi) (hs _ lm_ps) hA with h | ⟨t, h⟩
    · exact ⟨_, rfl, h⟩
    · exact ⟨_, rfl, h⟩
  obtain ⟨sf, hsf, hpz⟩ := hpz
  obtain ⟨c1, k1, p1, a1, a2, a3⟩ := Cond.arrayClass_spec (hts _ lm_a1)
  obtain ⟨c2, k2, p2, b1, b2, b3⟩ := Cond.arrayClass_spec (hts _ lm_a2)
  obtain ⟨c3, k3, p3, d1, d2, d3⟩ := Cond.arrayClass_spec (hts _ lm_a3)
  obtain ⟨p4, c4, k4, e1, e2, e3, e4, e5⟩ := Cond.arrayOver_spec (hts _ lm_ov)
  have hc : ∀ k : Nat, ∃ q : ClassId × (Nat → Nat), k < 12 → u_Kn s (vwCl.getD k ("", TX0, 0)).1 (vwCl.getD k ("", TX0, 0)).2.1 (vwCl.getD k ("", TX0, 0)).2.2 q.1 q.2 := by
    intro k
    by_cases hk : k < 12
    · obtain ⟨cC, iS, h⟩ := u_known hts (fun w hw => lm_g w (tc_iw k hk w hw)) (hts _ (lm_in k hk))
      exact ⟨(cC, iS), fun _ => h⟩
    · exact ⟨(0, fun _ => 0), fun h => absurd h hk⟩
  obtain ⟨dq, hdq⟩ := Classical.axiomOfChoice hc
  refine ⟨(s.heap.size, lw_od b t adK adV, sf, (fun k => (dq k).1, fun k => (dq k).2), (c1, c2, c3, c4), (L, xs)), rfl, rfl, rfl, ⟨?_, ?_⟩, ?_⟩
  · intro k q hq
    have hk : k < 12 := (List.getElem?_eq_some_iff.mp hq).1
    rw [tc_at hk] at hq
    cases hq
    exact hdq k hk
  · intro k q hq
    match k, hq with
    | 0, hq => cases hq; exact ⟨fun n z => ⟨fun k h => (by cases h), k1, a2, p1, a3⟩, a1⟩
    | 1, hq => cases hq; exact ⟨fun n z => ⟨fun k h => (by cases h), k2, b2, p2, b3⟩, b1⟩
    | 2, hq => cases hq; exact ⟨fun n z => ⟨fun k h => (by cases h), k3, d2, p3, d3⟩, d1⟩
    | 3, hq => cases hq; exact ⟨fun n z => ⟨fun k h => (by cases h), k4, e3, p4, e4⟩, k4, p4, e3, e4, e1, e5⟩
    | k + 4, hq => simp [pw_tys] at hq
  · have od1 : ∀ i, i < 3 → lw_od b t adK adV (2001 + i) = t i := by
      intro i hi
      unfold lw_od
      rw [if_neg (by omega), if_pos (by omega), show 2001 + i - 2001 = i by omega]
    have od2 : ∀ i, i < 10 → lw_od b t adK adV (2100 + i) = adK i := by
      intro i hi
      unfold lw_od
      rw [if_neg (by omega), if_neg (by omega), if_pos (by omega), show 2100 + i - 2100 = i by omega]
    have od3 : ∀ i, i < 10 → lw_od b t adK adV (2200 + i) = adV i := by
      intro i hi
      unfold lw_od
      rw [if_neg (by omega), if_neg (by omega), if_neg (by omega), show 2200 + i - 2200 = i by omega]
    refine ⟨Nat.le_refl _, hX, hbl, fun i hi => ?_, fun i hi => ?_, hcz, hpz, hsf, vk_S_to hk od2 od3, fun i hi => ?_, fun w hw => va_Nw.of (lm_ne w hw).2 (hts _ (lm_ne w hw).1), va_AO.of (hts _ lm_ov)⟩
    · show va_Z _ _ _ (.ref (lw_od b t adK adV (2001 + i))) _ _ _
      rw [od1 i hi]
      have := (ht i hi).1
      obtain ⟨q1, q2, q3⟩ := lm_eq i hi
      rw [q1, q2, q3]
      exact this
    · have := (ht i hi).2
      have e : (fun j => Value.int ((pm_old (L, xs) (2001 + i)).2 j)) = fun j => .int ((lw_ar.getD i ("", "", [])).2.2.getD j 0) := by
        funext j
        rw [old_eq (L, xs) i j hi]
      rw [← od1 i hi, ← e] at this
      exact this
    · show vk_R _ _ _ (lw_od b t adK adV (2100 + i)) _
      rw [od2 i hi]
      exact vk_R.of (hts _ (lm_sr i hi)) (hkr i hi)
set_option maxHeartbeats 1000000 in
/-- THE LAW, OUT OF ONE EQUATION OF THE PURE MACHINE -/
theorem law_start {p : Program} {e : Env} {s : State} {m : MethodId} {below : List Frame} {meth : Method} {c : Code} (l : Launch) {b L : Nat} {xs : Nat → Int32} (C0 : lw_At p s m meth c b L xs) {hf : PHp} (hpure : pD (L, xs) 191 [.ref 2000] pm_h0 = some (some (.int 1), hf)) : W p l e room_1 s m #[Value.ref b] below meth c s.heap [] 0 0 (lw_Z below #[Value.ref b] s) (entryFrame m ([Value.ref b] : List Value).toArray 4) := by
  obtain ⟨G, gx, gzz, gb, hK, hO⟩ := law_G C0
  obtain ⟨hx, hb, hr, hml, hown, hts, hX, hbl, hlocks, hgv⟩ := C0
  have hg : (gs G).category = 1 := hO.2.2.2.2.2.2.2.1
  have A : pw_A G 191 p room_1 s m #[Value.ref b] meth c := ⟨hx, hb, hml, hown, fun w hw => hts w (lm_g w hw), fun h => absurd h (by decide +kernel), hlocks, hK, hO, ⟨by decide, by decide, by decide +kernel, by decide +kernel⟩, by decide⟩
  have hvl : [Value.ref b] = ([Value.ref 2000] : List Value).map (vl G) := by
    show _ = [vl G (.ref 2000)]
    rw [vl_old (by decide) (by decide), gb]
  rw [← gx] at hpure
  rw [show pD (gX G) 191 [.ref 2000] pm_h0 = pT (gX G) (191 + 1) 191 [.ref 2000] pm_h0 from rfl, pT, if_neg (Nat.lt_irrefl _), if_pos rfl] at hpure
  obtain ⟨N, hN⟩ := (pm_lim_iff pm_run_m1).mp hpure
  obtain ⟨hal, hN⟩ := init_run (by decide) hN
  have hl := lv_entry (([Value.ref 2000] : List Value).map (vl G)) (n := 4) (by rw [args_len hg]; exact hal)
  refine W.eq (g2 := F0 m 0 ((lg_sl (([Value.ref 2000] : List Value).map (vl G)) ++ List.replicate (4 - (lg_sl (([Value.ref 2000] : List Value).map (vl G))).length) Slot.unset).toArray) []) (by rw [hvl]; exact lg_entry_eq m _ 4) ?_
  generalize (lg_sl (([Value.ref 2000] : List Value).map (vl G)) ++ List.replicate (4 - (lg_sl (([Value.ref 2000] : List Value).map (vl G))).length) Slot.unset).toArray = ls at hl ⊢
  have hH : pw_H G pm_h0 s.heap := ⟨by rw [gzz]; rfl, fun k q h => by simp [pw_ws, pm_h0] at h⟩
  refine sim_run (r := (some (.int 1), hf)) A (fun k2 as2 h2 r2 hk2 e2 => sim_met G l 191 (Nat.le_refl _) k2 hk2 as2 h2 r2 e2) ?_ N _ hN s.heap [] ls ⟨args_has hg hl, pad_len hal, hH, va_S.rf, Nat.zero_le _, Nat.zero_le _⟩
  intro H locs ls q S hs
  obtain ⟨pc, L1, st, hp, cs, ss⟩ := q
  unfold pm_step at hs
  cases hlk : pm_lk (pt_code 191) pc with
  | none => rw [hlk] at hs; cases hs
  | some i =>
    rw [hlk] at hs
    dsimp only at hs
    have hok := List.all_eq_true.mp (po_all 191 (by decide)) _ (lk_mem hlk)
    have hpr := List.all_eq_true.mp (pr_all 191 (by decide)) _ (lk_mem hlk)
    simp only [pl_ok, Bool.and_eq_true, decide_eq_true_eq] at hok
    obtain ⟨ins, n, v, a, b2, ts⟩ := i
    dsimp only at hs hok
    rcases ex_ret hs with rfl | rfl | rfl
    · have hn := Nat.eq_of_beq_eq_true hok.2
      subst hn
      simp only [pm_ex, pm_iret] at hs
      split at hs
      · rename_i x
        split at hs
        · simp only [Option.some.injEq, Sum.inr.injEq, Sum.inl.injEq, Prod.mk.injEq, Value.int.injEq] at hs
          obtain ⟨rfl, rfl⟩ := hs
          have hS := S.2.2.2.1
          refine va_forget (fun q hq => ?_) (W.widen (k := 600000) (n := 7302249) S.2.2.2.2.1 S.2.2.2.2.2 (lw_ret hx hb hr hlocks hok.1))
          have := hS.2.2 q hq
          rw [← gzz]
          exact this
        · cases hs
      · cases hs
    · have h9 : Nat.beq (pt_ret 191) 3 = true := hpr
      exact absurd h9 (by decide +kernel)
    · have h9 : Nat.beq (pt_ret 191) 0 = true := hpr
      exact absurd h9 (by decide +kernel)
