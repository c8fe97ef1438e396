/-! CLAIMS: what clauses come to -/
theorem fe_ok {t : Nat → Int32} {N : Nat} : ∀ (f s : Nat) (own : Int32) (s' : Nat) (own' : Int32), s ≤ N → fe t N f s own = Sum.inr (s', own') → s ≤ s' ∧ s' ≤ N ∧ (pin own 1073741824 → pin own' 1073741824)
  | 0, s, own, s', own', hs, h => by
    have e := Sum.inr.inj h
    have e1 : s = s' := (Prod.ext_iff.mp e).1
    have e2 : own = own' := (Prod.ext_iff.mp e).2
    exact ⟨by omega, by omega, fun z => e2 ▸ z⟩
  | f + 1, s, own, s', own', hs, h => by
    rw [fe] at h
    by_cases q : ty t N s = 2
    · rw [if_pos q] at h
      have hn := nx_le t hs
      have hg := nx_ge t N s
      by_cases g : gnum t N s 2 0 29
      · rw [if_pos g] at h
        by_cases b : bt own (dv t s (nx t N s - s)) = true
        · rw [if_pos b] at h; exact absurd h (by simp)
        · rw [if_neg b] at h
          obtain ⟨a1, a2, a3⟩ := fe_ok f _ _ s' own' (rnT_le isp t hn) h
          have := rnT_ge isp t N (nx t N s)
          exact ⟨by omega, a2, fun z => a3 (or_set z (one_set (by have := g.2.2; omega)))⟩
      · rw [if_neg g] at h; exact absurd h (by simp)
    · rw [if_neg q] at h
      have e := Sum.inr.inj h
      have e1 : s = s' := (Prod.ext_iff.mp e).1
      have e2 : own = own' := (Prod.ext_iff.mp e).2
      exact ⟨by omega, by omega, fun z => e2 ▸ z⟩
theorem pa_ok {t : Nat → Int32} {N n k : Nat} : ∀ (f s : Nat) (ps : List Nat) (s' : Nat) (ps' : List Nat), s < N → N ≤ s + f → PLk ps n (n + k) → pa t N n k f s ps = Sum.inr (s', ps') → s < s' ∧ s' ≤ N ∧ PLk ps' n (n + k)
  | 0, s, ps, s', ps', hs, hf, _, _ => by omega
  | f + 1, s, ps, s', ps', hs, hf, hP, h => by
    rw [pa_eq t N n k f s ps rfl rfl rfl rfl] at h
    have hn := nx_le t (show s ≤ N by omega)
    have hgt := nx_gt hs (t := t)
    have hs1 := rnT_le isp t hn
    have hs1g := rnT_ge isp t N (nx t N s)
    generalize rnT isp t N (nx t N s) = s1 at *
    have hn1 := nx_le t hs1
    have hg1 := nx_ge t N s1
    have hs2 := rnT_le isp t hn1
    have hs2g := rnT_ge isp t N (nx t N s1)
    generalize rnT isp t N (nx t N s1) = s2 at *
    generalize dv t s1 (nx t N s1 - s1) = d at *
    by_cases q : ty t N s1 = 2
    · rw [if_pos q] at h
      have hgt1 := nx_gt (ty2_lt q) (t := t)
      by_cases r : nx t N s1 - s1 ≤ 2
      · rw [if_pos r] at h
        by_cases r2 : d < k
        · rw [if_pos r2] at h
          by_cases m : n + d ∈ ps
          · rw [if_pos m] at h; exact absurd h (by simp)
          · rw [if_neg m] at h
            have P2 := PLk_app hP (x := n + d) (by omega) (by omega) m
            by_cases y : s2 < N ∧ t s2 = 44
            · rw [if_pos y] at h
              obtain ⟨a1, a2, a3⟩ := pa_ok f s2 _ s' ps' y.1 (by omega) P2 h
              exact ⟨by omega, a2, a3⟩
            · rw [if_neg y] at h
              have e := Sum.inr.inj h
              have e1 : s2 = s' := (Prod.ext_iff.mp e).1
              have e2 : ps ++ [n + d] = ps' := (Prod.ext_iff.mp e).2
              exact ⟨by omega, by omega, e2 ▸ P2⟩
        · rw [if_neg r2] at h; exact absurd h (by simp)
      · rw [if_neg r] at h; exact absurd h (by simp)
    · rw [if_neg q] at h; exact absurd h (by simp)
theorem ccl_ok {t : Nat → Int32} {N n k : Nat} {V : Nat → List Int32} {s s' : Nat} {own : Int32} {ps : List Nat} {l : List Int32} (h : ccl t N n k V s = Sum.inr (s', own, ps, l)) : s < s' ∧ s' ≤ N ∧ n + k < 40 ∧ PLk ps n (n + k) ∧ pin own 1073741824 := by
  unfold ccl at h
  by_cases q0 : wdl t N s = [99, 108, 97, 105, 109]
  · rw [if_pos q0] at h
    by_cases q1 : n + k < 40
    · rw [if_pos q1] at h
      have hty : ty t N s = 1 := by
        by_cases q : ty t N s = 1
        · exact q
        · rw [wdl_no q] at q0; exact absurd q0 (by simp)
      have hlt : s < N := (ty_1.mp hty).1
      have hn := nx_le t (show s ≤ N by omega)
      have hgt := nx_gt hlt (t := t)
      have hs1 := rnT_le isp t hn
      have hs1g := rnT_ge isp t N (nx t N s)
      generalize rnT isp t N (nx t N s) = s1 at *
      cases hf : fe0 t N s1 with
      | inl x => rw [hf] at h; exact absurd h (by simp)
      | inr x =>
        obtain ⟨s2, ow⟩ := x
        rw [hf] at h
        have hfe : s1 ≤ s2 ∧ s2 ≤ N ∧ pin ow 1073741824 := by
          unfold fe0 at hf
          by_cases q : ty t N s1 = 2
          · rw [if_pos q] at hf
            obtain ⟨a1, a2, a3⟩ := fe_ok N s1 0 s2 ow hs1 hf
            exact ⟨a1, a2, a3 (pin_nI (n := 1073741824) (by decide) (by decide))⟩
          · rw [if_neg q] at hf; exact absurd hf (by simp)
        obtain ⟨f1, f2, f3⟩ := hfe
        have h' : (match (if wdl t N s2 = [111, 102] then pa t N n k N s2 [] else Sum.inr (s2, []) : Sum (Nat × Nat) (Nat × List Nat)) with
            | Sum.inl x => Sum.inl x
            | Sum.inr (s3, ps) => if s3 < N ∧ t s3 = 59 then (match bldv (ow ||| 0) (pv V ps) with
              | none => Sum.inl (5, s3)
              | some l => Sum.inr (rnT isp t N (s3 + 1), ow, ps, l)) else Sum.inl (1, s3) : Sum (Nat × Nat) (Nat × Int32 × List Nat × List Int32)) = Sum.inr (s', own, ps, l) := h
        have fin : ∀ (s3 : Nat) (qs : List Nat), s < s3 → s3 ≤ N → PLk qs n (n + k) → (if s3 < N ∧ t s3 = 59 then (match bldv (ow ||| 0) (pv V qs) with
              | none => Sum.inl (5, s3)
              | some l => Sum.inr (rnT isp t N (s3 + 1), ow, qs, l)) else Sum.inl (1, s3) : Sum (Nat × Nat) (Nat × Int32 × List Nat × List Int32)) = Sum.inr (s', own, ps, l) → s < s' ∧ s' ≤ N ∧ n + k < 40 ∧ PLk ps n (n + k) ∧ pin own 1073741824 := by
          intro s3 qs a1 a2 a3 hh
          by_cases y : s3 < N ∧ t s3 = 59
          · rw [if_pos y] at hh
            cases hb : bldv (ow ||| 0) (pv V qs) with
            | none => rw [hb] at hh; exact absurd hh (by simp)
            | some l2 =>
              rw [hb] at hh
              have e := Sum.inr.inj hh
              have e1 : rnT isp t N (s3 + 1) = s' := (Prod.ext_iff.mp e).1
              have e2 : ow = own := (Prod.ext_iff.mp (Prod.ext_iff.mp e).2).1
              have e3 : qs = ps := (Prod.ext_iff.mp (Prod.ext_iff.mp (Prod.ext_iff.mp e).2).2).1
              have b1 := rnT_le isp t (show s3 + 1 ≤ N by omega)
              have b2 := rnT_ge isp t N (s3 + 1)
              exact ⟨by omega, by omega, q1, e3 ▸ a3, e2 ▸ f3⟩
          · rw [if_neg y] at hh; exact absurd hh (by simp)
        by_cases qo : wdl t N s2 = [111, 102]
        · rw [if_pos qo] at h'
          have hty2 : ty t N s2 = 1 := by
            by_cases q : ty t N s2 = 1
            · exact q
            · rw [wdl_no q] at qo; exact absurd qo (by simp)
          cases hp : pa t N n k N s2 [] with
          | inl x => rw [hp] at h'; exact absurd h' (by simp)
          | inr x =>
            obtain ⟨s3, qs⟩ := x
            rw [hp] at h'
            obtain ⟨a1, a2, a3⟩ := pa_ok N s2 [] s3 qs (ty_1.mp hty2).1 (by omega) (PLk_nil n (n + k)) hp
            exact fin s3 qs (by omega) a2 a3 h'
        · rw [if_neg qo] at h'
          exact fin s2 [] (by omega) f2 (PLk_nil n (n + k)) h'
    · rw [if_neg q1] at h; exact absurd h (by simp)
  · rw [if_neg q0] at h; exact absurd h (by simp)
theorem clp_ok {t : Nat → Int32} {N n : Nat} : ∀ (f s k : Nat) (ow : Nat → Int32) (pl : Nat → List Nat) (V : Nat → List Int32) (k' : Nat) (ow' : Nat → Int32) (pl' : Nat → List Nat) (V' : Nat → List Int32), clp t N n f s k ow pl V = Sum.inr (k', ow', pl', V') → (∀ j, j < k → pin (ow (n + j)) 1073741824) → k ≤ k' ∧ (∀ q, q < n → V' q = V q) ∧ (∀ j, j < k' → pin (ow' (n + j)) 1073741824)
  | 0, s, k, ow, pl, V, k', ow', pl', V', h, hp => by
    have e := Sum.inr.inj h
    have e1 : k = k' := (Prod.ext_iff.mp e).1
    have e2 : ow = ow' := (Prod.ext_iff.mp (Prod.ext_iff.mp e).2).1
    have e4 : V = V' := (Prod.ext_iff.mp (Prod.ext_iff.mp (Prod.ext_iff.mp e).2).2).2
    subst e1 e2 e4
    exact ⟨Nat.le_refl k, fun _ _ => rfl, hp⟩
  | f + 1, s, k, ow, pl, V, k', ow', pl', V', h, hp => by
    rw [clp] at h
    by_cases y : s < N
    · rw [if_pos y] at h
      cases hr : ccl t N n k V s with
      | inl x => rw [hr] at h; exact absurd h (by simp)
      | inr x =>
        obtain ⟨s2, own, ps, l⟩ := x
        rw [hr] at h
        obtain ⟨_, _, _, _, c5⟩ := ccl_ok hr
        obtain ⟨a1, a2, a3⟩ := clp_ok f s2 (k + 1) (upg ow (n + k) own) (upg pl (n + k) ps) (upg V (n + k) l) k' ow' pl' V' h (fun j hj => by
          by_cases e : j = k
          · rw [e, upg_y]; exact c5
          · rw [upg_n (by omega)]; exact hp j (by omega))
        exact ⟨by omega, fun q hq => (a2 q hq).trans (upg_n (by omega)), a3⟩
    · rw [if_neg y] at h
      have e := Sum.inr.inj h
      have e1 : k = k' := (Prod.ext_iff.mp e).1
      have e2 : ow = ow' := (Prod.ext_iff.mp (Prod.ext_iff.mp e).2).1
      have e4 : V = V' := (Prod.ext_iff.mp (Prod.ext_iff.mp (Prod.ext_iff.mp e).2).2).2
      subst e1 e2 e4
      exact ⟨Nat.le_refl k, fun _ _ => rfl, hp⟩
/-! one claim's part of the relation -/
def QCl (fs mn fo ps pe : Nat → Nat) (V : Nat → List Int32) (f24 f69 f25 f70 f26 f71 f27 f28 f30 f31 f32 f72 f73 : Nat → Int32) (a29 : Nat → Int64) (q : Nat) : Prop := (fo q < 8 ∧ f24 q = nI (fo q) ∧ f69 q = nI (fo q) ∧ fs (fo q) ≤ q ∧ q < fs (fo q) + mn (fo q)) ∧ (f25 q = f70 q ∧ pin (f25 q) 1073741824 ∧ f26 q = f71 q ∧ pin (f26 q) 1073741824) ∧ IPar fs fo ps pe f30 f31 f32 f72 f73 q ∧ IVer V ps pe f25 f26 f27 f28 f32 q ∧ IAnc ps pe f32 a29 q
theorem QCl_fr {fs mn fo ps pe : Nat → Nat} {V : Nat → List Int32} {f24 f69 f25 f70 f26 f71 f27 f28 f30 f31 f32 f72 f73 : Nat → Int32} {a29 : Nat → Int64} {fs' mn' fo' ps' pe' : Nat → Nat} {V' : Nat → List Int32} {g24 g69 g25 g70 g26 g71 g27 g28 g30 g31 g32 g72 g73 : Nat → Int32} {b29 : Nat → Int64} {q : Nat} (h : QCl fs mn fo ps pe V f24 f69 f25 f70 f26 f71 f27 f28 f30 f31 f32 f72 f73 a29 q) (hq : q < 40) (e1 : fo' q = fo q) (e2 : fs' (fo q) = fs (fo q)) (e3 : mn' (fo q) = mn (fo q)) (e4 : ps' q = ps q) (e5 : pe' q = pe q) (e6 : 0 < q → pe' (q - 1) = pe (q - 1)) (e7 : ∀ x, x ≤ q → V' x = V x) (d24 : g24 q = f24 q) (d69 : g69 q = f69 q) (d25 : g25 q = f25 q) (d70 : g70 q = f70 q) (d26 : g26 q = f26 q) (d71 : g71 q = f71 q) (d27 : g27 q = f27 q) (d28 : ∀ i, i < 8 → g28 (8 * q + i) = f28 (8 * q + i)) (d30 : g30 q = f30 q) (d31 : g31 q = f31 q) (d32 : ∀ j, j < pe q → g32 j = f32 j) (d72 : g72 q = f72 q) (d73 : ∀ j, j < 40 → g73 (40 * q + j) = f73 (40 * q + j)) (d29 : ∀ x, x ≤ q → b29 x = a29 x) : QCl fs' mn' fo' ps' pe' V' g24 g69 g25 g70 g26 g71 g27 g28 g30 g31 g32 g72 g73 b29 q := by
  obtain ⟨⟨a1, a2, a3, a4, a5⟩, ⟨b1, b2, b3, b4⟩, ⟨c1, c2, c3, c4, c5, c6, c7, c8⟩, ⟨r1, r2⟩, ha⟩ := h
  have h8 := r1.2.1
  have par : ∀ k, k < pe q - ps q → ∃ p, fs (fo q) ≤ p ∧ p < q ∧ f32 (ps q + k) = nI p ∧ g32 (ps q + k) = nI p ∧ f73 (40 * q + k) = nI p := fun k hk => by
    obtain ⟨p, x1, x2, x3, x4⟩ := c8 k hk
    exact ⟨p, x1, x2, x3, (d32 _ (by omega)).trans x3, x4⟩
  refine ⟨?_, ⟨d25.trans (b1.trans d70.symm), by rw [d25]; exact b2, d26.trans (b3.trans d71.symm), by rw [d26]; exact b4⟩, ?_, ?_, ?_⟩
  · rw [e1, e2, e3, d24, d69]; exact ⟨a1, a2, a3, a4, a5⟩
  · refine ⟨by rw [d30, e4]; exact c1, by rw [d31, e5]; exact c2, by rw [e4, e5]; exact c3, by rw [e4, e5]; exact c4, fun z => by rw [e4]; exact c5 z, fun z => by rw [e4, e6 z]; exact c6 z, by rw [d72, e4, e5]; exact c7, fun k hk => ?_⟩
    rw [e4, e5] at hk
    obtain ⟨p, x1, x2, x3, x4, x5⟩ := par k hk
    rw [e4, e1, e2]
    exact ⟨p, x1, x2, x4, (d73 k (by omega)).trans x5⟩
  · refine ⟨⟨by rw [d27, e7 q (Nat.le_refl q)]; exact r1.1, by rw [e7 q (Nat.le_refl q)]; exact h8, fun i hi => ?_⟩, ?_⟩
    · rw [e7 q (Nat.le_refl q)] at hi ⊢
      exact (d28 i (by omega)).trans (r1.2.2 i hi)
    · rw [d25, d26, e4, e5, e7 q (Nat.le_refl q), ← r2]
      congr 1
      refine List.map_congr_left (fun k hk => ?_)
      obtain ⟨p, x1, x2, x3, x4, _⟩ := par k (List.mem_range.mp hk)
      rw [x3, x4, nI_clamp (by omega), e7 p (by omega)]
  · intro p hp
    rw [d29 q (Nat.le_refl q), e4, e5]
    refine (ha p hp).trans ⟨fun ⟨k, hk, x⟩ => ⟨k, hk, ?_⟩, fun ⟨k, hk, x⟩ => ⟨k, hk, ?_⟩⟩
    · obtain ⟨y, x1, x2, x3, x4, _⟩ := par k hk
      rw [x3, nI_clamp (by omega)] at x
      rw [x4, nI_clamp (by omega), d29 y (by omega)]; exact x
    · obtain ⟨y, x1, x2, x3, x4, _⟩ := par k hk
      rw [x4, nI_clamp (by omega), d29 y (by omega)] at x
      rw [x3, nI_clamp (by omega)]; exact x
