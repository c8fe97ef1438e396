/-! CLAIMS: all clauses -/
def upg {α : Type} (f : Nat → α) (i : Nat) (x : α) : Nat → α := fun j => if j = i then x else f j
theorem upg_y {α : Type} {f : Nat → α} {i : Nat} {x : α} : upg f i x i = x := if_pos rfl
theorem upg_n {α : Type} {f : Nat → α} {i j : Nat} {x : α} (h : j ≠ i) : upg f i x j = f j := if_neg h
def clp (t : Nat → Int32) (N n : Nat) : Nat → Nat → Nat → (Nat → Int32) → (Nat → List Nat) → (Nat → List Int32) → Sum (Nat × Nat) (Nat × (Nat → Int32) × (Nat → List Nat) × (Nat → List Int32))
  | 0, _, k, ow, pl, V => Sum.inr (k, ow, pl, V)
  | f + 1, s, k, ow, pl, V => if s < N then (match ccl t N n k V s with
    | Sum.inl x => Sum.inl x
    | Sum.inr (s', own, ps, l) => clp t N n f s' (k + 1) (upg ow (n + k) own) (upg pl (n + k) ps) (upg V (n + k) l)) else Sum.inr (k, ow, pl, V)
def sfp (pe0 n : Nat) (pl : Nat → List Nat) : Nat → Nat
  | 0 => pe0
  | j + 1 => sfp pe0 n pl j + (pl (n + j)).length
theorem sfp_cong {pe0 n : Nat} {pl pl' : Nat → List Nat} : ∀ {k : Nat}, (∀ j, j < k → pl (n + j) = pl' (n + j)) → sfp pe0 n pl k = sfp pe0 n pl' k
  | 0, _ => rfl
  | k + 1, h => by rw [sfp, sfp, sfp_cong (fun j hj => h j (by omega)), h k (by omega)]
theorem sfp_mono {pe0 n : Nat} {pl : Nat → List Nat} {i : Nat} : ∀ k, i < k → sfp pe0 n pl i + (pl (n + i)).length ≤ sfp pe0 n pl k
  | 0, h => absurd h (Nat.not_lt_zero i)
  | k + 1, h => by
    by_cases e : i = k
    · subst e; rw [sfp]; exact Nat.le_refl _
    · have := sfp_mono (pe0 := pe0) (n := n) (pl := pl) (i := i) k (by omega)
      rw [sfp]; omega
theorem sfp_ge {pe0 n : Nat} {pl : Nat → List Nat} : ∀ k, pe0 ≤ sfp pe0 n pl k
  | 0 => Nat.le_refl _
  | k + 1 => by have := sfp_ge (pe0 := pe0) (n := n) (pl := pl) k; rw [sfp]; omega
/-- one draft, the class -/
def CId (M : MI) (Ml : ML) (n fi pe0 : Nat) (ow : Nat → Int32) (pl : Nat → List Nat) (V : Nat → List Int32) (j : Nat) : Prop := M 24 (n + j) = nI fi ∧ M 25 (n + j) = ow (n + j) ∧ M 26 (n + j) = 0 ∧ rowA (M 27) (M 28) (n + j) (V (n + j)) ∧ PLk (pl (n + j)) n (n + j) ∧ PCl M Ml (n + j) (sfp pe0 n pl j) (pl (n + j)) ∧ bldv (ow (n + j) ||| 0) (pv V (pl (n + j))) = some (V (n + j))
/-- what all clauses may change in the class -/
def UAC (n pe0 : Nat) (M M' : MI) (Ml Ml' : ML) : Prop := (∀ k, (k ≠ 34 ∧ k ≠ 36 ∧ k ≠ 24 ∧ k ≠ 25 ∧ k ≠ 26 ∧ k ≠ 27 ∧ k ≠ 28 ∧ k ≠ 30 ∧ k ≠ 31 ∧ k ≠ 32) → M' k = M k) ∧ (∀ q, q < n → M' 24 q = M 24 q ∧ M' 25 q = M 25 q ∧ M' 26 q = M 26 q ∧ M' 27 q = M 27 q ∧ M' 30 q = M 30 q ∧ M' 31 q = M 31 q ∧ Ml' 29 q = Ml 29 q) ∧ (∀ i, i < 8 * n → M' 28 i = M 28 i) ∧ (∀ j, j < pe0 → M' 32 j = M 32 j) ∧ ∀ k, k ≠ 29 → Ml' k = Ml k
theorem UAC_tr {n pe0 : Nat} {M M1 M2 : MI} {Ml Ml1 Ml2 : ML} (h : UAC n pe0 M M1 Ml Ml1) (h2 : UAC n pe0 M1 M2 Ml1 Ml2) : UAC n pe0 M M2 Ml Ml2 := by
  refine ⟨fun k g => (h2.1 k g).trans (h.1 k g), fun q hq => ?_, fun i hi => (h2.2.2.1 i hi).trans (h.2.2.1 i hi), fun j hj => (h2.2.2.2.1 j hj).trans (h.2.2.2.1 j hj), fun k hk => (h2.2.2.2.2 k hk).trans (h.2.2.2.2 k hk)⟩
  obtain ⟨a1, a2, a3, a4, a5, a6, a7⟩ := h.2.1 q hq
  obtain ⟨b1, b2, b3, b4, b5, b6, b7⟩ := h2.2.1 q hq
  exact ⟨b1.trans a1, b2.trans a2, b3.trans a3, b4.trans a4, b5.trans a5, b6.trans a6, b7.trans a7⟩
theorem UAC_cc {N n k st pe0 : Nat} {M M' : MI} {Ml Ml' : ML} (h : UCC N (n + k) st M M' Ml Ml') (hst : pe0 ≤ st) : UAC n pe0 M M' Ml Ml' := ⟨h.1, fun q hq => h.2.2.2.1 q (by omega), fun i hi => h.2.2.2.2.1 i (by omega), fun j hj => h.2.2.2.2.2.1 j (by omega), h.2.2.2.2.2.2⟩
theorem pv_cong {V V' : Nat → List Int32} {ps : List Nat} (h : ∀ p, p ∈ ps → V p = V' p) : pv V ps = pv V' ps := by
  unfold pv
  exact List.map_congr_left (fun j hj => h _ (memn_getD.mpr ⟨j, List.mem_range.mp hj, rfl⟩))
theorem CId_fr {N n k st fi pe0 : Nat} {M M' : MI} {Ml Ml' : ML} {ow ow' : Nat → Int32} {pl pl' : Nat → List Nat} {V V' : Nat → List Int32} (h : UCC N (n + k) st M M' Ml Ml') {j : Nat} (hj : j < k) (hst : st = sfp pe0 n pl k) (e1 : ∀ q, q < n + k → ow' q = ow q) (e2 : ∀ q, q < n + k → pl' q = pl q) (e3 : ∀ q, q < n + k → V' q = V q) (hC : CId M Ml n fi pe0 ow pl V j) : CId M' Ml' n fi pe0 ow' pl' V' j := by
  obtain ⟨c1, c2, c3, c4, c5, ⟨d1, d2, d3, d4⟩, c7⟩ := hC
  obtain ⟨a1, a2, a3, a4, a5, a6, a7⟩ := h.2.2.2.1 (n + j) (by omega)
  have hs : sfp pe0 n pl' j = sfp pe0 n pl j := sfp_cong (fun i hi => e2 (n + i) (by omega))
  have hm := sfp_mono (pe0 := pe0) (n := n) (pl := pl) k hj
  have h8 := c4.2.1
  unfold CId
  rw [e1 (n + j) (by omega), e2 (n + j) (by omega), e3 (n + j) (by omega), hs]
  refine ⟨a1.trans c1, a2.trans c2, a3.trans c3, ⟨a4.trans c4.1, h8, fun i hi => (h.2.2.2.2.1 _ (by omega)).trans (c4.2.2 i hi)⟩, c5, ⟨a5.trans d1, a6.trans d2, fun i hi => (h.2.2.2.2.2.1 _ (by omega)).trans (d3 i hi), fun p hp => ?_⟩, ?_⟩
  · rw [a7]
    refine (d4 p hp).trans ⟨fun ⟨x, hx, y⟩ => ⟨x, hx, ?_⟩, fun ⟨x, hx, y⟩ => ⟨x, hx, ?_⟩⟩
    · rw [(h.2.2.2.1 x (by have := (c5.1 x hx).2; omega)).2.2.2.2.2.2]; exact y
    · rw [(h.2.2.2.1 x (by have := (c5.1 x hx).2; omega)).2.2.2.2.2.2] at y; exact y
  · rw [pv_cong (V := V') (V' := V) (fun p hp => e3 p (by have := (c5.1 p hp).2; omega))]; exact c7
theorem sq_step {a b q : Nat} (h : 2 * a + q ≤ q * q) (hb : b ≤ q) : 2 * (a + b) + (q + 1) ≤ (q + 1) * (q + 1) := by
  have e : (q + 1) * (q + 1) = q * q + 2 * q + 1 := by rw [Nat.add_mul, Nat.mul_add]; omega
  omega
theorem c_clC {X : Nat × (Nat → Int32)} {t : Nat → Int32} {N n fi pe0 : Nat} (hN : N ≤ 200) : ∀ (f s k : Nat) (M : MI) (Ml : ML) (ow : Nat → Int32) (pl : Nat → List Nat) (V : Nat → List Int32) (w3 : Value), N ≤ s + f → k ≤ s → s ≤ N → n + k ≤ 40 → Tok t N M s → M 34 1 = nI N → (∀ j, j < N → M 35 j = t j) → M 36 3 = nI k → M 23 9 = nI n → (n + k = 0 → sfp pe0 n pl k = 0) → (0 < n + k → M 31 (n + k - 1) = nI (sfp pe0 n pl k)) → 2 * sfp pe0 n pl k + (n + k) ≤ (n + k) * (n + k) → (∀ j, j < k → CId M Ml n fi pe0 ow pl V j) → ∃ (M' : MI) (Ml' : ML) (z : Nat), pdn X m_ClaimReader_read (19, [.ref 36, .int (nI fi), .int (nI k), w3], [], (sh0, M, Ml, mr0), 0, 0) = some (some (.int (nI z)), (sh0, M', Ml', mr0)) ∧ z ≤ 6 ∧ UAC n pe0 M M' Ml Ml' ∧ match clp t N n f s k ow pl V with
    | Sum.inl (c', p) => z = c' ∧ 0 < z ∧ M' 36 2 = nI p
    | Sum.inr (k', ow', pl', V') => z = 0 ∧ n + k' ≤ 40 ∧ M' 36 3 = nI k' ∧ M' 36 2 = M 36 2 ∧ ∀ j, j < k' → CId M' Ml' n fi pe0 ow' pl' V' j := by
  intro f
  induction f with
  | zero =>
    intro s k M Ml ow pl V w3 hf hks hs hnk hT h1 ht h36 h23 hz0 hz1 hsq hC
    refine ⟨M, Ml, 0, ?_, by omega, ⟨fun _ _ => rfl, fun _ _ => ⟨rfl, rfl, rfl, rfl, rfl, rfl, rfl⟩, fun _ _ => rfl, fun _ _ => rfl, fun _ _ => rfl⟩, rfl, hnk, h36, rfl, hC⟩
    rw [w_ClaimReader_read_19, hT.2.1, if_pos (tyI0.mpr (ty_0.mpr (show ¬ s < N by omega)))]
    split <;> rfl
  | succ f ih =>
    intro s k M Ml ow pl V w3 hf hks hs hnk hT h1 ht h36 h23 hz0 hz1 hsq hC
    rw [w_ClaimReader_read_19, hT.2.1, clp]
    by_cases y : s < N
    · have hle : n + k < 40 → sfp pe0 n pl k + (n + k) ≤ 800 := fun q => by
        have : (n + k) * (n + k) ≤ 39 * 39 := Nat.mul_le_mul (by omega) (by omega)
        omega
      obtain ⟨M1, Ml1, z, g1, g2, g3, g4⟩ := c_ccC (X := X) (M := M) (Ml := Ml) (t := t) (n := n) (k := k) (st := sfp pe0 n pl k) (fi := fi) (V := V) hN hnk hs hT h1 ht h36 h23 (fun q a b => by
        have := (hC (q - n) (by omega)).2.2.2.1
        rw [show n + (q - n) = q by omega] at this; exact this) hz0 hz1 hle
      rw [if_pos y, if_pos (show nI k < 200 from (x_nlt (n := 200) rfl (by omega)).mpr (by omega)), if_neg (fun x => (ty_0.mp (tyI0.mp x)) y), g1, Option.bind_some, pb_i, w_ClaimReader_read_41]
      have UA := UAC_cc (pe0 := pe0) g3 (sfp_ge k)
      cases hr : ccl t N n k V s with
      | inl x =>
        obtain ⟨c', p⟩ := x
        rw [hr] at g4
        obtain ⟨rfl, z0, z1⟩ := g4
        exact ⟨M1, Ml1, z, by rw [if_neg (show ¬ nI z = 0 from fun x => by have := (nI_is (m := 0) rfl (by omega) (by decide)).mp x; omega)], g2, UA, rfl, z0, z1⟩
      | inr x =>
        obtain ⟨s', own, ps, l⟩ := x
        rw [hr] at g4
        obtain ⟨rfl, a1, a2, a3, a4, a5, a6, a7, a8, a9, a10, a11, a12⟩ := g4
        have h36' : M1 36 3 = nI k := g3.2.2.1.trans h36
        rw [if_pos (show nI 0 = 0 from rfl), h36', nI_1]
        generalize hM2 : pm_up M1 36 3 (nI (k + 1)) = M2
        have f2 : ∀ j, j ≠ 36 → M2 j = M1 j := fun j a => by rw [← hM2, up_off a]
        have plk : ∀ q, q < n + k → upg pl (n + k) ps q = pl q := fun q hq => upg_n (by omega)
        have hsf : sfp pe0 n (upg pl (n + k) ps) k = sfp pe0 n pl k := sfp_cong (fun i hi => plk (n + i) (by omega))
        have hsf1 : sfp pe0 n (upg pl (n + k) ps) (k + 1) = sfp pe0 n pl k + ps.length := by rw [sfp, hsf, upg_y]
        have hlen := PLk_len a9
        have C1 : ∀ j, j < k + 1 → CId M1 Ml1 n fi pe0 (upg ow (n + k) own) (upg pl (n + k) ps) (upg V (n + k) l) j := by
          intro j hj
          by_cases e : j = k
          · subst e
            unfold CId
            rw [upg_y, upg_y, upg_y, hsf]
            refine ⟨a6, a7, a8, a11, a9, a10, ?_⟩
            rw [pv_cong (V := upg V (n + j) l) (V' := V) (fun p hp => upg_n (by have := (a9.1 p hp).2; omega))]; exact a12
          · exact CId_fr g3 (by omega) rfl (fun q hq => upg_n (by omega)) plk (fun q hq => upg_n (by omega)) (hC j (by omega))
        have C2 : ∀ j, j < k + 1 → CId M2 Ml1 n fi pe0 (upg ow (n + k) own) (upg pl (n + k) ps) (upg V (n + k) l) j := fun j hj => by
          obtain ⟨b1, b2, b3, b4, b5, b6, b7⟩ := C1 j hj
          refine ⟨by rw [f2 24 (by decide)]; exact b1, by rw [f2 25 (by decide)]; exact b2, by rw [f2 26 (by decide)]; exact b3, by rw [f2 27 (by decide), f2 28 (by decide)]; exact b4, b5, PCl_fr b6 (f2 30 (by decide)) (f2 31 (by decide)) (f2 32 (by decide)), b7⟩
        have U2 : UAC n pe0 M1 M2 Ml1 Ml1 := ⟨fun j g => f2 j g.2.1, fun q _ => by rw [f2 24 (by decide), f2 25 (by decide), f2 26 (by decide), f2 27 (by decide), f2 30 (by decide), f2 31 (by decide)]; exact ⟨rfl, rfl, rfl, rfl, rfl, rfl, rfl⟩, fun i _ => by rw [f2 28 (by decide)], fun j _ => by rw [f2 32 (by decide)], fun _ _ => rfl⟩
        obtain ⟨M3, Ml3, z', m1, m2, m3, m4⟩ := ih s' (k + 1) M2 Ml1 (upg ow (n + k) own) (upg pl (n + k) ps) (upg V (n + k) l) (.int (nI 0)) (by omega) (by omega) a3 (by omega) (by unfold Tok at a1 ⊢; rw [f2 34 (by decide)]; exact a1) (by rw [f2 34 (by decide)]; exact g3.2.1) (fun j hj => by rw [f2 35 (by decide), g3.1 35 (by decide)]; exact ht j hj) (by rw [← hM2, up_ok]) (by rw [f2 23 (by decide), g3.1 23 (by decide)]; exact h23) (fun q => by omega) (fun _ => by
          rw [f2 31 (by decide), hsf1, show n + (k + 1) - 1 = n + k by omega]; exact a10.2.1) (by rw [hsf1]; exact sq_step hsq hlen) C2
        refine ⟨M3, Ml3, z', m1, m2, UAC_tr (UAC_tr UA U2) m3, ?_⟩
        show match clp t N n f s' (k + 1) (upg ow (n + k) own) (upg pl (n + k) ps) (upg V (n + k) l) with
          | Sum.inl (c', p) => z' = c' ∧ 0 < z' ∧ M3 36 2 = nI p
          | Sum.inr (k', ow', pl', V') => z' = 0 ∧ n + k' ≤ 40 ∧ M3 36 3 = nI k' ∧ M3 36 2 = M 36 2 ∧ ∀ j, j < k' → CId M3 Ml3 n fi pe0 ow' pl' V' j
        cases hq : clp t N n f s' (k + 1) (upg ow (n + k) own) (upg pl (n + k) ps) (upg V (n + k) l) with
        | inl x => rw [hq] at m4; exact m4
        | inr x =>
          rw [hq] at m4
          obtain ⟨n1, n2, n3, n4, n5⟩ := m4
          exact ⟨n1, n2, n3, n4.trans ((show M2 36 2 = M1 36 2 by rw [← hM2, up_kk (by decide)]).trans a4), n5⟩
    · rw [if_neg y, if_pos (tyI0.mpr (ty_0.mpr y))]
      refine ⟨M, Ml, 0, ?_, by omega, ⟨fun _ _ => rfl, fun _ _ => ⟨rfl, rfl, rfl, rfl, rfl, rfl, rfl⟩, fun _ _ => rfl, fun _ _ => rfl, fun _ _ => rfl⟩, rfl, hnk, h36, rfl, hC⟩
      split <;> rfl
/-! the reference -/
def RId (M : MI) (n : Nat) (ow : Nat → Int32) (pl : Nat → List Nat) (V : Nat → List Int32) (j : Nat) : Prop := M 70 (n + j) = ow (n + j) ∧ M 71 (n + j) = 0 ∧ PRf M (n + j) (pl (n + j)) ∧ (pl (n + j)).length ≤ 40 ∧ rowA (M 76) (M 77) (n + j) (V (n + j))
def UAM (n : Nat) (M M' : MI) (Ml Ml' : ML) : Prop := (∀ k, (k ≠ 54 ∧ k ≠ 70 ∧ k ≠ 71 ∧ k ≠ 72 ∧ k ≠ 73 ∧ k ≠ 76 ∧ k ≠ 77) → M' k = M k) ∧ (∀ j, j ≠ 17 → j ≠ 18 → j ≠ 20 → j ≠ 21 → j ≠ 22 → M' 54 j = M 54 j) ∧ (∀ q, q < n → M' 70 q = M 70 q ∧ M' 71 q = M 71 q ∧ M' 72 q = M 72 q) ∧ (∀ j, j < 40 * n → M' 73 j = M 73 j) ∧ ∀ k, k ≠ 54 → Ml' k = Ml k
theorem UAM_tr {n : Nat} {M M1 M2 : MI} {Ml Ml1 Ml2 : ML} (h : UAM n M M1 Ml Ml1) (h2 : UAM n M1 M2 Ml1 Ml2) : UAM n M M2 Ml Ml2 := by
  refine ⟨fun k g => (h2.1 k g).trans (h.1 k g), fun j a b e f g => (h2.2.1 j a b e f g).trans (h.2.1 j a b e f g), fun q hq => ?_, fun j hj => (h2.2.2.2.1 j hj).trans (h.2.2.2.1 j hj), fun k hk => (h2.2.2.2.2 k hk).trans (h.2.2.2.2 k hk)⟩
  obtain ⟨a1, a2, a3⟩ := h.2.2.1 q hq
  obtain ⟨b1, b2, b3⟩ := h2.2.2.1 q hq
  exact ⟨b1.trans a1, b2.trans a2, b3.trans a3⟩
theorem UAM_cc {n k : Nat} {M M' : MI} {Ml Ml' : ML} (h : UCM (n + k) M M' Ml Ml') : UAM n M M' Ml Ml' := ⟨h.1, h.2.1, fun q hq => by obtain ⟨a1, a2, a3, _⟩ := h.2.2.1 q (by omega); exact ⟨a1, a2, a3⟩, fun j hj => h.2.2.2.1 j (by omega), h.2.2.2.2.2⟩
theorem c_clM {X : Nat × (Nat → Int32)} {t : Nat → Int32} {N n : Nat} (hN : N ≤ 200) (hb : ∀ j, j < N → ¬ t j < 0) (v1 : Int32) : ∀ (f s k q : Nat) (M : MI) (Ml : ML) (ow : Nat → Int32) (pl : Nat → List Nat) (V : Nat → List Int32) (w4 : Value), N ≤ s + f → s ≤ N → q ≤ N → rnT isp t N q = s → n + k ≤ 40 → RT t N M q → M 54 23 = nI n → (∀ j, j < k → RId M n ow pl V j ∧ PLk (pl (n + j)) n (n + j)) → (∀ s2 k2 W own ps l s3, ccl t N n k2 W s2 = Sum.inr (s3, own, ps, l) → s2 < s3 ∧ s3 ≤ N ∧ n + k2 < 40 ∧ PLk ps n (n + k2)) → ∃ (M' : MI) (Ml' : ML) (z k' : Nat), pdn X m_M_claims (39, [.ref 54, .int v1, .int (nI k), .int 0, w4], [], (sh0, M, Ml, mr0), 0, 0) = pdn X m_M_claims (80, [.ref 54, .int v1, .int (nI k'), .int (nI z), w4], [], (sh0, M', Ml', mr0), 0, 0) ∧ z ≤ 6 ∧ UAM n M M' Ml Ml' ∧ match clp t N n f s k ow pl V with
    | Sum.inl (c', p) => z = c' ∧ 0 < z ∧ M' 54 17 = nI p
    | Sum.inr (k'', ow', pl', V') => z = 0 ∧ k' = k'' ∧ M' 54 17 = M 54 17 ∧ ∀ j, j < k'' → RId M' n ow' pl' V' j := by
  intro f
  induction f with
  | zero =>
    intro s k q M Ml ow pl V w4 hf hs hq hsk hnk hR h23 hC hcc
    obtain ⟨M1, g1, ⟨g2, g3⟩, g4⟩ := c_here (X := X) (Ml := Ml) hN hq hR
    rw [hsk] at g1
    refine ⟨M1, Ml, 0, k, ?_, by omega, ⟨fun k g => g2 k g.1, fun j _ b _ _ _ => g3 j b, fun q _ => by rw [g2 70 (by decide), g2 71 (by decide), g2 72 (by decide)]; exact ⟨rfl, rfl, rfl⟩, fun j _ => by rw [g2 73 (by decide)], fun _ _ => rfl⟩, rfl, rfl, g3 17 (by decide), fun j hj => ?_⟩
    · rw [w_M_claims_39, if_pos rfl, g1, Option.bind_some, pb_i, w_M_claims_47, if_pos (by unfold hrv; rw [if_neg (by omega)]; decide)]; rfl
    · obtain ⟨⟨b1, b2, b3, b4, b5⟩, _⟩ := hC j hj
      exact ⟨by rw [g2 70 (by decide)]; exact b1, by rw [g2 71 (by decide)]; exact b2, by unfold PRf at b3 ⊢; rw [g2 72 (by decide), g2 73 (by decide)]; exact b3, b4, by rw [g2 76 (by decide), g2 77 (by decide)]; exact b5⟩
  | succ f ih =>
    intro s k q M Ml ow pl V w4 hf hs hq hsk hnk hR h23 hC hcc
    obtain ⟨M1, g1, ⟨g2, g3⟩, g4⟩ := c_here (X := X) (Ml := Ml) hN hq hR
    rw [hsk] at g1 g4
    have U1 : UAM n M M1 Ml Ml := ⟨fun k g => g2 k g.1, fun j _ b _ _ _ => g3 j b, fun q _ => by rw [g2 70 (by decide), g2 71 (by decide), g2 72 (by decide)]; exact ⟨rfl, rfl, rfl⟩, fun j _ => by rw [g2 73 (by decide)], fun _ _ => rfl⟩
    have C1 : ∀ j, j < k → RId M1 n ow pl V j := fun j hj => by
      obtain ⟨⟨b1, b2, b3, b4, b5⟩, _⟩ := hC j hj
      exact ⟨by rw [g2 70 (by decide)]; exact b1, by rw [g2 71 (by decide)]; exact b2, by unfold PRf at b3 ⊢; rw [g2 72 (by decide), g2 73 (by decide)]; exact b3, b4, by rw [g2 76 (by decide), g2 77 (by decide)]; exact b5⟩
    rw [w_M_claims_39, if_pos rfl, g1, Option.bind_some, pb_i, w_M_claims_47, clp]
    by_cases y : s < N
    · rw [if_pos y, if_neg (show ¬ hrv t N s < 0 by unfold hrv; rw [if_pos y]; exact hb s y), g3 23 (by decide), h23, nI_add]
      obtain ⟨M2, Ml2, z, k1, k2, k3, k4⟩ := c_ccM (X := X) (M := M1) (Ml := Ml) (t := t) (n := n) (k := k) (V := V) hN hnk hs (by rw [← hsk]; exact rnT_idem) g4 (fun q a b => by
        have := (C1 (q - n) (by omega)).2.2.2.2
        rw [show n + (q - n) = q by omega] at this; exact this)
      have UA := UAM_tr U1 (UAM_cc k3)
      rw [k1, Option.bind_some, pb_i, w_M_claims_64]
      cases hr : ccl t N n k V s with
      | inl x =>
        obtain ⟨c', p⟩ := x
        rw [hr] at k4
        obtain ⟨rfl, z0, z1⟩ := k4
        have hnz : ¬ nI z = 0 := fun x => by have := (nI_is (m := 0) rfl (by omega) (by decide)).mp x; omega
        refine ⟨M2, Ml2, z, k, ?_, k2, UA, rfl, z0, z1⟩
        rw [if_neg hnz, w_M_claims_39, if_neg hnz, show (0 : Int32) = nI 0 from rfl, nI_add]; rfl
      | inr x =>
        obtain ⟨s', own, ps, l⟩ := x
        rw [hr] at k4
        obtain ⟨rfl, ⟨q', a1, a2, a3⟩, a4, a5, a6, a7, a8⟩ := k4
        obtain ⟨w1, w2, w3, w5⟩ := hcc _ _ _ _ _ _ _ hr
        have hlen := PLk_len w5
        rw [if_pos (show nI 0 = 0 from rfl), nI_1]
        have C2 : ∀ j, j < k + 1 → RId M2 n (upg ow (n + k) own) (upg pl (n + k) ps) (upg V (n + k) l) j ∧ PLk (upg pl (n + k) ps (n + j)) n (n + j) := fun j hj => by
          by_cases e : j = k
          · subst e
            unfold RId
            rw [upg_y, upg_y, upg_y]
            exact ⟨⟨a5, a6, a7, by omega, a8⟩, w5⟩
          · obtain ⟨b1, b2, b3, b4, b5⟩ := C1 j (by omega)
            obtain ⟨c1, c2, c3, c4⟩ := k3.2.2.1 (n + j) (by omega)
            unfold RId
            rw [upg_n (show n + j ≠ n + k by omega), upg_n (show n + j ≠ n + k by omega), upg_n (show n + j ≠ n + k by omega)]
            have h8 := b5.2.1
            exact ⟨⟨c1.trans b1, c2.trans b2, ⟨c3.trans b3.1, fun i hi => (k3.2.2.2.1 _ (by omega)).trans (b3.2 i hi)⟩, b4, ⟨c4.trans b5.1, h8, fun i hi => (k3.2.2.2.2.1 _ (by omega)).trans (b5.2.2 i hi)⟩⟩, (hC j (by omega)).2⟩
        obtain ⟨M3, Ml3, z', k', m1, m2, m3, m4⟩ := ih s' (k + 1) q' M2 Ml2 (upg ow (n + k) own) (upg pl (n + k) ps) (upg V (n + k) l) w4 (by omega) w2 a1 a3 (by omega) a2 (by rw [UA.2.1 23 (by decide) (by decide) (by decide) (by decide) (by decide)]; exact h23) C2 hcc
        refine ⟨M3, Ml3, z', k', m1, m2, UAM_tr UA m3, ?_⟩
        show match clp t N n f s' (k + 1) (upg ow (n + k) own) (upg pl (n + k) ps) (upg V (n + k) l) with
          | Sum.inl (c', p) => z' = c' ∧ 0 < z' ∧ M3 54 17 = nI p
          | Sum.inr (k'', ow', pl', V') => z' = 0 ∧ k' = k'' ∧ M3 54 17 = M 54 17 ∧ ∀ j, j < k'' → RId M3 n ow' pl' V' j
        cases hqq : clp t N n f s' (k + 1) (upg ow (n + k) own) (upg pl (n + k) ps) (upg V (n + k) l) with
        | inl x => rw [hqq] at m4; exact m4
        | inr x =>
          rw [hqq] at m4
          obtain ⟨n1, n2, n3, n4⟩ := m4
          exact ⟨n1, n2, (n3.trans a4).trans (g3 17 (by decide)), n4⟩
    · rw [if_neg y, if_pos (show hrv t N s < 0 by unfold hrv; rw [if_neg y]; decide)]
      exact ⟨M1, Ml, 0, k, rfl, by omega, U1, rfl, rfl, g3 17 (by decide), C1⟩
