/-! TEXTS: the reference's words and numbers -/
def lI (n : Nat) : Int64 := Int64.ofNat n
theorem lI_toInt {n : Nat} (h : n < 2 ^ 63) : (lI n).toInt = (n : Int) := Int64.toInt_ofNat_of_lt h
theorem lI_add (a b : Nat) : lI a + lI b = lI (a + b) := (Int64.ofNat_add a b).symm
theorem lI_mul (a b : Nat) : lI a * lI b = lI (a * b) := (Int64.ofNat_mul a b).symm
theorem lI_subN {a b : Nat} (h : b ≤ a) : lI a - lI b = lI (a - b) := by
  have e : lI a = lI (a - b) + lI b := by rw [lI_add]; congr 1; omega
  rw [e]
  apply Int64.toBitVec_inj.mp
  show (lI (a - b)).toBitVec + (lI b).toBitVec - (lI b).toBitVec = _
  rw [BitVec.add_sub_cancel]
theorem tL_nI {k : Nat} (h : k < 2 ^ 31) : Int32.toInt64 (nI k) = lI k := Int64.toInt_inj.mp (by rw [show (Int32.toInt64 (nI k)).toInt = (nI k).toInt from Int32.toInt_toInt64 _, nI_toInt h, lI_toInt (by omega)])
theorem lI_inj {a b : Nat} (ha : a < 2 ^ 63) (hb : b < 2 ^ 63) : lI a = lI b ↔ a = b := by
  refine ⟨fun h => ?_, fun h => by rw [h]⟩
  have := congrArg Int64.toInt h
  rw [lI_toInt ha, lI_toInt hb] at this; omega
theorem lg_0 (a b : Int64) : lg_cmp a b = 0 ↔ a = b := by
  have h1 := x_cmp1 a b
  have h2 := x_cmp2 a b
  have e0 : (0 : Int32).toInt = 0 := by decide
  constructor
  · intro h
    rw [h] at h1 h2
    have n1 : ¬ (0 : Int32) < 0 := by decide
    have a1 : ¬ a.toInt < b.toInt := fun z => n1 (h1.mpr z)
    have a2 : ¬ b.toInt < a.toInt := fun z => n1 (h2.mpr z)
    exact Int64.toInt_inj.mp (by omega)
  · intro h
    subst h
    have n1 : ¬ lg_cmp a a < 0 := fun z => by have := h1.mp z; omega
    have n2 : ¬ 0 < lg_cmp a a := fun z => by have := h2.mp z; omega
    rw [x_lt] at n1 n2
    exact Int32.toInt_inj.mp (by omega)
theorem c_inL {X : Nat × (Nat → Int32)} {Mi : MI} {Ml : ML} (x : Int32) : pD X m_M_in [.long (Int32.toInt64 x), .long 97, .long 122] (sh0, Mi, Ml, mr0) = some (some (.int (bI (ilt x = true))), (sh0, Mi, Ml, mr0)) := by
  rw [c_in]
  refine congrArg (fun z => some (some (Value.int z), ((sh0, Mi, Ml, mr0) : PHp))) (bI_cong ?_)
  unfold ilt
  rw [decide_eq_true_iff, x_lt, x_lt, show (Int32.toInt64 x).toInt = x.toInt from Int32.toInt_toInt64 _]
  have e1 : (97 : Int64).toInt = 97 := by decide
  have e2 : (122 : Int64).toInt = 122 := by decide
  have e3 : (97 : Int32).toInt = 97 := by decide
  have e4 : (122 : Int32).toInt = 122 := by decide
  omega
theorem c_inF {X : Nat × (Nat → Int32)} {Mi : MI} {Ml : ML} (x : Int32) : pD X m_M_in [.long (Int32.toInt64 x), .long 48, .long 57] (sh0, Mi, Ml, mr0) = some (some (.int (bI (ifg x = true))), (sh0, Mi, Ml, mr0)) := by
  rw [c_in]
  refine congrArg (fun z => some (some (Value.int z), ((sh0, Mi, Ml, mr0) : PHp))) (bI_cong ?_)
  unfold ifg
  rw [decide_eq_true_iff, x_lt, x_lt, show (Int32.toInt64 x).toInt = x.toInt from Int32.toInt_toInt64 _]
  have e1 : (48 : Int64).toInt = 48 := by decide
  have e2 : (57 : Int64).toInt = 57 := by decide
  have e3 : (48 : Int32).toInt = 48 := by decide
  have e4 : (57 : Int32).toInt = 57 := by decide
  omega
/-- the reference's text, and where it stands -/
def RT (t : Nat → Int32) (N : Nat) (M : MI) (p : Nat) : Prop := M 54 16 = nI N ∧ M 54 18 = nI p ∧ ∀ j, j < N → M 68 j = t j
/-- only the place (18) is changed -/
def U18 (M M' : MI) : Prop := (∀ k, k ≠ 54 → M' k = M k) ∧ ∀ j, j ≠ 18 → M' 54 j = M 54 j
theorem U18_id (M : MI) : U18 M M := ⟨fun _ _ => rfl, fun _ _ => rfl⟩
def hrv (t : Nat → Int32) (N s : Nat) : Int32 := if s < N then t s else -1
theorem c_here_go {X : Nat × (Nat → Int32)} {Ml : ML} {t : Nat → Int32} {N : Nat} (hN : N ≤ 200) : ∀ n i (M : MI), i + n = N → RT t N M i → ∃ M' : MI, pdn X m_M_here (0, [.ref 54], [], (sh0, M, Ml, mr0), 0, 0) = some (some (.int (hrv t N (rnT isp t N i))), (sh0, M', Ml, mr0)) ∧ U18 M M' ∧ RT t N M' (rnT isp t N i) := by
  intro n
  induction n with
  | zero =>
    intro i M hi hR
    obtain ⟨h1, h2, h3⟩ := hR
    obtain rfl : i = N := by omega
    refine ⟨M, ?_, U18_id M, by rw [rnT_end (Nat.le_refl i)]; exact ⟨h1, h2, h3⟩⟩
    rw [e_M_here_0, h1, h2, if_neg (by rw [nI_lt' (by omega) (by omega)]; omega), e_M_here_38, h1, h2, if_neg (by rw [nI_lt' (by omega) (by omega)]; omega), rnT_end (Nat.le_refl i), hrv, if_neg (by omega)]
  | succ n ih =>
    intro i M hi hR
    have hR' := hR
    obtain ⟨h1, h2, h3⟩ := hR
    rw [e_M_here_0, h1, h2, if_pos (by rw [nI_lt' (by omega) (by omega)]; omega), if_pos (pin_nI (by omega) (by decide)), nI_clamp (by omega), h3 i (by omega), nI_1]
    by_cases q : t i = 32
    · rw [if_pos q, rnT_y (p := isp) (t := t) (i := i) (by omega) (decide_eq_true q)]
      obtain ⟨M', g1, ⟨g2, g3⟩, g4⟩ := ih (i + 1) (pm_up M 54 18 (nI (i + 1))) (by omega) ⟨by rw [up_kk (by decide)]; exact h1, by rw [up_ok], fun j hj => by rw [up_off (by decide)]; exact h3 j hj⟩
      exact ⟨M', g1, ⟨fun k hk => (g2 k hk).trans (up_off hk), fun j hj => (g3 j hj).trans (up_kk hj)⟩, g4⟩
    · rw [if_neg q, rnT_n (p := isp) (fun z => q (of_decide_eq_true z))]
      refine ⟨M, ?_, U18_id M, hR'⟩
      rw [e_M_here_38, h1, h2, if_pos (by rw [nI_lt' (by omega) (by omega)]; omega), if_pos (pin_nI (by omega) (by decide)), nI_clamp (by omega), h3 i (by omega), hrv, if_pos (by omega)]
theorem c_here {X : Nat × (Nat → Int32)} {Ml : ML} {t : Nat → Int32} {N p : Nat} (hN : N ≤ 200) (hp : p ≤ N) {M : MI} (hR : RT t N M p) : ∃ M' : MI, pD X m_M_here [.ref 54] (sh0, M, Ml, mr0) = some (some (.int (hrv t N (rnT isp t N p))), (sh0, M', Ml, mr0)) ∧ U18 M M' ∧ RT t N M' (rnT isp t N p) := by
  rw [(d_M_here X M Ml).trans (e_M_here_0 X M Ml).symm]
  exact c_here_go hN (N - p) p M (by omega) hR
/-! codes of words -/
def wst (v d : Nat) : Nat := if 10000000000 < v then 20000000000 else 27 * v + d
def wcn (l : List Nat) : Nat := l.foldl wst 0
theorem wcn_app (l : List Nat) (d : Nat) : wcn (l ++ [d]) = wst (wcn l) d := by unfold wcn; rw [List.foldl_append]; rfl
theorem wcn_inj : ∀ (n : Nat) (u v : List Nat), u.length = n → (∀ d, d ∈ u → 1 ≤ d ∧ d ≤ 26) → (∀ d, d ∈ v → 1 ≤ d ∧ d ≤ 26) → wcn u = wcn v → wcn u < 10000000000 → u = v := by
  intro n
  induction n with
  | zero =>
    intro u v hu _ hv he _
    have : u = [] := List.length_eq_zero_iff.mp hu
    subst this
    rcases List.eq_nil_or_concat v with h | ⟨L, b, h⟩
    · exact h.symm
    · exfalso
      rw [List.concat_eq_append] at h
      have hb := hv b (by rw [h]; exact List.mem_append.mpr (Or.inr (List.mem_singleton.mpr rfl)))
      rw [h, wcn_app] at he
      unfold wst at he
      have e0 : wcn [] = 0 := rfl
      split at he <;> omega
  | succ n ih =>
    intro u v hu hdu hdv he hl
    rcases List.eq_nil_or_concat u with h | ⟨L, a, h⟩
    · rw [h] at hu; exact absurd hu (by simp)
    · rw [List.concat_eq_append] at h
      have ha := hdu a (by rw [h]; exact List.mem_append.mpr (Or.inr (List.mem_singleton.mpr rfl)))
      have eu : wcn u = wst (wcn L) a := by rw [h, wcn_app]
      rcases List.eq_nil_or_concat v with h' | ⟨L', b, h'⟩
      · exfalso
        rw [h'] at he
        have e0 : wcn [] = 0 := rfl
        rw [eu, e0] at he
        unfold wst at he
        split at he <;> omega
      · rw [List.concat_eq_append] at h'
        have hb := hdv b (by rw [h']; exact List.mem_append.mpr (Or.inr (List.mem_singleton.mpr rfl)))
        have ev : wcn v = wst (wcn L') b := by rw [h', wcn_app]
        rw [eu] at hl
        rw [eu, ev] at he
        unfold wst at he hl
        by_cases q1 : 10000000000 < wcn L
        · rw [if_pos q1] at hl; omega
        · rw [if_neg q1] at he hl
          by_cases q2 : 10000000000 < wcn L'
          · rw [if_pos q2] at he; omega
          · rw [if_neg q2] at he
            have eab : a = b := by omega
            have eL : wcn L = wcn L' := by omega
            have := ih L L' (by rw [h, List.length_append] at hu; simp at hu; omega) (fun d hd => hdu d (by rw [h]; exact List.mem_append.mpr (Or.inl hd))) (fun d hd => hdv d (by rw [h']; exact List.mem_append.mpr (Or.inl hd))) eL (by omega)
            rw [h, h', this, eab]
def ltd (x : Int32) : Nat := x.toInt.toNat - 96
theorem ltd_ok {x : Int32} (h : ilt x = true) : x = nI (96 + ltd x) ∧ 1 ≤ ltd x ∧ ltd x ≤ 26 := by
  unfold ilt at h
  rw [decide_eq_true_iff, x_lt, x_lt] at h
  have e1 : (97 : Int32).toInt = 97 := by decide
  have e2 : (122 : Int32).toInt = 122 := by decide
  rw [e1, e2] at h
  have hd : ltd x = x.toInt.toNat - 96 := rfl
  refine ⟨Int32.toInt_inj.mp ?_, by omega, by omega⟩
  rw [nI_toInt (by omega)]; omega
def wds (t : Nat → Int32) (s k : Nat) : List Nat := (List.range k).map (fun j => ltd (t (s + j)))
theorem wds_s (t : Nat → Int32) (s k : Nat) : wds t s (k + 1) = wds t s k ++ [ltd (t (s + k))] := by unfold wds; rw [List.range_succ, List.map_append]; rfl
theorem wcn_lt (l : List Nat) (h : ∀ d, d ∈ l → d ≤ 26) : wcn l < 300000000000 := by
  rcases List.eq_nil_or_concat l with e | ⟨L, b, e⟩
  · rw [e]; decide
  · rw [List.concat_eq_append] at e
    have hb := h b (by rw [e]; exact List.mem_append.mpr (Or.inr (List.mem_singleton.mpr rfl)))
    rw [e, wcn_app]
    unfold wst
    split <;> omega
theorem c_rw_go {X : Nat × (Nat → Int32)} {t : Nat → Int32} {N s : Nat} (hN : N ≤ 200) (w1 : Value) : ∀ n i (M : MI) (Ml : ML), i + n = N → s ≤ i → M 54 16 = nI N → M 54 20 = nI i → (∀ j, j < N → M 68 j = t j) → (∀ j, s ≤ j → j < i → ilt (t j) = true) → Ml 54 19 = lI (wcn (wds t s (i - s))) → ∃ (M' : MI) (Ml' : ML), pdn X m_M_readWord (18, [.ref 54, w1], [], (sh0, M, Ml, mr0), 0, 0) = some (none, (sh0, M', Ml', mr0)) ∧ (∀ k, k ≠ 54 → M' k = M k) ∧ (∀ j, j ≠ 20 → M' 54 j = M 54 j) ∧ M' 54 20 = nI (rnT ilt t N i) ∧ (∀ k, k ≠ 54 → Ml' k = Ml k) ∧ Ml' 54 19 = lI (wcn (wds t s (rnT ilt t N i - s))) := by
  intro n
  induction n with
  | zero =>
    intro i M Ml hi hs h1 h2 h3 hall hw
    obtain rfl : i = N := by omega
    refine ⟨M, Ml, ?_, fun _ _ => rfl, fun _ _ => rfl, by rw [rnT_end (Nat.le_refl i)]; exact h2, fun _ _ => rfl, by rw [rnT_end (Nat.le_refl i)]; exact hw⟩
    rw [w_M_readWord_18, h1, h2, if_neg (by rw [nI_lt' (by omega) (by omega)]; omega)]
  | succ n ih =>
    intro i M Ml hi hs h1 h2 h3 hall hw
    rw [w_M_readWord_18, h1, h2, if_pos (by rw [nI_lt' (by omega) (by omega)]; omega), if_pos (pin_nI (by omega) (by decide)), nI_clamp (by omega), h3 i (by omega), c_inL, Option.bind_some, pb_i, w_M_readWord_48, h2, if_pos (pin_nI (by omega) (by decide)), nI_clamp (by omega), h3 i (by omega), hw]
    by_cases q : ilt (t i) = true
    · obtain ⟨d1, d2, d3⟩ := ltd_ok q
      have hlt := wcn_lt (wds t s (i - s)) (fun d hd => by
        unfold wds at hd
        obtain ⟨j, hj, rfl⟩ := List.mem_map.mp hd
        exact (ltd_ok (hall (s + j) (by omega) (by have := List.mem_range.mp hj; omega))).2.2)
      have ew : wcn (wds t s (i + 1 - s)) = wst (wcn (wds t s (i - s))) (ltd (t i)) := by
        rw [show i + 1 - s = (i - s) + 1 by omega, wds_s, wcn_app, show s + (i - s) = i by omega]
      have e92 : ∀ v, v = lI (wcn (wds t s (i + 1 - s))) → ∃ (M' : MI) (Ml' : ML), pdn X m_M_readWord (92, [.ref 54, w1], [.long v, .ref 54], (sh0, M, Ml, mr0), 0, 0) = some (none, (sh0, M', Ml', mr0)) ∧ (∀ k, k ≠ 54 → M' k = M k) ∧ (∀ j, j ≠ 20 → M' 54 j = M 54 j) ∧ M' 54 20 = nI (rnT ilt t N i) ∧ (∀ k, k ≠ 54 → Ml' k = Ml k) ∧ Ml' 54 19 = lI (wcn (wds t s (rnT ilt t N i - s))) := by
        intro v hv
        rw [w_M_readWord_92, h2, nI_1, rnT_y (p := ilt) (t := t) (i := i) (by omega) q]
        obtain ⟨M', Ml', g1, g2, g3, g4, g5, g6⟩ := ih (i + 1) (pm_up M 54 20 (nI (i + 1))) (pm_up Ml 54 19 v) (by omega) (by omega) (by rw [up_kk (by decide)]; exact h1) (by rw [up_ok]) (fun j hj => by rw [up_off (by decide)]; exact h3 j hj) (fun j a b => by
          by_cases e : j = i
          · rw [e]; exact q
          · exact hall j a (by omega)) (by rw [up_ok]; exact hv)
        exact ⟨M', Ml', g1, fun k hk => (g2 k hk).trans (up_off hk), fun j hj => (g3 j hj).trans (up_kk hj), g4, fun k hk => (g5 k hk).trans (up_off hk), g6⟩
      rw [if_neg (by rw [bI_t q]; decide)]
      have e10 : (10000000000 : Int64).toInt = 10000000000 := by decide
      by_cases z : 10000000000 < wcn (wds t s (i - s))
      · rw [if_pos ((x_cmp2 _ _).mpr (by rw [e10, lI_toInt (by omega)]; omega))]
        exact e92 _ (by rw [ew]; unfold wst; rw [if_pos z]; rfl)
      · rw [if_neg (fun y => z (by have := (x_cmp2 _ _).mp y; rw [e10, lI_toInt (by omega)] at this; omega))]
        refine e92 _ ?_
        rw [ew]
        unfold wst
        rw [if_neg z]
        have eL : Int32.toInt64 (t i) = lI (96 + ltd (t i)) := by
          have := tL_nI (k := 96 + ltd (t i)) (by omega)
          rw [← d1] at this; exact this
        rw [eL, show (27 : Int64) = lI 27 from rfl, lI_mul, lI_add, show (96 : Int64) = lI 96 from rfl, lI_subN (by omega)]
        exact congrArg lI (by omega)
    · rw [if_pos (bI_f q), rnT_n q]
      exact ⟨M, Ml, rfl, fun _ _ => rfl, fun _ _ => rfl, h2, fun _ _ => rfl, hw⟩
/-- a word is read: only places 18, 20 and the word's code are changed -/
theorem c_readWord {X : Nat × (Nat → Int32)} {t : Nat → Int32} {N p : Nat} (hN : N ≤ 200) (hp : p ≤ N) {M : MI} {Ml : ML} (hR : RT t N M p) : ∃ (M' : MI) (Ml' : ML), pD X m_M_readWord [.ref 54] (sh0, M, Ml, mr0) = some (none, (sh0, M', Ml', mr0)) ∧ (∀ k, k ≠ 54 → M' k = M k) ∧ (∀ j, j ≠ 18 → j ≠ 20 → M' 54 j = M 54 j) ∧ RT t N M' (rnT isp t N p) ∧ M' 54 20 = nI (rnT ilt t N (rnT isp t N p)) ∧ (∀ k, k ≠ 54 → Ml' k = Ml k) ∧ Ml' 54 19 = lI (wcn (wds t (rnT isp t N p) (rnT ilt t N (rnT isp t N p) - rnT isp t N p))) := by
  obtain ⟨M1, g1, ⟨g2, g3⟩, g4, g5, g6⟩ := c_here (X := X) (Ml := Ml) hN hp hR
  have hs := rnT_le isp t hp
  rw [d_M_readWord, g1, Option.bind_some, pb_i, w_M_readWord_4, g5]
  obtain ⟨M', Ml', k1, k2, k3, k4, k5, k6⟩ := c_rw_go (X := X) (t := t) (s := rnT isp t N p) hN (.int (hrv t N (rnT isp t N p))) (N - rnT isp t N p) (rnT isp t N p) (pm_up M1 54 20 (nI (rnT isp t N p))) (pm_up Ml 54 19 0) (by omega) (Nat.le_refl _) (by rw [up_kk (by decide)]; exact g4) (by rw [up_ok]) (fun j hj => by rw [up_off (by decide)]; exact g6 j hj) (fun j a b => by omega) (by rw [up_ok, Nat.sub_self]; rfl)
  refine ⟨M', Ml', k1, fun k hk => ((k2 k hk).trans (up_off hk)).trans (g2 k hk), fun j a b => ((k3 j b).trans (up_kk b)).trans (g3 j a), ⟨by rw [k3 16 (by decide), up_kk (by decide)]; exact g4, by rw [k3 18 (by decide), up_kk (by decide)]; exact g5, fun j hj => by rw [k2 68 (by decide), up_off (by decide)]; exact g6 j hj⟩, k4, fun k hk => (k5 k hk).trans (up_off hk), k6⟩
theorem wds_wdl {t : Nat → Int32} {N s : Nat} {W : List Int32} (hW : ∀ x, x ∈ W → ilt x = true) (hc : wcn (W.map ltd) < 10000000000) : wcn (wds t s (rnT ilt t N s - s)) = wcn (W.map ltd) ↔ wdl t N s = W := by
  have e : wds t s (rnT ilt t N s - s) = (wdl t N s).map ltd := by unfold wds wdl; rw [List.map_map]; rfl
  have hl : ∀ x, x ∈ wdl t N s → ilt x = true := fun x hx => by
    unfold wdl at hx
    obtain ⟨k, hk, rfl⟩ := List.mem_map.mp hx
    exact rnT_all (N := N) _ s rfl (s + k) (by omega) (by have := List.mem_range.mp hk; omega)
  rw [e]
  constructor
  · intro h
    have := wcn_inj _ _ _ rfl (fun d hd => by obtain ⟨x, hx, rfl⟩ := List.mem_map.mp hd; exact (ltd_ok (hW x hx)).2) (fun d hd => by obtain ⟨x, hx, rfl⟩ := List.mem_map.mp hd; exact (ltd_ok (hl x hx)).2) h.symm hc
    have hlen : W.length = (wdl t N s).length := by
      have := congrArg List.length this
      rw [List.length_map, List.length_map] at this; exact this
    apply List.ext_getElem hlen.symm
    intro i a b
    have h1 := ltd_ok (hl _ (List.getElem_mem a))
    have h2 := ltd_ok (hW _ (List.getElem_mem b))
    have h3 : ltd W[i] = ltd (wdl t N s)[i] := by
      have q : (W.map ltd)[i]? = ((wdl t N s).map ltd)[i]? := by rw [this]
      rw [List.getElem?_map, List.getElem?_map, List.getElem?_eq_getElem a, List.getElem?_eq_getElem b] at q
      exact Option.some.inj q
    rw [h1.1, h2.1, h3]
  · intro h; rw [h]
theorem cd_0 {X : Nat × (Nat → Int32)} {M : MI} {Ml : ML} : pD X m_M_code [.int 99, .int 108, .int 97, .int 105, .int 109, .int 0] (sh0, M, Ml, mr0) = some (some (.long (lI 1831504)), (sh0, M, Ml, mr0)) := by
  rw [d_M_code, if_neg (by decide), e_M_code_41, if_neg (by decide), e_M_code_65, if_neg (by decide), e_M_code_91, if_pos (by decide)]
  refine congrArg (fun z => some (some (Value.long z), ((sh0, M, Ml, mr0) : PHp))) ?_
  decide +kernel
theorem kw_0 {t : Nat → Int32} {N s : Nat} : lg_cmp (lI (wcn (wds t s (rnT ilt t N s - s)))) (lI 1831504) = 0 ↔ wdl t N s = [99, 108, 97, 105, 109] := by
  have hb : wcn (wds t s (rnT ilt t N s - s)) < 300000000000 := wcn_lt _ (fun d hd => by
    unfold wds at hd
    obtain ⟨j, hj, rfl⟩ := List.mem_map.mp hd
    exact (ltd_ok (rnT_all (N := N) _ s rfl (s + j) (by omega) (by have := List.mem_range.mp hj; omega))).2.2)
  rw [lg_0, lI_inj (by omega) (by decide), ← wds_wdl (W := [99, 108, 97, 105, 109]) (by decide) (by decide), show wcn (List.map ltd [99, 108, 97, 105, 109]) = 1831504 by decide]
theorem cd_1 {X : Nat × (Nat → Int32)} {M : MI} {Ml : ML} : pD X m_M_code [.int 111, .int 102, .int 0, .int 0, .int 0, .int 0] (sh0, M, Ml, mr0) = some (some (.long (lI 411)), (sh0, M, Ml, mr0)) := by
  rw [d_M_code, if_pos (by decide), e_M_code_41, if_pos (by decide), e_M_code_65, if_pos (by decide), e_M_code_91, if_pos (by decide)]
  refine congrArg (fun z => some (some (Value.long z), ((sh0, M, Ml, mr0) : PHp))) ?_
  decide +kernel
theorem kw_1 {t : Nat → Int32} {N s : Nat} : lg_cmp (lI (wcn (wds t s (rnT ilt t N s - s)))) (lI 411) = 0 ↔ wdl t N s = [111, 102] := by
  have hb : wcn (wds t s (rnT ilt t N s - s)) < 300000000000 := wcn_lt _ (fun d hd => by
    unfold wds at hd
    obtain ⟨j, hj, rfl⟩ := List.mem_map.mp hd
    exact (ltd_ok (rnT_all (N := N) _ s rfl (s + j) (by omega) (by have := List.mem_range.mp hj; omega))).2.2)
  rw [lg_0, lI_inj (by omega) (by decide), ← wds_wdl (W := [111, 102]) (by decide) (by decide), show wcn (List.map ltd [111, 102]) = 411 by decide]
theorem cd_2 {X : Nat × (Nat → Int32)} {M : MI} {Ml : ML} : pD X m_M_code [.int 109, .int 111, .int 115, .int 116, .int 0, .int 0] (sh0, M, Ml, mr0) = some (some (.long (lI 267347)), (sh0, M, Ml, mr0)) := by
  rw [d_M_code, if_neg (by decide), e_M_code_41, if_neg (by decide), e_M_code_65, if_pos (by decide), e_M_code_91, if_pos (by decide)]
  refine congrArg (fun z => some (some (Value.long z), ((sh0, M, Ml, mr0) : PHp))) ?_
  decide +kernel
theorem kw_2 {t : Nat → Int32} {N s : Nat} : lg_cmp (lI (wcn (wds t s (rnT ilt t N s - s)))) (lI 267347) = 0 ↔ wdl t N s = [109, 111, 115, 116] := by
  have hb : wcn (wds t s (rnT ilt t N s - s)) < 300000000000 := wcn_lt _ (fun d hd => by
    unfold wds at hd
    obtain ⟨j, hj, rfl⟩ := List.mem_map.mp hd
    exact (ltd_ok (rnT_all (N := N) _ s rfl (s + j) (by omega) (by have := List.mem_range.mp hj; omega))).2.2)
  rw [lg_0, lI_inj (by omega) (by decide), ← wds_wdl (W := [109, 111, 115, 116]) (by decide) (by decide), show wcn (List.map ltd [109, 111, 115, 116]) = 267347 by decide]
theorem cd_3 {X : Nat × (Nat → Int32)} {M : MI} {Ml : ML} : pD X m_M_code [.int 121, .int 101, .int 97, .int 114, .int 0, .int 0] (sh0, M, Ml, mr0) = some (some (.long (lI 495765)), (sh0, M, Ml, mr0)) := by
  rw [d_M_code, if_neg (by decide), e_M_code_41, if_neg (by decide), e_M_code_65, if_pos (by decide), e_M_code_91, if_pos (by decide)]
  refine congrArg (fun z => some (some (Value.long z), ((sh0, M, Ml, mr0) : PHp))) ?_
  decide +kernel
theorem kw_3 {t : Nat → Int32} {N s : Nat} : lg_cmp (lI (wcn (wds t s (rnT ilt t N s - s)))) (lI 495765) = 0 ↔ wdl t N s = [121, 101, 97, 114] := by
  have hb : wcn (wds t s (rnT ilt t N s - s)) < 300000000000 := wcn_lt _ (fun d hd => by
    unfold wds at hd
    obtain ⟨j, hj, rfl⟩ := List.mem_map.mp hd
    exact (ltd_ok (rnT_all (N := N) _ s rfl (s + j) (by omega) (by have := List.mem_range.mp hj; omega))).2.2)
  rw [lg_0, lI_inj (by omega) (by decide), ← wds_wdl (W := [121, 101, 97, 114]) (by decide) (by decide), show wcn (List.map ltd [121, 101, 97, 114]) = 495765 by decide]
theorem cd_4 {X : Nat × (Nat → Int32)} {M : MI} {Ml : ML} : pD X m_M_code [.int 103, .int 114, .int 97, .int 99, .int 101, .int 0] (sh0, M, Ml, mr0) = some (some (.long (lI 4075196)), (sh0, M, Ml, mr0)) := by
  rw [d_M_code, if_neg (by decide), e_M_code_41, if_neg (by decide), e_M_code_65, if_neg (by decide), e_M_code_91, if_pos (by decide)]
  refine congrArg (fun z => some (some (Value.long z), ((sh0, M, Ml, mr0) : PHp))) ?_
  decide +kernel
theorem kw_4 {t : Nat → Int32} {N s : Nat} : lg_cmp (lI (wcn (wds t s (rnT ilt t N s - s)))) (lI 4075196) = 0 ↔ wdl t N s = [103, 114, 97, 99, 101] := by
  have hb : wcn (wds t s (rnT ilt t N s - s)) < 300000000000 := wcn_lt _ (fun d hd => by
    unfold wds at hd
    obtain ⟨j, hj, rfl⟩ := List.mem_map.mp hd
    exact (ltd_ok (rnT_all (N := N) _ s rfl (s + j) (by omega) (by have := List.mem_range.mp hj; omega))).2.2)
  rw [lg_0, lI_inj (by omega) (by decide), ← wds_wdl (W := [103, 114, 97, 99, 101]) (by decide) (by decide), show wcn (List.map ltd [103, 114, 97, 99, 101]) = 4075196 by decide]
theorem cd_5 {X : Nat × (Nat → Int32)} {M : MI} {Ml : ML} : pD X m_M_code [.int 115, .int 101, .int 99, .int 114, .int 101, .int 116] (sh0, M, Ml, mr0) = some (some (.long (lI 275358764)), (sh0, M, Ml, mr0)) := by
  rw [d_M_code, if_neg (by decide), e_M_code_41, if_neg (by decide), e_M_code_65, if_neg (by decide), e_M_code_91, if_neg (by decide)]
  refine congrArg (fun z => some (some (Value.long z), ((sh0, M, Ml, mr0) : PHp))) ?_
  decide +kernel
theorem kw_5 {t : Nat → Int32} {N s : Nat} : lg_cmp (lI (wcn (wds t s (rnT ilt t N s - s)))) (lI 275358764) = 0 ↔ wdl t N s = [115, 101, 99, 114, 101, 116] := by
  have hb : wcn (wds t s (rnT ilt t N s - s)) < 300000000000 := wcn_lt _ (fun d hd => by
    unfold wds at hd
    obtain ⟨j, hj, rfl⟩ := List.mem_map.mp hd
    exact (ltd_ok (rnT_all (N := N) _ s rfl (s + j) (by omega) (by have := List.mem_range.mp hj; omega))).2.2)
  rw [lg_0, lI_inj (by omega) (by decide), ← wds_wdl (W := [115, 101, 99, 114, 101, 116]) (by decide) (by decide), show wcn (List.map ltd [115, 101, 99, 114, 101, 116]) = 275358764 by decide]
theorem cd_6 {X : Nat × (Nat → Int32)} {M : MI} {Ml : ML} : pD X m_M_code [.int 116, .int 101, .int 114, .int 109, .int 0, .int 0] (sh0, M, Ml, mr0) = some (some (.long (lI 397804)), (sh0, M, Ml, mr0)) := by
  rw [d_M_code, if_neg (by decide), e_M_code_41, if_neg (by decide), e_M_code_65, if_pos (by decide), e_M_code_91, if_pos (by decide)]
  refine congrArg (fun z => some (some (Value.long z), ((sh0, M, Ml, mr0) : PHp))) ?_
  decide +kernel
theorem kw_6 {t : Nat → Int32} {N s : Nat} : lg_cmp (lI (wcn (wds t s (rnT ilt t N s - s)))) (lI 397804) = 0 ↔ wdl t N s = [116, 101, 114, 109] := by
  have hb : wcn (wds t s (rnT ilt t N s - s)) < 300000000000 := wcn_lt _ (fun d hd => by
    unfold wds at hd
    obtain ⟨j, hj, rfl⟩ := List.mem_map.mp hd
    exact (ltd_ok (rnT_all (N := N) _ s rfl (s + j) (by omega) (by have := List.mem_range.mp hj; omega))).2.2)
  rw [lg_0, lI_inj (by omega) (by decide), ← wds_wdl (W := [116, 101, 114, 109]) (by decide) (by decide), show wcn (List.map ltd [116, 101, 114, 109]) = 397804 by decide]
theorem cd_7 {X : Nat × (Nat → Int32)} {M : MI} {Ml : ML} : pD X m_M_code [.int 107, .int 110, .int 111, .int 119, .int 110, .int 0] (sh0, M, Ml, mr0) = some (some (.long (lI 6132983)), (sh0, M, Ml, mr0)) := by
  rw [d_M_code, if_neg (by decide), e_M_code_41, if_neg (by decide), e_M_code_65, if_neg (by decide), e_M_code_91, if_pos (by decide)]
  refine congrArg (fun z => some (some (Value.long z), ((sh0, M, Ml, mr0) : PHp))) ?_
  decide +kernel
theorem kw_7 {t : Nat → Int32} {N s : Nat} : lg_cmp (lI (wcn (wds t s (rnT ilt t N s - s)))) (lI 6132983) = 0 ↔ wdl t N s = [107, 110, 111, 119, 110] := by
  have hb : wcn (wds t s (rnT ilt t N s - s)) < 300000000000 := wcn_lt _ (fun d hd => by
    unfold wds at hd
    obtain ⟨j, hj, rfl⟩ := List.mem_map.mp hd
    exact (ltd_ok (rnT_all (N := N) _ s rfl (s + j) (by omega) (by have := List.mem_range.mp hj; omega))).2.2)
  rw [lg_0, lI_inj (by omega) (by decide), ← wds_wdl (W := [107, 110, 111, 119, 110]) (by decide) (by decide), show wcn (List.map ltd [107, 110, 111, 119, 110]) = 6132983 by decide]
theorem cd_8 {X : Nat × (Nat → Int32)} {M : MI} {Ml : ML} : pD X m_M_code [.int 121, .int 101, .int 115, .int 0, .int 0, .int 0] (sh0, M, Ml, mr0) = some (some (.long (lI 18379)), (sh0, M, Ml, mr0)) := by
  rw [d_M_code, if_neg (by decide), e_M_code_41, if_pos (by decide), e_M_code_65, if_pos (by decide), e_M_code_91, if_pos (by decide)]
  refine congrArg (fun z => some (some (Value.long z), ((sh0, M, Ml, mr0) : PHp))) ?_
  decide +kernel
theorem kw_8 {t : Nat → Int32} {N s : Nat} : lg_cmp (lI (wcn (wds t s (rnT ilt t N s - s)))) (lI 18379) = 0 ↔ wdl t N s = [121, 101, 115] := by
  have hb : wcn (wds t s (rnT ilt t N s - s)) < 300000000000 := wcn_lt _ (fun d hd => by
    unfold wds at hd
    obtain ⟨j, hj, rfl⟩ := List.mem_map.mp hd
    exact (ltd_ok (rnT_all (N := N) _ s rfl (s + j) (by omega) (by have := List.mem_range.mp hj; omega))).2.2)
  rw [lg_0, lI_inj (by omega) (by decide), ← wds_wdl (W := [121, 101, 115]) (by decide) (by decide), show wcn (List.map ltd [121, 101, 115]) = 18379 by decide]
theorem cd_9 {X : Nat × (Nat → Int32)} {M : MI} {Ml : ML} : pD X m_M_code [.int 110, .int 111, .int 0, .int 0, .int 0, .int 0] (sh0, M, Ml, mr0) = some (some (.long (lI 393)), (sh0, M, Ml, mr0)) := by
  rw [d_M_code, if_pos (by decide), e_M_code_41, if_pos (by decide), e_M_code_65, if_pos (by decide), e_M_code_91, if_pos (by decide)]
  refine congrArg (fun z => some (some (Value.long z), ((sh0, M, Ml, mr0) : PHp))) ?_
  decide +kernel
theorem kw_9 {t : Nat → Int32} {N s : Nat} : lg_cmp (lI (wcn (wds t s (rnT ilt t N s - s)))) (lI 393) = 0 ↔ wdl t N s = [110, 111] := by
  have hb : wcn (wds t s (rnT ilt t N s - s)) < 300000000000 := wcn_lt _ (fun d hd => by
    unfold wds at hd
    obtain ⟨j, hj, rfl⟩ := List.mem_map.mp hd
    exact (ltd_ok (rnT_all (N := N) _ s rfl (s + j) (by omega) (by have := List.mem_range.mp hj; omega))).2.2)
  rw [lg_0, lI_inj (by omega) (by decide), ← wds_wdl (W := [110, 111]) (by decide) (by decide), show wcn (List.map ltd [110, 111]) = 393 by decide]
