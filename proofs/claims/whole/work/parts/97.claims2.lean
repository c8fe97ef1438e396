/-! CLAIMS: parents -/
def pa (t : Nat → Int32) (N n k : Nat) : Nat → Nat → List Nat → Sum (Nat × Nat) (Nat × List Nat)
  | 0, s, ps => Sum.inr (s, ps)
  | f + 1, s, ps => if ty t N (rnT isp t N (nx t N s)) = 2 then (if nx t N (rnT isp t N (nx t N s)) - rnT isp t N (nx t N s) ≤ 2 then (if dv t (rnT isp t N (nx t N s)) (nx t N (rnT isp t N (nx t N s)) - rnT isp t N (nx t N s)) < k then (if n + dv t (rnT isp t N (nx t N s)) (nx t N (rnT isp t N (nx t N s)) - rnT isp t N (nx t N s)) ∈ ps then Sum.inl (3, rnT isp t N (nx t N s)) else if rnT isp t N (nx t N (rnT isp t N (nx t N s))) < N ∧ t (rnT isp t N (nx t N (rnT isp t N (nx t N s)))) = 44 then pa t N n k f (rnT isp t N (nx t N (rnT isp t N (nx t N s)))) (ps ++ [n + dv t (rnT isp t N (nx t N s)) (nx t N (rnT isp t N (nx t N s)) - rnT isp t N (nx t N s))]) else Sum.inr (rnT isp t N (nx t N (rnT isp t N (nx t N s))), ps ++ [n + dv t (rnT isp t N (nx t N s)) (nx t N (rnT isp t N (nx t N s)) - rnT isp t N (nx t N s))])) else Sum.inl (4, rnT isp t N (nx t N s))) else Sum.inl (2, rnT isp t N (nx t N s))) else Sum.inl (1, rnT isp t N (nx t N s))
theorem pa_eq (t : Nat → Int32) (N n k f s : Nat) (ps : List Nat) {s1 e1 d1 s2 : Nat} (h1 : rnT isp t N (nx t N s) = s1) (h2 : nx t N s1 = e1) (h3 : dv t s1 (e1 - s1) = d1) (h4 : rnT isp t N e1 = s2) : pa t N n k (f + 1) s ps = if ty t N s1 = 2 then (if e1 - s1 ≤ 2 then (if d1 < k then (if n + d1 ∈ ps then Sum.inl (3, s1) else if s2 < N ∧ t s2 = 44 then pa t N n k f s2 (ps ++ [n + d1]) else Sum.inr (s2, ps ++ [n + d1])) else Sum.inl (4, s1)) else Sum.inl (2, s1)) else Sum.inl (1, s1) := by
  subst h1 h2 h3 h4
  rfl
/-- parents so far: each of this text, before claim c, and none twice -/
def PLk (ps : List Nat) (n c : Nat) : Prop := (∀ p, p ∈ ps → n ≤ p ∧ p < c) ∧ ps.length = fb_ct (fun i => decide (i ∈ ps)) c
theorem ct_flip {p q : Nat → Bool} {x : Nat} (hq : ∀ i, q i = (p i || decide (i = x))) (hx : p x = false) : ∀ m, fb_ct q m = fb_ct p m + (if x < m then 1 else 0)
  | 0 => rfl
  | m + 1 => by
    rw [fb_ct_succ, fb_ct_succ, ct_flip hq hx m, hq m]
    by_cases e : m = x
    · subst e
      rw [hx, decide_eq_true rfl, if_neg (Nat.lt_irrefl m), if_pos (Nat.lt_succ_self m)]
      rfl
    · rw [decide_eq_false e, Bool.or_false]
      by_cases l : x < m
      · rw [if_pos l, if_pos (show x < m + 1 by omega)]; omega
      · rw [if_neg l, if_neg (show ¬ x < m + 1 by omega)]; omega
theorem PLk_nil (n c : Nat) : PLk [] n c := by
  refine ⟨fun p h => absurd h (by simp), ?_⟩
  have z : ∀ m, fb_ct (fun i => decide (i ∈ ([] : List Nat))) m = 0 := fun m => by
    induction m with
    | zero => rfl
    | succ m ih => rw [fb_ct_succ, ih]; rfl
  rw [z]; rfl
theorem PLk_app {ps : List Nat} {n c x : Nat} (h : PLk ps n c) (h1 : n ≤ x) (h2 : x < c) (h3 : x ∉ ps) : PLk (ps ++ [x]) n c := by
  refine ⟨fun p hp => ?_, ?_⟩
  · rcases List.mem_append.mp hp with q | q
    · exact h.1 p q
    · rw [List.mem_singleton.mp q]; exact ⟨h1, h2⟩
  · rw [List.length_append, ct_flip (p := fun i => decide (i ∈ ps)) (x := x) (fun i => by
      show decide (i ∈ ps ++ [x]) = (decide (i ∈ ps) || decide (i = x))
      rw [Bool.eq_iff_iff, decide_eq_true_iff, Bool.or_eq_true, decide_eq_true_iff, decide_eq_true_iff, List.mem_append, List.mem_singleton]) (decide_eq_false h3) c, if_pos h2, ← h.2]; rfl
theorem PLk_len {ps : List Nat} {n c : Nat} (h : PLk ps n c) : ps.length ≤ c := by rw [h.2]; exact fb_ct_le _ _
/-- the class's parents of claim c, from place st on -/
def PCl (M : MI) (Ml : ML) (c st : Nat) (ps : List Nat) : Prop := M 30 c = nI st ∧ M 31 c = nI (st + ps.length) ∧ (∀ j, j < ps.length → M 32 (st + j) = nI (ps.getD j 0)) ∧ ∀ p, p < 64 → (lb (Ml 29 c) p = true ↔ ∃ x, x ∈ ps ∧ (x = p ∨ lb (Ml 29 x) p = true))
theorem memn_getD {l : List Nat} {s : Nat} : s ∈ l ↔ ∃ i, i < l.length ∧ l.getD i 0 = s := by
  rw [List.mem_iff_getElem]
  constructor
  · rintro ⟨i, hi, e⟩; exact ⟨i, hi, by unfold List.getD; rw [List.getElem?_eq_getElem hi, e]; rfl⟩
  · rintro ⟨i, hi, e⟩; exact ⟨i, hi, by unfold List.getD at e; rw [List.getElem?_eq_getElem hi] at e; exact e⟩
theorem c_apC {X : Nat × (Nat → Int32)} {M : MI} {Ml : ML} {n c x st : Nat} {ps : List Nat} (hc : c < 40) (hx : x < c) (hP : PLk ps n c) (hC : PCl M Ml c st ps) (hst : st + c ≤ 800) (w1 w2 : Value) : ∀ m j, j + m = ps.length → (∀ i, i < j → ps.getD i 0 ≠ x) → (x ∈ ps → pdn X m_Claims_addParent (23, [.ref 23, w1, w2, .int (nI c), .int (nI x), .int (nI (st + j))], [], (sh0, M, Ml, mr0), 0, 0) = some (some (.int 0), (sh0, M, Ml, mr0))) ∧ (x ∉ ps → pdn X m_Claims_addParent (23, [.ref 23, w1, w2, .int (nI c), .int (nI x), .int (nI (st + j))], [], (sh0, M, Ml, mr0), 0, 0) = some (some (.int 1), (sh0, pm_up (pm_up M 32 (st + ps.length) (nI x)) 31 c (nI (st + ps.length + 1)), pm_up Ml 29 c (Ml 29 c ||| (Ml 29 x ||| (1 <<< ((nI x).toInt64 &&& 63)))), mr0))) := by
  have p40 : pin (nI c) 40 := pin_nI hc (by decide)
  have cc : (nI c).toNatClampNeg = c := nI_clamp (by omega)
  have hlen := PLk_len hP
  obtain ⟨c1, c2, c3, _⟩ := hC
  intro m
  induction m with
  | zero =>
    intro j hj hn
    obtain rfl : j = ps.length := by omega
    have hxn : x ∉ ps := fun q => by obtain ⟨i, hi, e⟩ := memn_getD.mp q; exact hn i hi e
    refine ⟨fun q => absurd q hxn, fun _ => ?_⟩
    by_cases hl : ps.length < c
    · rw [w_Claims_addParent_23, if_pos p40, cc, c2, if_neg (by rw [nI_lt' (by omega) (by omega)]; omega), if_pos p40, if_pos (show nI (st + ps.length) < 800 from (nI_lt' (b := 800) (by omega) (by decide)).mpr (by omega)), if_pos p40, if_pos (pin_nI (by omega) (by decide)), if_pos p40, if_pos p40, nI_clamp (by omega), nI_1, w_Claims_addParent_89, if_pos p40, if_pos (pin_nI (by omega) (by decide)), if_pos p40, cc, nI_clamp (by omega)]
    · exfalso
      have h2 := PLk_app hP (n := n) (x := x) (c := c)
      have : fb_ct (fun i => decide (i ∈ ps ++ [x])) c = fb_ct (fun i => decide (i ∈ ps)) c + (if x < c then 1 else 0) := ct_flip (p := fun i => decide (i ∈ ps)) (x := x) (fun i => by
        show decide (i ∈ ps ++ [x]) = (decide (i ∈ ps) || decide (i = x))
        rw [Bool.eq_iff_iff, decide_eq_true_iff, Bool.or_eq_true, decide_eq_true_iff, decide_eq_true_iff, List.mem_append, List.mem_singleton]) (decide_eq_false hxn) c
      have h3 := fb_ct_le (fun i => decide (i ∈ ps ++ [x])) c
      rw [if_pos hx, ← hP.2] at this
      omega
  | succ m ih =>
    intro j hj hn
    have e23 : pdn X m_Claims_addParent (23, [.ref 23, w1, w2, .int (nI c), .int (nI x), .int (nI (st + j))], [], (sh0, M, Ml, mr0), 0, 0) = if nI (ps.getD j 0) = nI x then some (some (.int 0), (sh0, M, Ml, mr0)) else pdn X m_Claims_addParent (23, [.ref 23, w1, w2, .int (nI c), .int (nI x), .int (nI (st + (j + 1)))], [], (sh0, M, Ml, mr0), 0, 0) := by
      rw [w_Claims_addParent_23, if_pos p40, cc, c2, if_pos (by rw [nI_lt' (by omega) (by omega)]; omega), if_pos (pin_nI (by omega) (by decide)), nI_clamp (by omega), c3 j (by omega), nI_1]; rfl
    have hb := hP.1 (ps.getD j 0) (memn_getD.mpr ⟨j, by omega, rfl⟩)
    rw [e23]
    by_cases e : ps.getD j 0 = x
    · rw [if_pos (by rw [e])]
      exact ⟨fun _ => rfl, fun q => absurd (memn_getD.mpr ⟨j, by omega, e⟩) q⟩
    · rw [if_neg (fun z => e ((nI_eq (by omega) (by omega)).mp z))]
      exact ih (j + 1) (by omega) (fun i hi => by
        by_cases q : i = j
        · rw [q]; exact e
        · exact hn i (by omega))
theorem PCl_app {M : MI} {Ml : ML} {n c x st : Nat} {ps : List Nat} (hc : c < 40) (hx : x < c) (hP : PLk ps n c) (hC : PCl M Ml c st ps) : PCl (pm_up (pm_up M 32 (st + ps.length) (nI x)) 31 c (nI (st + ps.length + 1))) (pm_up Ml 29 c (Ml 29 c ||| (Ml 29 x ||| (1 <<< ((nI x).toInt64 &&& 63))))) c st (ps ++ [x]) := by
  obtain ⟨c1, c2, c3, c4⟩ := hC
  refine ⟨by rw [up_off (by decide), up_off (by decide)]; exact c1, by rw [up_ok, List.length_append]; rfl, fun j hj => ?_, fun p hp => ?_⟩
  · rw [up_off (by decide)]
    rw [List.length_append] at hj
    have hj' : j < ps.length + 1 := hj
    by_cases e : j = ps.length
    · subst e; rw [up_ok, gDn_end]
    · rw [up_kk (by omega), c3 j (by omega), gDn_app (by omega)]
  · rw [up_ok, l_or, l_or, l_one (by omega), Bool.or_eq_true, Bool.or_eq_true, c4 p hp, decide_eq_true_iff]
    have off : ∀ y, y < c → pm_up Ml 29 c (Ml 29 c ||| (Ml 29 x ||| (1 <<< ((nI x).toInt64 &&& 63)))) 29 y = Ml 29 y := fun y hy => up_kk (by omega)
    constructor
    · rintro (⟨y, hy, q⟩ | q | q)
      · exact ⟨y, List.mem_append.mpr (Or.inl hy), by rw [off y (hP.1 y hy).2]; exact q⟩
      · exact ⟨x, List.mem_append.mpr (Or.inr (List.mem_singleton.mpr rfl)), by rw [off x hx]; exact Or.inr q⟩
      · exact ⟨x, List.mem_append.mpr (Or.inr (List.mem_singleton.mpr rfl)), Or.inl q.symm⟩
    · rintro ⟨y, hy, q⟩
      rcases List.mem_append.mp hy with hy | hy
      · rw [off y (hP.1 y hy).2] at q; exact Or.inl ⟨y, hy, q⟩
      · rw [List.mem_singleton.mp hy, off x hx] at q
        rcases q with q | q
        · exact Or.inr (Or.inr q.symm)
        · exact Or.inr (Or.inl q)
/-- what reading parents may change in the class -/
def UPC (N c st : Nat) (M M' : MI) (Ml Ml' : ML) : Prop := (∀ k, k ≠ 34 → k ≠ 36 → k ≠ 31 → k ≠ 32 → M' k = M k) ∧ M' 34 1 = nI N ∧ M' 36 3 = M 36 3 ∧ (∀ q, q ≠ c → M' 31 q = M 31 q) ∧ (∀ j, j < st → M' 32 j = M 32 j) ∧ (∀ k, k ≠ 29 → Ml' k = Ml k) ∧ ∀ q, q ≠ c → Ml' 29 q = Ml 29 q
theorem UPC_tr {N c st : Nat} {M M1 M2 : MI} {Ml Ml1 Ml2 : ML} (h : UPC N c st M M1 Ml Ml1) (h2 : UPC N c st M1 M2 Ml1 Ml2) : UPC N c st M M2 Ml Ml2 :=
  ⟨fun k a b e f => (h2.1 k a b e f).trans (h.1 k a b e f), h2.2.1, h2.2.2.1.trans h.2.2.1, fun q hq => (h2.2.2.2.1 q hq).trans (h.2.2.2.1 q hq), fun j hj => (h2.2.2.2.2.1 j hj).trans (h.2.2.2.2.1 j hj), fun k hk => (h2.2.2.2.2.2.1 k hk).trans (h.2.2.2.2.2.1 k hk), fun q hq => (h2.2.2.2.2.2.2 q hq).trans (h.2.2.2.2.2.2 q hq)⟩
theorem PCl_fr {M M' : MI} {Ml : ML} {c st : Nat} {ps : List Nat} (h : PCl M Ml c st ps) (h30 : M' 30 = M 30) (h31 : M' 31 = M 31) (h32 : M' 32 = M 32) : PCl M' Ml c st ps := by
  unfold PCl at h ⊢; rw [h30, h31, h32]; exact h
theorem c_paC {X : Nat × (Nat → Int32)} {t : Nat → Int32} {N n k st : Nat} (hN : N ≤ 200) (hc : n + k < 40) (hst : st + (n + k) ≤ 800) : ∀ (f s i : Nat) (M : MI) (Ml : ML) (ps : List Nat), N ≤ s + f → i ≤ s → s < N → Tok t N M s → M 34 1 = nI N → (∀ j, j < N → M 35 j = t j) → M 36 3 = nI k → M 23 9 = nI n → PLk ps n (n + k) → PCl M Ml (n + k) st ps → ∃ (M' : MI) (Ml' : ML) (z : Nat), pdn X m_ClaimReader_readParents (4, [.ref 36, .int 1, .int (nI i)], [], (sh0, M, Ml, mr0), 0, 0) = some (some (.int (nI z)), (sh0, M', Ml', mr0)) ∧ z ≤ 4 ∧ UPC N (n + k) st M M' Ml Ml' ∧ match pa t N n k f s ps with
    | Sum.inl (c', pl) => z = c' ∧ 0 < z ∧ M' 36 2 = nI pl
    | Sum.inr (s', ps') => z = 0 ∧ Tok t N M' s' ∧ s < s' ∧ s' ≤ N ∧ M' 36 2 = M 36 2 ∧ PLk ps' n (n + k) ∧ PCl M' Ml' (n + k) st ps' := by
  have ec : nI n + nI k = nI (n + k) := nI_add n k
  have p40 : pin (nI (n + k)) 40 := pin_nI hc (by decide)
  have cc : (nI (n + k)).toNatClampNeg = n + k := nI_clamp (by omega)
  intro f
  induction f with
  | zero => intro s i M Ml ps hf hi hs; omega
  | succ f ih =>
    intro s i M Ml ps hf hi hs hT h1 ht h36 h23 hP hC
    have hn := nx_le t (show s ≤ N by omega)
    have hgt := nx_gt hs (t := t)
    obtain ⟨M1, g1, ⟨g2, g3⟩, g4⟩ := c_step (X := X) (Ml := Ml) (t := t) (p := nx t N s) (M := M) hN hn h1 hT.2.2.1 ht
    have hs1 := rnT_le isp t hn
    have hs1g := rnT_ge isp t N (nx t N s)
    generalize e1 : rnT isp t N (nx t N s) = s1 at *
    have hn1 := nx_le t hs1
    have hg1 := nx_ge t N s1
    rw [pa_eq t N n k f s ps e1 rfl rfl rfl]
    rw [w_ClaimReader_readParents_4, if_pos (show nI i < 200 from (x_nlt (n := 200) rfl (by omega)).mpr (by omega)), if_neg (show ¬ (1 : Int32) = 0 by decide), g1, Option.bind_some, pb_n, w_ClaimReader_readParents_22, g4.2.1]
    have ht1 : ∀ j, j < N → M1 35 j = t j := fun j hj => by rw [g2 35 (by decide)]; exact ht j hj
    have U1 : UPC N (n + k) st M M1 Ml Ml := ⟨fun k a _ _ _ => g2 k a, g3, by rw [g2 36 (by decide)], fun q _ => by rw [g2 31 (by decide)], fun j _ => by rw [g2 32 (by decide)], fun _ _ => rfl, fun _ _ => rfl⟩
    have C1 : PCl M1 Ml (n + k) st ps := PCl_fr hC (g2 30 (by decide)) (g2 31 (by decide)) (g2 32 (by decide))
    have bad : ∀ z : Nat, 0 < z → z ≤ 4 → ∃ (M' : MI) (Ml' : ML) (z' : Nat), some (some (.int (nI z)), (sh0, pm_up M1 36 2 (nI s1), Ml, mr0)) = some (some (Value.int (nI z')), ((sh0, M', Ml', mr0) : PHp)) ∧ z' ≤ 4 ∧ UPC N (n + k) st M M' Ml Ml' ∧ (z' = z ∧ 0 < z' ∧ M' 36 2 = nI s1) := fun z h0 h4 => ⟨_, _, z, rfl, h4, ⟨fun k a b e f => (up_off b).trans (g2 k a), by rw [up_off (by decide)]; exact g3, by rw [up_kk (by decide), g2 36 (by decide)], fun q _ => by rw [up_off (by decide), g2 31 (by decide)], fun j _ => by rw [up_off (by decide), g2 32 (by decide)], fun _ _ => rfl, fun _ _ => rfl⟩, rfl, h0, by rw [up_ok]⟩
    by_cases q : ty t N s1 = 2
    · have hlt1 := ty2_lt q
      have hgt1 := nx_gt hlt1 (t := t)
      rw [if_pos (tyI2.mpr q), if_pos q, d_Text_figures, Option.bind_some, pb_i, w_ClaimReader_readParents_46, g4.2.2.1, g4.1, nI_subN hg1]
      by_cases r : nx t N s1 - s1 ≤ 2
      · obtain ⟨_, hd⟩ := dv_2 q (show nx t N s1 - s1 ≤ 4 by omega)
        rw [if_neg (show ¬ (2 : Int32) < nI (nx t N s1 - s1) from fun z => by have := (nI_lt' (a := 2) (by decide) (by omega)).mp z; omega), if_pos r, g4.2.2.2 q (by omega), g2 36 (by decide), h36]
        generalize hdv : dv t s1 (nx t N s1 - s1) = d at *
        by_cases r2 : d < k
        · have e23 : M1 23 9 = nI n := by rw [g2 23 (by decide)]; exact h23
          obtain ⟨ap1, ap2⟩ := c_apC (X := X) (M := M1) (Ml := Ml) (n := n) (c := n + k) (x := n + d) (st := st) (ps := ps) hc (by omega) hP C1 hst (.int (nI k)) (.int (nI d)) ps.length 0 (by omega) (fun i hi => absurd hi (Nat.not_lt_zero i))
          have e0 : pD X m_Claims_addParent [.ref 23, .int (nI k), .int (nI d)] (sh0, M1, Ml, mr0) = pdn X m_Claims_addParent (23, [.ref 23, .int (nI k), .int (nI d), .int (nI (n + k)), .int (nI (n + d)), .int (nI (st + 0))], [], (sh0, M1, Ml, mr0), 0, 0) := by
            rw [d_Claims_addParent, e23, ec, nI_add, if_pos p40, cc, C1.1]; rfl
          rw [if_pos (show nI d < nI k by rw [nI_lt' (by omega) (by omega)]; exact r2), if_pos r2, e0]
          by_cases hm : n + d ∈ ps
          · rw [ap1 hm, if_pos hm, Option.bind_some, pb_i, w_ClaimReader_readParents_94, if_pos (rfl : (0 : Int32) = 0), d_ClaimReader_faulty, g4.1, Option.bind_some, pb_i, w_ClaimReader_readParents_102]
            exact bad 3 (by omega) (by omega)
          · rw [ap2 hm, if_neg hm, Option.bind_some, pb_i, w_ClaimReader_readParents_94, if_neg (show ¬ (1 : Int32) = 0 by decide)]
            have C2 := PCl_app (n := n) hc (show n + d < n + k by omega) hP C1
            have P2 := PLk_app hP (x := n + d) (by omega) (by omega) hm
            generalize hM2 : pm_up (pm_up M1 32 (st + ps.length) (nI (n + d))) 31 (n + k) (nI (st + ps.length + 1)) = M2 at *
            generalize hMl2 : pm_up Ml 29 (n + k) (Ml 29 (n + k) ||| (Ml 29 (n + d) ||| (1 <<< ((nI (n + d)).toInt64 &&& 63)))) = Ml2 at *
            have f2 : ∀ j, j ≠ 31 → j ≠ 32 → M2 j = M1 j := fun j a b => by rw [← hM2, up_off a, up_off b]
            have U2 : UPC N (n + k) st M1 M2 Ml Ml2 := ⟨fun j _ _ a b => f2 j a b, by rw [f2 34 (by decide) (by decide)]; exact g3, by rw [f2 36 (by decide) (by decide)], fun j hj => by rw [← hM2, up_kk hj, up_off (by decide)], fun j hj => by rw [← hM2, up_off (by decide), up_kk (by omega)], fun j hj => by rw [← hMl2, up_off hj], fun j hj => by rw [← hMl2, up_kk hj]⟩
            obtain ⟨M3, k1, ⟨k2, k3⟩, k4⟩ := c_step (X := X) (Ml := Ml2) (t := t) (p := nx t N s1) (M := M2) hN hn1 (by rw [f2 34 (by decide) (by decide)]; exact g3) (by rw [f2 34 (by decide) (by decide)]; exact g4.2.2.1) (fun j hj => by rw [f2 35 (by decide) (by decide)]; exact ht1 j hj)
            have hs2 := rnT_le isp t hn1
            have hs2g := rnT_ge isp t N (nx t N s1)
            generalize rnT isp t N (nx t N s1) = s2 at *
            have ht3 : ∀ j, j < N → M3 35 j = t j := fun j hj => by rw [k2 35 (by decide), f2 35 (by decide) (by decide)]; exact ht1 j hj
            have U3 : UPC N (n + k) st M2 M3 Ml2 Ml2 := ⟨fun k a _ _ _ => k2 k a, k3, by rw [k2 36 (by decide)], fun q _ => by rw [k2 31 (by decide)], fun j _ => by rw [k2 32 (by decide)], fun _ _ => rfl, fun _ _ => rfl⟩
            have U03 := UPC_tr (UPC_tr U1 U2) U3
            have C3 : PCl M3 Ml2 (n + k) st (ps ++ [n + d]) := PCl_fr C2 (k2 30 (by decide)) (k2 31 (by decide)) (k2 32 (by decide))
            have e362 : M3 36 2 = M 36 2 := by rw [k2 36 (by decide), f2 36 (by decide) (by decide), g2 36 (by decide)]
            rw [k1, Option.bind_some, pb_n, w_ClaimReader_readParents_110, c_isSign hN k4 ht3 (x := 44) (by decide) (by decide), Option.bind_some, pb_i, w_ClaimReader_readParents_119, nI_1]
            by_cases y : s2 < N ∧ t s2 = 44
            · rw [bI_t y, if_pos y]
              obtain ⟨M4, Ml4, z', m1, m2, m3, m4⟩ := ih s2 (i + 1) M3 Ml2 (ps ++ [n + d]) (by omega) (by omega) y.1 k4 k3 ht3 (by rw [U03.2.2.1]; exact h36) (by rw [U03.1 23 (by decide) (by decide) (by decide) (by decide)]; exact h23) P2 C3
              refine ⟨M4, Ml4, z', m1, m2, UPC_tr U03 m3, ?_⟩
              cases hq : pa t N n k f s2 (ps ++ [n + d]) with
              | inl x => rw [hq] at m4; exact m4
              | inr x =>
                rw [hq] at m4
                obtain ⟨n1, n2, n3, n4, n5, n6, n7⟩ := m4
                exact ⟨n1, n2, by omega, n4, n5.trans e362, n6, n7⟩
            · rw [bI_f y, if_neg y]
              refine ⟨M3, Ml2, 0, ?_, by omega, U03, rfl, k4, by omega, hs2, e362, P2, C3⟩
              rw [w_ClaimReader_readParents_4, if_pos (rfl : (0 : Int32) = 0)]
              split <;> rfl
        · rw [if_neg (show ¬ nI d < nI k by rw [nI_lt' (by omega) (by omega)]; exact r2), if_neg r2, d_ClaimReader_faulty, g4.1, Option.bind_some, pb_i, w_ClaimReader_readParents_75]
          exact bad 4 (by omega) (by omega)
      · rw [if_pos (show (2 : Int32) < nI (nx t N s1 - s1) from (nI_lt' (a := 2) (by decide) (by omega)).mpr (by omega)), if_neg r, d_ClaimReader_faulty, g4.1, Option.bind_some, pb_i, w_ClaimReader_readParents_55]
        exact bad 2 (by omega) (by omega)
    · rw [if_neg (fun z => q (tyI2.mp z)), if_neg q, d_ClaimReader_faulty, g4.1, Option.bind_some, pb_i, w_ClaimReader_readParents_38]
      exact bad 1 (by omega) (by omega)
