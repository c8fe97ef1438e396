/-! JUDGING: whether a claim stands -/
def ok1 (Mi : MI) (f l : Nat) (s : Int32) : Bool := decide (tk Mi f l s = -1) && decide (ez Mi f l s = -1)
def std (Mi : MI) (f l : Nat) (L : List Int32) : Bool := L.all (ok1 Mi f l)
theorem std_ag {M Mi : MI} (F : Agr M Mi) (f : Nat) {l : Nat} (hl : l < 4) (L : List Int32) : std M f l L = std Mi f l L := by
  unfold std
  congr 1
  funext s
  unfold ok1
  rw [tk_ag F f hl, ez_ag F f hl]
theorem std_drop {Mi : MI} {f l : Nat} {L : List Int32} {i : Nat} (h : i < L.length) : std Mi f l (L.drop i) = (ok1 Mi f l (L.getD i 0) && std Mi f l (L.drop (i + 1))) := by
  rw [drop_at h]; rfl
theorem getD_map {L : List Int32} {i : Nat} (h : i < L.length) (m : Int32) : (L.map (fun s => s ||| m)).getD i 0 = L.getD i 0 ||| m := by
  rw [gD_at (by rw [List.length_map]; exact h), gD_at h, List.getElem_map]
theorem c_uph_go {X : Nat × (Nat → Int32)} {Mi : MI} {Ml : ML} (h : JW Mi) {nf f l c : Nat} (ef : Mi 11 11 = nI nf) (hnf : nf ≤ 8) (hf : f < nf) (hl : l < 4) (hc : c < 40) {L : List Int32} (hr : rowA (Mi 27) (Mi 28) c L) (m : Int32) : ∀ (n i : Nat) (w : Value), i + n = L.length → pdn X m_Judge_upholds (14, [.ref 40, .int (nI c), .int m, .ref (46 + 2 * l), .int (nI f), .int (nI i), w], [], (sh0, Mi, Ml, mr0), 0, 0) = some (some (.int (bI (std Mi f l ((L.map (fun s => s ||| m)).drop i) = true))), (sh0, Mi, Ml, mr0)) := by
  have h8 := hr.2.1
  have p40 : pin (nI c) 40 := pin_nI hc (by decide)
  have cc : (nI c).toNatClampNeg = c := nI_clamp (by omega)
  intro n
  induction n with
  | zero =>
    intro i w hi
    obtain rfl : i = L.length := by omega
    have e : (L.map (fun s => s ||| m)).drop L.length = [] := by rw [List.drop_eq_nil_iff, List.length_map]; exact Nat.le_refl _
    rw [w_Judge_upholds_14 _ _ _ (land_ho hl), if_pos p40, cc, hr.1, if_neg (by rw [nI_lt' (by omega) (by omega)]; omega), e]; rfl
  | succ n ih =>
    intro i w hi
    have ix : nI c * 8 + nI i = nI (8 * c + i) := by rw [show (8 : Int32) = nI 8 from rfl, nI_mul', nI_add, Nat.mul_comm]
    rw [w_Judge_upholds_14 _ _ _ (land_ho hl), if_pos p40, cc, hr.1, if_pos (by rw [nI_lt' (by omega) (by omega)]; omega), d_Claims_versionAt, ix, if_pos (pin_nI (by omega) (by decide)), nI_clamp (by omega), Option.bind_some, pb_i, w_Judge_upholds_38 _ _ _ (land_ho hl), hr.2.2 i (by omega), c_taker h ef hnf hf hl, Option.bind_some, pb_i, w_Judge_upholds_51 _ _ _ (land_ho hl), j_easyC h ef hnf hf hl, Option.bind_some, pb_i, w_Judge_upholds_64 _ _ _ (land_ho hl), nI_1, ih (i + 1) _ (by omega), std_drop (i := i) (by rw [List.length_map]; omega), getD_map (i := i) (by omega)]
    unfold ok1
    by_cases h1 : tk Mi f l (L.getD i 0 ||| m) = -1
    · rw [if_pos h1, decide_eq_true h1]
      by_cases h2 : ez Mi f l (L.getD i 0 ||| m) = -1
      · rw [if_pos h2, decide_eq_true h2]; rfl
      · rw [if_neg h2, decide_eq_false h2]; rfl
    · rw [if_neg h1, decide_eq_false h1]; rfl
theorem c_upholds {X : Nat × (Nat → Int32)} {Mi : MI} {Ml : ML} (h : JW Mi) {nf f l c : Nat} (ef : Mi 11 11 = nI nf) (hnf : nf ≤ 8) (hf : f < nf) (hl : l < 4) (hc : c < 40) {L : List Int32} (hr : rowA (Mi 27) (Mi 28) c L) (e24 : Mi 24 c = nI f) (m : Int32) : pD X m_Judge_upholds [.ref 40, .int (nI c), .int m, .ref (46 + 2 * l)] (sh0, Mi, Ml, mr0) = some (some (.int (bI (std Mi f l (L.map (fun s => s ||| m)) = true))), (sh0, Mi, Ml, mr0)) := by
  rw [d_Judge_upholds _ _ _ (land_ho hl), if_pos (pin_nI hc (by decide)), nI_clamp (by omega), e24]
  exact c_uph_go h ef hnf hf hl hc hr m L.length 0 pm_nul (by omega)
theorem map_or0 (L : List Int32) : L.map (fun s => s ||| 0) = L := by
  have : (fun s : Int32 => s ||| 0) = id := by
    funext s; exact b_ext (fun i _ => by rw [b_or, b_0, Bool.or_false]; rfl)
  rw [this, List.map_id]
theorem c_stand_go {X : Nat × (Nat → Int32)} {Mi : MI} {Ml : ML} (h : JW Mi) {nf f l c : Nat} (ef : Mi 11 11 = nI nf) (hnf : nf ≤ 8) (hf : f < nf) (hl : l < 4) (hc : c < 40) {L : List Int32} (hr : rowA (Mi 76) (Mi 77) c L) (e69 : Mi 69 c = nI f) : ∀ (n i : Nat) (w : Value), i + n = L.length → pdn X m_M_standing (13, [.ref 54, .int (nI c), .int (nI l), .int (nI i), w], [], (sh0, Mi, Ml, mr0), 0, 0) = some (some (.int (bI (std Mi f l (L.drop i) = true))), (sh0, Mi, Ml, mr0)) := by
  have h8 := hr.2.1
  have p40 : pin (nI c) 40 := pin_nI hc (by decide)
  have cc : (nI c).toNatClampNeg = c := nI_clamp (by omega)
  intro n
  induction n with
  | zero =>
    intro i w hi
    obtain rfl : i = L.length := by omega
    rw [w_M_standing_13, if_pos p40, cc, hr.1, if_neg (by rw [nI_lt' (by omega) (by omega)]; omega), List.drop_length]; rfl
  | succ n ih =>
    intro i w hi
    have ix : 8 * nI c + nI i = nI (8 * c + i) := by rw [show (8 : Int32) = nI 8 from rfl, nI_mul', nI_add]
    rw [w_M_standing_13, if_pos p40, cc, hr.1, if_pos (by rw [nI_lt' (by omega) (by omega)]; omega), ix, if_pos (pin_nI (by omega) (by decide)), if_pos p40, nI_clamp (by omega), hr.2.2 i (by omega), e69, c_takenBy h ef hnf hf hl, Option.bind_some, pb_i, w_M_standing_49, if_pos p40, cc, e69, j_easyM h ef hnf hf hl, Option.bind_some, pb_i, w_M_standing_65, nI_1, ih (i + 1) _ (by omega), std_drop (i := i) (by omega)]
    have n1 := tk_neg h f l (L.getD i 0)
    have n2 := ez_neg h f l (L.getD i 0)
    unfold ok1
    by_cases h1 : tk Mi f l (L.getD i 0) = -1
    · rw [if_pos (n1.mpr h1), decide_eq_true h1]
      by_cases h2 : ez Mi f l (L.getD i 0) = -1
      · rw [if_pos (n2.mpr h2), decide_eq_true h2]; rfl
      · rw [if_neg (fun t => h2 (n2.mp t)), decide_eq_false h2]; rfl
    · rw [if_neg (fun t => h1 (n1.mp t)), decide_eq_false h1]; rfl
theorem ls_stands {X : Nat × (Nat → Int32)} {Mi : MI} {Ml : ML} (h : Inv Mi Ml) (a b : Int32) : LStp Inv X m_CT_stands m_M_stands [.int a, .int b] Mi Ml := by
  obtain ⟨n, h40, e1, e2, _⟩ := h.2.2.2.2.2.2.2.2.2
  obtain ⟨nf, nf8, ef, _, _, _⟩ := h.2.2.2.1
  have w2 : n < 2 ^ 31 := by omega
  have w1 : (Mi 23 9).toInt = (n : Int) := by rw [e1, nI_toInt w2]
  by_cases h1 : pin a n
  · by_cases h3 : pin b 4
    · obtain ⟨q, hq, rfl⟩ := pin_ex w2 h1
      obtain ⟨l', hl', rfl⟩ := pin_ex (by decide) h3
      obtain ⟨l, hl, f0, _, _, _, hM⟩ := claim_rows (X := X) h e1 h40 hq
      obtain ⟨f, hf, g24, g69⟩ := claim_fil h e1 h40 ef nf8 hq
      obtain ⟨M', t1, t2, t3⟩ := hM Mi (fun _ _ _ _ _ _ => rfl)
      have p40 : pin (nI q) 40 := pin_nI (by omega) (by decide)
      have cc : (nI q).toNatClampNeg = q := nI_clamp (by omega)
      have cl' : (nI l').toNatClampNeg = l' := nI_clamp (by omega)
      have hc : pin (nI l') 4 ∧ 0 < 46 + 2 * l' ∧ 46 + 2 * l' < 2000 := ⟨h3, by omega, by omega⟩
      have hI : Inv M' Ml := Inv_scr h (fun k q1 q2 _ _ _ => t2 k q1 q2)
      have hA : Agr M' Mi := fun k g => t2 k g.2.1 g.2.2.1
      have ef' : M' 11 11 = nI nf := by rw [hA 11 (by decide)]; exact ef
      have g69' : M' 69 q = nI f := by rw [t2 69 (by decide) (by decide)]; exact g69
      have k1 := c_upholds (X := X) (Ml := Ml) (JW_inv h) ef nf8 hf hl' (show q < 40 by omega) hl g24 0
      rw [map_or0] at k1
      have k2 := c_stand_go (X := X) (Ml := Ml) (JW_inv hI) ef' nf8 hf hl' (show q < 40 by omega) t3 g69' l.length 0 pm_nul (by omega)
      rw [List.drop_zero, std_ag hA f hl', show nI 0 = 0 from rfl] at k2
      refine LS_mk (r := bI (std Mi f l' l = true)) (Mi1 := Mi) (Ml1 := Ml) (Mi2 := M') (Ml2 := Ml) ?_ ?_ hI
      · rw [d_CT_stands, c_within (nI q) (Mi 23 9) (n := n) w1, Option.bind_some, pb_i, e_CT_stands_11, bI_t h1, if_neg (by decide), c_within (nI l') 4 (n := 4) rfl, Option.bind_some, pb_i, e_CT_stands_19, bI_t h3, if_neg (by decide), cl', land_rd l' hl', if_pos hc, k1, Option.bind_some, pb_i, e_CT_stands_41]
        by_cases z : std Mi f l' l = true
        · rw [if_neg (by rw [bI_t z]; decide), bI_t z]
        · rw [if_pos (bI_f z), bI_f z]
      · rw [d_M_stands, c_isClaim (nI q) w2 e2, Option.bind_some, pb_i, e_M_stands_5, bI_t h1, if_neg (by decide), c_isLand, Option.bind_some, pb_i, e_M_stands_12, bI_t h3, if_neg (by decide), d_M_standing, if_pos p40, cc, t1, Option.bind_some, pb_i, w_M_standing_10, k2, Option.bind_some, pb_i, e_M_stands_25]
        by_cases z : std Mi f l' l = true
        · rw [if_neg (by rw [bI_t z]; decide), bI_t z]
        · rw [if_pos (bI_f z), bI_f z]
    · refine LS_mk (r := -1001) (Mi1 := Mi) (Ml1 := Ml) (Mi2 := Mi) (Ml2 := Ml) ?_ ?_ h
      · rw [d_CT_stands, c_within a (Mi 23 9) (n := n) w1, Option.bind_some, pb_i, e_CT_stands_11, bI_t h1, if_neg (by decide), c_within b 4 (n := 4) rfl, Option.bind_some, pb_i, e_CT_stands_19, if_pos (bI_f h3)]
      · rw [d_M_stands, c_isClaim a w2 e2, Option.bind_some, pb_i, e_M_stands_5, bI_t h1, if_neg (by decide), c_isLand, Option.bind_some, pb_i, e_M_stands_12, if_pos (bI_f h3)]
  · refine LS_mk (r := -1001) (Mi1 := Mi) (Ml1 := Ml) (Mi2 := Mi) (Ml2 := Ml) ?_ ?_ h
    · rw [d_CT_stands, c_within a (Mi 23 9) (n := n) w1, Option.bind_some, pb_i, e_CT_stands_11, if_pos (bI_f h1)]
    · rw [d_M_stands, c_isClaim a w2 e2, Option.bind_some, pb_i, e_M_stands_5, if_pos (bI_f h1)]
