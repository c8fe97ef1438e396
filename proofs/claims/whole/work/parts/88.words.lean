/-! TEXTS: the class's words -/
def wdl (t : Nat → Int32) (N s : Nat) : List Int32 := (List.range (rnT ilt t N s - s)).map (fun k => t (s + k))
theorem wdl_eq {t : Nat → Int32} {N s : Nat} {W : List Int32} : wdl t N s = W ↔ rnT ilt t N s - s = W.length ∧ ∀ i, i < W.length → t (s + i) = W.getD i 0 := by
  unfold wdl
  constructor
  · intro h
    have hl : rnT ilt t N s - s = W.length := by rw [← h, List.length_map, List.length_range]
    refine ⟨hl, fun i hi => ?_⟩
    have : W.getD i 0 = ((List.range (rnT ilt t N s - s)).map (fun k => t (s + k))).getD i 0 := by rw [h]
    rw [this, gD_at (by rw [List.length_map, List.length_range]; omega), List.getElem_map, List.getElem_range]
  · rintro ⟨h1, h2⟩
    apply List.ext_getElem
    · rw [List.length_map, List.length_range]; exact h1
    · intro i a b
      rw [List.getElem_map, List.getElem_range, h2 i b, gD_at b]
theorem ty_1 {t : Nat → Int32} {N s : Nat} : ty t N s = 1 ↔ s < N ∧ ilt (t s) = true := by
  unfold ty
  by_cases h : s < N
  · rw [if_pos h]
    by_cases q : ilt (t s) = true
    · rw [if_pos q]; exact ⟨fun _ => ⟨h, q⟩, fun _ => rfl⟩
    · rw [if_neg q]
      refine ⟨fun z => ?_, fun z => absurd z.2 q⟩
      split at z <;> exact absurd z (by decide)
  · rw [if_neg h]; exact ⟨fun z => absurd z (by decide), fun z => absurd z.1 h⟩
theorem ty_2 {t : Nat → Int32} {N s : Nat} : ty t N s = 2 ↔ s < N ∧ ¬ ilt (t s) = true ∧ ifg (t s) = true := by
  unfold ty
  by_cases h : s < N
  · rw [if_pos h]
    by_cases q : ilt (t s) = true
    · rw [if_pos q]; exact ⟨fun z => absurd z (by decide), fun z => absurd q z.2.1⟩
    · rw [if_neg q]
      by_cases r : ifg (t s) = true
      · rw [if_pos r]; exact ⟨fun _ => ⟨h, q, r⟩, fun _ => rfl⟩
      · rw [if_neg r]; exact ⟨fun z => absurd z (by decide), fun z => absurd z.2.2 r⟩
  · rw [if_neg h]; exact ⟨fun z => absurd z (by decide), fun z => absurd z.1 h⟩
theorem ty_3 {t : Nat → Int32} {N s : Nat} : ty t N s = 3 ↔ s < N ∧ ¬ ilt (t s) = true ∧ ¬ ifg (t s) = true := by
  unfold ty
  by_cases h : s < N
  · rw [if_pos h]
    by_cases q : ilt (t s) = true
    · rw [if_pos q]; exact ⟨fun z => absurd z (by decide), fun z => absurd q z.2.1⟩
    · rw [if_neg q]
      by_cases r : ifg (t s) = true
      · rw [if_pos r]; exact ⟨fun z => absurd z (by decide), fun z => absurd r z.2.2⟩
      · rw [if_neg r]; exact ⟨fun _ => ⟨h, q, r⟩, fun _ => rfl⟩
  · rw [if_neg h]; exact ⟨fun z => absurd z (by decide), fun z => absurd z.1 h⟩
theorem ty_0 {t : Nat → Int32} {N s : Nat} : ty t N s = 0 ↔ ¬ s < N := by
  unfold ty
  by_cases h : s < N
  · rw [if_pos h]
    refine ⟨fun z => ?_, fun z => absurd h z⟩
    split at z
    · exact absurd z (by decide)
    · split at z <;> exact absurd z (by decide)
  · rw [if_neg h]; exact ⟨fun _ => h, fun _ => rfl⟩
theorem ty_lt (t : Nat → Int32) (N s : Nat) : ty t N s < 4 := by
  unfold ty
  split
  · split
    · decide
    · split <;> decide
  · decide
theorem wdl_no {t : Nat → Int32} {N s : Nat} (h : ¬ ty t N s = 1) : wdl t N s = [] := by
  have e : rnT ilt t N s = s := by
    by_cases q : s < N
    · exact rnT_n (fun z => h (ty_1.mpr ⟨q, z⟩))
    · exact rnT_end (by omega)
  unfold wdl
  rw [e, Nat.sub_self]; rfl
theorem nx_w {t : Nat → Int32} {N s : Nat} (h : ty t N s = 1) : nx t N s = rnT ilt t N s := by
  obtain ⟨h1, h2⟩ := ty_1.mp h
  unfold nx; rw [if_pos h1, if_pos h2]
theorem nx_n {t : Nat → Int32} {N s : Nat} (h : ty t N s = 2) : nx t N s = rnT ifg t N s := by
  obtain ⟨h1, h2, h3⟩ := ty_2.mp h
  unfold nx; rw [if_pos h1, if_neg h2, if_pos h3]
theorem nx_s {t : Nat → Int32} {N s : Nat} (h : ty t N s = 3) : nx t N s = s + 1 := by
  obtain ⟨h1, h2, h3⟩ := ty_3.mp h
  unfold nx; rw [if_pos h1, if_neg h2, if_neg h3]
theorem nI_ty {t : Nat → Int32} {N s k : Nat} {b : Int32} (hb : b = nI k) (hk : k < 2 ^ 31) : nI (ty t N s) = b ↔ ty t N s = k := nI_is hb (by have := ty_lt t N s; omega) hk
theorem tyI0 {t : Nat → Int32} {N s : Nat} : nI (ty t N s) = 0 ↔ ty t N s = 0 := nI_ty (k := 0) rfl (by decide)
theorem tyI1 {t : Nat → Int32} {N s : Nat} : nI (ty t N s) = 1 ↔ ty t N s = 1 := nI_ty (k := 1) rfl (by decide)
theorem tyI2 {t : Nat → Int32} {N s : Nat} : nI (ty t N s) = 2 ↔ ty t N s = 2 := nI_ty (k := 2) rfl (by decide)
theorem tyI3 {t : Nat → Int32} {N s : Nat} : nI (ty t N s) = 3 ↔ ty t N s = 3 := nI_ty (k := 3) rfl (by decide)
theorem ch_0 : ∀ i, i < 5 → ((Int32.toUInt32 (((pt_str.getD 0 []).getD i 0) &&& 255) % 65536).toInt32) = ([99, 108, 97, 105, 109] : List Int32).getD i 0 ∧ pm_nar 4 (([99, 108, 97, 105, 109] : List Int32).getD i 0) = ([99, 108, 97, 105, 109] : List Int32).getD i 0 := by decide +kernel
theorem c_ch0 {X : Nat × (Nat → Int32)} {M : MI} {Ml : ML} {i : Nat} (hi : i < 5) : pD X m_String_charAt [.ref 2100, .int (nI i)] (sh0, M, Ml, mr0) = some (some (.int (([99, 108, 97, 105, 109] : List Int32).getD i 0)), (sh0, M, Ml, mr0)) := by
  obtain ⟨c1, c2⟩ := ch_0 i hi
  rw [d_String_charAt_s0, d_String_isLatin1_s0, if_neg (by decide), if_pos rfl, Option.bind_some, pb_i, e_String_charAt_s0_4, if_neg (by decide), d_StringLatin1_charAt_s0, d_String_checkIndex, d_Preconditions_checkIndex, if_neg (show ¬ nI i < 0 from fun q => by rw [show (0 : Int32) = nI 0 from rfl, nI_lt' (by omega) (by decide)] at q; omega), if_pos (show nI i < Int32.ofNat 5 from (nI_lt' (b := 5) (by omega) (by decide)).mpr hi), Option.bind_some, pb_i, e_String_checkIndex_8, Option.bind_some, pb_n, e_StringLatin1_charAt_s0_6, if_pos (pin_nI hi (by decide)), nI_clamp (by omega), c1, if_pos c2, Option.bind_some, pb_i, e_String_charAt_s0_15, if_pos c2]
theorem c_ln0 {X : Nat × (Nat → Int32)} {M : MI} {Ml : ML} : pD X m_String_length [.ref 2100] (sh0, M, Ml, mr0) = some (some (.int (nI 5)), (sh0, M, Ml, mr0)) := by
  rw [d_String_length_s0, d_String_coder_s0, if_neg (by decide), Option.bind_some, pb_i, e_String_length_s0_9, show (Int32.ofNat 5) >>> ((0 : Int32) &&& 31) = nI 5 by decide +kernel]
theorem c_iw0_go {X : Nat × (Nat → Int32)} {M : MI} {Ml : ML} {t : Nat → Int32} {N s : Nat} (hN : N ≤ 200) (hs : s + 5 ≤ N) (h3 : M 34 3 = nI s) (ht : ∀ j, j < N → M 35 j = t j) : ∀ n i, i + n = 5 → pdn X m_Text_isWord (28, [.ref 34, .ref 2100, .int (nI i)], [], (sh0, M, Ml, mr0), 0, 0) = some (some (.int (bI (allF (fun j => decide (t (s + j) = ([99, 108, 97, 105, 109] : List Int32).getD j 0)) n i = true))), (sh0, M, Ml, mr0)) := by
  intro n
  induction n with
  | zero =>
    intro i hi
    rw [e_Text_isWord_s0_28, c_ln0, Option.bind_some, pb_i, e_Text_isWord_s0_33, if_neg (by rw [nI_lt' (by omega) (by omega)]; omega)]; rfl
  | succ n ih =>
    intro i hi
    rw [e_Text_isWord_s0_28, c_ln0, Option.bind_some, pb_i, e_Text_isWord_s0_33, if_pos (by rw [nI_lt' (by omega) (by omega)]; omega), h3, nI_add, if_pos (pin_nI (by omega) (by decide)), nI_clamp (by omega), ht _ (by omega), c_ch0 (by omega), Option.bind_some, pb_i, e_Text_isWord_s0_52, nI_1, ih (i + 1) (by omega), allF]
    by_cases q : t (s + i) = ([99, 108, 97, 105, 109] : List Int32).getD i 0
    · rw [if_pos q, decide_eq_true q, Bool.true_and]
    · rw [if_neg q, decide_eq_false q]; rfl
theorem c_iw0 {X : Nat × (Nat → Int32)} {M : MI} {Ml : ML} {t : Nat → Int32} {N s : Nat} (hN : N ≤ 200) (hs : s ≤ N) (hT : Tok t N M s) (ht : ∀ j, j < N → M 35 j = t j) : pD X m_Text_isWord [.ref 34, .ref 2100] (sh0, M, Ml, mr0) = some (some (.int (bI (wdl t N s = [99, 108, 97, 105, 109]))), (sh0, M, Ml, mr0)) := by
  obtain ⟨h3, h2, h5, _⟩ := hT
  have hn := nx_le t hs
  have hg := nx_ge t N s
  rw [d_Text_isWord_s0, h2]
  by_cases q : ty t N s = 1
  · rw [if_pos (tyI1.mpr q), c_ln0, Option.bind_some, pb_i, e_Text_isWord_s0_21, h5, h3, nI_subN hg]
    have en := nx_w q
    by_cases r : nx t N s - s = 5
    · rw [if_pos (by rw [r])]
      refine (c_iw0_go hN (by omega) h3 ht 5 0 (by omega)).trans ?_
      refine congrArg (fun z => some (some (Value.int z), ((sh0, M, Ml, mr0) : PHp))) (bI_cong ?_)
      rw [wdl_eq, ← en, allF_iff]
      constructor
      · intro z; exact ⟨r, fun i hi => of_decide_eq_true (z i (Nat.zero_le i) (by have : i < 5 := hi; omega))⟩
      · rintro ⟨_, z⟩ k _ hk; exact decide_eq_true (z k (by show k < 5; omega))
    · rw [if_neg (fun z => r ((nI_eq (by omega) (by omega)).mp z)), bI_f]
      intro z
      rw [wdl_eq, ← en] at z
      exact r z.1
  · rw [if_neg (fun z => q (tyI1.mp z)), wdl_no q]; rfl
theorem ch_1 : ∀ i, i < 2 → ((Int32.toUInt32 (((pt_str.getD 1 []).getD i 0) &&& 255) % 65536).toInt32) = ([111, 102] : List Int32).getD i 0 ∧ pm_nar 4 (([111, 102] : List Int32).getD i 0) = ([111, 102] : List Int32).getD i 0 := by decide +kernel
theorem c_ch1 {X : Nat × (Nat → Int32)} {M : MI} {Ml : ML} {i : Nat} (hi : i < 2) : pD X m_String_charAt [.ref 2101, .int (nI i)] (sh0, M, Ml, mr0) = some (some (.int (([111, 102] : List Int32).getD i 0)), (sh0, M, Ml, mr0)) := by
  obtain ⟨c1, c2⟩ := ch_1 i hi
  rw [d_String_charAt_s1, d_String_isLatin1_s1, if_neg (by decide), if_pos rfl, Option.bind_some, pb_i, e_String_charAt_s1_4, if_neg (by decide), d_StringLatin1_charAt_s1, d_String_checkIndex, d_Preconditions_checkIndex, if_neg (show ¬ nI i < 0 from fun q => by rw [show (0 : Int32) = nI 0 from rfl, nI_lt' (by omega) (by decide)] at q; omega), if_pos (show nI i < Int32.ofNat 2 from (nI_lt' (b := 2) (by omega) (by decide)).mpr hi), Option.bind_some, pb_i, e_String_checkIndex_8, Option.bind_some, pb_n, e_StringLatin1_charAt_s1_6, if_pos (pin_nI hi (by decide)), nI_clamp (by omega), c1, if_pos c2, Option.bind_some, pb_i, e_String_charAt_s1_15, if_pos c2]
theorem c_ln1 {X : Nat × (Nat → Int32)} {M : MI} {Ml : ML} : pD X m_String_length [.ref 2101] (sh0, M, Ml, mr0) = some (some (.int (nI 2)), (sh0, M, Ml, mr0)) := by
  rw [d_String_length_s1, d_String_coder_s1, if_neg (by decide), Option.bind_some, pb_i, e_String_length_s1_9, show (Int32.ofNat 2) >>> ((0 : Int32) &&& 31) = nI 2 by decide +kernel]
theorem c_iw1_go {X : Nat × (Nat → Int32)} {M : MI} {Ml : ML} {t : Nat → Int32} {N s : Nat} (hN : N ≤ 200) (hs : s + 2 ≤ N) (h3 : M 34 3 = nI s) (ht : ∀ j, j < N → M 35 j = t j) : ∀ n i, i + n = 2 → pdn X m_Text_isWord (28, [.ref 34, .ref 2101, .int (nI i)], [], (sh0, M, Ml, mr0), 0, 0) = some (some (.int (bI (allF (fun j => decide (t (s + j) = ([111, 102] : List Int32).getD j 0)) n i = true))), (sh0, M, Ml, mr0)) := by
  intro n
  induction n with
  | zero =>
    intro i hi
    rw [e_Text_isWord_s1_28, c_ln1, Option.bind_some, pb_i, e_Text_isWord_s1_33, if_neg (by rw [nI_lt' (by omega) (by omega)]; omega)]; rfl
  | succ n ih =>
    intro i hi
    rw [e_Text_isWord_s1_28, c_ln1, Option.bind_some, pb_i, e_Text_isWord_s1_33, if_pos (by rw [nI_lt' (by omega) (by omega)]; omega), h3, nI_add, if_pos (pin_nI (by omega) (by decide)), nI_clamp (by omega), ht _ (by omega), c_ch1 (by omega), Option.bind_some, pb_i, e_Text_isWord_s1_52, nI_1, ih (i + 1) (by omega), allF]
    by_cases q : t (s + i) = ([111, 102] : List Int32).getD i 0
    · rw [if_pos q, decide_eq_true q, Bool.true_and]
    · rw [if_neg q, decide_eq_false q]; rfl
theorem c_iw1 {X : Nat × (Nat → Int32)} {M : MI} {Ml : ML} {t : Nat → Int32} {N s : Nat} (hN : N ≤ 200) (hs : s ≤ N) (hT : Tok t N M s) (ht : ∀ j, j < N → M 35 j = t j) : pD X m_Text_isWord [.ref 34, .ref 2101] (sh0, M, Ml, mr0) = some (some (.int (bI (wdl t N s = [111, 102]))), (sh0, M, Ml, mr0)) := by
  obtain ⟨h3, h2, h5, _⟩ := hT
  have hn := nx_le t hs
  have hg := nx_ge t N s
  rw [d_Text_isWord_s1, h2]
  by_cases q : ty t N s = 1
  · rw [if_pos (tyI1.mpr q), c_ln1, Option.bind_some, pb_i, e_Text_isWord_s1_21, h5, h3, nI_subN hg]
    have en := nx_w q
    by_cases r : nx t N s - s = 2
    · rw [if_pos (by rw [r])]
      refine (c_iw1_go hN (by omega) h3 ht 2 0 (by omega)).trans ?_
      refine congrArg (fun z => some (some (Value.int z), ((sh0, M, Ml, mr0) : PHp))) (bI_cong ?_)
      rw [wdl_eq, ← en, allF_iff]
      constructor
      · intro z; exact ⟨r, fun i hi => of_decide_eq_true (z i (Nat.zero_le i) (by have : i < 2 := hi; omega))⟩
      · rintro ⟨_, z⟩ k _ hk; exact decide_eq_true (z k (by show k < 2; omega))
    · rw [if_neg (fun z => r ((nI_eq (by omega) (by omega)).mp z)), bI_f]
      intro z
      rw [wdl_eq, ← en] at z
      exact r z.1
  · rw [if_neg (fun z => q (tyI1.mp z)), wdl_no q]; rfl
theorem ch_2 : ∀ i, i < 4 → ((Int32.toUInt32 (((pt_str.getD 2 []).getD i 0) &&& 255) % 65536).toInt32) = ([109, 111, 115, 116] : List Int32).getD i 0 ∧ pm_nar 4 (([109, 111, 115, 116] : List Int32).getD i 0) = ([109, 111, 115, 116] : List Int32).getD i 0 := by decide +kernel
theorem c_ch2 {X : Nat × (Nat → Int32)} {M : MI} {Ml : ML} {i : Nat} (hi : i < 4) : pD X m_String_charAt [.ref 2102, .int (nI i)] (sh0, M, Ml, mr0) = some (some (.int (([109, 111, 115, 116] : List Int32).getD i 0)), (sh0, M, Ml, mr0)) := by
  obtain ⟨c1, c2⟩ := ch_2 i hi
  rw [d_String_charAt_s2, d_String_isLatin1_s2, if_neg (by decide), if_pos rfl, Option.bind_some, pb_i, e_String_charAt_s2_4, if_neg (by decide), d_StringLatin1_charAt_s2, d_String_checkIndex, d_Preconditions_checkIndex, if_neg (show ¬ nI i < 0 from fun q => by rw [show (0 : Int32) = nI 0 from rfl, nI_lt' (by omega) (by decide)] at q; omega), if_pos (show nI i < Int32.ofNat 4 from (nI_lt' (b := 4) (by omega) (by decide)).mpr hi), Option.bind_some, pb_i, e_String_checkIndex_8, Option.bind_some, pb_n, e_StringLatin1_charAt_s2_6, if_pos (pin_nI hi (by decide)), nI_clamp (by omega), c1, if_pos c2, Option.bind_some, pb_i, e_String_charAt_s2_15, if_pos c2]
theorem c_ln2 {X : Nat × (Nat → Int32)} {M : MI} {Ml : ML} : pD X m_String_length [.ref 2102] (sh0, M, Ml, mr0) = some (some (.int (nI 4)), (sh0, M, Ml, mr0)) := by
  rw [d_String_length_s2, d_String_coder_s2, if_neg (by decide), Option.bind_some, pb_i, e_String_length_s2_9, show (Int32.ofNat 4) >>> ((0 : Int32) &&& 31) = nI 4 by decide +kernel]
theorem c_iw2_go {X : Nat × (Nat → Int32)} {M : MI} {Ml : ML} {t : Nat → Int32} {N s : Nat} (hN : N ≤ 200) (hs : s + 4 ≤ N) (h3 : M 34 3 = nI s) (ht : ∀ j, j < N → M 35 j = t j) : ∀ n i, i + n = 4 → pdn X m_Text_isWord (28, [.ref 34, .ref 2102, .int (nI i)], [], (sh0, M, Ml, mr0), 0, 0) = some (some (.int (bI (allF (fun j => decide (t (s + j) = ([109, 111, 115, 116] : List Int32).getD j 0)) n i = true))), (sh0, M, Ml, mr0)) := by
  intro n
  induction n with
  | zero =>
    intro i hi
    rw [e_Text_isWord_s2_28, c_ln2, Option.bind_some, pb_i, e_Text_isWord_s2_33, if_neg (by rw [nI_lt' (by omega) (by omega)]; omega)]; rfl
  | succ n ih =>
    intro i hi
    rw [e_Text_isWord_s2_28, c_ln2, Option.bind_some, pb_i, e_Text_isWord_s2_33, if_pos (by rw [nI_lt' (by omega) (by omega)]; omega), h3, nI_add, if_pos (pin_nI (by omega) (by decide)), nI_clamp (by omega), ht _ (by omega), c_ch2 (by omega), Option.bind_some, pb_i, e_Text_isWord_s2_52, nI_1, ih (i + 1) (by omega), allF]
    by_cases q : t (s + i) = ([109, 111, 115, 116] : List Int32).getD i 0
    · rw [if_pos q, decide_eq_true q, Bool.true_and]
    · rw [if_neg q, decide_eq_false q]; rfl
theorem c_iw2 {X : Nat × (Nat → Int32)} {M : MI} {Ml : ML} {t : Nat → Int32} {N s : Nat} (hN : N ≤ 200) (hs : s ≤ N) (hT : Tok t N M s) (ht : ∀ j, j < N → M 35 j = t j) : pD X m_Text_isWord [.ref 34, .ref 2102] (sh0, M, Ml, mr0) = some (some (.int (bI (wdl t N s = [109, 111, 115, 116]))), (sh0, M, Ml, mr0)) := by
  obtain ⟨h3, h2, h5, _⟩ := hT
  have hn := nx_le t hs
  have hg := nx_ge t N s
  rw [d_Text_isWord_s2, h2]
  by_cases q : ty t N s = 1
  · rw [if_pos (tyI1.mpr q), c_ln2, Option.bind_some, pb_i, e_Text_isWord_s2_21, h5, h3, nI_subN hg]
    have en := nx_w q
    by_cases r : nx t N s - s = 4
    · rw [if_pos (by rw [r])]
      refine (c_iw2_go hN (by omega) h3 ht 4 0 (by omega)).trans ?_
      refine congrArg (fun z => some (some (Value.int z), ((sh0, M, Ml, mr0) : PHp))) (bI_cong ?_)
      rw [wdl_eq, ← en, allF_iff]
      constructor
      · intro z; exact ⟨r, fun i hi => of_decide_eq_true (z i (Nat.zero_le i) (by have : i < 4 := hi; omega))⟩
      · rintro ⟨_, z⟩ k _ hk; exact decide_eq_true (z k (by show k < 4; omega))
    · rw [if_neg (fun z => r ((nI_eq (by omega) (by omega)).mp z)), bI_f]
      intro z
      rw [wdl_eq, ← en] at z
      exact r z.1
  · rw [if_neg (fun z => q (tyI1.mp z)), wdl_no q]; rfl
theorem ch_3 : ∀ i, i < 4 → ((Int32.toUInt32 (((pt_str.getD 3 []).getD i 0) &&& 255) % 65536).toInt32) = ([121, 101, 97, 114] : List Int32).getD i 0 ∧ pm_nar 4 (([121, 101, 97, 114] : List Int32).getD i 0) = ([121, 101, 97, 114] : List Int32).getD i 0 := by decide +kernel
theorem c_ch3 {X : Nat × (Nat → Int32)} {M : MI} {Ml : ML} {i : Nat} (hi : i < 4) : pD X m_String_charAt [.ref 2103, .int (nI i)] (sh0, M, Ml, mr0) = some (some (.int (([121, 101, 97, 114] : List Int32).getD i 0)), (sh0, M, Ml, mr0)) := by
  obtain ⟨c1, c2⟩ := ch_3 i hi
  rw [d_String_charAt_s3, d_String_isLatin1_s3, if_neg (by decide), if_pos rfl, Option.bind_some, pb_i, e_String_charAt_s3_4, if_neg (by decide), d_StringLatin1_charAt_s3, d_String_checkIndex, d_Preconditions_checkIndex, if_neg (show ¬ nI i < 0 from fun q => by rw [show (0 : Int32) = nI 0 from rfl, nI_lt' (by omega) (by decide)] at q; omega), if_pos (show nI i < Int32.ofNat 4 from (nI_lt' (b := 4) (by omega) (by decide)).mpr hi), Option.bind_some, pb_i, e_String_checkIndex_8, Option.bind_some, pb_n, e_StringLatin1_charAt_s3_6, if_pos (pin_nI hi (by decide)), nI_clamp (by omega), c1, if_pos c2, Option.bind_some, pb_i, e_String_charAt_s3_15, if_pos c2]
theorem c_ln3 {X : Nat × (Nat → Int32)} {M : MI} {Ml : ML} : pD X m_String_length [.ref 2103] (sh0, M, Ml, mr0) = some (some (.int (nI 4)), (sh0, M, Ml, mr0)) := by
  rw [d_String_length_s3, d_String_coder_s3, if_neg (by decide), Option.bind_some, pb_i, e_String_length_s3_9, show (Int32.ofNat 4) >>> ((0 : Int32) &&& 31) = nI 4 by decide +kernel]
theorem c_iw3_go {X : Nat × (Nat → Int32)} {M : MI} {Ml : ML} {t : Nat → Int32} {N s : Nat} (hN : N ≤ 200) (hs : s + 4 ≤ N) (h3 : M 34 3 = nI s) (ht : ∀ j, j < N → M 35 j = t j) : ∀ n i, i + n = 4 → pdn X m_Text_isWord (28, [.ref 34, .ref 2103, .int (nI i)], [], (sh0, M, Ml, mr0), 0, 0) = some (some (.int (bI (allF (fun j => decide (t (s + j) = ([121, 101, 97, 114] : List Int32).getD j 0)) n i = true))), (sh0, M, Ml, mr0)) := by
  intro n
  induction n with
  | zero =>
    intro i hi
    rw [e_Text_isWord_s3_28, c_ln3, Option.bind_some, pb_i, e_Text_isWord_s3_33, if_neg (by rw [nI_lt' (by omega) (by omega)]; omega)]; rfl
  | succ n ih =>
    intro i hi
    rw [e_Text_isWord_s3_28, c_ln3, Option.bind_some, pb_i, e_Text_isWord_s3_33, if_pos (by rw [nI_lt' (by omega) (by omega)]; omega), h3, nI_add, if_pos (pin_nI (by omega) (by decide)), nI_clamp (by omega), ht _ (by omega), c_ch3 (by omega), Option.bind_some, pb_i, e_Text_isWord_s3_52, nI_1, ih (i + 1) (by omega), allF]
    by_cases q : t (s + i) = ([121, 101, 97, 114] : List Int32).getD i 0
    · rw [if_pos q, decide_eq_true q, Bool.true_and]
    · rw [if_neg q, decide_eq_false q]; rfl
theorem c_iw3 {X : Nat × (Nat → Int32)} {M : MI} {Ml : ML} {t : Nat → Int32} {N s : Nat} (hN : N ≤ 200) (hs : s ≤ N) (hT : Tok t N M s) (ht : ∀ j, j < N → M 35 j = t j) : pD X m_Text_isWord [.ref 34, .ref 2103] (sh0, M, Ml, mr0) = some (some (.int (bI (wdl t N s = [121, 101, 97, 114]))), (sh0, M, Ml, mr0)) := by
  obtain ⟨h3, h2, h5, _⟩ := hT
  have hn := nx_le t hs
  have hg := nx_ge t N s
  rw [d_Text_isWord_s3, h2]
  by_cases q : ty t N s = 1
  · rw [if_pos (tyI1.mpr q), c_ln3, Option.bind_some, pb_i, e_Text_isWord_s3_21, h5, h3, nI_subN hg]
    have en := nx_w q
    by_cases r : nx t N s - s = 4
    · rw [if_pos (by rw [r])]
      refine (c_iw3_go hN (by omega) h3 ht 4 0 (by omega)).trans ?_
      refine congrArg (fun z => some (some (Value.int z), ((sh0, M, Ml, mr0) : PHp))) (bI_cong ?_)
      rw [wdl_eq, ← en, allF_iff]
      constructor
      · intro z; exact ⟨r, fun i hi => of_decide_eq_true (z i (Nat.zero_le i) (by have : i < 4 := hi; omega))⟩
      · rintro ⟨_, z⟩ k _ hk; exact decide_eq_true (z k (by show k < 4; omega))
    · rw [if_neg (fun z => r ((nI_eq (by omega) (by omega)).mp z)), bI_f]
      intro z
      rw [wdl_eq, ← en] at z
      exact r z.1
  · rw [if_neg (fun z => q (tyI1.mp z)), wdl_no q]; rfl
theorem ch_4 : ∀ i, i < 5 → ((Int32.toUInt32 (((pt_str.getD 4 []).getD i 0) &&& 255) % 65536).toInt32) = ([103, 114, 97, 99, 101] : List Int32).getD i 0 ∧ pm_nar 4 (([103, 114, 97, 99, 101] : List Int32).getD i 0) = ([103, 114, 97, 99, 101] : List Int32).getD i 0 := by decide +kernel
theorem c_ch4 {X : Nat × (Nat → Int32)} {M : MI} {Ml : ML} {i : Nat} (hi : i < 5) : pD X m_String_charAt [.ref 2104, .int (nI i)] (sh0, M, Ml, mr0) = some (some (.int (([103, 114, 97, 99, 101] : List Int32).getD i 0)), (sh0, M, Ml, mr0)) := by
  obtain ⟨c1, c2⟩ := ch_4 i hi
  rw [d_String_charAt_s4, d_String_isLatin1_s4, if_neg (by decide), if_pos rfl, Option.bind_some, pb_i, e_String_charAt_s4_4, if_neg (by decide), d_StringLatin1_charAt_s4, d_String_checkIndex, d_Preconditions_checkIndex, if_neg (show ¬ nI i < 0 from fun q => by rw [show (0 : Int32) = nI 0 from rfl, nI_lt' (by omega) (by decide)] at q; omega), if_pos (show nI i < Int32.ofNat 5 from (nI_lt' (b := 5) (by omega) (by decide)).mpr hi), Option.bind_some, pb_i, e_String_checkIndex_8, Option.bind_some, pb_n, e_StringLatin1_charAt_s4_6, if_pos (pin_nI hi (by decide)), nI_clamp (by omega), c1, if_pos c2, Option.bind_some, pb_i, e_String_charAt_s4_15, if_pos c2]
theorem c_ln4 {X : Nat × (Nat → Int32)} {M : MI} {Ml : ML} : pD X m_String_length [.ref 2104] (sh0, M, Ml, mr0) = some (some (.int (nI 5)), (sh0, M, Ml, mr0)) := by
  rw [d_String_length_s4, d_String_coder_s4, if_neg (by decide), Option.bind_some, pb_i, e_String_length_s4_9, show (Int32.ofNat 5) >>> ((0 : Int32) &&& 31) = nI 5 by decide +kernel]
theorem c_iw4_go {X : Nat × (Nat → Int32)} {M : MI} {Ml : ML} {t : Nat → Int32} {N s : Nat} (hN : N ≤ 200) (hs : s + 5 ≤ N) (h3 : M 34 3 = nI s) (ht : ∀ j, j < N → M 35 j = t j) : ∀ n i, i + n = 5 → pdn X m_Text_isWord (28, [.ref 34, .ref 2104, .int (nI i)], [], (sh0, M, Ml, mr0), 0, 0) = some (some (.int (bI (allF (fun j => decide (t (s + j) = ([103, 114, 97, 99, 101] : List Int32).getD j 0)) n i = true))), (sh0, M, Ml, mr0)) := by
  intro n
  induction n with
  | zero =>
    intro i hi
    rw [e_Text_isWord_s4_28, c_ln4, Option.bind_some, pb_i, e_Text_isWord_s4_33, if_neg (by rw [nI_lt' (by omega) (by omega)]; omega)]; rfl
  | succ n ih =>
    intro i hi
    rw [e_Text_isWord_s4_28, c_ln4, Option.bind_some, pb_i, e_Text_isWord_s4_33, if_pos (by rw [nI_lt' (by omega) (by omega)]; omega), h3, nI_add, if_pos (pin_nI (by omega) (by decide)), nI_clamp (by omega), ht _ (by omega), c_ch4 (by omega), Option.bind_some, pb_i, e_Text_isWord_s4_52, nI_1, ih (i + 1) (by omega), allF]
    by_cases q : t (s + i) = ([103, 114, 97, 99, 101] : List Int32).getD i 0
    · rw [if_pos q, decide_eq_true q, Bool.true_and]
    · rw [if_neg q, decide_eq_false q]; rfl
theorem c_iw4 {X : Nat × (Nat → Int32)} {M : MI} {Ml : ML} {t : Nat → Int32} {N s : Nat} (hN : N ≤ 200) (hs : s ≤ N) (hT : Tok t N M s) (ht : ∀ j, j < N → M 35 j = t j) : pD X m_Text_isWord [.ref 34, .ref 2104] (sh0, M, Ml, mr0) = some (some (.int (bI (wdl t N s = [103, 114, 97, 99, 101]))), (sh0, M, Ml, mr0)) := by
  obtain ⟨h3, h2, h5, _⟩ := hT
  have hn := nx_le t hs
  have hg := nx_ge t N s
  rw [d_Text_isWord_s4, h2]
  by_cases q : ty t N s = 1
  · rw [if_pos (tyI1.mpr q), c_ln4, Option.bind_some, pb_i, e_Text_isWord_s4_21, h5, h3, nI_subN hg]
    have en := nx_w q
    by_cases r : nx t N s - s = 5
    · rw [if_pos (by rw [r])]
      refine (c_iw4_go hN (by omega) h3 ht 5 0 (by omega)).trans ?_
      refine congrArg (fun z => some (some (Value.int z), ((sh0, M, Ml, mr0) : PHp))) (bI_cong ?_)
      rw [wdl_eq, ← en, allF_iff]
      constructor
      · intro z; exact ⟨r, fun i hi => of_decide_eq_true (z i (Nat.zero_le i) (by have : i < 5 := hi; omega))⟩
      · rintro ⟨_, z⟩ k _ hk; exact decide_eq_true (z k (by show k < 5; omega))
    · rw [if_neg (fun z => r ((nI_eq (by omega) (by omega)).mp z)), bI_f]
      intro z
      rw [wdl_eq, ← en] at z
      exact r z.1
  · rw [if_neg (fun z => q (tyI1.mp z)), wdl_no q]; rfl
theorem ch_5 : ∀ i, i < 6 → ((Int32.toUInt32 (((pt_str.getD 5 []).getD i 0) &&& 255) % 65536).toInt32) = ([115, 101, 99, 114, 101, 116] : List Int32).getD i 0 ∧ pm_nar 4 (([115, 101, 99, 114, 101, 116] : List Int32).getD i 0) = ([115, 101, 99, 114, 101, 116] : List Int32).getD i 0 := by decide +kernel
theorem c_ch5 {X : Nat × (Nat → Int32)} {M : MI} {Ml : ML} {i : Nat} (hi : i < 6) : pD X m_String_charAt [.ref 2105, .int (nI i)] (sh0, M, Ml, mr0) = some (some (.int (([115, 101, 99, 114, 101, 116] : List Int32).getD i 0)), (sh0, M, Ml, mr0)) := by
  obtain ⟨c1, c2⟩ := ch_5 i hi
  rw [d_String_charAt_s5, d_String_isLatin1_s5, if_neg (by decide), if_pos rfl, Option.bind_some, pb_i, e_String_charAt_s5_4, if_neg (by decide), d_StringLatin1_charAt_s5, d_String_checkIndex, d_Preconditions_checkIndex, if_neg (show ¬ nI i < 0 from fun q => by rw [show (0 : Int32) = nI 0 from rfl, nI_lt' (by omega) (by decide)] at q; omega), if_pos (show nI i < Int32.ofNat 6 from (nI_lt' (b := 6) (by omega) (by decide)).mpr hi), Option.bind_some, pb_i, e_String_checkIndex_8, Option.bind_some, pb_n, e_StringLatin1_charAt_s5_6, if_pos (pin_nI hi (by decide)), nI_clamp (by omega), c1, if_pos c2, Option.bind_some, pb_i, e_String_charAt_s5_15, if_pos c2]
theorem c_ln5 {X : Nat × (Nat → Int32)} {M : MI} {Ml : ML} : pD X m_String_length [.ref 2105] (sh0, M, Ml, mr0) = some (some (.int (nI 6)), (sh0, M, Ml, mr0)) := by
  rw [d_String_length_s5, d_String_coder_s5, if_neg (by decide), Option.bind_some, pb_i, e_String_length_s5_9, show (Int32.ofNat 6) >>> ((0 : Int32) &&& 31) = nI 6 by decide +kernel]
theorem c_iw5_go {X : Nat × (Nat → Int32)} {M : MI} {Ml : ML} {t : Nat → Int32} {N s : Nat} (hN : N ≤ 200) (hs : s + 6 ≤ N) (h3 : M 34 3 = nI s) (ht : ∀ j, j < N → M 35 j = t j) : ∀ n i, i + n = 6 → pdn X m_Text_isWord (28, [.ref 34, .ref 2105, .int (nI i)], [], (sh0, M, Ml, mr0), 0, 0) = some (some (.int (bI (allF (fun j => decide (t (s + j) = ([115, 101, 99, 114, 101, 116] : List Int32).getD j 0)) n i = true))), (sh0, M, Ml, mr0)) := by
  intro n
  induction n with
  | zero =>
    intro i hi
    rw [e_Text_isWord_s5_28, c_ln5, Option.bind_some, pb_i, e_Text_isWord_s5_33, if_neg (by rw [nI_lt' (by omega) (by omega)]; omega)]; rfl
  | succ n ih =>
    intro i hi
    rw [e_Text_isWord_s5_28, c_ln5, Option.bind_some, pb_i, e_Text_isWord_s5_33, if_pos (by rw [nI_lt' (by omega) (by omega)]; omega), h3, nI_add, if_pos (pin_nI (by omega) (by decide)), nI_clamp (by omega), ht _ (by omega), c_ch5 (by omega), Option.bind_some, pb_i, e_Text_isWord_s5_52, nI_1, ih (i + 1) (by omega), allF]
    by_cases q : t (s + i) = ([115, 101, 99, 114, 101, 116] : List Int32).getD i 0
    · rw [if_pos q, decide_eq_true q, Bool.true_and]
    · rw [if_neg q, decide_eq_false q]; rfl
theorem c_iw5 {X : Nat × (Nat → Int32)} {M : MI} {Ml : ML} {t : Nat → Int32} {N s : Nat} (hN : N ≤ 200) (hs : s ≤ N) (hT : Tok t N M s) (ht : ∀ j, j < N → M 35 j = t j) : pD X m_Text_isWord [.ref 34, .ref 2105] (sh0, M, Ml, mr0) = some (some (.int (bI (wdl t N s = [115, 101, 99, 114, 101, 116]))), (sh0, M, Ml, mr0)) := by
  obtain ⟨h3, h2, h5, _⟩ := hT
  have hn := nx_le t hs
  have hg := nx_ge t N s
  rw [d_Text_isWord_s5, h2]
  by_cases q : ty t N s = 1
  · rw [if_pos (tyI1.mpr q), c_ln5, Option.bind_some, pb_i, e_Text_isWord_s5_21, h5, h3, nI_subN hg]
    have en := nx_w q
    by_cases r : nx t N s - s = 6
    · rw [if_pos (by rw [r])]
      refine (c_iw5_go hN (by omega) h3 ht 6 0 (by omega)).trans ?_
      refine congrArg (fun z => some (some (Value.int z), ((sh0, M, Ml, mr0) : PHp))) (bI_cong ?_)
      rw [wdl_eq, ← en, allF_iff]
      constructor
      · intro z; exact ⟨r, fun i hi => of_decide_eq_true (z i (Nat.zero_le i) (by have : i < 6 := hi; omega))⟩
      · rintro ⟨_, z⟩ k _ hk; exact decide_eq_true (z k (by show k < 6; omega))
    · rw [if_neg (fun z => r ((nI_eq (by omega) (by omega)).mp z)), bI_f]
      intro z
      rw [wdl_eq, ← en] at z
      exact r z.1
  · rw [if_neg (fun z => q (tyI1.mp z)), wdl_no q]; rfl
theorem ch_6 : ∀ i, i < 4 → ((Int32.toUInt32 (((pt_str.getD 6 []).getD i 0) &&& 255) % 65536).toInt32) = ([116, 101, 114, 109] : List Int32).getD i 0 ∧ pm_nar 4 (([116, 101, 114, 109] : List Int32).getD i 0) = ([116, 101, 114, 109] : List Int32).getD i 0 := by decide +kernel
theorem c_ch6 {X : Nat × (Nat → Int32)} {M : MI} {Ml : ML} {i : Nat} (hi : i < 4) : pD X m_String_charAt [.ref 2106, .int (nI i)] (sh0, M, Ml, mr0) = some (some (.int (([116, 101, 114, 109] : List Int32).getD i 0)), (sh0, M, Ml, mr0)) := by
  obtain ⟨c1, c2⟩ := ch_6 i hi
  rw [d_String_charAt_s6, d_String_isLatin1_s6, if_neg (by decide), if_pos rfl, Option.bind_some, pb_i, e_String_charAt_s6_4, if_neg (by decide), d_StringLatin1_charAt_s6, d_String_checkIndex, d_Preconditions_checkIndex, if_neg (show ¬ nI i < 0 from fun q => by rw [show (0 : Int32) = nI 0 from rfl, nI_lt' (by omega) (by decide)] at q; omega), if_pos (show nI i < Int32.ofNat 4 from (nI_lt' (b := 4) (by omega) (by decide)).mpr hi), Option.bind_some, pb_i, e_String_checkIndex_8, Option.bind_some, pb_n, e_StringLatin1_charAt_s6_6, if_pos (pin_nI hi (by decide)), nI_clamp (by omega), c1, if_pos c2, Option.bind_some, pb_i, e_String_charAt_s6_15, if_pos c2]
theorem c_ln6 {X : Nat × (Nat → Int32)} {M : MI} {Ml : ML} : pD X m_String_length [.ref 2106] (sh0, M, Ml, mr0) = some (some (.int (nI 4)), (sh0, M, Ml, mr0)) := by
  rw [d_String_length_s6, d_String_coder_s6, if_neg (by decide), Option.bind_some, pb_i, e_String_length_s6_9, show (Int32.ofNat 4) >>> ((0 : Int32) &&& 31) = nI 4 by decide +kernel]
theorem c_iw6_go {X : Nat × (Nat → Int32)} {M : MI} {Ml : ML} {t : Nat → Int32} {N s : Nat} (hN : N ≤ 200) (hs : s + 4 ≤ N) (h3 : M 34 3 = nI s) (ht : ∀ j, j < N → M 35 j = t j) : ∀ n i, i + n = 4 → pdn X m_Text_isWord (28, [.ref 34, .ref 2106, .int (nI i)], [], (sh0, M, Ml, mr0), 0, 0) = some (some (.int (bI (allF (fun j => decide (t (s + j) = ([116, 101, 114, 109] : List Int32).getD j 0)) n i = true))), (sh0, M, Ml, mr0)) := by
  intro n
  induction n with
  | zero =>
    intro i hi
    rw [e_Text_isWord_s6_28, c_ln6, Option.bind_some, pb_i, e_Text_isWord_s6_33, if_neg (by rw [nI_lt' (by omega) (by omega)]; omega)]; rfl
  | succ n ih =>
    intro i hi
    rw [e_Text_isWord_s6_28, c_ln6, Option.bind_some, pb_i, e_Text_isWord_s6_33, if_pos (by rw [nI_lt' (by omega) (by omega)]; omega), h3, nI_add, if_pos (pin_nI (by omega) (by decide)), nI_clamp (by omega), ht _ (by omega), c_ch6 (by omega), Option.bind_some, pb_i, e_Text_isWord_s6_52, nI_1, ih (i + 1) (by omega), allF]
    by_cases q : t (s + i) = ([116, 101, 114, 109] : List Int32).getD i 0
    · rw [if_pos q, decide_eq_true q, Bool.true_and]
    · rw [if_neg q, decide_eq_false q]; rfl
theorem c_iw6 {X : Nat × (Nat → Int32)} {M : MI} {Ml : ML} {t : Nat → Int32} {N s : Nat} (hN : N ≤ 200) (hs : s ≤ N) (hT : Tok t N M s) (ht : ∀ j, j < N → M 35 j = t j) : pD X m_Text_isWord [.ref 34, .ref 2106] (sh0, M, Ml, mr0) = some (some (.int (bI (wdl t N s = [116, 101, 114, 109]))), (sh0, M, Ml, mr0)) := by
  obtain ⟨h3, h2, h5, _⟩ := hT
  have hn := nx_le t hs
  have hg := nx_ge t N s
  rw [d_Text_isWord_s6, h2]
  by_cases q : ty t N s = 1
  · rw [if_pos (tyI1.mpr q), c_ln6, Option.bind_some, pb_i, e_Text_isWord_s6_21, h5, h3, nI_subN hg]
    have en := nx_w q
    by_cases r : nx t N s - s = 4
    · rw [if_pos (by rw [r])]
      refine (c_iw6_go hN (by omega) h3 ht 4 0 (by omega)).trans ?_
      refine congrArg (fun z => some (some (Value.int z), ((sh0, M, Ml, mr0) : PHp))) (bI_cong ?_)
      rw [wdl_eq, ← en, allF_iff]
      constructor
      · intro z; exact ⟨r, fun i hi => of_decide_eq_true (z i (Nat.zero_le i) (by have : i < 4 := hi; omega))⟩
      · rintro ⟨_, z⟩ k _ hk; exact decide_eq_true (z k (by show k < 4; omega))
    · rw [if_neg (fun z => r ((nI_eq (by omega) (by omega)).mp z)), bI_f]
      intro z
      rw [wdl_eq, ← en] at z
      exact r z.1
  · rw [if_neg (fun z => q (tyI1.mp z)), wdl_no q]; rfl
theorem ch_7 : ∀ i, i < 5 → ((Int32.toUInt32 (((pt_str.getD 7 []).getD i 0) &&& 255) % 65536).toInt32) = ([107, 110, 111, 119, 110] : List Int32).getD i 0 ∧ pm_nar 4 (([107, 110, 111, 119, 110] : List Int32).getD i 0) = ([107, 110, 111, 119, 110] : List Int32).getD i 0 := by decide +kernel
theorem c_ch7 {X : Nat × (Nat → Int32)} {M : MI} {Ml : ML} {i : Nat} (hi : i < 5) : pD X m_String_charAt [.ref 2107, .int (nI i)] (sh0, M, Ml, mr0) = some (some (.int (([107, 110, 111, 119, 110] : List Int32).getD i 0)), (sh0, M, Ml, mr0)) := by
  obtain ⟨c1, c2⟩ := ch_7 i hi
  rw [d_String_charAt_s7, d_String_isLatin1_s7, if_neg (by decide), if_pos rfl, Option.bind_some, pb_i, e_String_charAt_s7_4, if_neg (by decide), d_StringLatin1_charAt_s7, d_String_checkIndex, d_Preconditions_checkIndex, if_neg (show ¬ nI i < 0 from fun q => by rw [show (0 : Int32) = nI 0 from rfl, nI_lt' (by omega) (by decide)] at q; omega), if_pos (show nI i < Int32.ofNat 5 from (nI_lt' (b := 5) (by omega) (by decide)).mpr hi), Option.bind_some, pb_i, e_String_checkIndex_8, Option.bind_some, pb_n, e_StringLatin1_charAt_s7_6, if_pos (pin_nI hi (by decide)), nI_clamp (by omega), c1, if_pos c2, Option.bind_some, pb_i, e_String_charAt_s7_15, if_pos c2]
theorem c_ln7 {X : Nat × (Nat → Int32)} {M : MI} {Ml : ML} : pD X m_String_length [.ref 2107] (sh0, M, Ml, mr0) = some (some (.int (nI 5)), (sh0, M, Ml, mr0)) := by
  rw [d_String_length_s7, d_String_coder_s7, if_neg (by decide), Option.bind_some, pb_i, e_String_length_s7_9, show (Int32.ofNat 5) >>> ((0 : Int32) &&& 31) = nI 5 by decide +kernel]
theorem c_iw7_go {X : Nat × (Nat → Int32)} {M : MI} {Ml : ML} {t : Nat → Int32} {N s : Nat} (hN : N ≤ 200) (hs : s + 5 ≤ N) (h3 : M 34 3 = nI s) (ht : ∀ j, j < N → M 35 j = t j) : ∀ n i, i + n = 5 → pdn X m_Text_isWord (28, [.ref 34, .ref 2107, .int (nI i)], [], (sh0, M, Ml, mr0), 0, 0) = some (some (.int (bI (allF (fun j => decide (t (s + j) = ([107, 110, 111, 119, 110] : List Int32).getD j 0)) n i = true))), (sh0, M, Ml, mr0)) := by
  intro n
  induction n with
  | zero =>
    intro i hi
    rw [e_Text_isWord_s7_28, c_ln7, Option.bind_some, pb_i, e_Text_isWord_s7_33, if_neg (by rw [nI_lt' (by omega) (by omega)]; omega)]; rfl
  | succ n ih =>
    intro i hi
    rw [e_Text_isWord_s7_28, c_ln7, Option.bind_some, pb_i, e_Text_isWord_s7_33, if_pos (by rw [nI_lt' (by omega) (by omega)]; omega), h3, nI_add, if_pos (pin_nI (by omega) (by decide)), nI_clamp (by omega), ht _ (by omega), c_ch7 (by omega), Option.bind_some, pb_i, e_Text_isWord_s7_52, nI_1, ih (i + 1) (by omega), allF]
    by_cases q : t (s + i) = ([107, 110, 111, 119, 110] : List Int32).getD i 0
    · rw [if_pos q, decide_eq_true q, Bool.true_and]
    · rw [if_neg q, decide_eq_false q]; rfl
theorem c_iw7 {X : Nat × (Nat → Int32)} {M : MI} {Ml : ML} {t : Nat → Int32} {N s : Nat} (hN : N ≤ 200) (hs : s ≤ N) (hT : Tok t N M s) (ht : ∀ j, j < N → M 35 j = t j) : pD X m_Text_isWord [.ref 34, .ref 2107] (sh0, M, Ml, mr0) = some (some (.int (bI (wdl t N s = [107, 110, 111, 119, 110]))), (sh0, M, Ml, mr0)) := by
  obtain ⟨h3, h2, h5, _⟩ := hT
  have hn := nx_le t hs
  have hg := nx_ge t N s
  rw [d_Text_isWord_s7, h2]
  by_cases q : ty t N s = 1
  · rw [if_pos (tyI1.mpr q), c_ln7, Option.bind_some, pb_i, e_Text_isWord_s7_21, h5, h3, nI_subN hg]
    have en := nx_w q
    by_cases r : nx t N s - s = 5
    · rw [if_pos (by rw [r])]
      refine (c_iw7_go hN (by omega) h3 ht 5 0 (by omega)).trans ?_
      refine congrArg (fun z => some (some (Value.int z), ((sh0, M, Ml, mr0) : PHp))) (bI_cong ?_)
      rw [wdl_eq, ← en, allF_iff]
      constructor
      · intro z; exact ⟨r, fun i hi => of_decide_eq_true (z i (Nat.zero_le i) (by have : i < 5 := hi; omega))⟩
      · rintro ⟨_, z⟩ k _ hk; exact decide_eq_true (z k (by show k < 5; omega))
    · rw [if_neg (fun z => r ((nI_eq (by omega) (by omega)).mp z)), bI_f]
      intro z
      rw [wdl_eq, ← en] at z
      exact r z.1
  · rw [if_neg (fun z => q (tyI1.mp z)), wdl_no q]; rfl
theorem ch_8 : ∀ i, i < 3 → ((Int32.toUInt32 (((pt_str.getD 8 []).getD i 0) &&& 255) % 65536).toInt32) = ([121, 101, 115] : List Int32).getD i 0 ∧ pm_nar 4 (([121, 101, 115] : List Int32).getD i 0) = ([121, 101, 115] : List Int32).getD i 0 := by decide +kernel
theorem c_ch8 {X : Nat × (Nat → Int32)} {M : MI} {Ml : ML} {i : Nat} (hi : i < 3) : pD X m_String_charAt [.ref 2108, .int (nI i)] (sh0, M, Ml, mr0) = some (some (.int (([121, 101, 115] : List Int32).getD i 0)), (sh0, M, Ml, mr0)) := by
  obtain ⟨c1, c2⟩ := ch_8 i hi
  rw [d_String_charAt_s8, d_String_isLatin1_s8, if_neg (by decide), if_pos rfl, Option.bind_some, pb_i, e_String_charAt_s8_4, if_neg (by decide), d_StringLatin1_charAt_s8, d_String_checkIndex, d_Preconditions_checkIndex, if_neg (show ¬ nI i < 0 from fun q => by rw [show (0 : Int32) = nI 0 from rfl, nI_lt' (by omega) (by decide)] at q; omega), if_pos (show nI i < Int32.ofNat 3 from (nI_lt' (b := 3) (by omega) (by decide)).mpr hi), Option.bind_some, pb_i, e_String_checkIndex_8, Option.bind_some, pb_n, e_StringLatin1_charAt_s8_6, if_pos (pin_nI hi (by decide)), nI_clamp (by omega), c1, if_pos c2, Option.bind_some, pb_i, e_String_charAt_s8_15, if_pos c2]
theorem c_ln8 {X : Nat × (Nat → Int32)} {M : MI} {Ml : ML} : pD X m_String_length [.ref 2108] (sh0, M, Ml, mr0) = some (some (.int (nI 3)), (sh0, M, Ml, mr0)) := by
  rw [d_String_length_s8, d_String_coder_s8, if_neg (by decide), Option.bind_some, pb_i, e_String_length_s8_9, show (Int32.ofNat 3) >>> ((0 : Int32) &&& 31) = nI 3 by decide +kernel]
theorem c_iw8_go {X : Nat × (Nat → Int32)} {M : MI} {Ml : ML} {t : Nat → Int32} {N s : Nat} (hN : N ≤ 200) (hs : s + 3 ≤ N) (h3 : M 34 3 = nI s) (ht : ∀ j, j < N → M 35 j = t j) : ∀ n i, i + n = 3 → pdn X m_Text_isWord (28, [.ref 34, .ref 2108, .int (nI i)], [], (sh0, M, Ml, mr0), 0, 0) = some (some (.int (bI (allF (fun j => decide (t (s + j) = ([121, 101, 115] : List Int32).getD j 0)) n i = true))), (sh0, M, Ml, mr0)) := by
  intro n
  induction n with
  | zero =>
    intro i hi
    rw [e_Text_isWord_s8_28, c_ln8, Option.bind_some, pb_i, e_Text_isWord_s8_33, if_neg (by rw [nI_lt' (by omega) (by omega)]; omega)]; rfl
  | succ n ih =>
    intro i hi
    rw [e_Text_isWord_s8_28, c_ln8, Option.bind_some, pb_i, e_Text_isWord_s8_33, if_pos (by rw [nI_lt' (by omega) (by omega)]; omega), h3, nI_add, if_pos (pin_nI (by omega) (by decide)), nI_clamp (by omega), ht _ (by omega), c_ch8 (by omega), Option.bind_some, pb_i, e_Text_isWord_s8_52, nI_1, ih (i + 1) (by omega), allF]
    by_cases q : t (s + i) = ([121, 101, 115] : List Int32).getD i 0
    · rw [if_pos q, decide_eq_true q, Bool.true_and]
    · rw [if_neg q, decide_eq_false q]; rfl
theorem c_iw8 {X : Nat × (Nat → Int32)} {M : MI} {Ml : ML} {t : Nat → Int32} {N s : Nat} (hN : N ≤ 200) (hs : s ≤ N) (hT : Tok t N M s) (ht : ∀ j, j < N → M 35 j = t j) : pD X m_Text_isWord [.ref 34, .ref 2108] (sh0, M, Ml, mr0) = some (some (.int (bI (wdl t N s = [121, 101, 115]))), (sh0, M, Ml, mr0)) := by
  obtain ⟨h3, h2, h5, _⟩ := hT
  have hn := nx_le t hs
  have hg := nx_ge t N s
  rw [d_Text_isWord_s8, h2]
  by_cases q : ty t N s = 1
  · rw [if_pos (tyI1.mpr q), c_ln8, Option.bind_some, pb_i, e_Text_isWord_s8_21, h5, h3, nI_subN hg]
    have en := nx_w q
    by_cases r : nx t N s - s = 3
    · rw [if_pos (by rw [r])]
      refine (c_iw8_go hN (by omega) h3 ht 3 0 (by omega)).trans ?_
      refine congrArg (fun z => some (some (Value.int z), ((sh0, M, Ml, mr0) : PHp))) (bI_cong ?_)
      rw [wdl_eq, ← en, allF_iff]
      constructor
      · intro z; exact ⟨r, fun i hi => of_decide_eq_true (z i (Nat.zero_le i) (by have : i < 3 := hi; omega))⟩
      · rintro ⟨_, z⟩ k _ hk; exact decide_eq_true (z k (by show k < 3; omega))
    · rw [if_neg (fun z => r ((nI_eq (by omega) (by omega)).mp z)), bI_f]
      intro z
      rw [wdl_eq, ← en] at z
      exact r z.1
  · rw [if_neg (fun z => q (tyI1.mp z)), wdl_no q]; rfl
theorem ch_9 : ∀ i, i < 2 → ((Int32.toUInt32 (((pt_str.getD 9 []).getD i 0) &&& 255) % 65536).toInt32) = ([110, 111] : List Int32).getD i 0 ∧ pm_nar 4 (([110, 111] : List Int32).getD i 0) = ([110, 111] : List Int32).getD i 0 := by decide +kernel
theorem c_ch9 {X : Nat × (Nat → Int32)} {M : MI} {Ml : ML} {i : Nat} (hi : i < 2) : pD X m_String_charAt [.ref 2109, .int (nI i)] (sh0, M, Ml, mr0) = some (some (.int (([110, 111] : List Int32).getD i 0)), (sh0, M, Ml, mr0)) := by
  obtain ⟨c1, c2⟩ := ch_9 i hi
  rw [d_String_charAt_s9, d_String_isLatin1_s9, if_neg (by decide), if_pos rfl, Option.bind_some, pb_i, e_String_charAt_s9_4, if_neg (by decide), d_StringLatin1_charAt_s9, d_String_checkIndex, d_Preconditions_checkIndex, if_neg (show ¬ nI i < 0 from fun q => by rw [show (0 : Int32) = nI 0 from rfl, nI_lt' (by omega) (by decide)] at q; omega), if_pos (show nI i < Int32.ofNat 2 from (nI_lt' (b := 2) (by omega) (by decide)).mpr hi), Option.bind_some, pb_i, e_String_checkIndex_8, Option.bind_some, pb_n, e_StringLatin1_charAt_s9_6, if_pos (pin_nI hi (by decide)), nI_clamp (by omega), c1, if_pos c2, Option.bind_some, pb_i, e_String_charAt_s9_15, if_pos c2]
theorem c_ln9 {X : Nat × (Nat → Int32)} {M : MI} {Ml : ML} : pD X m_String_length [.ref 2109] (sh0, M, Ml, mr0) = some (some (.int (nI 2)), (sh0, M, Ml, mr0)) := by
  rw [d_String_length_s9, d_String_coder_s9, if_neg (by decide), Option.bind_some, pb_i, e_String_length_s9_9, show (Int32.ofNat 2) >>> ((0 : Int32) &&& 31) = nI 2 by decide +kernel]
theorem c_iw9_go {X : Nat × (Nat → Int32)} {M : MI} {Ml : ML} {t : Nat → Int32} {N s : Nat} (hN : N ≤ 200) (hs : s + 2 ≤ N) (h3 : M 34 3 = nI s) (ht : ∀ j, j < N → M 35 j = t j) : ∀ n i, i + n = 2 → pdn X m_Text_isWord (28, [.ref 34, .ref 2109, .int (nI i)], [], (sh0, M, Ml, mr0), 0, 0) = some (some (.int (bI (allF (fun j => decide (t (s + j) = ([110, 111] : List Int32).getD j 0)) n i = true))), (sh0, M, Ml, mr0)) := by
  intro n
  induction n with
  | zero =>
    intro i hi
    rw [e_Text_isWord_s9_28, c_ln9, Option.bind_some, pb_i, e_Text_isWord_s9_33, if_neg (by rw [nI_lt' (by omega) (by omega)]; omega)]; rfl
  | succ n ih =>
    intro i hi
    rw [e_Text_isWord_s9_28, c_ln9, Option.bind_some, pb_i, e_Text_isWord_s9_33, if_pos (by rw [nI_lt' (by omega) (by omega)]; omega), h3, nI_add, if_pos (pin_nI (by omega) (by decide)), nI_clamp (by omega), ht _ (by omega), c_ch9 (by omega), Option.bind_some, pb_i, e_Text_isWord_s9_52, nI_1, ih (i + 1) (by omega), allF]
    by_cases q : t (s + i) = ([110, 111] : List Int32).getD i 0
    · rw [if_pos q, decide_eq_true q, Bool.true_and]
    · rw [if_neg q, decide_eq_false q]; rfl
theorem c_iw9 {X : Nat × (Nat → Int32)} {M : MI} {Ml : ML} {t : Nat → Int32} {N s : Nat} (hN : N ≤ 200) (hs : s ≤ N) (hT : Tok t N M s) (ht : ∀ j, j < N → M 35 j = t j) : pD X m_Text_isWord [.ref 34, .ref 2109] (sh0, M, Ml, mr0) = some (some (.int (bI (wdl t N s = [110, 111]))), (sh0, M, Ml, mr0)) := by
  obtain ⟨h3, h2, h5, _⟩ := hT
  have hn := nx_le t hs
  have hg := nx_ge t N s
  rw [d_Text_isWord_s9, h2]
  by_cases q : ty t N s = 1
  · rw [if_pos (tyI1.mpr q), c_ln9, Option.bind_some, pb_i, e_Text_isWord_s9_21, h5, h3, nI_subN hg]
    have en := nx_w q
    by_cases r : nx t N s - s = 2
    · rw [if_pos (by rw [r])]
      refine (c_iw9_go hN (by omega) h3 ht 2 0 (by omega)).trans ?_
      refine congrArg (fun z => some (some (Value.int z), ((sh0, M, Ml, mr0) : PHp))) (bI_cong ?_)
      rw [wdl_eq, ← en, allF_iff]
      constructor
      · intro z; exact ⟨r, fun i hi => of_decide_eq_true (z i (Nat.zero_le i) (by have : i < 2 := hi; omega))⟩
      · rintro ⟨_, z⟩ k _ hk; exact decide_eq_true (z k (by show k < 2; omega))
    · rw [if_neg (fun z => r ((nI_eq (by omega) (by omega)).mp z)), bI_f]
      intro z
      rw [wdl_eq, ← en] at z
      exact r z.1
  · rw [if_neg (fun z => q (tyI1.mp z)), wdl_no q]; rfl
