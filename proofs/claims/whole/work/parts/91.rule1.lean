/-! RULES: one clause -/
def kwd (t : Nat → Int32) (N s : Nat) : Nat := if wdl t N s = [109, 111, 115, 116] then 0 else if wdl t N s = [121, 101, 97, 114] then 1 else if wdl t N s = [103, 114, 97, 99, 101] then 2 else if wdl t N s = [115, 101, 99, 114, 101, 116] then 3 else if wdl t N s = [116, 101, 114, 109] then 4 else if wdl t N s = [107, 110, 111, 119, 110] then 5 else 6
def kI (k : Nat) : Int32 := if k < 6 then nI k else -1
def rlo (k : Nat) : Nat := if k = 0 ∨ k = 4 then 1 else 0
def rhi (k : Nat) : Nat := if k = 0 then 3 else if k = 4 then 9999 else if k = 5 then 29 else 999
def rvl (t : Nat → Int32) (N k s : Nat) : Sum Nat (Int32 × Nat) := if k = 3 then (if wdl t N s = [121, 101, 115] then Sum.inr (1, nx t N s) else if wdl t N s = [110, 111] then Sum.inr (0, nx t N s) else Sum.inl 1) else if ty t N s = 2 then (if gnum t N s 4 (rlo k) (rhi k) then Sum.inr (nI (dv t s (nx t N s - s)), nx t N s) else Sum.inl 2) else Sum.inl 1
def upn (d : Nat → Int32) (k : Nat) (v : Int32) : Nat → Int32 := fun j => if j = k then v else d j
def rcl (t : Nat → Int32) (N s : Nat) (seen : Int32) (d : Nat → Int32) : Sum (Nat × Nat) (Nat × Int32 × (Nat → Int32)) := if kwd t N s = 6 then Sum.inl (1, s) else if kwd t N s < 5 ∧ bt seen (kwd t N s) = true then Sum.inl (3, s) else match rvl t N (kwd t N s) (rnT isp t N (nx t N s)) with
  | Sum.inl c => Sum.inl (c, rnT isp t N (nx t N s))
  | Sum.inr (v, e) => if rnT isp t N e < N ∧ t (rnT isp t N e) = 59 then Sum.inr (rnT isp t N (rnT isp t N e + 1), seen ||| one (kwd t N s), upn d (kwd t N s) (if kwd t N s = 5 then d 5 ||| (1 <<< (v &&& 31)) else v)) else Sum.inl (1, rnT isp t N e)
theorem kwd_le (t : Nat → Int32) (N s : Nat) : kwd t N s ≤ 6 := by
  unfold kwd
  split
  · omega
  · split
    · omega
    · split
      · omega
      · split
        · omega
        · split
          · omega
          · split <;> omega
theorem kwd_ty {t : Nat → Int32} {N s : Nat} (h : ¬ kwd t N s = 6) : ty t N s = 1 := by
  by_cases q : ty t N s = 1
  · exact q
  · exfalso
    apply h
    unfold kwd
    rw [wdl_no q, if_neg (by simp), if_neg (by simp), if_neg (by simp), if_neg (by simp), if_neg (by simp), if_neg (by simp)]
theorem c_ruleNamed {X : Nat × (Nat → Int32)} {M : MI} {Ml : ML} {t : Nat → Int32} {N s : Nat} (hN : N ≤ 200) (hs : s ≤ N) (hT : Tok t N M s) (ht : ∀ j, j < N → M 35 j = t j) : pD X m_RuleReader_ruleNamed [.ref 37] (sh0, M, Ml, mr0) = some (some (.int (kI (kwd t N s))), (sh0, M, Ml, mr0)) := by
  rw [d_RuleReader_ruleNamed, c_iw2 hN hs hT ht, Option.bind_some, pb_i, e_RuleReader_ruleNamed_9, c_iw3 hN hs hT ht, Option.bind_some, pb_i, e_RuleReader_ruleNamed_23, c_iw4 hN hs hT ht, Option.bind_some, pb_i, e_RuleReader_ruleNamed_37, c_iw5 hN hs hT ht, Option.bind_some, pb_i, e_RuleReader_ruleNamed_51, c_iw6 hN hs hT ht, Option.bind_some, pb_i, e_RuleReader_ruleNamed_65, c_iw7 hN hs hT ht, Option.bind_some, pb_i, e_RuleReader_ruleNamed_79]
  unfold kwd kI
  by_cases h0 : wdl t N s = [109, 111, 115, 116]
  · rw [if_neg (by rw [bI_t h0]; decide), if_pos h0]; rfl
  · rw [if_pos (bI_f h0), if_neg h0]
    by_cases h1 : wdl t N s = [121, 101, 97, 114]
    · rw [if_neg (by rw [bI_t h1]; decide), if_pos h1]; rfl
    · rw [if_pos (bI_f h1), if_neg h1]
      by_cases h2 : wdl t N s = [103, 114, 97, 99, 101]
      · rw [if_neg (by rw [bI_t h2]; decide), if_pos h2]; rfl
      · rw [if_pos (bI_f h2), if_neg h2]
        by_cases h3 : wdl t N s = [115, 101, 99, 114, 101, 116]
        · rw [if_neg (by rw [bI_t h3]; decide), if_pos h3]; rfl
        · rw [if_pos (bI_f h3), if_neg h3]
          by_cases h4 : wdl t N s = [116, 101, 114, 109]
          · rw [if_neg (by rw [bI_t h4]; decide), if_pos h4]; rfl
          · rw [if_pos (bI_f h4), if_neg h4]
            by_cases h5 : wdl t N s = [107, 110, 111, 119, 110]
            · rw [if_neg (by rw [bI_t h5]; decide), if_pos h5]; rfl
            · rw [if_pos (bI_f h5), if_neg h5]; rfl
theorem c_keyOf {X : Nat × (Nat → Int32)} {M : MI} {Ml : ML} {t : Nat → Int32} {N s : Nat} (hw : Ml 54 19 = lI (wcn (wds t s (rnT ilt t N s - s)))) : pD X m_M_keyOf [.ref 54] (sh0, M, Ml, mr0) = some (some (.int (kI (kwd t N s))), (sh0, M, Ml, mr0)) := by
  rw [d_M_keyOf, cd_2, Option.bind_some, pb_i, e_M_keyOf_17, cd_3, Option.bind_some, pb_i, e_M_keyOf_42, cd_4, Option.bind_some, pb_i, e_M_keyOf_68, cd_5, Option.bind_some, pb_i, e_M_keyOf_95, cd_6, Option.bind_some, pb_i, e_M_keyOf_120, cd_7, Option.bind_some, pb_i, e_M_keyOf_146, hw]
  unfold kwd kI
  by_cases h0 : wdl t N s = [109, 111, 115, 116]
  · rw [if_pos (kw_2.mpr h0), if_pos h0]; rfl
  · rw [if_neg (fun z => h0 (kw_2.mp z)), if_neg h0]
    by_cases h1 : wdl t N s = [121, 101, 97, 114]
    · rw [if_pos (kw_3.mpr h1), if_pos h1]; rfl
    · rw [if_neg (fun z => h1 (kw_3.mp z)), if_neg h1]
      by_cases h2 : wdl t N s = [103, 114, 97, 99, 101]
      · rw [if_pos (kw_4.mpr h2), if_pos h2]; rfl
      · rw [if_neg (fun z => h2 (kw_4.mp z)), if_neg h2]
        by_cases h3 : wdl t N s = [115, 101, 99, 114, 101, 116]
        · rw [if_pos (kw_5.mpr h3), if_pos h3]; rfl
        · rw [if_neg (fun z => h3 (kw_5.mp z)), if_neg h3]
          by_cases h4 : wdl t N s = [116, 101, 114, 109]
          · rw [if_pos (kw_6.mpr h4), if_pos h4]; rfl
          · rw [if_neg (fun z => h4 (kw_6.mp z)), if_neg h4]
            by_cases h5 : wdl t N s = [107, 110, 111, 119, 110]
            · rw [if_pos (kw_7.mpr h5), if_pos h5]; rfl
            · rw [if_neg (fun z => h5 (kw_7.mp z)), if_neg h5]; rfl
/-- what a clause of the class may change -/
def URC (N : Nat) (M M' : MI) : Prop := (∀ k, k ≠ 34 → k ≠ 37 → k ≠ 39 → M' k = M k) ∧ M' 34 1 = nI N ∧ M' 37 4 = M 37 4
theorem old2 (X : Nat × (Nat → Int32)) : ∀ k, k < 6 → ¬ k = 3 → (pm_old X 2002).2 k = nI (rlo k) ∧ (pm_old X 2003).2 k = nI (rhi k) := by
  intro k hk h3
  have : k = 0 ∨ k = 1 ∨ k = 2 ∨ k = 4 ∨ k = 5 := by omega
  rcases this with rfl | rfl | rfl | rfl | rfl <;> exact ⟨rfl, rfl⟩
theorem rhi_lt (k : Nat) : rhi k < 10000 := by
  unfold rhi
  split
  · decide
  · split
    · decide
    · split <;> decide
theorem rlo_lt (k : Nat) : rlo k < 2 := by unfold rlo; split <;> decide
/-- the class, the value of a rule -/
theorem c_rvC {X : Nat × (Nat → Int32)} {M : MI} {Ml : ML} {t : Nat → Int32} {N s k : Nat} {d : Nat → Int32} (hN : N ≤ 200) (hs : s ≤ N) (hk : k < 6) (hT : Tok t N M s) (ht : ∀ j, j < N → M 35 j = t j) (hd : ∀ j, j < 6 → M 39 j = d j) : ∃ (M' : MI) (c : Nat), (if k = 3 then pD X m_RuleReader_readYes [.ref 37] (sh0, M, Ml, mr0) else pD X m_RuleReader_readNumber [.ref 37, .int (nI k)] (sh0, M, Ml, mr0)) = some (some (.int (nI c)), (sh0, M', Ml, mr0)) ∧ c ≤ 2 ∧ (∀ j, j ≠ 37 → j ≠ 39 → M' j = M j) ∧ (∀ j, j ≠ 3 → M' 37 j = M 37 j) ∧ match rvl t N k s with
    | Sum.inl c' => c = c' ∧ 0 < c ∧ M' 37 3 = nI s
    | Sum.inr (v, e) => c = 0 ∧ e = nx t N s ∧ M' 37 3 = M 37 3 ∧ ∀ j, j < 6 → M' 39 j = upn d k (if k = 5 then d 5 ||| (1 <<< (v &&& 31)) else v) j := by
  have upd' : ∀ (v : Int32) (j : Nat), j < 6 → pm_up M 39 k v 39 j = upn d k v j := fun v j hj => by
    unfold upn
    by_cases e : j = k
    · rw [if_pos e, e, up_ok]
    · rw [if_neg e, up_kk e]; exact hd j hj
  by_cases h3 : k = 3
  · subst h3
    rw [if_pos rfl, d_RuleReader_readYes, c_iw8 hN hs hT ht, Option.bind_some, pb_i, e_RuleReader_readYes_9, c_iw9 hN hs hT ht, Option.bind_some, pb_i, e_RuleReader_readYes_23, d_RuleReader_faulty, Option.bind_some, pb_i, e_RuleReader_readYes_31]
    unfold rvl
    rw [if_pos rfl]
    by_cases y : wdl t N s = [121, 101, 115]
    · refine ⟨pm_up M 39 3 1, 0, ?_, by omega, fun j a b => up_off b, fun j _ => by rw [up_off (by decide)], ?_⟩
      · rw [if_neg (by rw [bI_t y]; decide), e_RuleReader_readYes_32, if_neg (by rw [bI_t y]; decide), e_RuleReader_readYes_49, if_pos (by decide)]; rfl
      · rw [if_pos y]
        exact ⟨rfl, rfl, by rw [up_off (by decide)], fun j hj => by rw [if_neg (by decide)]; exact upd' 1 j hj⟩
    · by_cases n : wdl t N s = [110, 111]
      · refine ⟨pm_up M 39 3 0, 0, ?_, by omega, fun j a b => up_off b, fun j _ => by rw [up_off (by decide)], ?_⟩
        · rw [if_pos (bI_f y), if_neg (by rw [bI_t n]; decide), e_RuleReader_readYes_32, if_pos (bI_f y), e_RuleReader_readYes_49, if_pos (by decide)]; rfl
        · rw [if_neg y, if_pos n]
          exact ⟨rfl, rfl, by rw [up_off (by decide)], fun j hj => by rw [if_neg (by decide)]; exact upd' 0 j hj⟩
      · refine ⟨pm_up M 37 3 (M 34 3), 1, ?_, by omega, fun j a b => up_off a, fun j a => up_kk a, ?_⟩
        · rw [if_pos (bI_f y), if_pos (bI_f n)]; rfl
        · rw [if_neg y, if_neg n]
          exact ⟨rfl, by omega, by rw [up_ok]; exact hT.1⟩
  · rw [if_neg h3, d_RuleReader_readNumber, hT.2.1]
    unfold rvl
    rw [if_neg h3]
    by_cases q : ty t N s = 2
    · have hg := nx_ge t N s
      have hn := nx_le t hs
      have pk : pin (nI k) 6 := pin_nI hk (by decide)
      obtain ⟨b1, b2⟩ := old2 X k hk h3
      rw [if_pos (tyI2.mpr q), d_Text_figures, Option.bind_some, pb_i, e_RuleReader_readNumber_24, hT.2.2.1, hT.1, nI_subN hg, if_pos pk, if_pos pk, if_pos pk, if_pos pk, if_pos pk, nI_clamp (by omega), b1, b2]
      have f58 : pdn X m_RuleReader_readNumber (58, [.ref 37, .int (nI k)], [], (sh0, M, Ml, mr0), 0, 0) = some (some (.int (nI 2)), (sh0, pm_up M 37 3 (nI s), Ml, mr0)) := by rw [e_RuleReader_readNumber_58, d_RuleReader_faulty, hT.1, Option.bind_some, pb_i, e_RuleReader_readNumber_63]; rfl
      have bad : ¬ gnum t N s 4 (rlo k) (rhi k) → ∃ (M' : MI) (c : Nat), some (some (.int (nI 2)), (sh0, pm_up M 37 3 (nI s), Ml, mr0)) = some (some (Value.int (nI c)), ((sh0, M', Ml, mr0) : PHp)) ∧ c ≤ 2 ∧ (∀ j, j ≠ 37 → j ≠ 39 → M' j = M j) ∧ (∀ j, j ≠ 3 → M' 37 j = M 37 j) ∧ match (if ty t N s = 2 then (if gnum t N s 4 (rlo k) (rhi k) then Sum.inr (nI (dv t s (nx t N s - s)), nx t N s) else Sum.inl 2) else Sum.inl 1 : Sum Nat (Int32 × Nat)) with
          | Sum.inl c' => c = c' ∧ 0 < c ∧ M' 37 3 = nI s
          | Sum.inr (v, e) => c = 0 ∧ e = nx t N s ∧ M' 37 3 = M 37 3 ∧ ∀ j, j < 6 → M' 39 j = upn d k (if k = 5 then d 5 ||| (1 <<< (v &&& 31)) else v) j := fun z => by
        refine ⟨pm_up M 37 3 (nI s), 2, rfl, by omega, fun j a b => up_off a, fun j a => up_kk a, ?_⟩
        rw [if_pos q, if_neg z]
        exact ⟨rfl, by omega, by rw [up_ok]⟩
      by_cases r : nx t N s - s ≤ 4
      · have e4 := hT.2.2.2 q r
        have hd' := dv_lt (t := t) (s := s) (nx t N s - s) (fun j hj => rnT_all (N := N) _ s rfl (s + j) (by omega) (by rw [← nx_n q]; omega))
        have hpw : 10 ^ (nx t N s - s) ≤ 10 ^ 4 := Nat.pow_le_pow_right (by decide) r
        have l1 := rlo_lt k
        have l2 := rhi_lt k
        rw [if_neg (show ¬ (4 : Int32) < nI (nx t N s - s) from fun z => by have := (nI_lt' (a := 4) (by decide) (by omega)).mp z; omega), e4]
        by_cases z1 : rlo k ≤ dv t s (nx t N s - s)
        · rw [if_neg (by rw [nI_lt' (by omega) (by omega)]; omega)]
          by_cases z2 : dv t s (nx t N s - s) ≤ rhi k
          · rw [if_neg (by rw [nI_lt' (by omega) (by omega)]; omega)]
            have gz : gnum t N s 4 (rlo k) (rhi k) := ⟨r, z1, z2⟩
            by_cases h5 : k = 5
            · subst h5
              refine ⟨pm_up M 39 5 (d 5 ||| (1 <<< (nI (dv t s (nx t N s - s)) &&& 31))), 0, ?_, by omega, fun j a b => up_off b, fun j _ => by rw [up_off (by decide)], ?_⟩
              · rw [if_pos (show nI 5 = 5 from rfl), hd 5 (by decide)]; rfl
              · rw [if_pos q, if_pos gz]
                exact ⟨rfl, rfl, by rw [up_off (by decide)], fun j hj => by rw [if_pos rfl]; exact upd' _ j hj⟩
            · refine ⟨pm_up M 39 k (nI (dv t s (nx t N s - s))), 0, ?_, by omega, fun j a b => up_off b, fun j _ => by rw [up_off (by decide)], ?_⟩
              · rw [if_neg (show ¬ nI k = 5 from fun z => h5 ((nI_is (m := 5) rfl (by omega) (by decide)).mp z))]; rfl
              · rw [if_pos q, if_pos gz]
                exact ⟨rfl, rfl, by rw [up_off (by decide)], fun j hj => by rw [if_neg h5]; exact upd' _ j hj⟩
          · rw [if_pos (by rw [nI_lt' (by omega) (by omega)]; omega), f58]
            exact bad (fun y => z2 y.2.2)
        · rw [if_pos (by rw [nI_lt' (by omega) (by omega)]; omega), f58]
          exact bad (fun y => z1 y.2.1)
      · rw [if_pos (show (4 : Int32) < nI (nx t N s - s) from (nI_lt' (a := 4) (by decide) (by omega)).mpr (by omega)), f58]
        exact bad (fun y => r y.1)
    · rw [if_neg (fun z => q (tyI2.mp z)), d_RuleReader_faulty, Option.bind_some, pb_i, e_RuleReader_readNumber_16]
      refine ⟨pm_up M 37 3 (M 34 3), 1, rfl, by omega, fun j a b => up_off a, fun j a => up_kk a, ?_⟩
      rw [if_neg q]
      exact ⟨rfl, by omega, by rw [up_ok]; exact hT.1⟩
