/-! feed -/
def sg (v : Int64) (m : Nat) : Int32 := Int64.toInt32 ((v >>> ((8 * nI m).toInt64 &&& 63)) &&& 255)
theorem sg_256 (v : Int64) (m : Nat) : pin (sg v m) 256 := by
  unfold sg
  generalize (v >>> ((8 * nI m).toInt64 &&& 63)) = y
  have e : y &&& 255 = lN (y.toBitVec.toNat % 256) := by
    apply Int64.toBitVec_inj.mp
    apply BitVec.eq_of_toNat_eq
    rw [Int64.toBitVec_and, BitVec.toNat_and]
    show y.toBitVec.toNat &&& 255 = (BitVec.ofNat 64 (y.toBitVec.toNat % 256)).toNat
    rw [BitVec.toNat_ofNat, Nat.mod_eq_of_lt (a := y.toBitVec.toNat % 256) (by omega)]
    exact Nat.and_two_pow_sub_one_eq_mod _ 8
  rw [e, lN_i]
  exact pin_nI (by omega) (by decide)
theorem x_dec (a : Int32) : a + (-1) = a - 1 := (Int32.sub_eq_add_neg a 1).symm
theorem c_app_go {X : Nat × (Nat → Int32)} {Ml : ML} (v : Int32) (w : Int64) : ∀ (m n : Nat) (M : MI), M 34 1 = nI n → n + m ≤ 200 → ∃ M' : MI, pdn X m_Text_append (5, [.ref 34, .int v, .long w, pm_nul, .int (nI m - 1)], [], (sh0, M, Ml, mr0), 0, 0) = some (none, (sh0, M', Ml, mr0)) ∧ (∀ k, k ≠ 34 → k ≠ 35 → M' k = M k) ∧ M' 34 1 = nI (n + m) ∧ (∀ i, i < n → M' 35 i = M 35 i) ∧ (∀ j, j < m → M' 35 (n + j) = sg w (m - 1 - j)) := by
  intro m
  induction m with
  | zero =>
    intro n M h34 hn
    exact ⟨M, by rw [e_Text_append_5, if_pos (by decide)], fun _ _ _ => rfl, h34, fun _ _ => rfl, fun j hj => absurd hj (Nat.not_lt_zero j)⟩
  | succ m ih =>
    intro n M h34 hn
    have e0 : nI (m + 1) - 1 = nI m := nI_subN (b := 1) (by omega)
    have e1 : ¬ nI m < 0 := by rw [x_lt, nI_toInt (by omega)]; have : (0 : Int32).toInt = 0 := rfl; omega
    have e2 : M 34 1 < 200 := by rw [h34]; exact (x_nlt (n := 200) rfl (by omega)).mpr (by omega)
    have e3 : pin (M 34 1) 200 := by rw [h34]; exact pin_nI (by omega) (by decide)
    rw [e0, e_Text_append_5, if_neg e1, if_pos e2, if_pos e3, h34, nI_clamp (by omega), nI_1, x_dec]
    obtain ⟨M', h1, h2, h3, h4, h5⟩ := ih (n + 1) (pm_up (pm_up M 35 n (sg w m)) 34 1 (nI (n + 1))) up_ok (by omega)
    refine ⟨M', h1, fun k q1 q2 => by rw [h2 k q1 q2, up_off q1, up_off q2], by rw [h3]; congr 1; omega, fun i hi => ?_, fun j hj => ?_⟩
    · rw [h4 i (by omega), up_off (by decide), up_kk (by omega)]
    · by_cases hj0 : j = 0
      · subst hj0
        rw [h4 (n + 0) (by omega), up_off (by decide)]
        show pm_up M 35 n (sg w m) 35 n = sg w m
        rw [up_ok]
      · have := h5 (j - 1) (by omega)
        rw [show n + 1 + (j - 1) = n + j by omega] at this
        rw [this]; congr 1; omega
theorem c_appM_go {X : Nat × (Nat → Int32)} {Ml : ML} (v : Int32) (w : Int64) : ∀ (m n : Nat) (M : MI), M 54 16 = nI n → n + m ≤ 200 → ∃ M' : MI, pdn X m_M_feed (37, [.ref 54, .int v, .long w, pm_nul, .int (nI m - 1)], [], (sh0, M, Ml, mr0), 0, 0) = some (some (.int (nI (n + m))), (sh0, M', Ml, mr0)) ∧ (∀ k, k ≠ 54 → k ≠ 68 → M' k = M k) ∧ (∀ j, j ≠ 16 → M' 54 j = M 54 j) ∧ M' 54 16 = nI (n + m) ∧ (∀ i, i < n → M' 68 i = M 68 i) ∧ (∀ j, j < m → M' 68 (n + j) = sg w (m - 1 - j)) := by
  intro m
  induction m with
  | zero =>
    intro n M h34 hn
    exact ⟨M, by rw [e_M_feed_37, if_pos (by decide), h34]; rfl, fun _ _ _ => rfl, fun _ _ => rfl, h34, fun _ _ => rfl, fun j hj => absurd hj (Nat.not_lt_zero j)⟩
  | succ m ih =>
    intro n M h34 hn
    have e0 : nI (m + 1) - 1 = nI m := nI_subN (b := 1) (by omega)
    have e1 : ¬ nI m < 0 := by rw [x_lt, nI_toInt (by omega)]; have : (0 : Int32).toInt = 0 := rfl; omega
    have e3 : pin (M 54 16) 200 := by rw [h34]; exact pin_nI (by omega) (by decide)
    rw [e0, e_M_feed_37, if_neg e1, if_pos e3, h34, nI_clamp (by omega), nI_1, x_dec]
    obtain ⟨M', h1, h2, h2b, h3, h4, h5⟩ := ih (n + 1) (pm_up (pm_up M 68 n (sg w m)) 54 16 (nI (n + 1))) up_ok (by omega)
    refine ⟨M', ?_, fun k q1 q2 => by rw [h2 k q1 q2, up_off q1, up_off q2], fun j hj => by rw [h2b j hj, up_kk hj, up_off (by decide)], by rw [h3]; congr 1; omega, fun i hi => ?_, fun j hj => ?_⟩
    · rw [show n + (m + 1) = n + 1 + m by omega]; exact h1
    · rw [h4 i (by omega), up_off (by decide), up_kk (by omega)]
    · by_cases hj0 : j = 0
      · subst hj0
        rw [h4 (n + 0) (by omega), up_off (by decide)]
        show pm_up M 68 n (sg w m) 68 n = sg w m
        rw [up_ok]
      · have := h5 (j - 1) (by omega)
        rw [show n + 1 + (j - 1) = n + j by omega] at this
        rw [this]; congr 1; omega
/-- the relation, where only the text's cells have changed -/
theorem Inv_text {Mi Mi' : MI} {Ml : ML} (h : Inv Mi Ml) (f : ∀ k, k ≠ 34 → k ≠ 35 → k ≠ 54 → k ≠ 68 → Mi' k = Mi k) (f54 : ∀ j, j ≠ 16 → Mi' 54 j = Mi 54 j) (hx : IX (Mi' 34 1) (Mi' 54 16) (Mi' 35) (Mi' 68)) : Inv Mi' Ml := by
  have F := fun k (q : k ≠ 34 ∧ k ≠ 35 ∧ k ≠ 54 ∧ k ≠ 68) => f k q.1 q.2.1 q.2.2.1 q.2.2.2
  obtain ⟨h1, h2, h3, h4, _, h6, h7, h8, h9, h10⟩ := h
  refine ⟨?_, ?_, ?_, ?_, hx, ?_, ?_, ?_, ?_, ?_⟩
  · rw [F 55 (by decide), F 3 (by decide), F 4 (by decide), F 2 (by decide)]; exact h1
  · rw [F 8 (by decide), F 56 (by decide)]; exact h2
  · rw [F 3 (by decide), F 5 (by decide), f54 2 (by decide), F 9 (by decide), F 6 (by decide), F 7 (by decide), F 10 (by decide), F 57 (by decide), F 58 (by decide), F 59 (by decide)]; exact h3
  · rw [F 3 (by decide), F 11 (by decide), f54 6 (by decide), F 12 (by decide), F 13 (by decide), F 14 (by decide), F 15 (by decide), F 18 (by decide), F 19 (by decide), F 20 (by decide), F 21 (by decide), F 60 (by decide), F 61 (by decide), F 62 (by decide), F 63 (by decide), F 64 (by decide), F 65 (by decide)]; exact h4
  · rw [F 1 (by decide), f54 17 (by decide)]; exact h6
  · rw [F 41 (by decide), f54 36 (by decide), F 42 (by decide), F 43 (by decide), F 44 (by decide), F 80 (by decide), F 81 (by decide), F 82 (by decide)]; exact h7
  · rw [F 47 (by decide), F 49 (by decide), F 51 (by decide), F 53 (by decide), F 66 (by decide)]; exact h8
  · rw [F 22 (by decide), F 79 (by decide)]; exact h9
  · rw [F 23 (by decide), f54 23 (by decide), F 16 (by decide), F 17 (by decide), F 74 (by decide), F 75 (by decide), F 24 (by decide), F 69 (by decide), F 25 (by decide), F 70 (by decide), F 26 (by decide), F 71 (by decide), F 27 (by decide), F 28 (by decide), F 30 (by decide), F 31 (by decide), F 32 (by decide), F 72 (by decide), F 73 (by decide), F 11 (by decide)]; exact h10
theorem ls_feed {X : Nat × (Nat → Int32)} {Mi : MI} {Ml : ML} (h : Inv Mi Ml) (a : Int32) (b : Int64) : LStp Inv X m_CT_feed m_M_feed [.int a, .long b] Mi Ml := by
  obtain ⟨n, hn, e1, e2, ht⟩ := h.2.2.2.2.1
  have q1 : (1 : Int64).toInt = 1 := rfl
  have q8 : (8 : Int64).toInt = 8 := rfl
  have qa : (Int32.toInt64 a).toInt = a.toInt := Int32.toInt_toInt64 a
  have r1 : (1 : Int32).toInt = 1 := rfl
  have r8 : (8 : Int32).toInt = 8 := rfl
  by_cases h1 : 1 ≤ a.toInt ∧ a.toInt ≤ 8
  · obtain ⟨m, hm1, hm8, rfl⟩ : ∃ m, 1 ≤ m ∧ m ≤ 8 ∧ a = nI m := by
      obtain ⟨m, hm, e⟩ := pin_ex (n := 9) (by decide) (show pin a 9 from ⟨by omega, by omega⟩)
      refine ⟨m, ?_, by omega, e⟩
      rw [e, nI_toInt (by omega)] at h1; omega
    have s1 : ¬ nI m < 1 := by rw [x_lt, r1]; omega
    have s8 : ¬ 8 < nI m := by rw [x_lt, r8]; omega
    have sIn : bI ((1 : Int64).toInt ≤ (Int32.toInt64 (nI m)).toInt ∧ (Int32.toInt64 (nI m)).toInt ≤ (8 : Int64).toInt) = 1 := bI_t (by rw [qa, q1, q8]; exact h1)
    have x200 : 200 < nI n + nI m ↔ 200 < n + m := by
      rw [nI_add, x_lt, nI_toInt (by omega)]; have : (200 : Int32).toInt = 200 := rfl; omega
    by_cases h2 : 200 < n + m
    · refine ⟨-1004, Mi, Ml, Mi, Ml, ?_, ?_, h⟩
      · show pD X _ [.ref 1, .int (nI m), .long b] (sh0, Mi, Ml, mr0) = some (_, (sh0, Mi, Ml, mr0))
        rw [d_CT_feed, if_neg s1, if_neg s8, e1, if_pos (x200.mpr h2)]
      · show pD X _ [.ref 54, .int (nI m), .long b] (sh0, Mi, Ml, mr0) = some (_, (sh0, Mi, Ml, mr0))
        rw [d_M_feed, c_in, sIn, Option.bind_some, pb_i, e_M_feed_9, if_neg (by decide), e2, if_pos (x200.mpr h2)]
    · obtain ⟨M1, t1, t2, t3, t4, t5⟩ := c_app_go (X := X) (Ml := Ml) (nI m) b m n Mi e1 (by omega)
      obtain ⟨M2, u1, u2, u3, u4, u5, u6⟩ := c_appM_go (X := X) (Ml := Ml) (nI m) b m n M1 (by rw [t2 54 (by decide) (by decide)]; exact e2) (by omega)
      have c1 : pD X m_CT_feed [.ref 1, .int (nI m), .long b] (sh0, Mi, Ml, mr0) = some (some (.int (nI (n + m))), (sh0, M1, Ml, mr0)) := by
        rw [d_CT_feed, if_neg s1, if_neg s8, e1, if_neg (fun q => h2 (x200.mp q)), d_Text_append, t1, Option.bind_some, pb_n, e_CT_feed_43, t3]
      have c2 : pD X m_M_feed [.ref 54, .int (nI m), .long b] (sh0, M1, Ml, mr0) = some (some (.int (nI (n + m))), (sh0, M2, Ml, mr0)) := by
        have e2' : M1 54 16 = nI n := by rw [t2 54 (by decide) (by decide)]; exact e2
        rw [d_M_feed, c_in, sIn, Option.bind_some, pb_i, e_M_feed_9, if_neg (by decide), e2', if_neg (fun q => h2 (x200.mp q)), u1]
      refine LS_mk c1 c2 (Inv_text h (fun k k1 k2 k3 k4 => by rw [u2 k k3 k4, t2 k k1 k2]) (fun j hj => by rw [u3 j hj, t2 54 (by decide) (by decide)]) ⟨n + m, by omega, by rw [u2 34 (by decide) (by decide)]; exact t3, u4, fun i hi => ?_⟩)
      rw [u2 35 (by decide) (by decide)]
      by_cases hin : i < n
      · rw [t4 i hin, u5 i hin, t2 68 (by decide) (by decide)]; exact ht i hin
      · have v1 := t5 (i - n) (by omega)
        have v2 := u6 (i - n) (by omega)
        rw [show n + (i - n) = i by omega] at v1 v2
        rw [v1, v2]; exact ⟨rfl, sg_256 _ _⟩
  · refine ⟨-1002, Mi, Ml, Mi, Ml, ?_, ?_, h⟩
    · show pD X _ _ (sh0, Mi, Ml, mr0) = some (_, (sh0, Mi, Ml, mr0))
      rw [d_CT_feed]
      by_cases s1 : a < 1
      · rw [if_pos s1]
      · rw [if_neg s1, if_pos]
        rw [x_lt, r1] at s1; rw [x_lt, r8]; omega
    · show pD X _ _ (sh0, Mi, Ml, mr0) = some (_, (sh0, Mi, Ml, mr0))
      rw [d_M_feed, c_in, bI_f (by rw [qa, q1, q8]; exact h1), Option.bind_some, pb_i, e_M_feed_9, if_pos rfl]
