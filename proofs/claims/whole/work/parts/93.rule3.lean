/-! RULES: the reference reads clauses -/
/-- what reading may change in the reference: its places, its word and number -/
def URM (M M' : MI) (Ml Ml' : ML) : Prop := (∀ k, k ≠ 54 → M' k = M k) ∧ (∀ j, j ≠ 17 → j ≠ 18 → j ≠ 20 → j ≠ 21 → j ≠ 22 → M' 54 j = M 54 j) ∧ ∀ k, k ≠ 54 → Ml' k = Ml k
theorem c_rvM {X : Nat × (Nat → Int32)} {M : MI} {Ml : ML} {t : Nat → Int32} {N p k : Nat} (hN : N ≤ 200) (hp : p ≤ N) (hR : RT t N M p) : ∃ (M' : MI) (Ml' : ML) (c : Nat), (if k = 3 then pD X m_M_readYes [.ref 54] (sh0, M, Ml, mr0) else pD X m_M_readNumber [.ref 54, .int (nI (rlo k)), .int (nI (rhi k)), .int (nI 4)] (sh0, M, Ml, mr0)) = some (some (.int (nI c)), (sh0, M', Ml', mr0)) ∧ c ≤ 2 ∧ URM M M' Ml Ml' ∧ match rvl t N k (rnT isp t N p) with
    | Sum.inl c' => c = c' ∧ 0 < c ∧ M' 54 17 = nI (rnT isp t N p)
    | Sum.inr (v, e) => c = 0 ∧ e = nx t N (rnT isp t N p) ∧ M' 54 17 = M 54 17 ∧ RT t N M' e ∧ M' 54 21 = v := by
  by_cases h3 : k = 3
  · obtain ⟨M1, Ml1, g1, g2, g3, g4, g5, g6, g7⟩ := c_readWord (X := X) (Ml := Ml) hN hp hR
    have hs := rnT_le isp t hp
    generalize rnT isp t N p = s at *
    have e53 : ∀ v : Int32, pdn X m_M_readYes (53, [.ref 54], [.int v, .ref 54], (sh0, M1, Ml1, mr0), 0, 0) = if v < 0 then some (some (.int 1), (sh0, pm_up (pm_up M1 54 21 v) 54 17 (nI s), Ml1, mr0)) else some (some (.int 0), (sh0, pm_up (pm_up M1 54 21 v) 54 18 (nI (rnT ilt t N s)), Ml1, mr0)) := by
      intro v
      rw [e_M_readYes_53, d_M_fails, g4.2.1, Option.bind_some, pb_i, e_M_readYes_72, g5]
    rw [if_pos h3, d_M_readYes, g1, Option.bind_some, pb_n, e_M_readYes_4, cd_8, Option.bind_some, pb_i, e_M_readYes_21, cd_9, Option.bind_some, pb_i, e_M_readYes_44, g7, e53, e53, e53]
    unfold rvl
    rw [if_pos h3]
    have okv : ∀ v : Int32, ¬ v < 0 → ty t N s = 1 → ∃ (M' : MI) (Ml' : ML) (c : Nat), (if v < 0 then some (some (Value.int 1), ((sh0, pm_up (pm_up M1 54 21 v) 54 17 (nI s), Ml1, mr0) : PHp)) else some (some (Value.int 0), (sh0, pm_up (pm_up M1 54 21 v) 54 18 (nI (rnT ilt t N s)), Ml1, mr0))) = some (some (Value.int (nI c)), (sh0, M', Ml', mr0)) ∧ c ≤ 2 ∧ URM M M' Ml Ml' ∧ (c = 0 ∧ nx t N s = nx t N s ∧ M' 54 17 = M 54 17 ∧ RT t N M' (nx t N s) ∧ M' 54 21 = v) := by
      intro v hv hty
      refine ⟨pm_up (pm_up M1 54 21 v) 54 18 (nI (rnT ilt t N s)), Ml1, 0, by rw [if_neg hv]; rfl, by omega, ⟨fun k hk => ((up_off hk).trans (up_off hk)).trans (g2 k hk), fun j a b c d e => ((up_kk b).trans (up_kk d)).trans (g3 j b c), g6⟩, rfl, rfl, ?_, ?_, ?_⟩
      · rw [up_kk (by decide), up_kk (by decide)]; exact g3 17 (by decide) (by decide)
      · refine ⟨by rw [up_kk (by decide), up_kk (by decide)]; exact g4.1, by rw [up_ok, nx_w hty], fun j hj => by rw [up_off (by decide), up_off (by decide)]; exact g4.2.2 j hj⟩
      · rw [up_kk (by decide), up_ok]
    have tyw : ∀ W : List Int32, W ≠ [] → wdl t N s = W → ty t N s = 1 := fun W hW e => by
      by_cases q : ty t N s = 1
      · exact q
      · rw [wdl_no q] at e; exact absurd e.symm hW
    by_cases y : wdl t N s = [121, 101, 115]
    · rw [if_pos (kw_8.mpr y), if_pos y]
      exact okv 1 (by decide) (tyw _ (by simp) y)
    · rw [if_neg (fun z => y (kw_8.mp z)), if_neg y]
      by_cases n : wdl t N s = [110, 111]
      · rw [if_pos (kw_9.mpr n), if_pos n]
        exact okv 0 (by decide) (tyw _ (by simp) n)
      · rw [if_neg (fun z => n (kw_9.mp z)), if_neg n]
        refine ⟨_, _, 1, by rw [if_pos (by decide)]; rfl, by omega, ⟨fun k hk => ((up_off hk).trans (up_off hk)).trans (g2 k hk), fun j a b c d e => ((up_kk a).trans (up_kk d)).trans (g3 j b c), g6⟩, rfl, by omega, by rw [up_ok]⟩
  · obtain ⟨M1, g1, g2, g3⟩ := c_readNum (X := X) (Ml := Ml) (F := 4) (a := rlo k) (b := rhi k) hN hp (by decide) (by have := rlo_lt k; omega) (by have := rhi_lt k; omega) hR
    rw [if_neg h3]
    unfold rvl
    rw [if_neg h3]
    have fr : URM M M1 Ml Ml := ⟨g1, fun j a b _ d e => g2 j a b d e, fun _ _ => rfl⟩
    rcases g3 with ⟨a1, a2, a3⟩ | ⟨a1, a2, a3, a4⟩ | ⟨a1, a2, a3, a4, a5, a6, _⟩
    · exact ⟨M1, Ml, 1, a2, by omega, fr, by rw [if_neg a1]; exact ⟨rfl, by omega, a3⟩⟩
    · exact ⟨M1, Ml, 2, a3, by omega, fr, by rw [if_pos a1, if_neg a2]; exact ⟨rfl, by omega, a4⟩⟩
    · exact ⟨M1, Ml, 0, a3, by omega, fr, by rw [if_pos a1, if_pos a2]; exact ⟨rfl, rfl, a4, a5, a6⟩⟩
theorem c_rcM {X : Nat × (Nat → Int32)} {M : MI} {Ml : ML} {t : Nat → Int32} {N s : Nat} {seen : Int32} {d : Nat → Int32} (hN : N ≤ 200) (hs : s ≤ N) (hsk : rnT isp t N s = s) (hR : RT t N M s) (hse : M 54 33 = seen) (hd : ∀ j, j < 6 → M 67 j = d j) : ∃ (M' : MI) (Ml' : ML) (c : Nat), pD X m_M_readRule [.ref 54] (sh0, M, Ml, mr0) = some (some (.int (nI c)), (sh0, M', Ml', mr0)) ∧ (∀ k, k ≠ 54 → k ≠ 67 → M' k = M k) ∧ (∀ j, j ≠ 17 → j ≠ 18 → j ≠ 20 → j ≠ 21 → j ≠ 22 → j ≠ 33 → M' 54 j = M 54 j) ∧ (∀ k, k ≠ 54 → Ml' k = Ml k) ∧ match rcl t N s seen d with
    | Sum.inl (c', pl) => c = c' ∧ 0 < c ∧ c ≤ 3 ∧ M' 54 17 = nI pl
    | Sum.inr (s', seen', d') => c = 0 ∧ (∃ q, q ≤ N ∧ RT t N M' q ∧ rnT isp t N q = s') ∧ s' ≤ N ∧ s < s' ∧ M' 54 33 = seen' ∧ M' 54 17 = M 54 17 ∧ ∀ j, j < 6 → M' 67 j = d' j := by
  obtain ⟨M1, Ml1, g1, g2, g3, g4, g5, g6, g7⟩ := c_readWord (X := X) (Ml := Ml) hN hs hR
  rw [hsk] at g4 g5 g7
  rw [d_M_readRule, g1, Option.bind_some, pb_n, w_M_readRule_4, c_keyOf g7, Option.bind_some, pb_i, w_M_readRule_8, g4.2.1]
  unfold rcl
  have hk6 := kwd_le t N s
  generalize hk : kwd t N s = k at *
  have fr1 : ∀ j, j ≠ 18 → j ≠ 20 → M1 54 j = M 54 j := fun j b c => g3 j b c
  by_cases q6 : k = 6
  · subst q6
    refine ⟨pm_up M1 54 17 (nI s), Ml1, 1, ?_, fun k a _ => (up_off a).trans (g2 k a), fun j a b c _ _ _ => (up_kk a).trans (fr1 j b c), g6, ?_⟩
    · rw [if_pos (by decide), d_M_fails, Option.bind_some, pb_i, w_M_readRule_22]; rfl
    · rw [if_pos rfl]; exact ⟨rfl, by omega, by omega, by rw [up_ok]⟩
  · have k6 : k < 6 := by omega
    have ek : kI k = nI k := if_pos k6
    have tyk : ty t N s = 1 := kwd_ty (by rw [hk]; exact q6)
    have enx := nx_w tyk
    have e33 : M1 54 33 = seen := (fr1 33 (by decide) (by decide)).trans hse
    rw [ek, if_neg (show ¬ nI k < 0 from fun z => by rw [show (0 : Int32) = nI 0 from rfl, nI_lt' (by omega) (by decide)] at z; omega), if_neg q6, e33, x_bit (show k < 32 by omega)]
    by_cases qs : k < 5 ∧ bt seen k = true
    · refine ⟨pm_up M1 54 17 (nI s), Ml1, 3, ?_, fun k a _ => (up_off a).trans (g2 k a), fun j a b c _ _ _ => (up_kk a).trans (fr1 j b c), g6, ?_⟩
      · rw [if_pos (show nI k < 5 from (nI_lt' (b := 5) (by omega) (by decide)).mpr qs.1), if_pos (bI_t qs.2), d_M_fails, Option.bind_some, pb_i, w_M_readRule_49]; rfl
      · rw [if_pos qs]; exact ⟨rfl, by omega, by omega, by rw [up_ok]⟩
    · rw [if_neg qs]
      have e50 : ∀ (Z : Option PRs), (if nI k < 5 then (if bI (bt seen k = true) = 1 then Z else pdn X m_M_readRule (50, [.ref 54, .int (nI k), pm_nul], [], (sh0, M1, Ml1, mr0), 0, 0)) else pdn X m_M_readRule (50, [.ref 54, .int (nI k), pm_nul], [], (sh0, M1, Ml1, mr0), 0, 0)) = pdn X m_M_readRule (50, [.ref 54, .int (nI k), pm_nul], [], (sh0, M1, Ml1, mr0), 0, 0) := by
        intro Z
        by_cases e5 : k < 5
        · rw [if_pos (show nI k < 5 from (nI_lt' (b := 5) (by omega) (by decide)).mpr e5), if_neg (by rw [bI_f (fun z => qs ⟨e5, z⟩)]; decide)]
        · rw [if_neg (show ¬ nI k < 5 from fun z => e5 ((nI_lt' (b := 5) (by omega) (by decide)).mp z))]
      have so : (1 : Int32) <<< (nI k &&& 31) = one k := rfl
      have hn := nx_le t hs
      have hge := nx_ge t N s
      have hR2 : RT t N (pm_up (pm_up M1 54 33 (seen ||| one k)) 54 18 (nI (nx t N s))) (nx t N s) := ⟨by rw [up_kk (by decide), up_kk (by decide)]; exact g4.1, by rw [up_ok], fun j hj => by rw [up_off (by decide), up_off (by decide)]; exact g4.2.2 j hj⟩
      obtain ⟨M2, Ml2, c, k1, k2, ⟨k3, k4, k5⟩, k6'⟩ := c_rvM (X := X) (Ml := Ml1) (k := k) hN hn hR2
      have hs2 := rnT_le isp t hn
      have hs2g := rnT_ge isp t N (nx t N s)
      have e133 : pdn X m_M_readRule (50, [.ref 54, .int (nI k), pm_nul], [], (sh0, M1, Ml1, mr0), 0, 0) = pdn X m_M_readRule (133, [.ref 54, .int (nI k), pm_nul], [.int (nI c)], (sh0, M2, Ml2, mr0), 0, 0) := by
        rw [w_M_readRule_50, so, e33, g5, ← enx]
        have : k = 0 ∨ k = 1 ∨ k = 2 ∨ k = 3 ∨ k = 4 ∨ k = 5 := by omega
        by_cases e3 : k = 3
        · rw [if_pos e3] at k1
          rw [if_pos (show nI k = 3 by rw [e3]; rfl), k1, Option.bind_some, pb_i, w_M_readRule_79]
        · rw [if_neg e3] at k1
          rw [if_neg (show ¬ nI k = 3 from fun z => e3 ((nI_is (m := 3) rfl (by omega) (by decide)).mp z))]
          rcases this with e | e | e | e | e | e
          · subst e
            rw [if_pos (show nI 0 = 0 from rfl), w_M_readRule_97, if_pos (show nI 0 = 0 from rfl), w_M_readRule_129]
            exact (congrArg (fun z => Option.bind z _) k1).trans (by rw [Option.bind_some, pb_i])
          · subst e
            rw [if_neg (by decide), if_neg (by decide), w_M_readRule_97, if_neg (by decide), if_neg (by decide), if_neg (by decide), w_M_readRule_129]
            exact (congrArg (fun z => Option.bind z _) k1).trans (by rw [Option.bind_some, pb_i])
          · subst e
            rw [if_neg (by decide), if_neg (by decide), w_M_readRule_97, if_neg (by decide), if_neg (by decide), if_neg (by decide), w_M_readRule_129]
            exact (congrArg (fun z => Option.bind z _) k1).trans (by rw [Option.bind_some, pb_i])
          · exact absurd e e3
          · subst e
            rw [if_neg (by decide), if_pos (show nI 4 = 4 from rfl), w_M_readRule_97, if_neg (by decide), if_pos (show nI 4 = 4 from rfl), w_M_readRule_129]
            exact (congrArg (fun z => Option.bind z _) k1).trans (by rw [Option.bind_some, pb_i])
          · subst e
            rw [if_neg (by decide), if_neg (by decide), w_M_readRule_97, if_neg (by decide), if_neg (by decide), if_pos (show nI 5 = 5 from rfl), w_M_readRule_129]
            exact (congrArg (fun z => Option.bind z _) k1).trans (by rw [Option.bind_some, pb_i])
      rw [e50, e133, w_M_readRule_133]
      generalize rnT isp t N (nx t N s) = s2 at *
      have f2 : ∀ j, j ≠ 54 → M2 j = M j := fun j a => (((k3 j a).trans (up_off a)).trans (up_off a)).trans (g2 j a)
      have f54 : ∀ j, j ≠ 17 → j ≠ 18 → j ≠ 20 → j ≠ 21 → j ≠ 22 → j ≠ 33 → M2 54 j = M 54 j := fun j a b c e f g => (((k4 j a b c e f).trans (up_kk b)).trans (up_kk g)).trans (fr1 j b c)
      have fl : ∀ j, j ≠ 54 → Ml2 j = Ml j := fun j a => (k5 j a).trans (g6 j a)
      have f33 : M2 54 33 = seen ||| one k := by rw [k4 33 (by decide) (by decide) (by decide) (by decide) (by decide), up_kk (by decide), up_ok]
      cases hv : rvl t N k s2 with
      | inl c' =>
        rw [hv] at k6'
        obtain ⟨rfl, c0, c1⟩ := k6'
        refine ⟨M2, Ml2, c, by rw [if_pos (show (0 : Int32) < nI c from (nI_lt' (a := 0) (by decide) (by omega)).mpr c0)], fun j a _ => f2 j a, f54, fl, rfl, c0, by omega, c1⟩
      | inr ve =>
        obtain ⟨v, e⟩ := ve
        rw [hv] at k6'
        obtain ⟨rfl, he, c1, c2, c3⟩ := k6'
        have hn2 := nx_le t hs2
        have hg2 := nx_ge t N s2
        rw [if_neg (show ¬ (0 : Int32) < nI 0 by decide)]
        generalize hvv : (if k = 5 then d 5 ||| (1 <<< (v &&& 31)) else v : Int32) = vv
        have e170 : (if nI k = 5 then (if pin 5 6 then pdn X m_M_readRule (170, [.ref 54, .int (nI k), .int (nI 0)], [.int (M2 67 (Int32.toNatClampNeg 5) ||| (1 <<< (M2 54 21 &&& 31))), .int (nI k), .ref 67], (sh0, M2, Ml2, mr0), 0, 0) else none) else pdn X m_M_readRule (170, [.ref 54, .int (nI k), .int (nI 0)], [.int (M2 54 21), .int (nI k), .ref 67], (sh0, M2, Ml2, mr0), 0, 0)) = pdn X m_M_readRule (170, [.ref 54, .int (nI k), .int (nI 0)], [.int vv, .int (nI k), .ref 67], (sh0, M2, Ml2, mr0), 0, 0) := by
          by_cases e5 : k = 5
          · rw [if_pos (show nI k = 5 by rw [e5]; rfl), if_pos (by decide), show Int32.toNatClampNeg 5 = 5 from by decide, f2 67 (by decide), hd 5 (by decide), c3, ← hvv, if_pos e5]
          · rw [if_neg (show ¬ nI k = 5 from fun z => e5 ((nI_is (m := 5) rfl (by omega) (by decide)).mp z)), c3, ← hvv, if_neg e5]
        rw [e170, w_M_readRule_170, if_pos (pin_nI k6 (by decide)), nI_clamp (by omega)]
        have hR3 : RT t N (pm_up M2 67 k vv) e := ⟨by rw [up_off (by decide)]; exact c2.1, by rw [up_off (by decide)]; exact c2.2.1, fun j hj => by rw [up_off (by decide)]; exact c2.2.2 j hj⟩
        obtain ⟨M4, m1, ⟨m2, m3⟩, m4⟩ := c_here (X := X) (Ml := Ml2) hN (show e ≤ N by omega) hR3
        have hs3 := rnT_le isp t (show e ≤ N by omega)
        have hs3g := rnT_ge isp t N e
        show ∃ (M' : MI) (Ml' : ML) (c : Nat), _ ∧ (∀ k, k ≠ 54 → k ≠ 67 → M' k = M k) ∧ (∀ j, j ≠ 17 → j ≠ 18 → j ≠ 20 → j ≠ 21 → j ≠ 22 → j ≠ 33 → M' 54 j = M 54 j) ∧ (∀ k, k ≠ 54 → Ml' k = Ml k) ∧ match (if rnT isp t N e < N ∧ t (rnT isp t N e) = 59 then Sum.inr (rnT isp t N (rnT isp t N e + 1), seen ||| one k, upn d k (if k = 5 then d 5 ||| (1 <<< (v &&& 31)) else v)) else Sum.inl (1, rnT isp t N e) : Sum (Nat × Nat) (Nat × Int32 × (Nat → Int32))) with
          | Sum.inl (c', pl) => c = c' ∧ 0 < c ∧ c ≤ 3 ∧ M' 54 17 = nI pl
          | Sum.inr (s', seen', d') => c = 0 ∧ (∃ q, q ≤ N ∧ RT t N M' q ∧ rnT isp t N q = s') ∧ s' ≤ N ∧ s < s' ∧ M' 54 33 = seen' ∧ M' 54 17 = M 54 17 ∧ ∀ j, j < 6 → M' 67 j = d' j
        rw [hvv]
        generalize rnT isp t N e = s3 at *
        have f4 : ∀ j, j ≠ 54 → j ≠ 67 → M4 j = M j := fun j a b => ((m2 j a).trans (up_off b)).trans (f2 j a)
        have f454 : ∀ j, j ≠ 18 → M4 54 j = M2 54 j := fun j b => (m3 j b).trans (by rw [up_off (by decide)])
        have e59 : hrv t N s3 = 59 ↔ s3 < N ∧ t s3 = 59 := by
          unfold hrv
          by_cases z : s3 < N
          · rw [if_pos z]; exact ⟨fun y => ⟨z, y⟩, fun y => y.2⟩
          · rw [if_neg z]; exact ⟨fun y => absurd y (by decide), fun y => absurd y.1 z⟩
        have f17 : M2 54 17 = M 54 17 := c1.trans (by rw [up_kk (by decide), up_kk (by decide)]; exact fr1 17 (by decide) (by decide))
        rw [m1, Option.bind_some, pb_i, w_M_readRule_175]
        by_cases z : s3 < N ∧ t s3 = 59
        · rw [if_pos (e59.mpr z), m4.2.1, nI_1, if_pos z]
          have hs5 := rnT_le isp t (show s3 + 1 ≤ N by omega)
          have hs5g := rnT_ge isp t N (s3 + 1)
          refine ⟨pm_up M4 54 18 (nI (s3 + 1)), Ml2, 0, rfl, fun j a b => (up_off a).trans (f4 j a b), fun j a b c e f g => ((up_kk b).trans (f454 j b)).trans (f54 j a b c e f g), fl, rfl, ⟨s3 + 1, by omega, ⟨by rw [up_kk (by decide)]; exact m4.1, by rw [up_ok], fun j hj => by rw [up_off (by decide)]; exact m4.2.2 j hj⟩, rfl⟩, hs5, by omega, ?_, ?_, ?_⟩
          · rw [up_kk (by decide), f454 33 (by decide)]; exact f33
          · rw [up_kk (by decide), f454 17 (by decide)]; exact f17
          · intro j hj
            rw [up_off (by decide), m2 67 (by decide)]
            unfold upn
            by_cases ej : j = k
            · rw [if_pos ej, ej, up_ok]
            · rw [if_neg ej, up_kk ej, f2 67 (by decide)]; exact hd j hj
        · rw [if_neg (fun y => z (e59.mp y)), d_M_fails, m4.2.1, Option.bind_some, pb_i, w_M_readRule_189, if_neg z]
          exact ⟨pm_up M4 54 17 (nI s3), Ml2, 1, rfl, fun j a b => (up_off a).trans (f4 j a b), fun j a b c e f g => ((up_kk a).trans (f454 j b)).trans (f54 j a b c e f g), fl, rfl, by omega, by omega, by rw [up_ok]⟩
