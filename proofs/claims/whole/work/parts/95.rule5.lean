/-! the operation rules, put together -/
theorem IR_mk {M : MI} (h1 : ∀ l, l < 4 → ∀ k, k < 6 → M (46 + 2 * l + 1) k = M 66 (6 * l + k)) (h2 : ∀ l, l < 4 → RRan (M (46 + 2 * l + 1))) : IR (M 47) (M 49) (M 51) (M 53) (M 66) :=
  ⟨fun k hk => ⟨h1 0 (by decide) k hk, h1 1 (by decide) k hk, h1 2 (by decide) k hk, h1 3 (by decide) k hk⟩, h2 0 (by decide), h2 1 (by decide), h2 2 (by decide), h2 3 (by decide)⟩
theorem Inv_ru {Mi M : MI} {Ml Ml' : ML} (h : Inv Mi Ml) (F : ∀ k, (k ≠ 34 ∧ k ≠ 37 ∧ k ≠ 39 ∧ k ≠ 1 ∧ k ≠ 54 ∧ k ≠ 66 ∧ k ≠ 67 ∧ k ≠ 47 ∧ k ≠ 49 ∧ k ≠ 51 ∧ k ≠ 53) → M k = Mi k) (F54 : ∀ j, j ≠ 16 → j ≠ 17 → j ≠ 18 → j ≠ 20 → j ≠ 21 → j ≠ 22 → j ≠ 33 → M 54 j = Mi 54 j) (h34 : M 34 1 = nI 0) (h16 : M 54 16 = nI 0) (hfa : M 1 10 = M 54 17) (hIR : IR (M 47) (M 49) (M 51) (M 53) (M 66)) (hl : Ml' 29 = Ml 29) : Inv M Ml' := by
  obtain ⟨a1, a2, a3, a4, a5, a6, a7, a8, a9, a10⟩ := h
  unfold Inv
  rw [F 55 (by decide), F 3 (by decide), F 4 (by decide), F 2 (by decide), F 8 (by decide), F 56 (by decide), F 5 (by decide), F54 2 (by decide) (by decide) (by decide) (by decide) (by decide) (by decide) (by decide), F54 6 (by decide) (by decide) (by decide) (by decide) (by decide) (by decide) (by decide), F54 36 (by decide) (by decide) (by decide) (by decide) (by decide) (by decide) (by decide), F54 23 (by decide) (by decide) (by decide) (by decide) (by decide) (by decide) (by decide), F 9 (by decide), F 6 (by decide), F 7 (by decide), F 10 (by decide), F 57 (by decide), F 58 (by decide), F 59 (by decide), F 11 (by decide), F 12 (by decide), F 13 (by decide), F 14 (by decide), F 15 (by decide), F 18 (by decide), F 19 (by decide), F 20 (by decide), F 21 (by decide), F 60 (by decide), F 61 (by decide), F 62 (by decide), F 63 (by decide), F 64 (by decide), F 65 (by decide), F 35 (by decide), F 68 (by decide), F 41 (by decide), F 42 (by decide), F 43 (by decide), F 44 (by decide), F 80 (by decide), F 81 (by decide), F 82 (by decide), F 22 (by decide), F 79 (by decide), F 23 (by decide), F 16 (by decide), F 17 (by decide), F 74 (by decide), F 75 (by decide), F 24 (by decide), F 69 (by decide), F 25 (by decide), F 70 (by decide), F 26 (by decide), F 71 (by decide), F 27 (by decide), F 28 (by decide), F 30 (by decide), F 31 (by decide), F 32 (by decide), F 72 (by decide), F 73 (by decide), hl, h34, h16]
  exact ⟨a1, a2, a3, a4, ⟨0, by decide, rfl, rfl, fun i hi => absurd hi (Nat.not_lt_zero i)⟩, hfa, a7, hIR, a9, a10⟩
theorem c_reset {X : Nat × (Nat → Int32)} {Ml : ML} : ∀ n i (M : MI), i + n = 6 → (∀ j, j < i → M 39 j = AF j) → ∃ M' : MI, pdn X m_Rules_reset (2, [.ref 38, .int (nI i)], [], (sh0, M, Ml, mr0), 0, 0) = some (none, (sh0, M', Ml, mr0)) ∧ (∀ k, k ≠ 39 → M' k = M k) ∧ ∀ j, j < 6 → M' 39 j = AF j := by
  intro n
  induction n with
  | zero =>
    intro i M hi h
    obtain rfl : i = 6 := by omega
    exact ⟨M, by rw [e_Rules_reset_2, if_neg (by decide)], fun _ _ => rfl, h⟩
  | succ n ih =>
    intro i M hi h
    have p6 : pin (nI i) 6 := pin_nI (by omega) (by decide)
    rw [e_Rules_reset_2, if_pos ((x_nlt (n := 6) rfl (by omega)).mpr (by omega)), if_pos p6, if_pos p6, nI_clamp (by omega), nI_1]
    obtain ⟨M', g1, g2, g3⟩ := ih (i + 1) (pm_up M 39 i ((pm_old X 2001).2 i)) (by omega) (fun j hj => by
      by_cases e : j = i
      · rw [e, up_ok]; rfl
      · rw [up_kk e]; exact h j (by omega))
    exact ⟨M', g1, fun k hk => (g2 k hk).trans (up_off hk), g3⟩
theorem c_copy {X : Nat × (Nat → Int32)} {Ml : ML} {l : Nat} (hl : l < 4) : ∀ n i (M : MI), i + n = 6 → (∀ j, j < i → M (46 + 2 * l + 1) j = M 39 j) → ∃ M' : MI, pdn X m_Rules_copy (2, [.ref (46 + 2 * l), .ref 38, .int (nI i)], [], (sh0, M, Ml, mr0), 0, 0) = some (none, (sh0, M', Ml, mr0)) ∧ (∀ k, k ≠ 46 + 2 * l + 1 → M' k = M k) ∧ ∀ j, j < 6 → M' (46 + 2 * l + 1) j = M 39 j := by
  intro n
  induction n with
  | zero =>
    intro i M hi h
    obtain rfl : i = 6 := by omega
    exact ⟨M, by rw [e_Rules_copy_2 _ _ _ (land_ho hl), if_neg (by decide)], fun _ _ => rfl, h⟩
  | succ n ih =>
    intro i M hi h
    have p6 : pin (nI i) 6 := pin_nI (by omega) (by decide)
    rw [e_Rules_copy_2 _ _ _ (land_ho hl), if_pos ((x_nlt (n := 6) rfl (by omega)).mpr (by omega)), if_pos p6, if_pos p6, nI_clamp (by omega), nI_1]
    have e39 : pm_up M (46 + 2 * l + 1) i (M 39 i) 39 = M 39 := up_off (by omega)
    obtain ⟨M', g1, g2, g3⟩ := ih (i + 1) (pm_up M (46 + 2 * l + 1) i (M 39 i)) (by omega) (fun j hj => by
      rw [e39]
      by_cases e : j = i
      · rw [e, up_ok]
      · rw [up_kk e]; exact h j (by omega))
    exact ⟨M', g1, fun k hk => (g2 k hk).trans (up_off hk), fun j hj => by rw [g3 j hj, e39]⟩
theorem c_keep {X : Nat × (Nat → Int32)} {Ml : ML} {l : Nat} (hl : l < 4) : ∀ n i (M : MI), i + n = 6 → (∀ j, j < i → M 66 (6 * l + j) = M 67 j) → ∃ M' : MI, pdn X m_M_keepRules (2, [.ref 54, .int (nI l), .int (nI i)], [], (sh0, M, Ml, mr0), 0, 0) = some (none, (sh0, M', Ml, mr0)) ∧ (∀ k, k ≠ 66 → M' k = M k) ∧ (∀ j, j < 6 → M' 66 (6 * l + j) = M 67 j) ∧ ∀ j, (j < 6 * l ∨ 6 * l + 6 ≤ j) → M' 66 j = M 66 j := by
  intro n
  induction n with
  | zero =>
    intro i M hi h
    obtain rfl : i = 6 := by omega
    exact ⟨M, by rw [e_M_keepRules_2, if_neg (by decide)], fun _ _ => rfl, h, fun _ _ => rfl⟩
  | succ n ih =>
    intro i M hi h
    rw [e_M_keepRules_2, if_pos ((x_nlt (n := 6) rfl (by omega)).mpr (by omega)), if_pos (pin_nI (by omega) (by decide)), six_at, if_pos (pin_nI (by omega) (by decide)), nI_clamp (by omega), nI_clamp (by omega), nI_1]
    have e67 : pm_up M 66 (6 * l + i) (M 67 i) 67 = M 67 := up_off (by decide)
    obtain ⟨M', g1, g2, g3, g4⟩ := ih (i + 1) (pm_up M 66 (6 * l + i) (M 67 i)) (by omega) (fun j hj => by
      rw [e67]
      by_cases e : j = i
      · rw [e, up_ok]
      · rw [up_kk (by omega)]; exact h j (by omega))
    exact ⟨M', g1, fun k hk => (g2 k hk).trans (up_off hk), fun j hj => by rw [g3 j hj, e67], fun j hj => (g4 j hj).trans (up_kk (by omega))⟩
theorem c_begin {X : Nat × (Nat → Int32)} {Ml : ML} {t : Nat → Int32} {N : Nat} (hN : N ≤ 200) {M : MI} (h1 : M 34 1 = nI N) (ht : ∀ j, j < N → M 35 j = t j) : ∃ M' : MI, pD X m_Text_begin [.ref 34] (sh0, M, Ml, mr0) = some (none, (sh0, M', Ml, mr0)) ∧ U34 N M M' ∧ Tok t N M' (rnT isp t N 0) := by
  obtain ⟨M', g1, ⟨g2, g3⟩, g4⟩ := c_step (X := X) (Ml := Ml) (t := t) (p := 0) (M := pm_up M 34 5 0) hN (by omega) (by rw [up_kk (by decide)]; exact h1) (by rw [up_ok]; rfl) (fun j hj => by rw [up_off (by decide)]; exact ht j hj)
  exact ⟨M', by rw [d_Text_begin, g1, Option.bind_some, pb_n, e_Text_begin_9], ⟨fun k hk => (g2 k hk).trans (up_off hk), g3⟩, g4⟩
theorem ls_rules {X : Nat × (Nat → Int32)} {Mi : MI} {Ml : ML} (h : Inv Mi Ml) (a : Int32) : LStp Inv X m_CT_rules m_M_rules [.int a] Mi Ml := by
  obtain ⟨N, hN, n1, n2, hX⟩ := h.2.2.2.2.1
  have hIR := h.2.2.2.2.2.2.2.1
  by_cases h1 : pin a 4
  · obtain ⟨l, hl, rfl⟩ := pin_ex (by decide) h1
    by_cases h2 : N ≤ 120
    · have hlt1 : ¬ (120 : Int32) < nI N := fun z => by have := (nI_lt' (a := 120) (by decide) (by omega)).mp z; omega
      have cl' : (nI l).toNatClampNeg = l := nI_clamp (by omega)
      have hc : pin (nI l) 4 ∧ 0 < 46 + 2 * l ∧ 46 + 2 * l < 2000 := ⟨h1, by omega, by omega⟩
      generalize ht : Mi 35 = t at *
      have hs0 := rnT_le isp t (show 0 ≤ N by omega)
      -- the class reads
      obtain ⟨A1, a1, a2, a3⟩ := c_reset (X := X) (Ml := Ml) 6 0 (pm_up (pm_up (pm_up Mi 37 3 (-1)) 37 4 0) 37 2 0) (by omega) (fun j hj => absurd hj (Nat.not_lt_zero j))
      obtain ⟨A2, b1, ⟨b2, b3⟩, b4⟩ := c_begin (X := X) (Ml := Ml) (t := t) (M := A1) hN (by rw [a2 34 (by decide), up_off (by decide), up_off (by decide), up_off (by decide)]; exact n1) (fun j hj => by rw [a2 35 (by decide), up_off (by decide), up_off (by decide), up_off (by decide), ht])
      have e37 : ∀ j, A2 37 j = pm_up (pm_up (pm_up Mi 37 3 (-1)) 37 4 0) 37 2 0 37 j := fun j => by rw [b2 37 (by decide), a2 37 (by decide)]
      obtain ⟨A3, c, d1, d2, d3⟩ := c_rlC (X := X) (Ml := Ml) (t := t) hN N (rnT isp t N 0) 0 A2 0 AF pm_nul (by omega) (by omega) hs0 b4 b3 (fun j hj => by rw [b2 35 (by decide), a2 35 (by decide), up_off (by decide), up_off (by decide), up_off (by decide), ht]) (by rw [e37, up_ok]) (fun j hj => by rw [b2 39 (by decide)]; exact a3 j hj) (by rw [e37, up_kk (by decide), up_ok]; rfl)
      have cR : pD X m_RuleReader_read [.ref 37] (sh0, Mi, Ml, mr0) = some (some (.int (nI c)), (sh0, A3, Ml, mr0)) := by
        rw [d_RuleReader_read, d_Rules_reset]
        rw [show pdn X m_Rules_reset (2, [.ref 38, .int 0], [], (sh0, pm_up (pm_up (pm_up Mi 37 3 (-1)) 37 4 0) 37 2 0, Ml, mr0), 0, 0) = _ from a1, Option.bind_some, pb_n, w_RuleReader_read_22, b1, Option.bind_some, pb_n, w_RuleReader_read_29]
        exact d1
      have fA : ∀ k, k ≠ 34 → k ≠ 37 → k ≠ 39 → A3 k = Mi k := fun k x y z => (((d2 k x y z).trans (b2 k x)).trans (a2 k z)).trans ((up_off y).trans ((up_off y).trans (up_off y)))
      have eC0 : pD X m_CT_rules [.ref 1, .int (nI l)] (sh0, Mi, Ml, mr0) = pdn X m_CT_rules (35, [.ref 1, .int (nI l), pm_nul], [.int (nI c)], (sh0, A3, Ml, mr0), 0, 0) := by
        rw [d_CT_rules, c_within (nI l) 4 (n := 4) rfl, Option.bind_some, pb_i, w_CT_rules_5, bI_t h1, if_neg (by decide), n1, if_neg hlt1, cR, Option.bind_some, pb_i]
      -- the reference reads, wherever its cells are as they were
      have refr : ∀ B : MI, (∀ k, k ≠ 34 → k ≠ 37 → k ≠ 39 → k ≠ 1 → k ≠ 46 + 2 * l + 1 → B k = Mi k) → ∃ (B' : MI) (Ml' : ML) (c' n' : Nat), pD X m_M_rules [.ref 54, .int (nI l)] (sh0, B, Ml, mr0) = pdn X m_M_rules (69, [.ref 54, .int (nI l), .int (nI n'), .int (nI c')], [], (sh0, B', Ml', mr0), 0, 0) ∧ (∀ k, k ≠ 54 → k ≠ 67 → B' k = B k) ∧ (∀ j, j ≠ 17 → j ≠ 18 → j ≠ 20 → j ≠ 21 → j ≠ 22 → j ≠ 33 → B' 54 j = Mi 54 j) ∧ (∀ k, k ≠ 54 → Ml' k = Ml k) ∧ match rlp t N N (rnT isp t N 0) 0 0 AF with
          | Sum.inl (c'', pl) => c' = c'' ∧ 0 < c' ∧ c' ≤ 3 ∧ B' 54 17 = nI pl
          | Sum.inr (n'', d') => c' = 0 ∧ n' = n'' ∧ B' 54 17 = -1 ∧ ∀ j, j < 6 → B' 67 j = d' j := by
        intro B hB
        have F := fun k (q : k ≠ 34 ∧ k ≠ 37 ∧ k ≠ 39 ∧ k ≠ 1 ∧ k ≠ 46 + 2 * l + 1) => hB k q.1 q.2.1 q.2.2.1 q.2.2.2.1 q.2.2.2.2
        have c0 : Int32.toNatClampNeg 0 = 0 := by decide
        have c1 : Int32.toNatClampNeg 1 = 1 := by decide
        have c2 : Int32.toNatClampNeg 2 = 2 := by decide
        have c3 : Int32.toNatClampNeg 3 = 3 := by decide
        have c4 : Int32.toNatClampNeg 4 = 4 := by decide
        have c5 : Int32.toNatClampNeg 5 = 5 := by decide
        generalize hB1 : pm_up (pm_up (pm_up B 54 17 (-1)) 54 18 0) 54 33 0 = B1
        have hfirst : ∃ B2 : MI, pD X m_M_first [.ref 54] (sh0, B1, Ml, mr0) = some (none, (sh0, B2, Ml, mr0)) ∧ (∀ k, k ≠ 67 → B2 k = B1 k) ∧ ∀ j, j < 6 → B2 67 j = AF j := by
          refine ⟨_, by rw [d_M_first, if_pos (by decide), if_pos (by decide), if_pos (by decide), if_pos (by decide), if_pos (by decide), if_pos (by decide)], fun k hk => by rw [up_off hk, up_off hk, up_off hk, up_off hk, up_off hk, up_off hk], fun j hj => ?_⟩
          rw [c0, c1, c2, c3, c4, c5]
          have : j = 0 ∨ j = 1 ∨ j = 2 ∨ j = 3 ∨ j = 4 ∨ j = 5 := by omega
          rcases this with rfl | rfl | rfl | rfl | rfl | rfl <;> rfl
        obtain ⟨B2, f1, f2, f3⟩ := hfirst
        have e54 : ∀ j, j ≠ 17 → j ≠ 18 → j ≠ 33 → B2 54 j = Mi 54 j := fun j x y z => by rw [f2 54 (by decide), ← hB1, up_kk z, up_kk y, up_kk x, F 54 ⟨by decide, by decide, by decide, by decide, by omega⟩]
        have hR : RT t N B2 0 := ⟨by rw [e54 16 (by decide) (by decide) (by decide)]; exact n2, by rw [f2 54 (by decide), ← hB1, up_kk (by decide), up_ok]; rfl, fun j hj => by rw [f2 68 (by decide), ← hB1, up_off (by decide), up_off (by decide), up_off (by decide), F 68 ⟨by decide, by decide, by decide, by decide, by omega⟩]; exact ((hX j hj).1).symm⟩
        obtain ⟨B', Ml', c', n', m1, m2, m3, m4, m5⟩ := c_rlM (X := X) (t := t) hN (fun j hj z => by
          obtain ⟨k, hk, e⟩ := pin_ex (by decide) (hX j hj).2
          rw [e, show (0 : Int32) = nI 0 from rfl, nI_lt' (by omega) (by decide)] at z; omega) (nI l) N (rnT isp t N 0) 0 0 B2 Ml 0 AF (by omega) hs0 (by omega) rfl hR (by rw [f2 54 (by decide), ← hB1, up_ok]) f3
        refine ⟨B', Ml', c', n', ?_, fun k x y => (m2 k x y).trans ((f2 k y).trans (by rw [← hB1, up_off x, up_off x, up_off x])), fun j x y z w v u => (m3 j x y z w v u).trans (e54 j x y u), m4, ?_⟩
        · rw [d_M_rules, c_isLand, Option.bind_some, pb_i, w_M_rules_4, bI_t h1, if_neg (by decide), F 54 ⟨by decide, by decide, by decide, by decide, by omega⟩, n2, if_neg hlt1, hB1, f1, Option.bind_some, pb_n, w_M_rules_43]
          exact m1
        · cases hq : rlp t N N (rnT isp t N 0) 0 0 AF with
          | inl y => rw [hq] at m5; exact m5
          | inr y =>
            rw [hq] at m5
            exact ⟨m5.1, m5.2.1, m5.2.2.1.trans (by rw [f2 54 (by decide), ← hB1, up_kk (by decide), up_kk (by decide), up_ok]), m5.2.2.2⟩
      cases hq : rlp t N N (rnT isp t N 0) 0 0 AF with
      | inl y =>
        obtain ⟨c'', pl⟩ := y
        rw [hq] at d3
        obtain ⟨rfl, x1, x2, x3⟩ := d3
        have hnz : ¬ nI c = 0 := fun z => by have := (nI_is (m := 0) rfl (by omega) (by decide)).mp z; omega
        have rC : pD X m_CT_rules [.ref 1, .int (nI l)] (sh0, Mi, Ml, mr0) = some (some (.int (-10 - nI c)), (sh0, pm_up (pm_up A3 34 1 0) 1 10 (A3 37 3), Ml, mr0)) := by
          rw [eC0, w_CT_rules_35, if_neg hnz]
        obtain ⟨B', Ml', c', n', m1, m2, m3, m4, m5⟩ := refr (pm_up (pm_up A3 34 1 0) 1 10 (A3 37 3)) (fun k x y z w _ => by rw [up_off w, up_off x]; exact fA k x y z)
        rw [hq] at m5
        obtain ⟨ec, y1, y2, y3⟩ := m5
        rw [ec] at m1
        have rM : pD X m_M_rules [.ref 54, .int (nI l)] (sh0, pm_up (pm_up A3 34 1 0) 1 10 (A3 37 3), Ml, mr0) = some (some (.int (-10 - nI c)), (sh0, pm_up B' 54 16 0, Ml', mr0)) := by
          rw [m1, w_M_rules_69, if_pos (show (0 : Int32) < nI c from (nI_lt' (a := 0) (by decide) (by omega)).mpr x1)]
        refine LS_mk rC rM ?_
        have G : ∀ k, (k ≠ 34 ∧ k ≠ 37 ∧ k ≠ 39 ∧ k ≠ 1 ∧ k ≠ 54 ∧ k ≠ 67) → pm_up B' 54 16 0 k = Mi k := fun k g => by rw [up_off g.2.2.2.2.1, m2 k g.2.2.2.2.1 g.2.2.2.2.2, up_off g.2.2.2.1, up_off g.1]; exact fA k g.1 g.2.1 g.2.2.1
        refine Inv_ru h (fun k g => G k ⟨g.1, g.2.1, g.2.2.1, g.2.2.2.1, g.2.2.2.2.1, g.2.2.2.2.2.2.1⟩) (fun j x0 x1 x2 x3 x4 x5 x6 => (up_kk x0).trans (m3 j x1 x2 x3 x4 x5 x6)) ?_ (by rw [up_ok]; rfl) ?_ ?_ (m4 29 (by decide))
        · rw [up_off (by decide), m2 34 (by decide) (by decide), up_off (by decide), up_ok]; rfl
        · rw [up_off (by decide), m2 1 (by decide) (by decide), up_ok, up_kk (by decide), y3, x3]
        · rw [G 47 (by decide), G 49 (by decide), G 51 (by decide), G 53 (by decide), G 66 (by decide)]; exact hIR
      | inr y =>
        obtain ⟨n'', d'⟩ := y
        rw [hq] at d3
        obtain ⟨rfl, x1, x2, x3⟩ := d3
        have hran := rlp_ran _ _ _ _ _ _ _ AF_ran hq
        generalize hA4 : pm_up (pm_up A3 34 1 0) 1 10 (A3 37 3) = A4
        obtain ⟨A5, p1, p2, p3⟩ := c_copy (X := X) (Ml := Ml) hl 6 0 A4 (by omega) (fun j hj => absurd hj (Nat.not_lt_zero j))
        have e37b : A5 37 4 = nI n'' := by rw [p2 37 (by omega), ← hA4, up_off (by decide), up_off (by decide)]; exact x1
        have rC : pD X m_CT_rules [.ref 1, .int (nI l)] (sh0, Mi, Ml, mr0) = some (some (.int (nI n'')), (sh0, A5, Ml, mr0)) := by
          rw [eC0, w_CT_rules_35, if_pos (show nI 0 = 0 from rfl), cl', land_rd l hl, if_pos hc, hA4, w_CT_rules_70 _ _ _ (land_ho hl), d_Rules_copy _ _ _ (land_ho hl)]
          rw [show pdn X m_Rules_copy (2, [.ref (46 + 2 * l), .ref 38, .int 0], [], (sh0, A4, Ml, mr0), 0, 0) = _ from p1, Option.bind_some, pb_n, w_CT_rules_80, e37b]
        have fA4 : ∀ k, k ≠ 34 → k ≠ 37 → k ≠ 39 → k ≠ 1 → A4 k = Mi k := fun k x y z w => by rw [← hA4, up_off w, up_off x]; exact fA k x y z
        obtain ⟨B', Ml', c', n', m1, m2, m3, m4, m5⟩ := refr A5 (fun k x y z w v => (p2 k v).trans (fA4 k x y z w))
        rw [hq] at m5
        obtain ⟨rfl, rfl, y3, y4⟩ := m5
        obtain ⟨B6, k1, k2, k3, k4⟩ := c_keep (X := X) (Ml := Ml') hl 6 0 (pm_up B' 54 16 0) (by omega) (fun j hj => absurd hj (Nat.not_lt_zero j))
        have rM : pD X m_M_rules [.ref 54, .int (nI l)] (sh0, A5, Ml, mr0) = some (some (.int (nI n')), (sh0, B6, Ml', mr0)) := by
          rw [m1, w_M_rules_69, if_neg (show ¬ (0 : Int32) < nI 0 by decide), d_M_keepRules]
          rw [show pdn X m_M_keepRules (2, [.ref 54, .int (nI l), .int 0], [], (sh0, pm_up B' 54 16 0, Ml', mr0), 0, 0) = _ from k1, Option.bind_some, pb_n, w_M_rules_88]
        refine LS_mk rC rM ?_
        have G : ∀ k, (k ≠ 34 ∧ k ≠ 37 ∧ k ≠ 39 ∧ k ≠ 1 ∧ k ≠ 54 ∧ k ≠ 67 ∧ k ≠ 66 ∧ k ≠ 46 + 2 * l + 1) → B6 k = Mi k := fun k g => by rw [k2 k g.2.2.2.2.2.2.1, up_off g.2.2.2.2.1, m2 k g.2.2.2.2.1 g.2.2.2.2.2.1, p2 k g.2.2.2.2.2.2.2]; exact fA4 k g.1 g.2.1 g.2.2.1 g.2.2.2.1
        have e54 : ∀ j, B6 54 j = pm_up B' 54 16 0 54 j := fun j => by rw [k2 54 (by decide)]
        have eL : ∀ j, j < 6 → B6 (46 + 2 * l + 1) j = d' j := fun j hj => by rw [k2 _ (by omega), up_off (by omega), m2 _ (by omega) (by omega), p3 j hj, ← hA4, up_off (by decide), up_off (by decide)]; exact x3 j hj
        have e66 : ∀ j, j < 6 → B6 66 (6 * l + j) = d' j := fun j hj => by rw [k3 j hj, up_off (by decide)]; exact y4 j hj
        have e66o : ∀ j, (j < 6 * l ∨ 6 * l + 6 ≤ j) → B6 66 j = Mi 66 j := fun j hj => by rw [k4 j hj, up_off (by decide), m2 66 (by decide) (by decide), p2 66 (by omega), fA4 66 (by decide) (by decide) (by decide) (by decide)]
        refine Inv_ru h (fun k g => G k ⟨g.1, g.2.1, g.2.2.1, g.2.2.2.1, g.2.2.2.2.1, g.2.2.2.2.2.2.1, g.2.2.2.2.2.1, by omega⟩) (fun j x0 x1 x2 x3 x4 x5 x6 => (e54 j).trans ((up_kk x0).trans (m3 j x1 x2 x3 x4 x5 x6))) ?_ (by rw [e54, up_ok]; rfl) ?_ ?_ (m4 29 (by decide))
        · rw [k2 34 (by decide), up_off (by decide), m2 34 (by decide) (by decide), p2 34 (by omega), ← hA4, up_off (by decide), up_ok]; rfl
        · rw [k2 1 (by decide), up_off (by decide), m2 1 (by decide) (by decide), p2 1 (by omega), ← hA4, up_ok, e54, up_kk (by decide), y3, x2, e37, up_kk (by decide), up_kk (by decide), up_ok]
        · refine IR_mk (fun l2 hl2 k hk => ?_) (fun l2 hl2 => ?_)
          · by_cases e : l2 = l
            · rw [e, eL k hk, e66 k hk]
            · rw [G (46 + 2 * l2 + 1) (by omega), e66o (6 * l2 + k) (by omega)]
              exact IR_at hIR hl2 hk
          · by_cases e : l2 = l
            · rw [e]
              obtain ⟨z0, z1, z2, z3, z4, z5⟩ := hran
              refine ⟨⟨by rw [eL 0 (by decide)]; exact z0.1, by rw [eL 0 (by decide)]; exact z0.2⟩, by rw [eL 1 (by decide)]; exact z1, by rw [eL 2 (by decide)]; exact z2, by rw [eL 3 (by decide)]; exact z3, by rw [eL 4 (by decide)]; exact z4, by rw [eL 5 (by decide)]; exact z5⟩
            · rw [G (46 + 2 * l2 + 1) (by omega)]
              exact IR_ran hIR hl2
    · have hgt : (120 : Int32) < nI N := (nI_lt' (a := 120) (by decide) (by omega)).mpr (by omega)
      refine LS_mk (r := -1003) (Mi1 := Mi) (Ml1 := Ml) (Mi2 := Mi) (Ml2 := Ml) ?_ ?_ h
      · rw [d_CT_rules, c_within (nI l) 4 (n := 4) rfl, Option.bind_some, pb_i, w_CT_rules_5, bI_t h1, if_neg (by decide), n1, if_pos hgt]
      · rw [d_M_rules, c_isLand, Option.bind_some, pb_i, w_M_rules_4, bI_t h1, if_neg (by decide), n2, if_pos hgt]
  · refine LS_mk (r := -1001) (Mi1 := Mi) (Ml1 := Ml) (Mi2 := Mi) (Ml2 := Ml) ?_ ?_ h
    · rw [d_CT_rules, c_within a 4 (n := 4) rfl, Option.bind_some, pb_i, w_CT_rules_5, if_pos (bI_f h1)]
    · rw [d_M_rules, c_isLand, Option.bind_some, pb_i, w_M_rules_4, if_pos (bI_f h1)]
