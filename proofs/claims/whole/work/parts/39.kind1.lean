/-! kind -/
theorem fb_ct_out (p : Nat → Bool) (b : Bool) {i n : Nat} (h : n ≤ i) : fb_ct (fun k => if k = i then b else p k) n = fb_ct p n :=
  fb_ct_cong fun k hk => if_neg (by omega)
theorem fb_ct_upd (p : Nat → Bool) (b : Bool) {i : Nat} : ∀ {n : Nat}, i < n → fb_ct (fun k => if k = i then b else p k) n + (if p i then 1 else 0) = fb_ct p n + (if b then 1 else 0)
  | 0, h => absurd h (Nat.not_lt_zero i)
  | n + 1, h => by
    rw [fb_ct_succ, fb_ct_succ]
    rcases Nat.lt_or_ge i n with q | q
    · have := fb_ct_upd p b q
      have e : (if n = i then b else p n) = p n := if_neg (by omega)
      rw [e]
      omega
    · have e : i = n := by omega
      subst e
      rw [fb_ct_out p b (Nat.le_refl _)]
      simp only [if_true]
      omega
theorem RK_new {K K' : Nat → Int32} {x y : Nat} (hy : y < 2 ^ 31) (hx0 : (K x) < 0) (hxx : K' x = nI y) (hoth : ∀ f, f ≠ x → K' f = K f) (hac : ¬ RK K y x) (e g : Nat) : RK K' e g ↔ RK K e g ∨ (RK K e x ∧ RK K y g) := by
  have hnn : ¬ (K' x) < 0 := by rw [hxx, x_lt, nI_toInt hy]; show ¬ ((y : Int) < 0); omega
  have hcl : (K' x).toNatClampNeg = y := by rw [hxx, nI_clamp hy]
  have hlift : ∀ {a b : Nat}, RK K a b → RK K' a b := by
    intro a b h
    refine RK_ind (P := fun b => RK K' a b) (RK_here a) (fun z _ ih hn => ?_) h
    have hzx : z ≠ x := fun q => hn (q ▸ hx0)
    have := RK_up ih (by rw [hoth z hzx]; exact hn)
    rw [hoth z hzx] at this; exact this
  constructor
  · intro h
    refine RK_ind (P := fun g => RK K e g ∨ (RK K e x ∧ RK K y g)) (Or.inl (RK_here e)) (fun z _ ih hn => ?_) h
    by_cases hz : z = x
    · subst hz
      rw [hcl]
      rcases ih with h1 | ⟨_, h2⟩
      · exact Or.inr ⟨h1, RK_here y⟩
      · exact absurd h2 hac
    · rw [hoth z hz] at hn ⊢
      rcases ih with h1 | ⟨h1, h2⟩
      · exact Or.inl (RK_up h1 hn)
      · exact Or.inr ⟨h1, RK_up h2 hn⟩
  · rintro (h | ⟨h1, h2⟩)
    · exact hlift h
    · have h3 : RK K' e y := by have := RK_up (hlift h1) hnn; rw [hcl] at this; exact this
      exact RK_tr h3 (hlift h2)
theorem c_tell_go {X : Nat × (Nat → Int32)} {Ml : ML} {x y : Nat} (hx : x < 30) (hy : y < 30) : ∀ (n i : Nat) (M : MI), i + n = 30 → bt (M 3 y) x = false → ∃ M' : MI, pdn X m_Features_tell (43, [.ref 2, .int (nI x), .int (nI y), .int (nI i)], [], (sh0, M, Ml, mr0), 0, 0) = some (some (.int 1), (sh0, M', Ml, mr0)) ∧ (∀ k, k ≠ 3 → M' k = M k) ∧ (∀ e, e < 30 → M' 3 e = if i ≤ e ∧ bt (M 3 e) x = true then M 3 e ||| M 3 y else M 3 e) := by
  intro n
  induction n with
  | zero =>
    intro i M hi hb
    obtain rfl : i = 30 := by omega
    refine ⟨M, by rw [e_Features_tell_43, if_neg (by decide)], fun _ _ => rfl, fun e he => ?_⟩
    rw [if_neg (by omega)]
  | succ n ih =>
    intro i M hi hb
    have pi : pin (nI i) 30 := pin_nI (by omega) (by decide)
    have py : pin (nI y) 30 := pin_nI hy (by decide)
    rw [e_Features_tell_43, if_pos ((x_nlt (n := 30) rfl (by omega)).mpr (by omega)), if_pos pi, x_bit (by omega), nI_1, nI_clamp (by omega), nI_clamp (by omega)]
    by_cases hbi : bt (M 3 i) x = true
    · rw [if_neg (by rw [bI_t hbi]; decide), if_pos pi, if_pos py, if_pos pi]
      have hiy : y ≠ i := fun q => by rw [← q, hb] at hbi; exact absurd hbi (by decide)
      obtain ⟨M', h1, h2, h3⟩ := ih (i + 1) (pm_up M 3 i (M 3 i ||| M 3 y)) (by omega) (by rw [up_kk hiy]; exact hb)
      refine ⟨M', h1, fun k hk => by rw [h2 k hk, up_off hk], fun e he => ?_⟩
      rw [h3 e he, up_kk hiy]
      by_cases hei : e = i
      · subst hei
        rw [up_ok, if_neg (by omega), if_pos ⟨Nat.le_refl e, hbi⟩]
      · rw [up_kk hei]
        by_cases hb2 : bt (M 3 e) x = true
        · by_cases hle : i ≤ e
          · rw [if_pos ⟨by omega, hb2⟩, if_pos ⟨hle, hb2⟩]
          · rw [if_neg (fun q => by omega), if_neg (fun q => hle q.1)]
        · rw [if_neg (fun q => hb2 q.2), if_neg (fun q => hb2 q.2)]
    · rw [if_pos (bI_f hbi)]
      obtain ⟨M', h1, h2, h3⟩ := ih (i + 1) M (by omega) hb
      refine ⟨M', h1, h2, fun e he => ?_⟩
      rw [h3 e he]
      by_cases hb2 : bt (M 3 e) x = true
      · have hei : e ≠ i := fun q => hbi (q ▸ hb2)
        by_cases hle : i ≤ e
        · rw [if_pos ⟨by omega, hb2⟩, if_pos ⟨hle, hb2⟩]
        · rw [if_neg (fun q => by omega), if_neg (fun q => hle q.1)]
      · rw [if_neg (fun q => hb2 q.2), if_neg (fun q => hb2 q.2)]
theorem c_pref_go {X : Nat × (Nat → Int32)} {Ml : ML} {N : Nat} (hN : N ≤ 24) : ∀ (n i : Nat) (M : MI), M 5 5 = nI N → i + n = N → ∃ M' : MI, pdn X m_Papers_refresh (2, [.ref 5, .ref 2, .int (nI i)], [], (sh0, M, Ml, mr0), 0, 0) = some (none, (sh0, M', Ml, mr0)) ∧ (∀ k, k ≠ 6 → M' k = M k) ∧ (∀ e, e < N → M' 6 e = if i ≤ e then cl (M 3) (M 9 e) else M 6 e) := by
  intro n
  induction n with
  | zero =>
    intro i M h5 hi
    obtain rfl : i = N := by omega
    refine ⟨M, by rw [e_Papers_refresh_2, h5, if_neg (by rw [nI_lt' (by omega) (by omega)]; omega)], fun _ _ => rfl, fun e he => ?_⟩
    rw [if_neg (by omega)]
  | succ n ih =>
    intro i M h5 hi
    have pi : pin (nI i) 24 := pin_nI (by omega) (by decide)
    rw [e_Papers_refresh_2, h5, if_pos (by rw [nI_lt' (by omega) (by omega)]; omega), if_pos pi, c_closed, Option.bind_some, pb_i, e_Papers_refresh_25, if_pos pi, nI_1, nI_clamp (by omega)]
    obtain ⟨M', h1, h2, h3⟩ := ih (i + 1) (pm_up M 6 i (cl (M 3) (M 9 i))) h5 (by omega)
    refine ⟨M', h1, fun k hk => by rw [h2 k hk, up_off hk], fun e he => ?_⟩
    rw [h3 e he]
    show (if i + 1 ≤ e then cl (M 3) (M 9 e) else pm_up M 6 i (cl (M 3) (M 9 i)) 6 e) = _
    by_cases hei : e = i
    · subst hei
      rw [up_ok, if_neg (by omega), if_pos (Nat.le_refl e)]
    · rw [up_kk hei]
      by_cases hle : i ≤ e
      · rw [if_pos (by omega), if_pos hle]
      · rw [if_neg (by omega), if_neg hle]
theorem c_fref_in {X : Nat × (Nat → Int32)} {Ml : ML} {i E : Nat} (hi8 : i < 8) (hE : E ≤ 3) : ∀ (n j : Nat) (M : MI), M 18 i = nI E → j + n = E → ∃ M' : MI, pdn X m_Filings_refresh (28, [.ref 11, .ref 2, .int (nI i), .int (nI j)], [], (sh0, M, Ml, mr0), 0, 0) = pdn X m_Filings_refresh (2, [.ref 11, .ref 2, .int (nI (i + 1)), .int (nI E)], [], (sh0, M', Ml, mr0), 0, 0) ∧ (∀ k, k ≠ 20 → M' k = M k) ∧ (∀ e, M' 20 e = if 3 * i + j ≤ e ∧ e < 3 * i + E then cl (M 3) (M 19 e) else M 20 e) := by
  intro n
  induction n with
  | zero =>
    intro j M h18 hj
    obtain rfl : j = E := by omega
    refine ⟨M, by rw [e_Filings_refresh_28, if_pos (pin_nI hi8 (by decide)), nI_clamp (by omega), h18, if_neg (by rw [nI_lt' (by omega) (by omega)]; omega), nI_1], fun _ _ => rfl, fun e => ?_⟩
    rw [if_neg (by omega)]
  | succ n ih =>
    intro j M h18 hj
    have i1 : nI i * 3 + nI j = nI (3 * i + j) := by rw [show (3 : Int32) = nI 3 from rfl, nI_mul', nI_add, Nat.mul_comm]
    have p24 : pin (nI (3 * i + j)) 24 := pin_nI (by omega) (by decide)
    rw [e_Filings_refresh_28, if_pos (pin_nI hi8 (by decide)), nI_clamp (show i < 2 ^ 31 by omega), h18, if_pos (by rw [nI_lt' (by omega) (by omega)]; omega), i1, if_pos p24, c_closed, Option.bind_some, pb_i, e_Filings_refresh_61, if_pos p24, nI_1, nI_clamp (show 3 * i + j < 2 ^ 31 by omega)]
    obtain ⟨M', h1, h2, h3⟩ := ih (j + 1) (pm_up M 20 (3 * i + j) (cl (M 3) (M 19 (3 * i + j)))) h18 (by omega)
    refine ⟨M', h1, fun k hk => by rw [h2 k hk, up_off hk], fun e => ?_⟩
    rw [h3 e]
    show (if 3 * i + (j + 1) ≤ e ∧ e < 3 * i + E then cl (M 3) (M 19 e) else pm_up M 20 (3 * i + j) (cl (M 3) (M 19 (3 * i + j))) 20 e) = _
    by_cases hei : e = 3 * i + j
    · subst hei
      rw [up_ok, if_neg (by omega), if_pos (by omega)]
    · rw [up_kk hei]
      by_cases hle : 3 * i + j ≤ e ∧ e < 3 * i + E
      · rw [if_pos (by omega), if_pos hle]
      · rw [if_neg (by omega), if_neg hle]
