/-! TEXTS: words, numbers and signs -/
def rnf (p : Int32 → Bool) (t : Nat → Int32) : Nat → Nat → Nat
  | 0, i => i
  | n + 1, i => if p (t i) = true then rnf p t n (i + 1) else i
def rnT (p : Int32 → Bool) (t : Nat → Int32) (N i : Nat) : Nat := rnf p t (N - i) i
def isp (x : Int32) : Bool := decide (x = 32)
def ilt (x : Int32) : Bool := decide (¬ x < 97 ∧ ¬ 122 < x)
def ifg (x : Int32) : Bool := decide (¬ x < 48 ∧ ¬ 57 < x)
theorem rnT_end {p : Int32 → Bool} {t : Nat → Int32} {N i : Nat} (h : N ≤ i) : rnT p t N i = i := by unfold rnT; rw [show N - i = 0 by omega]; rfl
theorem rnT_y {p : Int32 → Bool} {t : Nat → Int32} {N i : Nat} (h : i < N) (q : p (t i) = true) : rnT p t N i = rnT p t N (i + 1) := by
  unfold rnT; rw [show N - i = (N - (i + 1)) + 1 by omega, rnf, if_pos q]
theorem rnT_n {p : Int32 → Bool} {t : Nat → Int32} {N i : Nat} (q : ¬ p (t i) = true) : rnT p t N i = i := by
  unfold rnT
  cases N - i with
  | zero => rfl
  | succ m => rw [rnf, if_neg q]
theorem rnf_ge (p : Int32 → Bool) (t : Nat → Int32) : ∀ n i, i ≤ rnf p t n i
  | 0, i => Nat.le_refl i
  | n + 1, i => by
    rw [rnf]
    split
    · have := rnf_ge p t n (i + 1); omega
    · exact Nat.le_refl i
theorem rnf_le (p : Int32 → Bool) (t : Nat → Int32) : ∀ n i, rnf p t n i ≤ i + n
  | 0, i => Nat.le_refl i
  | n + 1, i => by
    rw [rnf]
    split
    · have := rnf_le p t n (i + 1); omega
    · omega
theorem rnT_ge (p : Int32 → Bool) (t : Nat → Int32) (N i : Nat) : i ≤ rnT p t N i := rnf_ge p t _ i
theorem rnT_le (p : Int32 → Bool) (t : Nat → Int32) {N i : Nat} (h : i ≤ N) : rnT p t N i ≤ N := by
  have := rnf_le p t (N - i) i
  unfold rnT; omega
theorem rnT_stop {p : Int32 → Bool} {t : Nat → Int32} {N : Nat} : ∀ n i, N - i = n → rnT p t N i < N → p (t (rnT p t N i)) = false
  | 0, i, h, hl => by rw [rnT_end (by omega)] at hl; omega
  | n + 1, i, h, hl => by
    by_cases q : p (t i) = true
    · rw [rnT_y (by omega) q] at hl ⊢
      exact rnT_stop n (i + 1) (by omega) hl
    · rw [rnT_n q]
      cases e : p (t i)
      · rfl
      · exact absurd e q
theorem rnT_idem {p : Int32 → Bool} {t : Nat → Int32} {N i : Nat} : rnT p t N (rnT p t N i) = rnT p t N i := by
  by_cases q : rnT p t N i < N
  · exact rnT_n (by rw [rnT_stop _ i rfl q]; decide)
  · exact rnT_end (by omega)
theorem rnT_all {p : Int32 → Bool} {t : Nat → Int32} {N : Nat} : ∀ n i, N - i = n → ∀ k, i ≤ k → k < rnT p t N i → p (t k) = true
  | 0, i, h, k, h1, h2 => by rw [rnT_end (by omega)] at h2; omega
  | n + 1, i, h, k, h1, h2 => by
    by_cases q : p (t i) = true
    · rw [rnT_y (by omega) q] at h2
      by_cases e : k = i
      · rw [e]; exact q
      · exact rnT_all n (i + 1) (by omega) k (by omega) h2
    · rw [rnT_n q] at h2; omega
theorem rnT_cong {p : Int32 → Bool} {t t' : Nat → Int32} {N : Nat} (h : ∀ i, i < N → t i = t' i) : ∀ n i, N - i = n → rnT p t N i = rnT p t' N i
  | 0, i, hn => by rw [rnT_end (by omega), rnT_end (by omega)]
  | n + 1, i, hn => by
    by_cases q : p (t i) = true
    · rw [rnT_y (t := t) (i := i) (by omega) q, rnT_y (t := t') (i := i) (by omega) (by rw [← h i (by omega)]; exact q)]
      exact rnT_cong h n (i + 1) (by omega)
    · rw [rnT_n q, rnT_n (by rw [← h i (by omega)]; exact q)]
def dig (x : Int32) : Nat := x.toInt.toNat - 48
theorem dig_ok {x : Int32} (h : ifg x = true) : x = nI (48 + dig x) ∧ dig x ≤ 9 := by
  unfold ifg at h
  rw [decide_eq_true_iff, x_lt, x_lt] at h
  have e1 : (48 : Int32).toInt = 48 := by decide
  have e2 : (57 : Int32).toInt = 57 := by decide
  rw [e1, e2] at h
  have hd : dig x = x.toInt.toNat - 48 := rfl
  refine ⟨Int32.toInt_inj.mp ?_, by omega⟩
  rw [nI_toInt (by omega)]; omega
def dv (t : Nat → Int32) (s : Nat) : Nat → Nat
  | 0 => 0
  | k + 1 => 10 * dv t s k + dig (t (s + k))
theorem dv_lt {t : Nat → Int32} {s : Nat} : ∀ k, (∀ j, j < k → ifg (t (s + j)) = true) → dv t s k < 10 ^ k
  | 0, _ => Nat.zero_lt_one
  | k + 1, h => by
    have h1 := dv_lt k (fun j hj => h j (by omega))
    have h2 := (dig_ok (h k (by omega))).2
    rw [dv, Nat.pow_succ]; omega
def ty (t : Nat → Int32) (N s : Nat) : Nat := if s < N then (if ilt (t s) = true then 1 else if ifg (t s) = true then 2 else 3) else 0
def nx (t : Nat → Int32) (N s : Nat) : Nat := if s < N then (if ilt (t s) = true then rnT ilt t N s else if ifg (t s) = true then rnT ifg t N s else s + 1) else s
def Tok (t : Nat → Int32) (N : Nat) (M : MI) (s : Nat) : Prop := M 34 3 = nI s ∧ M 34 2 = nI (ty t N s) ∧ M 34 5 = nI (nx t N s) ∧ (ty t N s = 2 → nx t N s - s ≤ 4 → M 34 4 = nI (dv t s (nx t N s - s)))
theorem nx_ge (t : Nat → Int32) (N s : Nat) : s ≤ nx t N s := by
  unfold nx
  have h1 := rnT_ge ilt t N s
  have h2 := rnT_ge ifg t N s
  split
  · split
    · exact h1
    · split
      · exact h2
      · omega
  · exact Nat.le_refl s
theorem nx_le (t : Nat → Int32) {N s : Nat} (h : s ≤ N) : nx t N s ≤ N := by
  unfold nx
  have h1 := rnT_le ilt t h
  have h2 := rnT_le ifg t h
  split
  · split
    · exact h1
    · split
      · exact h2
      · omega
  · exact h
theorem c_isLetter {X : Nat × (Nat → Int32)} {Mi : MI} {Ml : ML} (x : Int32) : pD X m_Text_isLetter [.int x] (sh0, Mi, Ml, mr0) = some (some (.int (bI (ilt x = true))), (sh0, Mi, Ml, mr0)) := by
  rw [d_Text_isLetter]
  unfold ilt
  by_cases h1 : x < 97
  · rw [if_pos h1, decide_eq_false (fun q => q.1 h1)]; rfl
  · rw [if_neg h1]
    by_cases h2 : 122 < x
    · rw [if_pos h2, decide_eq_false (fun q => q.2 h2)]; rfl
    · rw [if_neg h2, decide_eq_true ⟨h1, h2⟩]; rfl
theorem c_isFigure {X : Nat × (Nat → Int32)} {Mi : MI} {Ml : ML} (x : Int32) : pD X m_Text_isFigure [.int x] (sh0, Mi, Ml, mr0) = some (some (.int (bI (ifg x = true))), (sh0, Mi, Ml, mr0)) := by
  rw [d_Text_isFigure]
  unfold ifg
  by_cases h1 : x < 48
  · rw [if_pos h1, decide_eq_false (fun q => q.1 h1)]; rfl
  · rw [if_neg h1]
    by_cases h2 : 57 < x
    · rw [if_pos h2, decide_eq_false (fun q => q.2 h2)]; rfl
    · rw [if_neg h2, decide_eq_true ⟨h1, h2⟩]; rfl
/-- what a reading of the class's text may change -/
def U34 (N : Nat) (M M' : MI) : Prop := (∀ k, k ≠ 34 → M' k = M k) ∧ M' 34 1 = nI N
theorem c_rdW {X : Nat × (Nat → Int32)} {Ml : ML} {t : Nat → Int32} {N : Nat} (hN : N ≤ 200) : ∀ n i (M : MI), i + n = N → M 34 1 = nI N → M 34 5 = nI i → (∀ j, j < N → M 35 j = t j) → ∃ M' : MI, pdn X m_Text_readWord (5, [.ref 34], [], (sh0, M, Ml, mr0), 0, 0) = some (none, (sh0, M', Ml, mr0)) ∧ U34 N M M' ∧ M' 34 3 = M 34 3 ∧ M' 34 2 = M 34 2 ∧ M' 34 5 = nI (rnT ilt t N i) := by
  intro n
  induction n with
  | zero =>
    intro i M hi h1 h5 ht
    obtain rfl : i = N := by omega
    refine ⟨M, ?_, ⟨fun _ _ => rfl, h1⟩, rfl, rfl, by rw [rnT_end (Nat.le_refl i)]; exact h5⟩
    rw [e_Text_readWord_5, h1, h5, if_neg (by rw [nI_lt' (by omega) (by omega)]; omega)]
  | succ n ih =>
    intro i M hi h1 h5 ht
    rw [e_Text_readWord_5, h1, h5, if_pos (by rw [nI_lt' (by omega) (by omega)]; omega), if_pos (pin_nI (by omega) (by decide)), nI_clamp (by omega), ht i (by omega), c_isLetter, Option.bind_some, pb_i, e_Text_readWord_28, h5, nI_1]
    by_cases q : ilt (t i) = true
    · rw [if_neg (by rw [bI_t q]; decide)]
      obtain ⟨M', g1, ⟨g2, g3⟩, g4, g5, g6⟩ := ih (i + 1) (pm_up M 34 5 (nI (i + 1))) (by omega) (by rw [up_kk (by decide)]; exact h1) (by rw [up_ok]) (fun j hj => by rw [up_off (by decide)]; exact ht j hj)
      exact ⟨M', g1, ⟨fun k hk => (g2 k hk).trans (up_off hk), g3⟩, g4.trans (up_kk (by decide)), g5.trans (up_kk (by decide)), by rw [g6, rnT_y (by omega) q]⟩
    · rw [if_pos (bI_f q)]
      exact ⟨M, rfl, ⟨fun _ _ => rfl, h1⟩, rfl, rfl, by rw [rnT_n q]; exact h5⟩
theorem dv_step {t : Nat → Int32} {s i : Nat} (hs : s ≤ i) (q : ifg (t i) = true) (h3 : i - s ≤ 3) (hall : ∀ j, s ≤ j → j < i → ifg (t j) = true) : nI (dv t s (i - s)) * 10 + t i - 48 = nI (dv t s (i + 1 - s)) ∧ 10 * nI (dv t s (i - s)) + t i - 48 = nI (dv t s (i + 1 - s)) ∧ dv t s (i + 1 - s) < 100000 := by
  obtain ⟨e, hd⟩ := dig_ok q
  have e1 : dv t s (i + 1 - s) = 10 * dv t s (i - s) + dig (t i) := by rw [show i + 1 - s = (i - s) + 1 by omega, dv, show s + (i - s) = i by omega]
  have hl := dv_lt (t := t) (s := s) (i - s) (fun j hj => hall (s + j) (by omega) (by omega))
  have hp : 10 ^ (i - s) ≤ 10 ^ 3 := Nat.pow_le_pow_right (by decide) h3
  refine ⟨?_, ?_, by omega⟩
  · rw [show (10 : Int32) = nI 10 from rfl, nI_mul', e, nI_add, show (48 : Int32) = nI 48 from rfl, nI_subN (by omega), e1]; congr 1; omega
  · rw [show (10 : Int32) = nI 10 from rfl, nI_mul', e, nI_add, show (48 : Int32) = nI 48 from rfl, nI_subN (by omega), e1]; congr 1; omega
theorem c_rdN {X : Nat × (Nat → Int32)} {Ml : ML} {t : Nat → Int32} {N s : Nat} (hN : N ≤ 200) : ∀ n i (M : MI), i + n = N → s ≤ i → M 34 1 = nI N → M 34 5 = nI i → (∀ j, j < N → M 35 j = t j) → (∀ j, s ≤ j → j < i → ifg (t j) = true) → (i - s ≤ 4 → M 34 4 = nI (dv t s (i - s))) → ∃ M' : MI, pdn X m_Text_readNumber (10, [.ref 34], [], (sh0, M, Ml, mr0), 0, 0) = some (none, (sh0, M', Ml, mr0)) ∧ U34 N M M' ∧ M' 34 3 = M 34 3 ∧ M' 34 2 = M 34 2 ∧ M' 34 5 = nI (rnT ifg t N i) ∧ (rnT ifg t N i - s ≤ 4 → M' 34 4 = nI (dv t s (rnT ifg t N i - s))) := by
  intro n
  induction n with
  | zero =>
    intro i M hi hs h1 h5 ht hall hv
    obtain rfl : i = N := by omega
    refine ⟨M, ?_, ⟨fun _ _ => rfl, h1⟩, rfl, rfl, by rw [rnT_end (Nat.le_refl i)]; exact h5, by rw [rnT_end (Nat.le_refl i)]; exact hv⟩
    rw [e_Text_readNumber_10, h1, h5, if_neg (by rw [nI_lt' (by omega) (by omega)]; omega)]
  | succ n ih =>
    intro i M hi hs h1 h5 ht hall hv
    rw [e_Text_readNumber_10, h1, h5, if_pos (by rw [nI_lt' (by omega) (by omega)]; omega), if_pos (pin_nI (by omega) (by decide)), nI_clamp (by omega), ht i (by omega), c_isFigure, Option.bind_some, pb_i, e_Text_readNumber_33, h5, if_pos (pin_nI (by omega) (by decide)), nI_clamp (by omega), ht i (by omega), nI_1]
    by_cases q : ifg (t i) = true
    · rw [if_neg (by rw [bI_t q]; decide)]
      generalize hv' : (if 100000 < M 34 4 * 10 + t i - 48 then 100000 else M 34 4 * 10 + t i - 48 : Int32) = v'
      obtain ⟨M', g1, ⟨g2, g3⟩, g4, g5, g6, g7⟩ := ih (i + 1) (pm_up (pm_up M 34 4 v') 34 5 (nI (i + 1))) (by omega) (by omega) (by rw [up_kk (by decide), up_kk (by decide)]; exact h1) (by rw [up_ok]) (fun j hj => by rw [up_off (by decide), up_off (by decide)]; exact ht j hj) (fun j a b => by
        by_cases e : j = i
        · rw [e]; exact q
        · exact hall j a (by omega)) (fun h4 => by
        rw [up_kk (by decide), up_ok, ← hv', hv (by omega)]
        obtain ⟨d1, _, d3⟩ := dv_step hs q (by omega) hall
        rw [d1, if_neg (by rw [show (100000 : Int32) = nI 100000 from rfl, nI_lt' (by decide) (by omega)]; omega)])
      refine ⟨M', g1, ⟨fun k hk => ((g2 k hk).trans (up_off hk)).trans (up_off hk), g3⟩, (g4.trans (up_kk (by decide))).trans (up_kk (by decide)), (g5.trans (up_kk (by decide))).trans (up_kk (by decide)), by rw [g6, rnT_y (by omega) q], ?_⟩
      rw [rnT_y (by omega) q]; exact g7
    · rw [if_pos (bI_f q)]
      exact ⟨M, rfl, ⟨fun _ _ => rfl, h1⟩, rfl, rfl, by rw [rnT_n q]; exact h5, by rw [rnT_n q]; exact hv⟩
theorem c_sk {X : Nat × (Nat → Int32)} {Ml : ML} {t : Nat → Int32} {N : Nat} (hN : N ≤ 200) : ∀ n i (M : MI), i + n = N → M 34 1 = nI N → M 34 5 = nI i → (∀ j, j < N → M 35 j = t j) → ∃ M' : MI, pdn X m_Text_step (0, [.ref 34], [], (sh0, M, Ml, mr0), 0, 0) = pdn X m_Text_step (38, [.ref 34], [], (sh0, M', Ml, mr0), 0, 0) ∧ U34 N M M' ∧ M' 34 5 = nI (rnT isp t N i) := by
  intro n
  induction n with
  | zero =>
    intro i M hi h1 h5 ht
    obtain rfl : i = N := by omega
    refine ⟨M, ?_, ⟨fun _ _ => rfl, h1⟩, by rw [rnT_end (Nat.le_refl i)]; exact h5⟩
    rw [e_Text_step_0, h1, h5, if_neg (by rw [nI_lt' (by omega) (by omega)]; omega)]
  | succ n ih =>
    intro i M hi h1 h5 ht
    rw [e_Text_step_0, h1, h5, if_pos (by rw [nI_lt' (by omega) (by omega)]; omega), if_pos (pin_nI (by omega) (by decide)), nI_clamp (by omega), ht i (by omega), nI_1]
    by_cases q : t i = 32
    · rw [if_pos q]
      obtain ⟨M', g1, ⟨g2, g3⟩, g4⟩ := ih (i + 1) (pm_up M 34 5 (nI (i + 1))) (by omega) (by rw [up_kk (by decide)]; exact h1) (by rw [up_ok]) (fun j hj => by rw [up_off (by decide)]; exact ht j hj)
      exact ⟨M', g1, ⟨fun k hk => (g2 k hk).trans (up_off hk), g3⟩, by rw [g4, rnT_y (p := isp) (t := t) (i := i) (by omega) (decide_eq_true q)]⟩
    · rw [if_neg q]
      exact ⟨M, rfl, ⟨fun _ _ => rfl, h1⟩, by rw [rnT_n (fun z => q (of_decide_eq_true z))]; exact h5⟩
theorem c_step {X : Nat × (Nat → Int32)} {Ml : ML} {t : Nat → Int32} {N p : Nat} (hN : N ≤ 200) (hp : p ≤ N) {M : MI} (h1 : M 34 1 = nI N) (h5 : M 34 5 = nI p) (ht : ∀ j, j < N → M 35 j = t j) : ∃ M' : MI, pD X m_Text_step [.ref 34] (sh0, M, Ml, mr0) = some (none, (sh0, M', Ml, mr0)) ∧ U34 N M M' ∧ Tok t N M' (rnT isp t N p) := by
  have e0 : pD X m_Text_step [.ref 34] (sh0, M, Ml, mr0) = pdn X m_Text_step (0, [.ref 34], [], (sh0, M, Ml, mr0), 0, 0) := (d_Text_step X M Ml).trans (e_Text_step_0 X M Ml).symm
  obtain ⟨M1, g1, ⟨g2, g3⟩, g4⟩ := c_sk (X := X) (Ml := Ml) hN (N - p) p M (by omega) h1 h5 ht
  have hs := rnT_le isp t hp
  generalize rnT isp t N p = s at *
  rw [e0, g1, e_Text_step_38, g3, g4]
  unfold Tok ty nx
  have ht1 : ∀ j, j < N → M1 35 j = t j := fun j hj => by rw [g2 35 (by decide)]; exact ht j hj
  by_cases q : s < N
  · rw [if_pos (by rw [nI_lt' (by omega) (by omega)]; exact q), if_pos (pin_nI (by omega) (by decide)), nI_clamp (by omega), ht1 s q, c_isLetter, Option.bind_some, pb_i, e_Text_step_77, if_pos q, if_pos q]
    have u3 : ∀ k, k ≠ 34 → pm_up M1 34 3 (nI s) k = M k := fun k hk => (up_off hk).trans (g2 k hk)
    by_cases q1 : ilt (t s) = true
    · rw [if_neg (by rw [bI_t q1]; decide), d_Text_readWord, if_pos q1, if_pos q1]
      obtain ⟨M2, k1, ⟨k2, k3⟩, k4, k5, k6⟩ := c_rdW (X := X) (Ml := Ml) (t := t) hN (N - s) s (pm_up (pm_up M1 34 3 (nI s)) 34 2 1) (by omega) (by rw [up_kk (by decide), up_kk (by decide)]; exact g3) (by rw [up_kk (by decide), up_kk (by decide)]; exact g4) (fun j hj => by rw [up_off (by decide), up_off (by decide)]; exact ht1 j hj)
      refine ⟨M2, by rw [k1, Option.bind_some, pb_n, e_Text_step_84], ⟨fun k hk => ((k2 k hk).trans (up_off hk)).trans (u3 k hk), k3⟩, ?_, ?_, k6, fun z => absurd z (by decide)⟩
      · rw [k4, up_kk (by decide), up_ok]
      · rw [k5, up_ok]; rfl
    · rw [if_pos (bI_f q1), up_kk (show (5 : Nat) ≠ 3 by decide), g4, if_pos (pin_nI (by omega) (by decide)), nI_clamp (by omega), up_off (show (35 : Nat) ≠ 34 by decide), ht1 s q, c_isFigure, Option.bind_some, pb_i, e_Text_step_99, if_neg q1, if_neg q1]
      by_cases q2 : ifg (t s) = true
      · rw [if_neg (by rw [bI_t q2]; decide), d_Text_readNumber, if_pos q2, if_pos q2]
        obtain ⟨M2, k1, ⟨k2, k3⟩, k4, k5, k6, k7⟩ := c_rdN (X := X) (Ml := Ml) (t := t) (s := s) hN (N - s) s (pm_up (pm_up (pm_up M1 34 3 (nI s)) 34 2 2) 34 4 0) (by omega) (Nat.le_refl s) (by rw [up_kk (by decide), up_kk (by decide), up_kk (by decide)]; exact g3) (by rw [up_kk (by decide), up_kk (by decide), up_kk (by decide)]; exact g4) (fun j hj => by rw [up_off (by decide), up_off (by decide), up_off (by decide)]; exact ht1 j hj) (fun j a b => by omega) (fun _ => by rw [up_ok, Nat.sub_self]; rfl)
        refine ⟨M2, by rw [k1, Option.bind_some, pb_n, e_Text_step_106], ⟨fun k hk => (((k2 k hk).trans (up_off hk)).trans (up_off hk)).trans (u3 k hk), k3⟩, ?_, ?_, k6, fun _ => k7⟩
        · rw [k4, up_kk (by decide), up_kk (by decide), up_ok]
        · rw [k5, up_kk (by decide), up_ok]; rfl
      · rw [if_pos (bI_f q2), if_neg q2, if_neg q2]
        refine ⟨_, rfl, ⟨fun k hk => ((up_off hk).trans (up_off hk)).trans (u3 k hk), by rw [up_kk (by decide), up_kk (by decide), up_kk (by decide)]; exact g3⟩, by rw [up_kk (by decide), up_kk (by decide), up_ok], by rw [up_kk (by decide), up_ok]; rfl, by rw [up_ok, up_kk (by decide), g4, nI_1], fun z => absurd z (by decide)⟩
  · rw [if_neg (by rw [nI_lt' (by omega) (by omega)]; exact q), if_neg q, if_neg q]
    exact ⟨_, rfl, ⟨fun k hk => ((up_off hk).trans (up_off hk)).trans (g2 k hk), by rw [up_kk (by decide), up_kk (by decide)]; exact g3⟩, by rw [up_kk (by decide), up_ok], by rw [up_ok]; rfl, by rw [up_kk (by decide), up_kk (by decide)]; exact g4, fun z => absurd z (by decide)⟩
