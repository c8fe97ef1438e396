/-! SUBSETS in their order -/
theorem m_dbl {a b P : Nat} (hP : 0 < P) (hb : b < 2) : (2 * a + b) % (2 * P) = 2 * (a % P) + b := by
  have h := Nat.div_add_mod a P
  have hr := Nat.mod_lt a hP
  have e : 2 * a + b = 2 * P * (a / P) + (2 * (a % P) + b) := by
    have : 2 * P * (a / P) = 2 * (P * (a / P)) := Nat.mul_assoc 2 P (a / P)
    omega
  rw [e, Nat.mul_add_mod, Nat.mod_eq_of_lt (by omega)]
theorem and_dbl {a b c d : Nat} (hb : b < 2) (hd : d < 2) : (2 * a + b) &&& (2 * c + d) = 2 * (a &&& c) + (b &&& d) := by
  have hbd : b &&& d < 2 := Nat.lt_of_le_of_lt Nat.and_le_left hb
  apply Nat.eq_of_testBit_eq
  intro i
  rw [Nat.testBit_and]
  cases i with
  | zero =>
    rw [Nat.testBit_zero, Nat.testBit_zero, Nat.testBit_zero]
    rw [show (2 * a + b) % 2 = b by omega, show (2 * c + d) % 2 = d by omega, show (2 * (a &&& c) + (b &&& d)) % 2 = (b &&& d) by omega]
    have : b = 0 ∨ b = 1 := by omega
    have : d = 0 ∨ d = 1 := by omega
    rcases ‹b = 0 ∨ b = 1› with rfl | rfl <;> rcases ‹d = 0 ∨ d = 1› with rfl | rfl <;> rfl
  | succ i =>
    rw [Nat.testBit_succ, Nat.testBit_succ, Nat.testBit_succ]
    rw [show (2 * a + b) / 2 = a by omega, show (2 * c + d) / 2 = c by omega, show (2 * (a &&& c) + (b &&& d)) / 2 = (a &&& c) by omega, Nat.testBit_and]
def pd : Nat → Nat → Nat → Nat
  | 0, _, _ => 0
  | w + 1, S, n => if S % 2 = 0 then 2 * pd w (S / 2) n else n % 2 + 2 * pd w (S / 2) (n / 2)
theorem pd_and : ∀ (w S n : Nat), S < 2 ^ w → ((pd w S n + (2 ^ w - 1 - S)) % 2 ^ w) &&& S = pd w S n
  | 0, S, n, h => by
    have : S = 0 := by have : (2 : Nat) ^ 0 = 1 := rfl; omega
    subst this; rw [Nat.and_zero]; rfl
  | w + 1, S, n, h => by
    have hp : 0 < 2 ^ w := Nat.pow_pos (by decide)
    have e2 : (2 : Nat) ^ (w + 1) = 2 * 2 ^ w := by rw [Nat.pow_succ, Nat.mul_comm]
    rw [e2] at h ⊢
    rw [pd]
    by_cases q : S % 2 = 0
    · rw [if_pos q]
      have ih := pd_and w (S / 2) n (by omega)
      rw [show 2 * pd w (S / 2) n + (2 * 2 ^ w - 1 - S) = 2 * (pd w (S / 2) n + (2 ^ w - 1 - S / 2)) + 1 by omega, m_dbl hp (by decide)]
      have := and_dbl (a := (pd w (S / 2) n + (2 ^ w - 1 - S / 2)) % 2 ^ w) (b := 1) (c := S / 2) (d := 0) (by decide) (by decide)
      rw [show 2 * (S / 2) + 0 = S by omega] at this
      rw [this, ih]; rfl
    · rw [if_neg q]
      have ih := pd_and w (S / 2) (n / 2) (by omega)
      have hb : n % 2 < 2 := Nat.mod_lt _ (by decide)
      rw [show n % 2 + 2 * pd w (S / 2) (n / 2) + (2 * 2 ^ w - 1 - S) = 2 * (pd w (S / 2) (n / 2) + (2 ^ w - 1 - S / 2)) + n % 2 by omega, m_dbl hp hb]
      have := and_dbl (a := (pd w (S / 2) (n / 2) + (2 ^ w - 1 - S / 2)) % 2 ^ w) (b := n % 2) (c := S / 2) (d := 1) hb (by decide)
      rw [show 2 * (S / 2) + 1 = S by omega] at this
      rw [this, ih]
      have : n % 2 &&& 1 = n % 2 := by
        have : n % 2 = 0 ∨ n % 2 = 1 := by omega
        rcases this with e | e <;> rw [e] <;> rfl
      rw [this]; omega
theorem pd_inc : ∀ (w S n : Nat), S < 2 ^ w → ((pd w S n + (2 ^ w - S)) % 2 ^ w) &&& S = pd w S (n + 1)
  | 0, S, n, h => by
    have : S = 0 := by have : (2 : Nat) ^ 0 = 1 := rfl; omega
    subst this; rw [Nat.and_zero]; rfl
  | w + 1, S, n, h => by
    have hp : 0 < 2 ^ w := Nat.pow_pos (by decide)
    have e2 : (2 : Nat) ^ (w + 1) = 2 * 2 ^ w := by rw [Nat.pow_succ, Nat.mul_comm]
    rw [e2] at h ⊢
    rw [pd, pd]
    by_cases q : S % 2 = 0
    · rw [if_pos q, if_pos q]
      have ih := pd_inc w (S / 2) n (by omega)
      have m := m_dbl (a := pd w (S / 2) n + (2 ^ w - S / 2)) (b := 0) hp (by decide)
      rw [show 2 * (pd w (S / 2) n + (2 ^ w - S / 2)) + 0 = 2 * pd w (S / 2) n + (2 * 2 ^ w - S) by omega] at m
      have a := and_dbl (a := (pd w (S / 2) n + (2 ^ w - S / 2)) % 2 ^ w) (b := 0) (c := S / 2) (d := 0) (by decide) (by decide)
      rw [show 2 * (S / 2) + 0 = S by omega] at a
      rw [m, a, ih]; rfl
    · rw [if_neg q, if_neg q]
      by_cases r : n % 2 = 1
      · have ih := pd_inc w (S / 2) (n / 2) (by omega)
        have m := m_dbl (a := pd w (S / 2) (n / 2) + (2 ^ w - S / 2)) (b := 0) hp (by decide)
        rw [show 2 * (pd w (S / 2) (n / 2) + (2 ^ w - S / 2)) + 0 = n % 2 + 2 * pd w (S / 2) (n / 2) + (2 * 2 ^ w - S) by omega] at m
        have a := and_dbl (a := (pd w (S / 2) (n / 2) + (2 ^ w - S / 2)) % 2 ^ w) (b := 0) (c := S / 2) (d := 1) (by decide) (by decide)
        rw [show 2 * (S / 2) + 1 = S by omega] at a
        rw [m, a, ih, show (n + 1) % 2 = 0 by omega, show (n + 1) / 2 = n / 2 + 1 by omega, show (0 &&& 1 : Nat) = 0 from rfl]; omega
      · have ih := pd_and w (S / 2) (n / 2) (by omega)
        have m := m_dbl (a := pd w (S / 2) (n / 2) + (2 ^ w - 1 - S / 2)) (b := 1) hp (by decide)
        rw [show 2 * (pd w (S / 2) (n / 2) + (2 ^ w - 1 - S / 2)) + 1 = n % 2 + 2 * pd w (S / 2) (n / 2) + (2 * 2 ^ w - S) by omega] at m
        have a := and_dbl (a := (pd w (S / 2) (n / 2) + (2 ^ w - 1 - S / 2)) % 2 ^ w) (b := 1) (c := S / 2) (d := 1) (by decide) (by decide)
        rw [show 2 * (S / 2) + 1 = S by omega] at a
        rw [m, a, ih, show (n + 1) % 2 = 1 by omega, show (n + 1) / 2 = n / 2 by omega, show (1 &&& 1 : Nat) = 1 from rfl]; omega
theorem rk_sh (S i : Nat) : fb_ct (fun j => S.testBit j) (i + 1) = S % 2 + fb_ct (fun j => (S / 2).testBit j) i := by
  have h := fb_ct_split (fun j => S.testBit j) 1 i
  rw [Nat.add_comm 1 i] at h
  rw [h]
  congr 1
  · show 0 + (if S.testBit 0 then 1 else 0) = S % 2
    rw [Nat.testBit_zero]
    by_cases q : S % 2 = 1
    · rw [decide_eq_true q, q]; rfl
    · rw [decide_eq_false q]
      show 0 + 0 = S % 2
      omega
  · apply fb_ct_cong
    intro k _
    show S.testBit (1 + k) = (S / 2).testBit k
    rw [Nat.add_comm 1 k, Nat.testBit_succ]
theorem pd_bt : ∀ (w S n i : Nat), i < w → (pd w S n).testBit i = (S.testBit i && n.testBit (fb_ct (fun j => S.testBit j) i))
  | 0, _, _, i, h => absurd h (Nat.not_lt_zero i)
  | w + 1, S, n, 0, _ => by
    rw [pd, Nat.testBit_zero, Nat.testBit_zero]
    show _ = (decide (S % 2 = 1) && n.testBit 0)
    rw [Nat.testBit_zero]
    by_cases q : S % 2 = 0
    · rw [if_pos q, decide_eq_false (show ¬ S % 2 = 1 by omega), decide_eq_false (by omega)]; rfl
    · rw [if_neg q, decide_eq_true (show S % 2 = 1 by omega), Bool.true_and]
      congr 1
      rw [show (n % 2 + 2 * pd w (S / 2) (n / 2)) % 2 = n % 2 by omega]
  | w + 1, S, n, i + 1, h => by
    rw [pd, rk_sh, Nat.testBit_succ, Nat.testBit_succ]
    by_cases q : S % 2 = 0
    · rw [if_pos q, show 2 * pd w (S / 2) n / 2 = pd w (S / 2) n by omega, pd_bt w (S / 2) n i (by omega), q, Nat.zero_add]
    · rw [if_neg q, show (n % 2 + 2 * pd w (S / 2) (n / 2)) / 2 = pd w (S / 2) (n / 2) by omega, pd_bt w (S / 2) (n / 2) i (by omega), show S % 2 = 1 by omega, Nat.add_comm 1, Nat.testBit_succ]
theorem pd_lt : ∀ (w S n : Nat), pd w S n < 2 ^ w
  | 0, _, _ => Nat.zero_lt_one
  | w + 1, S, n => by
    rw [pd, Nat.pow_succ]
    have h1 := pd_lt w (S / 2) n
    have h2 := pd_lt w (S / 2) (n / 2)
    split <;> omega
theorem clr_bt : ∀ (w x i : Nat), x < 2 ^ w → i < w → (((x + (2 ^ w - 1)) % 2 ^ w) &&& x).testBit i = (x.testBit i && decide (0 < fb_ct (fun j => x.testBit j) i))
  | 0, _, i, _, h => absurd h (Nat.not_lt_zero i)
  | w + 1, x, i, hx, hi => by
    have hp : 0 < 2 ^ w := Nat.pow_pos (by decide)
    have e2 : (2 : Nat) ^ (w + 1) = 2 * 2 ^ w := by rw [Nat.pow_succ, Nat.mul_comm]
    rw [e2] at hx ⊢
    by_cases q : x % 2 = 1
    · have m := m_dbl (a := x / 2 + 2 ^ w) (b := 0) hp (by decide)
      rw [show 2 * (x / 2 + 2 ^ w) + 0 = x + (2 * 2 ^ w - 1) by omega, Nat.add_mod_right, Nat.mod_eq_of_lt (show x / 2 < 2 ^ w by omega)] at m
      have a := and_dbl (a := x / 2) (b := 0) (c := x / 2) (d := 1) (by decide) (by decide)
      rw [show 2 * (x / 2) + 1 = x by omega] at a
      rw [m, a, Nat.and_self, show (0 &&& 1 : Nat) = 0 from rfl]
      cases i with
      | zero =>
        rw [Nat.testBit_zero, decide_eq_false (by omega)]
        rw [decide_eq_false (show ¬ 0 < fb_ct (fun j => x.testBit j) 0 from Nat.lt_irrefl 0), Bool.and_false]
      | succ i =>
        rw [Nat.testBit_succ, Nat.testBit_succ, rk_sh, q, decide_eq_true (by omega), Bool.and_true, show (2 * (x / 2) + 0) / 2 = x / 2 by omega]
    · have m := m_dbl (a := x / 2 + (2 ^ w - 1)) (b := 1) hp (by decide)
      rw [show 2 * (x / 2 + (2 ^ w - 1)) + 1 = x + (2 * 2 ^ w - 1) by omega] at m
      have a := and_dbl (a := (x / 2 + (2 ^ w - 1)) % 2 ^ w) (b := 1) (c := x / 2) (d := 0) (by decide) (by decide)
      rw [show 2 * (x / 2) + 0 = x by omega] at a
      rw [m, a, show (1 &&& 0 : Nat) = 0 from rfl]
      cases i with
      | zero =>
        rw [Nat.testBit_zero, decide_eq_false (by omega)]
        rw [decide_eq_false (show ¬ 0 < fb_ct (fun j => x.testBit j) 0 from Nat.lt_irrefl 0), Bool.and_false]
      | succ i =>
        have ih := clr_bt w (x / 2) i (by omega) (by omega)
        rw [Nat.testBit_succ, Nat.testBit_succ, rk_sh, show x % 2 = 0 by omega, Nat.zero_add, show ∀ y, (2 * y + 0) / 2 = y from fun y => by omega, ih]
/-- the bits that stay when the first t are cleared -/
theorem rk_from (S : Nat → Bool) (t : Nat) : ∀ i, fb_ct (fun j => S j && decide (t ≤ fb_ct S j)) i = fb_ct S i - t
  | 0 => by show 0 = 0 - t; omega
  | i + 1 => by
    have ih := rk_from S t i
    rw [fb_ct_succ, fb_ct_succ, ih]
    cases S i
    · show fb_ct S i - t + 0 = fb_ct S i + 0 - t; omega
    · by_cases q : t ≤ fb_ct S i
      · rw [decide_eq_true q]; show fb_ct S i - t + 1 = fb_ct S i + 1 - t; omega
      · rw [decide_eq_false q]; show fb_ct S i - t + 0 = fb_ct S i + 1 - t; omega
theorem rk_upto (S : Nat → Bool) (t : Nat) : ∀ i, fb_ct (fun j => S j && decide (fb_ct S j < t)) i = min (fb_ct S i) t
  | 0 => by show 0 = min 0 t; omega
  | i + 1 => by
    have ih := rk_upto S t i
    rw [fb_ct_succ, fb_ct_succ, ih]
    cases S i
    · show min (fb_ct S i) t + 0 = min (fb_ct S i + 0) t; omega
    · by_cases q : fb_ct S i < t
      · rw [decide_eq_true q]; show min (fb_ct S i) t + 1 = min (fb_ct S i + 1) t; omega
      · rw [decide_eq_false q]; show min (fb_ct S i) t + 0 = min (fb_ct S i + 1) t; omega
theorem rk_dep (S : Nat → Bool) (n : Nat) : ∀ i, fb_ct (fun j => S j && n.testBit (fb_ct S j)) i = fb_ct (fun j => n.testBit j) (fb_ct S i)
  | 0 => rfl
  | i + 1 => by
    have ih := rk_dep S n i
    rw [fb_ct_succ, fb_ct_succ, ih]
    cases S i
    · rfl
    · show _ + (if n.testBit (fb_ct S i) = true then 1 else 0) = fb_ct _ (fb_ct S i + 1)
      rw [fb_ct_succ]
