/-! COUNTS of bits (rows to paste before it) -/
theorem nx_and (a b : Nat) : nI a &&& nI b = nI (a &&& b) := by
  apply Int32.toBitVec_inj.1
  show BitVec.ofNat 32 a &&& BitVec.ofNat 32 b = BitVec.ofNat 32 (a &&& b)
  apply BitVec.eq_of_getLsbD_eq
  intro i hi
  simp [hi]
theorem nx_cnt : ∀ j : Fin 32, (UInt32.ofNat j.val &&& Int32.toUInt32 31).toNat % 32 = j.val := by decide +kernel
def fb_ct (p : Nat → Bool) : Nat → Nat
  | 0 => 0
  | n + 1 => fb_ct p n + (if p n then 1 else 0)
theorem fb_ct_succ (p : Nat → Bool) (n : Nat) : fb_ct p (n + 1) = fb_ct p n + (if p n then 1 else 0) := rfl
theorem fb_ct_le (p : Nat → Bool) : ∀ n, fb_ct p n ≤ n
  | 0 => Nat.le_refl _
  | n + 1 => by
    have h := fb_ct_le p n
    rw [fb_ct_succ]
    split <;> omega
theorem fb_ct_step (p : Nat → Bool) (m : Nat) : ∀ n, fb_ct p m ≤ fb_ct p (m + n)
  | 0 => Nat.le_refl _
  | n + 1 => by
    have h := fb_ct_step p m n
    show fb_ct p m ≤ fb_ct p (m + n + 1)
    rw [fb_ct_succ]
    omega
theorem fb_ct_mono (p : Nat → Bool) {m n : Nat} (h : m ≤ n) : fb_ct p m ≤ fb_ct p n := by
  have := fb_ct_step p m (n - m)
  rwa [Nat.add_sub_cancel' h] at this
theorem fb_ct_cong {p q : Nat → Bool} : ∀ {n : Nat}, (∀ k, k < n → p k = q k) → fb_ct p n = fb_ct q n
  | 0, _ => rfl
  | n + 1, h => by
    rw [fb_ct_succ, fb_ct_succ, fb_ct_cong (fun k hk => h k (by omega)), h n (by omega)]
/-- one place changed -/
theorem fb_ct_sub {p q : Nat → Bool} : ∀ {n : Nat}, (∀ k, k < n → p k = true → q k = true) → fb_ct p n ≤ fb_ct q n
  | 0, _ => Nat.le_refl _
  | n + 1, h => by
    have h1 := fb_ct_sub (n := n) (p := p) (q := q) (fun k hk => h k (by omega))
    have h2 := h n (by omega)
    rw [fb_ct_succ, fb_ct_succ]
    cases hp : p n <;> cases hq : q n <;> simp_all <;> omega
theorem fb_ct_split (p : Nat → Bool) (m : Nat) : ∀ n, fb_ct p (m + n) = fb_ct p m + fb_ct (fun k => p (m + k)) n
  | 0 => rfl
  | n + 1 => by
    have h := fb_ct_split p m n
    show fb_ct p (m + n + 1) = _
    rw [fb_ct_succ, fb_ct_succ, h, Nat.add_assoc]
def W8 (a b c d : Nat) : Nat := 2 ^ 8 * (2 ^ 8 * (2 ^ 8 * a + b) + c) + d
theorem W8_tb {a b c d : Nat} (hb : b < 256) (hc : c < 256) (hd : d < 256) (n : Nat) : (W8 a b c d).testBit n = if n < 8 then d.testBit n else if n - 8 < 8 then c.testBit (n - 8) else if n - 8 - 8 < 8 then b.testBit (n - 8 - 8) else a.testBit (n - 8 - 8 - 8) := by
  unfold W8
  rw [Nat.testBit_two_pow_mul_add _ hd, Nat.testBit_two_pow_mul_add _ hc, Nat.testBit_two_pow_mul_add _ hb]
theorem n_and_lt {a m : Nat} (h : m < 256) : a &&& m < 256 := Nat.lt_of_le_of_lt Nat.and_le_right h
theorem W8_and {a b c d m : Nat} (hb : b < 256) (hc : c < 256) (hd : d < 256) (hm : m < 256) : W8 a b c d &&& W8 m m m m = W8 (a &&& m) (b &&& m) (c &&& m) (d &&& m) := by
  apply Nat.eq_of_testBit_eq
  intro n
  rw [Nat.testBit_and, W8_tb hb hc hd, W8_tb hm hm hm, W8_tb (n_and_lt hm) (n_and_lt hm) (n_and_lt hm)]
  simp only [Nat.testBit_and]
  by_cases h1 : n < 8
  · simp only [h1, if_true]
  · simp only [h1, if_false]
    by_cases h2 : n - 8 < 8
    · simp only [h2, if_true]
    · simp only [h2, if_false]
      by_cases h3 : n - 8 - 8 < 8
      · simp only [h3, if_true]
      · simp only [h3, if_false]
theorem W8_sh {a b c d m k : Nat} (ha : a < 256) (hb : b < 256) (hc : c < 256) (hd : d < 256) (hk : k ≤ 8) (hm : m < 2 ^ (8 - k)) : (W8 a b c d >>> k) &&& W8 m m m m = W8 ((a >>> k) &&& m) ((b >>> k) &&& m) ((c >>> k) &&& m) ((d >>> k) &&& m) := by
  have hm8 : m < 256 := Nat.lt_of_lt_of_le hm (Nat.pow_le_pow_right (n := 2) (by decide) (by omega : 8 - k ≤ 8))
  have hz : ∀ j, 8 - k ≤ j → m.testBit j = false := fun j hj => Nat.testBit_lt_two_pow (Nat.lt_of_lt_of_le hm (Nat.pow_le_pow_right (n := 2) (by decide) hj))
  apply Nat.eq_of_testBit_eq
  intro n
  rw [Nat.testBit_and, Nat.testBit_shiftRight, W8_tb hb hc hd, W8_tb hm8 hm8 hm8, W8_tb (n_and_lt hm8) (n_and_lt hm8) (n_and_lt hm8)]
  simp only [Nat.testBit_and, Nat.testBit_shiftRight]
  by_cases h1 : n < 8
  · simp only [h1, if_true]
    by_cases h : k + n < 8
    · simp only [h, if_true]
    · rw [hz n (by omega), Bool.and_false, Bool.and_false]
  · simp only [h1, if_false]
    have g1 : ¬ k + n < 8 := by omega
    simp only [g1, if_false]
    by_cases h2 : n - 8 < 8
    · simp only [h2, if_true]
      by_cases h : k + n - 8 < 8
      · simp only [h, if_true]; rw [show k + n - 8 = k + (n - 8) by omega]
      · rw [hz (n - 8) (by omega), Bool.and_false, Bool.and_false]
    · simp only [h2, if_false]
      have g2 : ¬ k + n - 8 < 8 := by omega
      simp only [g2, if_false]
      by_cases h3 : n - 8 - 8 < 8
      · simp only [h3, if_true]
        by_cases h : k + n - 8 - 8 < 8
        · simp only [h, if_true]; rw [show k + n - 8 - 8 = k + (n - 8 - 8) by omega]
        · rw [hz (n - 8 - 8) (by omega), Bool.and_false, Bool.and_false]
      · simp only [h3, if_false]
        have g3 : ¬ k + n - 8 - 8 < 8 := by omega
        simp only [g3, if_false]
        rw [show k + n - 8 - 8 - 8 = k + (n - 8 - 8 - 8) by omega]
theorem W8_lt {a b c d : Nat} (ha : a < 256) (hb : b < 256) (hc : c < 256) (hd : d < 256) : W8 a b c d < 4294967296 := by unfold W8; omega
theorem W8_ex {X : Nat} (h : X < 4294967296) : ∃ a b c d, a < 256 ∧ b < 256 ∧ c < 256 ∧ d < 256 ∧ X = W8 a b c d := by
  refine ⟨X / 16777216, X / 65536 % 256, X / 256 % 256, X % 256, by omega, by omega, by omega, by omega, ?_⟩
  unfold W8; omega
theorem nI_ush {k j : Nat} (hk : k < 4294967296) (hj : j < 32) : ((nI k).toUInt32 >>> ((nI j).toUInt32 &&& Int32.toUInt32 31)).toInt32 = nI (k >>> j) := by
  apply Int32.toBitVec_inj.mp
  apply BitVec.eq_of_getLsbD_eq
  intro i hi
  have := b_ushr j hj (nI k) i
  unfold bt at this
  rw [this]
  show (BitVec.ofNat 32 k).getLsbD (j + i) = (BitVec.ofNat 32 (k >>> j)).getLsbD i
  rw [BitVec.getLsbD_ofNat, BitVec.getLsbD_ofNat, Nat.testBit_shiftRight]
  by_cases h : j + i < 32
  · simp [h, hi]
  · have : k.testBit (j + i) = false := Nat.testBit_lt_two_pow (Nat.lt_of_lt_of_le hk (Nat.pow_le_pow_right (n := 2) (by decide) (by omega : 32 ≤ j + i)))
    rw [this]; simp
theorem nI_subN {a b : Nat} (h : b ≤ a) : nI a - nI b = nI (a - b) := by
  have e : nI a = nI (a - b) + nI b := by rw [nI_add]; congr 1; omega
  rw [e]
  apply Int32.toBitVec_inj.mp
  show (nI (a - b)).toBitVec + (nI b).toBitVec - (nI b).toBitVec = _
  rw [BitVec.add_sub_cancel]
def q1 (x : Nat) : Nat := x - ((x >>> 1) &&& 85)
def q2 (x : Nat) : Nat := (x &&& 51) + ((x >>> 2) &&& 51)
def q3 (x : Nat) : Nat := (x + (x >>> 4)) &&& 15
theorem q1_ok : ∀ x, x < 256 → ((x >>> 1) &&& 85) ≤ x := by decide +kernel
theorem q1_lt (x : Nat) (h : x < 256) : q1 x < 256 := by unfold q1; omega
theorem q2_lt (x : Nat) : q2 x < 256 := by
  unfold q2
  have h1 : x &&& 51 ≤ 51 := Nat.and_le_right
  have h2 : (x >>> 2) &&& 51 ≤ 51 := Nat.and_le_right
  omega
theorem q_ct : ∀ x, x < 256 → q3 (q2 (q1 x)) = fb_ct (fun j => x.testBit j) 8 := by decide +kernel
theorem q4_ok : ∀ x, x < 256 → q2 (q1 x) + (q2 (q1 x) >>> 4) < 256 := by decide +kernel
theorem q2_68 : ∀ x, x < 256 → q2 (q1 x) ≤ 68 := by decide +kernel
theorem n_and15 (x : Nat) : x &&& 15 = x % 16 := Nat.and_two_pow_sub_one_eq_mod x 4
theorem n_and63 (x : Nat) : x &&& 63 = x % 64 := Nat.and_two_pow_sub_one_eq_mod x 6
theorem q2_4 : ∀ x, x < 256 → q2 (q1 x) % 16 ≤ 4 := by decide +kernel
theorem W8_q3 {a b c d : Nat} (ha : a ≤ 68) (hb : b ≤ 68) (hc : c ≤ 68) (hd : d ≤ 68) (ka : a % 16 ≤ 4) (kb : b % 16 ≤ 4) (kc : c % 16 ≤ 4) : (W8 a b c d + (W8 a b c d >>> 4)) &&& W8 15 15 15 15 = W8 (q3 a) (q3 b) (q3 c) (q3 d) := by
  have e : W8 a b c d + (W8 a b c d >>> 4) = W8 (a + a / 16) (b + b / 16 + 16 * (a % 16)) (c + c / 16 + 16 * (b % 16)) (d + d / 16 + 16 * (c % 16)) := by
    rw [Nat.shiftRight_eq_div_pow]; unfold W8; omega
  rw [e, W8_and (by omega) (by omega) (by omega) (by decide)]
  unfold q3
  simp only [n_and15, Nat.shiftRight_eq_div_pow]
  congr 1 <;> omega
theorem fb_ct8 (p : Nat → Bool) : fb_ct p 32 = fb_ct p 8 + fb_ct (fun j => p (8 + j)) 8 + fb_ct (fun j => p (16 + j)) 8 + fb_ct (fun j => p (24 + j)) 8 := by
  rw [show (32 : Nat) = 24 + 8 from rfl, fb_ct_split p 24 8, show (24 : Nat) = 16 + 8 from rfl, fb_ct_split p 16 8, show (16 : Nat) = 8 + 8 from rfl, fb_ct_split p 8 8]
theorem bt_nI {N n : Nat} (hn : n < 32) : bt (nI N) n = N.testBit n := by
  show (BitVec.ofNat 32 N).getLsbD n = _
  rw [BitVec.getLsbD_ofNat]; simp [hn]
theorem q_sum {a b c d : Nat} (ha : a < 256) (hb : b < 256) (hc : c < 256) (hd : d < 256) : fb_ct (bt (nI (W8 a b c d))) 32 = q3 (q2 (q1 d)) + q3 (q2 (q1 c)) + q3 (q2 (q1 b)) + q3 (q2 (q1 a)) := by
  rw [fb_ct8, q_ct a ha, q_ct b hb, q_ct c hc, q_ct d hd]
  have t : ∀ k j, j < 8 → k ≤ 24 → bt (nI (W8 a b c d)) (k + j) = (W8 a b c d).testBit (k + j) := fun k j hj hk => bt_nI (by omega)
  congr 1
  · congr 1
    · congr 1
      · apply fb_ct_cong; intro j hj
        have := t 0 j hj (by omega); rw [Nat.zero_add] at this
        rw [this, W8_tb hb hc hd, if_pos hj]
      · apply fb_ct_cong; intro j hj
        show bt (nI (W8 a b c d)) (8 + j) = c.testBit j
        rw [t 8 j hj (by omega), W8_tb hb hc hd, if_neg (by omega), if_pos (by omega), Nat.add_sub_cancel_left]
    · apply fb_ct_cong; intro j hj
      show bt (nI (W8 a b c d)) (16 + j) = b.testBit j
      rw [t 16 j hj (by omega), W8_tb hb hc hd, if_neg (by omega), if_neg (by omega), if_pos (by omega), show 16 + j - 8 - 8 = j by omega]
  · apply fb_ct_cong; intro j hj
    show bt (nI (W8 a b c d)) (24 + j) = a.testBit j
    rw [t 24 j hj (by omega), W8_tb hb hc hd, if_neg (by omega), if_neg (by omega), if_neg (by omega), show 24 + j - 8 - 8 - 8 = j by omega]
theorem q3_8 : ∀ x, x < 256 → q3 (q2 (q1 x)) ≤ 8 := by decide +kernel
theorem c_bitCount {X : Nat × (Nat → Int32)} {Mi : MI} {Ml : ML} (x : Int32) : pD X m_Integer_bitCount [.int x] (sh0, Mi, Ml, mr0) = some (some (.int (nI (fb_ct (bt x) 32))), (sh0, Mi, Ml, mr0)) := by
  obtain ⟨N, hN, rfl⟩ : ∃ N, N < 4294967296 ∧ x = nI N := ⟨x.toBitVec.toNat, x.toBitVec.isLt, Int32.toBitVec_inj.mp (by show _ = BitVec.ofNat 32 _; simp)⟩
  obtain ⟨a, b, c, d, ha, hb, hc, hd, rfl⟩ := W8_ex hN
  rw [d_Integer_bitCount]
  have l1 : ∀ y, y < 4294967296 → ((Int32.toUInt32 (nI y) >>> (Int32.toUInt32 1 &&& Int32.toUInt32 31)).toInt32) = nI (y >>> 1) := fun y h => nI_ush (j := 1) h (by decide)
  have l2 : ∀ y, y < 4294967296 → ((Int32.toUInt32 (nI y) >>> (Int32.toUInt32 2 &&& Int32.toUInt32 31)).toInt32) = nI (y >>> 2) := fun y h => nI_ush (j := 2) h (by decide)
  have l4 : ∀ y, y < 4294967296 → ((Int32.toUInt32 (nI y) >>> (Int32.toUInt32 4 &&& Int32.toUInt32 31)).toInt32) = nI (y >>> 4) := fun y h => nI_ush (j := 4) h (by decide)
  have l8 : ∀ y, y < 4294967296 → ((Int32.toUInt32 (nI y) >>> (Int32.toUInt32 8 &&& Int32.toUInt32 31)).toInt32) = nI (y >>> 8) := fun y h => nI_ush (j := 8) h (by decide)
  have l16 : ∀ y, y < 4294967296 → ((Int32.toUInt32 (nI y) >>> (Int32.toUInt32 16 &&& Int32.toUInt32 31)).toInt32) = nI (y >>> 16) := fun y h => nI_ush (j := 16) h (by decide)
  have m1 : (1431655765 : Int32) = nI (W8 85 85 85 85) := by decide +kernel
  have m2 : (858993459 : Int32) = nI (W8 51 51 51 51) := by decide +kernel
  have m3 : (252645135 : Int32) = nI (W8 15 15 15 15) := by decide +kernel
  have m4 : (63 : Int32) = nI 63 := by decide +kernel
  have h1 : nI (W8 a b c d) - (((Int32.toUInt32 (nI (W8 a b c d)) >>> (Int32.toUInt32 1 &&& Int32.toUInt32 31)).toInt32) &&& 1431655765) = nI (W8 (q1 a) (q1 b) (q1 c) (q1 d)) := by
    have oa := q1_ok a ha; have ob := q1_ok b hb; have oc := q1_ok c hc; have od := q1_ok d hd
    rw [l1 _ hN, m1, nx_and, W8_sh ha hb hc hd (by decide) (by decide)]
    have e : W8 ((a >>> 1) &&& 85) ((b >>> 1) &&& 85) ((c >>> 1) &&& 85) ((d >>> 1) &&& 85) ≤ W8 a b c d := by unfold W8; omega
    rw [nI_subN e]; congr 1; unfold q1 W8; omega
  rw [h1]
  have p1 := q1_lt a ha; have p2 := q1_lt b hb; have p3 := q1_lt c hc; have p4 := q1_lt d hd
  have h2 : (nI (W8 (q1 a) (q1 b) (q1 c) (q1 d)) &&& 858993459) + (((Int32.toUInt32 (nI (W8 (q1 a) (q1 b) (q1 c) (q1 d))) >>> (Int32.toUInt32 2 &&& Int32.toUInt32 31)).toInt32) &&& 858993459) = nI (W8 (q2 (q1 a)) (q2 (q1 b)) (q2 (q1 c)) (q2 (q1 d))) := by
    rw [l2 _ (W8_lt p1 p2 p3 p4), m2, nx_and, nx_and, W8_sh p1 p2 p3 p4 (by decide) (by decide), W8_and p2 p3 p4 (by decide), nI_add]
    congr 1; unfold q2 W8; omega
  rw [h2]
  have r1 := q2_68 a ha; have r2 := q2_68 b hb; have r3 := q2_68 c hc; have r4 := q2_68 d hd
  have h3 : (nI (W8 (q2 (q1 a)) (q2 (q1 b)) (q2 (q1 c)) (q2 (q1 d))) + ((Int32.toUInt32 (nI (W8 (q2 (q1 a)) (q2 (q1 b)) (q2 (q1 c)) (q2 (q1 d)))) >>> (Int32.toUInt32 4 &&& Int32.toUInt32 31)).toInt32)) &&& 252645135 = nI (W8 (q3 (q2 (q1 a))) (q3 (q2 (q1 b))) (q3 (q2 (q1 c))) (q3 (q2 (q1 d)))) := by
    rw [l4 _ (W8_lt (by omega) (by omega) (by omega) (by omega)), nI_add, m3, nx_and, W8_q3 r1 r2 r3 r4 (q2_4 a ha) (q2_4 b hb) (q2_4 c hc)]
  rw [h3]
  have s1 := q3_8 a ha; have s2 := q3_8 b hb; have s3 := q3_8 c hc; have s4 := q3_8 d hd
  rw [l8 _ (W8_lt (by omega) (by omega) (by omega) (by omega)), nI_add, l16 _ (by rw [Nat.shiftRight_eq_div_pow]; unfold W8; omega), nI_add, m4, nx_and, q_sum ha hb hc hd]
  congr 4
  rw [n_and63]
  simp only [Nat.shiftRight_eq_div_pow]
  unfold W8
  congr 1
  generalize q3 (q2 (q1 a)) = A at *
  generalize q3 (q2 (q1 b)) = B at *
  generalize q3 (q2 (q1 c)) = C at *
  generalize q3 (q2 (q1 d)) = D at *
  clear h1 h2 h3 r1 r2 r3 r4 p1 p2 p3 p4 hN
  have e0 : 2 ^ 8 * (2 ^ 8 * (2 ^ 8 * A + B) + C) + D = 16777216 * A + 65536 * B + 256 * C + D := by omega
  have e1 : (16777216 * A + 65536 * B + 256 * C + D) / 2 ^ 8 = 65536 * A + 256 * B + C := by omega
  have e2 : (16777216 * A + 65536 * B + 256 * C + D + (65536 * A + 256 * B + C)) / 2 ^ 16 = 257 * A + B := by omega
  rw [e0, e1, e2]
  omega
/-- the reference counts the features of a set one by one -/
theorem fb_ct_hi {p : Nat → Bool} (h : ∀ i, 30 ≤ i → p i = false) : fb_ct p 32 = fb_ct p 30 := by
  rw [fb_ct_succ, fb_ct_succ, h 30 (by omega), h 31 (by omega)]; rfl
theorem c_bits_go {X : Nat × (Nat → Int32)} {Mi : MI} {Ml : ML} (s : Int32) : ∀ (n i : Nat), i + n = 30 → pdn X m_M_bits (4, [.int s, .int (nI (fb_ct (bt s) i)), .int (nI i)], [], (sh0, Mi, Ml, mr0), 0, 0) = some (some (.int (nI (fb_ct (bt s) 30))), (sh0, Mi, Ml, mr0)) := by
  intro n
  induction n with
  | zero =>
    intro i hi
    obtain rfl : i = 30 := by omega
    rw [e_M_bits_4, if_neg (by decide)]
  | succ n ih =>
    intro i hi
    rw [e_M_bits_4, if_pos ((x_nlt (n := 30) rfl (by omega)).mpr (by omega)), x_bit (by omega), nI_1]
    have := ih (i + 1) (by omega)
    rw [fb_ct_succ] at this
    have e : nI (fb_ct (bt s) i) + bI (bt s i = true) = nI (fb_ct (bt s) i + if bt s i then 1 else 0) := by
      cases h : bt s i
      · rw [bI_f (by decide)]; exact nI_add _ 0
      · rw [bI_t rfl]; exact nI_add _ 1
    rw [e]; exact this
theorem c_bits {X : Nat × (Nat → Int32)} {Mi : MI} {Ml : ML} (s : Int32) : pD X m_M_bits [.int s] (sh0, Mi, Ml, mr0) = some (some (.int (nI (fb_ct (bt s) 30))), (sh0, Mi, Ml, mr0)) := by
  rw [d_M_bits]; exact c_bits_go s 30 0 rfl
theorem c_bitCountS {X : Nat × (Nat → Int32)} {Mi : MI} {Ml : ML} (s : Int32) (h : pin s 1073741824) : pD X m_Integer_bitCount [.int s] (sh0, Mi, Ml, mr0) = some (some (.int (nI (fb_ct (bt s) 30))), (sh0, Mi, Ml, mr0)) := by
  rw [c_bitCount, fb_ct_hi (set_hi h)]
/-! what stands behind the constructors -/
theorem inv_k : ∀ f, f < 30 → (hp4.2.1 55 f) < 0 ∧ hp4.2.1 4 f = 0 := by decide +kernel
theorem inv_hs : ∀ f, f < 30 → ∀ g, g < 32 → bt (hp4.2.1 3 f) g = decide (g = f) := by decide +kernel
theorem inv_nr : ∀ a, a < 5 → ∀ b, b < 5 → hp4.2.1 56 (5 * a + b) = bI (bt (hp4.2.1 8 a) b = true) ∧ bt (hp4.2.1 8 a) b = bt (hp4.2.1 8 b) a ∧ bt (hp4.2.1 8 a) a = true := by decide +kernel
theorem inv_0 : (hp4.2.1 2 2 = 0 ∧ hp4.2.1 5 5 = 0 ∧ hp4.2.1 54 2 = 0 ∧ hp4.2.1 11 11 = 0 ∧ hp4.2.1 54 6 = 0) ∧ (hp4.2.1 34 1 = 0 ∧ hp4.2.1 54 16 = 0 ∧ hp4.2.1 1 10 = hp4.2.1 54 17 ∧ hp4.2.1 41 9 = 0 ∧ hp4.2.1 54 36 = 0) ∧ hp4.2.1 23 9 = 0 ∧ hp4.2.1 54 23 = 0 := by decide +kernel
theorem inv_r : ∀ k, k < 6 → hp4.2.1 47 k = hp4.2.1 66 (6 * 0 + k) ∧ hp4.2.1 49 k = hp4.2.1 66 (6 * 1 + k) ∧ hp4.2.1 51 k = hp4.2.1 66 (6 * 2 + k) ∧ hp4.2.1 53 k = hp4.2.1 66 (6 * 3 + k) := by decide +kernel
theorem inv_p : ∀ i, i < 32 → hp4.2.1 22 i = hp4.2.1 79 i ∧ hp4.2.1 22 i = -1 := by decide +kernel
theorem inv_f : ∀ i, i < 8 → hp4.2.1 18 i = 0 ∧ hp4.2.1 17 i = 0 ∧ hp4.2.1 75 i = 0 := by decide +kernel
theorem inv_rr : ∀ o, o = 47 ∨ o = 49 ∨ o = 51 ∨ o = 53 → (pin (hp4.2.1 o 0) 4 ∧ ¬ hp4.2.1 o 0 = 0) ∧ pin (hp4.2.1 o 1) 10000 ∧ pin (hp4.2.1 o 2) 10000 ∧ (hp4.2.1 o 3 = 0 ∨ hp4.2.1 o 3 = 1) ∧ pin (hp4.2.1 o 4) 10000 ∧ pin (hp4.2.1 o 5) 1073741824 := by
  rintro o (rfl | rfl | rfl | rfl) <;> decide +kernel
