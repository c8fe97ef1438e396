/-! claim: who hangs on a claim -/
def lb (x : Int64) (i : Nat) : Bool := x.toBitVec.getLsbD i
theorem l_s : ∀ n, n < 40 → (((nI n).toInt64 &&& 63).toBitVec.smod 64).toNat = n := by decide +kernel
theorem l_bit (x : Int64) {n : Nat} (hn : n < 40) : ((x >>> ((nI n).toInt64 &&& 63)) &&& 1) = if lb x n = true then 1 else 0 := by
  have h : ((x >>> ((nI n).toInt64 &&& 63)) &&& 1).toBitVec = if lb x n = true then 1#64 else 0#64 := by
    rw [Int64.toBitVec_and, Int64.toBitVec_shiftRight]
    apply BitVec.eq_of_getLsbD_eq
    intro i hi
    rw [BitVec.getLsbD_and, BitVec.sshiftRight_eq', l_s n hn, BitVec.getLsbD_sshiftRight]
    have e1 : (1 : Int64).toBitVec = 1#64 := rfl
    rw [e1]
    unfold lb
    by_cases h0 : i = 0
    · subst h0
      cases q : x.toBitVec.getLsbD n <;> simp [q, show n < 64 by omega]
    · cases q : x.toBitVec.getLsbD n <;> simp [h0]
  apply Int64.toBitVec_inj.mp
  rw [h]
  by_cases q : lb x n = true
  · rw [if_pos q, if_pos q]; rfl
  · rw [if_neg q, if_neg q]; rfl
theorem l_one {n i : Nat} (hn : n < 40) : lb ((1 : Int64) <<< ((nI n).toInt64 &&& 63)) i = decide (i = n) := by
  unfold lb
  rw [Int64.toBitVec_shiftLeft, BitVec.shiftLeft_eq', l_s n hn, BitVec.getLsbD_shiftLeft]
  have e1 : (1 : Int64).toBitVec = 1#64 := rfl
  rw [e1]
  by_cases h : i = n
  · subst h; simp; omega
  · rw [decide_eq_false h]
    by_cases q : i < n
    · simp [q]
    · have : i - n ≠ 0 := by omega
      simp [this]
theorem l_or (x y : Int64) (i : Nat) : lb (x ||| y) i = (lb x i || lb y i) := by unfold lb; rw [Int64.toBitVec_or, BitVec.getLsbD_or]
theorem l_0 (i : Nat) : lb 0 i = false := BitVec.getLsbD_zero
theorem l_c0 (p : Prop) [Decidable p] : lg_cmp (if p then (1 : Int64) else 0) 0 = 0 ↔ ¬ p := by
  by_cases q : p
  · rw [if_pos q]; exact ⟨fun h => absurd h (by decide +kernel), fun h => absurd q h⟩
  · rw [if_neg q]; exact ⟨fun _ => q, fun _ => by decide +kernel⟩
theorem l_c1 (p : Prop) [Decidable p] : lg_cmp (if p then (1 : Int64) else 0) 1 = 0 ↔ p := by
  by_cases q : p
  · rw [if_pos q]; exact ⟨fun _ => q, fun _ => by decide +kernel⟩
  · rw [if_neg q]; exact ⟨fun h => absurd h (by decide +kernel), fun h => absurd h q⟩
