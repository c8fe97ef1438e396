/-! whether a set takes in some version of a row -/
def tkn (A : Int32) (l : List Int32) : Bool := l.any (fun s => decide ((s &&& (A ^^^ (-1))) = 0))
theorem tkn_drop {A : Int32} {l : List Int32} {i : Nat} (h : i < l.length) : tkn A (l.drop i) = (decide ((l.getD i 0 &&& (A ^^^ (-1))) = 0) || tkn A (l.drop (i + 1))) := by
  rw [drop_at h]; rfl
theorem c_takes_go {X : Nat × (Nat → Int32)} {Mi : MI} {Ml : ML} {c : Nat} (hc : c < 40) {l : List Int32} (hr : rowA (Mi 27) (Mi 28) c l) (A : Int32) : ∀ (n i : Nat), i + n = l.length → pdn X m_Claims_takesIn (2, [.ref 23, .int (nI c), .int A, .int (nI i)], [], (sh0, Mi, Ml, mr0), 0, 0) = some (some (.int (bI (tkn A (l.drop i) = true))), (sh0, Mi, Ml, mr0)) := by
  have h8 := hr.2.1
  have p40 : pin (nI c) 40 := pin_nI hc (by decide)
  have cc : (nI c).toNatClampNeg = c := nI_clamp (by omega)
  intro n
  induction n with
  | zero =>
    intro i hi
    obtain rfl : i = l.length := by omega
    rw [e_Claims_takesIn_2, if_pos p40, cc, hr.1, if_neg (by rw [nI_lt' (by omega) (by omega)]; omega), List.drop_length]
    rfl
  | succ n ih =>
    intro i hi
    have ix : nI c * 8 + nI i = nI (8 * c + i) := by rw [show (8 : Int32) = nI 8 from rfl, nI_mul', nI_add, Nat.mul_comm]
    rw [e_Claims_takesIn_2, if_pos p40, cc, hr.1, if_pos (by rw [nI_lt' (by omega) (by omega)]; omega), d_Claims_versionAt, ix, if_pos (pin_nI (by omega) (by decide)), nI_clamp (by omega), Option.bind_some, pb_i, e_Claims_takesIn_18, hr.2.2 i (by omega), nI_1, tkn_drop (show i < l.length by omega)]
    by_cases h : (l.getD i 0 &&& (A ^^^ (-1))) = 0
    · rw [if_pos h, decide_eq_true h]; rfl
    · rw [if_neg h, ih (i + 1) (by omega), decide_eq_false h, Bool.false_or]
theorem c_takesIn {X : Nat × (Nat → Int32)} {Mi : MI} {Ml : ML} {c : Nat} (hc : c < 40) {l : List Int32} (hr : rowA (Mi 27) (Mi 28) c l) (A : Int32) : pD X m_Claims_takesIn [.ref 23, .int (nI c), .int A] (sh0, Mi, Ml, mr0) = some (some (.int (bI (tkn A l = true))), (sh0, Mi, Ml, mr0)) := by
  rw [d_Claims_takesIn]; exact c_takes_go hc hr A l.length 0 (by omega)
theorem c_hasV_go {X : Nat × (Nat → Int32)} {Mi : MI} {Ml : ML} {c : Nat} (hc : c < 40) {l : List Int32} (hr : rowA (Mi 76) (Mi 77) c l) (z A : Int32) : ∀ (n i : Nat) (g : Bool), i + n = l.length → pdn X m_M_hasVersion (12, [.ref 54, .int z, .int (nI c), .int A, .int (bI (g = true)), .int (nI i)], [], (sh0, Mi, Ml, mr0), 0, 0) = some (some (.int (bI ((g || tkn A (l.drop i)) = true))), (sh0, Mi, Ml, mr0)) := by
  have h8 := hr.2.1
  have p40 : pin (nI c) 40 := pin_nI hc (by decide)
  have cc : (nI c).toNatClampNeg = c := nI_clamp (by omega)
  intro n
  induction n with
  | zero =>
    intro i g hi
    obtain rfl : i = l.length := by omega
    rw [e_M_hasVersion_12, if_pos p40, cc, hr.1, if_neg (by rw [nI_lt' (by omega) (by omega)]; omega), if_pos (bI_nar _), List.drop_length]
    cases g <;> rfl
  | succ n ih =>
    intro i g hi
    have ix : 8 * nI c + nI i = nI (8 * c + i) := by rw [show (8 : Int32) = nI 8 from rfl, nI_mul', nI_add]
    rw [e_M_hasVersion_12, if_pos p40, cc, hr.1, if_pos (by rw [nI_lt' (by omega) (by omega)]; omega), tkn_drop (show i < l.length by omega), nI_1]
    cases g with
    | true =>
      rw [if_neg (by rw [bI_t rfl]; decide)]
      exact (ih (i + 1) true (by omega)).trans (by rfl)
    | false =>
      rw [if_pos (bI_f (by decide)), ix, if_pos (pin_nI (by omega) (by decide)), nI_clamp (by omega), c_has, Option.bind_some, pb_i, e_M_hasVersion_44, hr.2.2 i (by omega), nI_1]
      by_cases h : (l.getD i 0 &&& (A ^^^ (-1))) = 0
      · rw [if_neg (by rw [bI_t h]; decide)]
        refine (ih (i + 1) true (by omega)).trans ?_
        rw [decide_eq_true h]; rfl
      · rw [if_pos (bI_f h)]
        refine (ih (i + 1) false (by omega)).trans ?_
        rw [decide_eq_false h]; rfl
