/-! wider: the class's loop -/
def wdr (hs : Nat → Int32) (l1 l2 : List Int32) : Bool := l2.all (fun s => tkn (cl hs s) l1)
theorem wdr_drop {hs : Nat → Int32} {l1 l2 : List Int32} {i : Nat} (h : i < l2.length) : wdr hs l1 (l2.drop i) = (tkn (cl hs (l2.getD i 0)) l1 && wdr hs l1 (l2.drop (i + 1))) := by
  rw [drop_at h]; rfl
theorem c_wider_go {X : Nat × (Nat → Int32)} {Mi : MI} {Ml : ML} {c d : Nat} (hc : c < 40) (hd : d < 40) {l1 l2 : List Int32} (hr1 : rowA (Mi 27) (Mi 28) c l1) (hr2 : rowA (Mi 27) (Mi 28) d l2) : ∀ (n i : Nat), i + n = l2.length → pdn X m_CT_wider (34, [.ref 1, .int (nI c), .int (nI d), .int (nI i)], [], (sh0, Mi, Ml, mr0), 0, 0) = some (some (.int (bI (wdr (Mi 3) l1 (l2.drop i) = true))), (sh0, Mi, Ml, mr0)) := by
  have h8 := hr2.2.1
  have p40 : pin (nI d) 40 := pin_nI hd (by decide)
  have cc : (nI d).toNatClampNeg = d := nI_clamp (by omega)
  intro n
  induction n with
  | zero =>
    intro i hi
    obtain rfl : i = l2.length := by omega
    rw [e_CT_wider_34, if_pos p40, cc, hr2.1, if_neg (by rw [nI_lt' (by omega) (by omega)]; omega), List.drop_length]
    rfl
  | succ n ih =>
    intro i hi
    have ix : nI d * 8 + nI i = nI (8 * d + i) := by rw [show (8 : Int32) = nI 8 from rfl, nI_mul', nI_add, Nat.mul_comm]
    rw [e_CT_wider_34, if_pos p40, cc, hr2.1, if_pos (by rw [nI_lt' (by omega) (by omega)]; omega), d_Claims_versionAt, ix, if_pos (pin_nI (by omega) (by decide)), nI_clamp (by omega), Option.bind_some, pb_i, e_CT_wider_65, c_closed, Option.bind_some, pb_i, e_CT_wider_68, c_takesIn hc hr1, Option.bind_some, pb_i, e_CT_wider_71, hr2.2.2 i (by omega), nI_1, wdr_drop (show i < l2.length by omega)]
    cases h : tkn (cl (Mi 3) (l2.getD i 0)) l1
    · rw [if_pos (bI_f (by decide))]; rfl
    · rw [if_neg (by rw [bI_t rfl]; decide), ih (i + 1) (by omega), Bool.true_and]
