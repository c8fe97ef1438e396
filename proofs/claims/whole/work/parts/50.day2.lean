/-! day -/
theorem fb_rng (x : Int32) : -2147483648 ≤ x.toInt ∧ x.toInt < 2147483648 := by
  have h1 := Int32.le_toInt x
  have h2 := Int32.toInt_lt x
  omega
theorem fb_bmod {z : Int} (h1 : -2147483648 ≤ z) (h2 : z < 2147483648) : z.bmod (2 ^ 32) = z := by
  rw [Int.bmod_eq_of_le (by omega) (by omega)]
theorem fb_addI {x y : Int32} (h1 : -2147483648 ≤ x.toInt + y.toInt) (h2 : x.toInt + y.toInt < 2147483648) : (x + y).toInt = x.toInt + y.toInt := by
  rw [Int32.toInt_add, fb_bmod h1 h2]
theorem fb_subI {x y : Int32} (h1 : -2147483648 ≤ x.toInt - y.toInt) (h2 : x.toInt - y.toInt < 2147483648) : (x - y).toInt = x.toInt - y.toInt := by
  rw [Int32.toInt_sub, fb_bmod h1 h2]
theorem fb_mulI {x y : Int32} (h1 : -2147483648 ≤ x.toInt * y.toInt) (h2 : x.toInt * y.toInt < 2147483648) : (x * y).toInt = x.toInt * y.toInt := by
  rw [Int32.toInt_mul, fb_bmod h1 h2]
theorem c_dayOf {X : Nat × (Nat → Int32)} {Mi : MI} {Ml : ML} (hK : KOk (Mi 55)) {hs : Nat → Int32} (hH : HsOk (Mi 55) hs) {f E l : Nat} (hf : f < 8) (hl : l < 4) (hE : E ≤ 3) (h63 : Mi 63 f = nI E) (hset : ∀ j, j < E → pin (Mi 64 (3 * f + j)) 1073741824) (s : Int32) : pD X m_M_dayOf [.ref 54, .int (nI f), .int s, .int (nI l)] (sh0, Mi, Ml, mr0) = some (some (.int (dvM (Mi 61 f) (Mi 66 (6 * l + 1)) (fun j => Mi 65 (3 * f + j)) (fun j => cl hs (Mi 64 (3 * f + j))) s E 0 (Mi 61 f))), (sh0, Mi, Ml, mr0)) := by
  have p8 : pin (nI f) 8 := pin_nI hf (by decide)
  have cf : (nI f).toNatClampNeg = f := nI_clamp (by omega)
  have i6 : 6 * nI l + 1 = nI (6 * l + 1) := by rw [show (6 : Int32) = nI 6 from rfl, show (1 : Int32) = nI 1 from rfl, nI_mul', nI_add]
  have c6 : (nI (6 * l + 1)).toNatClampNeg = 6 * l + 1 := nI_clamp (by omega)
  have p6 : pin (nI (6 * l + 1)) 24 := pin_nI (by omega) (by decide)
  have i3 : 3 * nI f + nI E = nI (3 * f + E) := by rw [show (3 : Int32) = nI 3 from rfl, nI_mul', nI_add]
  have i0 : 3 * nI f = nI (3 * f + 0) := by rw [show (3 : Int32) = nI 3 from rfl, nI_mul']; rfl
  rw [d_M_dayOf, if_pos p8, cf, i0]
  cases E with
  | zero =>
    rw [e_M_dayOf_13, if_pos p8, cf, h63, i3, if_neg (by rw [nI_lt' (by omega) (by omega)]; omega)]
    rfl
  | succ n =>
    have ih := c_do_go (X := X) (Ml := Ml) hK hH hf hl hE h63 hset s
    have p24 : pin (nI (3 * f + 0)) 24 := pin_nI (by omega) (by decide)
    have cj : (nI (3 * f + 0)).toNatClampNeg = 3 * f + 0 := nI_clamp (by omega)
    have nx : nI (3 * f + 0) + 1 = nI (3 * f + (0 + 1)) := nI_1 _
    rw [e_M_dayOf_13, if_pos p8, cf, h63, i3, if_pos (by rw [nI_lt' (by omega) (by omega)]; omega), if_pos p8, if_pos p24, i6, if_pos p6, c6, cj, dvM]
    by_cases h1 : (Mi 66 (6 * l + 1)) < ((Mi 61 f) - (Mi 65 (3 * f + 0)))
    · rw [if_pos h1, e_M_dayOf_78, e_M_dayOf_79, if_pos rfl, nx, if_neg (fun q => q.1 h1)]; exact ih _ _ _ _ (by omega)
    · rw [if_neg h1, if_pos p24, c_withKinds hK hH _ (hset 0 (by omega)), Option.bind_some, pb_i, e_M_dayOf_67, c_has, Option.bind_some, pb_i, e_M_dayOf_71]
      by_cases h3 : (s &&& ((cl hs (Mi 64 (3 * f + 0))) ^^^ (-1))) = 0
      · rw [if_neg (by rw [bI_t h3]; decide), e_M_dayOf_79, if_neg (by decide), if_pos p24, cj, nx]
        by_cases h2 : (Mi 65 (3 * f + 0)) < (Mi 61 f)
        · rw [if_pos h2, if_pos p24, if_pos ⟨h1, h2, h3⟩]; exact ih _ _ _ _ (by omega)
        · rw [if_neg h2, if_neg (fun q => h2 q.2.1)]; exact ih _ _ _ _ (by omega)
      · rw [if_pos (bI_f h3), e_M_dayOf_78, e_M_dayOf_79, if_pos rfl, nx, if_neg (fun q => h3 q.2.2)]; exact ih _ _ _ _ (by omega)
theorem dv_eq {fd yr : Int32} {ed eh edM ehM : Nat → Int32} {E : Nat} (hfd : pin fd 20001) (hyr : pin yr 10000) (hed : ∀ j, j < E → ed j = edM j ∧ eh j = ehM j ∧ pin (ed j) 20001) (s : Int32) : ∀ (n j : Nat) (b : Int32), j + n = E → dvF (fd - yr) ed eh s n j b = dvM fd yr edM ehM s n j b := by
  intro n
  induction n with
  | zero => intro j b _; rfl
  | succ n ih =>
    intro j b hj
    obtain ⟨e1, e2, e3⟩ := hed j (by omega)
    rw [dvF, dvM, ih (j + 1) _ (by omega), ← e1, ← e2]
    have a1 := hfd.1; have a2 := hfd.2; have a3 := hyr.1; have a4 := hyr.2; have a5 := e3.1; have a6 := e3.2
    have s1 : (fd - yr).toInt = fd.toInt - yr.toInt := fb_subI (by omega) (by omega)
    have s2 : (fd - ed j).toInt = fd.toInt - (ed j).toInt := fb_subI (by omega) (by omega)
    have : (¬ (ed j) < (fd - yr)) ↔ (¬ yr < (fd - ed j)) := by rw [x_lt, x_lt, s1, s2]; omega
    by_cases q : ¬ (ed j) < (fd - yr) ∧ (ed j) < b ∧ (s &&& ((eh j) ^^^ (-1))) = 0
    · rw [if_pos q, if_pos ⟨this.mp q.1, q.2⟩]
    · rw [if_neg q, if_neg (fun r => q ⟨this.mpr r.1, r.2⟩)]
