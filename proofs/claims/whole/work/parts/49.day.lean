/-! THE DAY of a version: the class's loop over elders -/
def dvF (lo : Int32) (ed eh : Nat → Int32) (s : Int32) : Nat → Nat → Int32 → Int32
  | 0, _, b => b
  | n + 1, j, b => dvF lo ed eh s n (j + 1) (if ¬ (ed j) < lo ∧ (ed j) < b ∧ (s &&& ((eh j) ^^^ (-1))) = 0 then ed j else b)
theorem c_vd_go {X : Nat × (Nat → Int32)} {Mi : MI} {Ml : ML} {o : Nat} (ho : o = 46 ∨ o = 48 ∨ o = 50 ∨ o = 52) {f E : Nat} (hf : f < 8) (hE : E ≤ 3) (h18 : Mi 18 f = nI E) (s lo : Int32) : ∀ (n j : Nat) (b w : Int32), j + n = E → pdn X m_Filings_versionDay (26, [.ref 11, .int s, .int (nI f), .ref o, .int b, .int lo, .int (nI j), .int w], [], (sh0, Mi, Ml, mr0), 0, 0) = some (some (.int (dvF lo (fun j => Mi 21 (3 * f + j)) (fun j => Mi 20 (3 * f + j)) s n j b)), (sh0, Mi, Ml, mr0)) := by
  have p8 : pin (nI f) 8 := pin_nI hf (by decide)
  have cf : (nI f).toNatClampNeg = f := nI_clamp (by omega)
  intro n
  induction n with
  | zero =>
    intro j b w hj
    obtain rfl : j = E := by omega
    rw [e_Filings_versionDay_26v1 _ _ _ ho, if_pos p8, cf, h18, if_neg (by rw [nI_lt' (by omega) (by omega)]; omega)]
    rfl
  | succ n ih =>
    intro j b w hj
    have i1 : nI f * 3 + nI j = nI (3 * f + j) := by rw [show (3 : Int32) = nI 3 from rfl, nI_mul', nI_add, Nat.mul_comm]
    have p24 : pin (nI (3 * f + j)) 24 := pin_nI (by omega) (by decide)
    rw [e_Filings_versionDay_26v1 _ _ _ ho, if_pos p8, cf, h18, if_pos (by rw [nI_lt' (by omega) (by omega)]; omega), i1, if_pos p24, nI_clamp (by omega), nI_1, dvF]
    by_cases h1 : (Mi 21 (3 * f + j)) < lo
    · rw [if_pos h1, if_neg (fun q => q.1 h1)]; exact ih _ _ _ (by omega)
    · rw [if_neg h1, if_pos p24]
      by_cases h2 : (Mi 21 (3 * f + j)) < b
      · rw [if_pos h2, if_pos p24]
        by_cases h3 : (s &&& ((Mi 20 (3 * f + j)) ^^^ (-1))) = 0
        · rw [if_pos h3, if_pos p24, if_pos ⟨h1, h2, h3⟩]; exact ih _ _ _ (by omega)
        · rw [if_neg h3, if_neg (fun q => h3 q.2.2)]; exact ih _ _ _ (by omega)
      · rw [if_neg h2, if_neg (fun q => h2 q.2.1)]; exact ih _ _ _ (by omega)
theorem c_versionDay {X : Nat × (Nat → Int32)} {Mi : MI} {Ml : ML} {o : Nat} (ho : o = 46 ∨ o = 48 ∨ o = 50 ∨ o = 52) {f E : Nat} (hf : f < 8) (hE : E ≤ 3) (h18 : Mi 18 f = nI E) (s : Int32) : pD X m_Filings_versionDay [.ref 11, .int s, .int (nI f), .ref o] (sh0, Mi, Ml, mr0) = some (some (.int (dvF (Mi 14 f - Mi (o + 1) 1) (fun j => Mi 21 (3 * f + j)) (fun j => Mi 20 (3 * f + j)) s E 0 (Mi 14 f))), (sh0, Mi, Ml, mr0)) := by
  have p8 : pin (nI f) 8 := pin_nI hf (by decide)
  have cf : (nI f).toNatClampNeg = f := nI_clamp (by omega)
  have c1 : Int32.toNatClampNeg 1 = 1 := by decide
  rw [d_Filings_versionDay _ _ _ ho, if_pos p8, if_pos p8, if_pos (by decide), cf, c1]
  have first : ∀ b lo : Int32, pdn X m_Filings_versionDay (26, [.ref 11, .int s, .int (nI f), .ref o, .int b, .int lo, .int 0, pm_nul], [], (sh0, Mi, Ml, mr0), 0, 0) = pdn X m_Filings_versionDay (26, [.ref 11, .int s, .int (nI f), .ref o, .int b, .int lo, .int (nI 0), .int 0], [], (sh0, Mi, Ml, mr0), 0, 0) := by
    intro b lo
    exact (e_Filings_versionDay_26 X Mi Ml ho s (nI f) b lo 0).trans (e_Filings_versionDay_26v1 X Mi Ml ho s (nI f) b lo 0 0).symm
  rw [first]
  exact c_vd_go ho hf hE h18 s _ E 0 _ 0 (by omega)
/-! the reference's loop over elders -/
theorem c_has {X : Nat × (Nat → Int32)} {Mi : MI} {Ml : ML} (a s : Int32) : pD X m_M_has [.int a, .int s] (sh0, Mi, Ml, mr0) = some (some (.int (bI ((s &&& (a ^^^ (-1))) = 0))), (sh0, Mi, Ml, mr0)) := by
  rw [d_M_has]
  by_cases h : (s &&& (a ^^^ (-1))) = 0
  · rw [if_pos h, bI_t h]
  · rw [if_neg h, bI_f h]
def dvM (fd yr : Int32) (ed eh : Nat → Int32) (s : Int32) : Nat → Nat → Int32 → Int32
  | 0, _, b => b
  | n + 1, j, b => dvM fd yr ed eh s n (j + 1) (if ¬ yr < (fd - ed j) ∧ (ed j) < b ∧ (s &&& ((eh j) ^^^ (-1))) = 0 then ed j else b)
theorem c_do_go {X : Nat × (Nat → Int32)} {Mi : MI} {Ml : ML} (hK : KOk (Mi 55)) {hs : Nat → Int32} (hH : HsOk (Mi 55) hs) {f E l : Nat} (hf : f < 8) (hl : l < 4) (hE : E ≤ 3) (h63 : Mi 63 f = nI E) (hset : ∀ j, j < E → pin (Mi 64 (3 * f + j)) 1073741824) (s : Int32) : ∀ (n j : Nat) (b w : Int32), j + n = E → pdn X m_M_dayOf (13, [.ref 54, .int (nI f), .int s, .int (nI l), .int b, .int (nI (3 * f + j)), .int w], [], (sh0, Mi, Ml, mr0), 0, 0) = some (some (.int (dvM (Mi 61 f) (Mi 66 (6 * l + 1)) (fun j => Mi 65 (3 * f + j)) (fun j => cl hs (Mi 64 (3 * f + j))) s n j b)), (sh0, Mi, Ml, mr0)) := by
  have p8 : pin (nI f) 8 := pin_nI hf (by decide)
  have cf : (nI f).toNatClampNeg = f := nI_clamp (by omega)
  have i6 : 6 * nI l + 1 = nI (6 * l + 1) := by rw [show (6 : Int32) = nI 6 from rfl, show (1 : Int32) = nI 1 from rfl, nI_mul', nI_add]
  have c6 : (nI (6 * l + 1)).toNatClampNeg = 6 * l + 1 := nI_clamp (by omega)
  have p6 : pin (nI (6 * l + 1)) 24 := pin_nI (by omega) (by decide)
  have i3 : 3 * nI f + nI E = nI (3 * f + E) := by rw [show (3 : Int32) = nI 3 from rfl, nI_mul', nI_add]
  intro n
  induction n with
  | zero =>
    intro j b w hj
    obtain rfl : j = E := by omega
    rw [e_M_dayOf_13v1, if_pos p8, cf, h63, i3, if_neg (by rw [nI_lt' (by omega) (by omega)]; omega)]
    rfl
  | succ n ih =>
    intro j b w hj
    have p24 : pin (nI (3 * f + j)) 24 := pin_nI (by omega) (by decide)
    have cj : (nI (3 * f + j)).toNatClampNeg = 3 * f + j := nI_clamp (by omega)
    have nx : nI (3 * f + j) + 1 = nI (3 * f + (j + 1)) := nI_1 _
    rw [e_M_dayOf_13v1, if_pos p8, cf, h63, i3, if_pos (by rw [nI_lt' (by omega) (by omega)]; omega), if_pos p8, if_pos p24, i6, if_pos p6, c6, cj, dvM]
    by_cases h1 : (Mi 66 (6 * l + 1)) < ((Mi 61 f) - (Mi 65 (3 * f + j)))
    · rw [if_pos h1, e_M_dayOf_78v1, e_M_dayOf_79v1, if_pos rfl, nx, if_neg (fun q => q.1 h1)]; exact ih _ _ _ (by omega)
    · rw [if_neg h1, if_pos p24, c_withKinds hK hH _ (hset j (by omega)), Option.bind_some, pb_i, e_M_dayOf_67v1, c_has, Option.bind_some, pb_i, e_M_dayOf_71v1]
      by_cases h3 : (s &&& ((cl hs (Mi 64 (3 * f + j))) ^^^ (-1))) = 0
      · rw [if_neg (by rw [bI_t h3]; decide), e_M_dayOf_79v1, if_neg (by decide), if_pos p24, cj, nx]
        by_cases h2 : (Mi 65 (3 * f + j)) < b
        · rw [if_pos h2, if_pos p24, if_pos ⟨h1, h2, h3⟩]; exact ih _ _ _ (by omega)
        · rw [if_neg h2, if_neg (fun q => h2 q.2.1)]; exact ih _ _ _ (by omega)
      · rw [if_pos (bI_f h3), e_M_dayOf_78v1, e_M_dayOf_79v1, if_pos rfl, nx, if_neg (fun q => h3 q.2.2)]; exact ih _ _ _ (by omega)
