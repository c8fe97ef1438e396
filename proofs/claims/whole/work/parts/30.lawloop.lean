/-! THE LAW'S LOOP over one relation -/
abbrev MI : Type := Nat → Nat → Int32
abbrev ML : Type := Nat → Nat → Int64
abbrev hh (Mi : MI) (Ml : ML) : PHp := (sh0, Mi, Ml, mr0)
def LStp (Inv : MI → ML → Prop) (X : Nat × (Nat → Int32)) (mC mM : Nat) (as : List Value) (Mi : MI) (Ml : ML) : Prop := ∃ (r : Int32) (Mi1 : MI) (Ml1 : ML) (Mi2 : MI) (Ml2 : ML), pD X mC (.ref 1 :: as) (hh Mi Ml) = some (some (.int r), hh Mi1 Ml1) ∧ pD X mM (.ref 54 :: as) (hh Mi1 Ml1) = some (some (.int r), hh Mi2 Ml2) ∧ Inv Mi2 Ml2
def AllLStp (Inv : MI → ML → Prop) (X : Nat × (Nat → Int32)) (Mi : MI) (Ml : ML) : Prop := (∀ (a b : Int32), LStp Inv X m_CT_kind m_M_kind [.int a, .int b] Mi Ml) ∧ (∀ (a : Int32), LStp Inv X m_CT_with m_M_with [.int a] Mi Ml) ∧ (∀ (a b t : Int32), t = 0 ∨ t = 1 → LStp Inv X m_CT_near m_M_near [.int a, .int b, .int t] Mi Ml) ∧ (∀ (a b c : Int32), LStp Inv X m_CT_paper m_M_paper [.int a, .int b, .int c] Mi Ml) ∧ (∀ (a b c : Int32), LStp Inv X m_CT_filing m_M_filing [.int a, .int b, .int c] Mi Ml) ∧ (∀ (a b c : Int32), LStp Inv X m_CT_elder m_M_elder [.int a, .int b, .int c] Mi Ml) ∧ (∀ (a : Int32), LStp Inv X m_CT_count m_M_count [.int a] Mi Ml) ∧ (∀ (a : Int32) (b : Int64), LStp Inv X m_CT_feed m_M_feed [.int a, .long b] Mi Ml) ∧ (∀ (a : Int32), LStp Inv X m_CT_claims m_M_claims [.int a] Mi Ml) ∧ (∀ (a : Int32), LStp Inv X m_CT_rules m_M_rules [.int a] Mi Ml) ∧ LStp Inv X m_CT_fault m_M_fault [] Mi Ml ∧ (∀ (a b : Int32), LStp Inv X m_CT_rule m_M_rule [.int a, .int b] Mi Ml) ∧ (∀ (a : Int32), LStp Inv X m_CT_first m_M_first1 [.int a] Mi Ml) ∧ (∀ (a b : Int32), LStp Inv X m_CT_claim m_M_claim [.int a, .int b] Mi Ml) ∧ (∀ (a b : Int32), LStp Inv X m_CT_version m_M_version [.int a, .int b] Mi Ml) ∧ (∀ (a b c : Int32), LStp Inv X m_CT_day m_M_day [.int a, .int b, .int c] Mi Ml) ∧ (∀ (a b c : Int32), LStp Inv X m_CT_does m_M_does [.int a, .int b, .int c] Mi Ml) ∧ (∀ (a b c : Int32), LStp Inv X m_CT_by m_M_by [.int a, .int b, .int c] Mi Ml) ∧ (∀ (a b : Int32), LStp Inv X m_CT_stands m_M_stands [.int a, .int b] Mi Ml) ∧ (∀ (a b : Int32), LStp Inv X m_CT_wider m_M_wider [.int a, .int b] Mi Ml) ∧ (∀ (a b : Int32), LStp Inv X m_CT_narrow m_M_narrow [.int a, .int b] Mi Ml) ∧ (∀ (a b : Int32), LStp Inv X m_CT_toNarrow m_M_toNarrow [.int a, .int b] Mi Ml) ∧ (∀ (a b c : Int32), LStp Inv X m_CT_pay m_M_pay [.int a, .int b, .int c] Mi Ml) ∧ (∀ (a b c : Int32), LStp Inv X m_CT_force m_M_force [.int a, .int b, .int c] Mi Ml) ∧ (∀ (a b c : Int32), LStp Inv X m_CT_product m_M_product [.int a, .int b, .int c] Mi Ml) ∧ (∀ (a b c d : Int32), LStp Inv X m_CT_falls m_M_falls [.int a, .int b, .int c, .int d] Mi Ml) ∧ (∀ (a b c : Int32), LStp Inv X m_CT_around m_M_around [.int a, .int b, .int c] Mi Ml) ∧ (∀ (a b c : Int32), LStp Inv X m_CT_since m_M_since [.int a, .int b, .int c] Mi Ml)
theorem lw_op_0 {Inv : MI → ML → Prop} {X : Nat × (Nat → Int32)} {Mi : MI} {Ml : ML} {v3 : Int32} (hps : ∀ k : Int32, k = 1 ∨ k = 2 ∨ k = 3 ∨ k = 4 → pin (v3 + k) X.1) (h : LStp Inv X m_CT_kind m_M_kind [.int (X.2 (Int32.toNatClampNeg (v3 + 1))), .int (X.2 (Int32.toNatClampNeg (v3 + 2)))] Mi Ml) : ∃ Mi2 Ml2, pdn X m_L_law (160, [.ref 2000, .ref 1, .ref 54, .int v3], [], (sh0, Mi, Ml, mr0), 2002, 200052) = pdn X m_L_law (18, [.ref 2000, .ref 1, .ref 54, .int (v3 + 5)], [], (sh0, Mi2, Ml2, mr0), 2002, 200052) ∧ Inv Mi2 Ml2 := by
  have p1 := hps 1 (by simp)
  have p2 := hps 2 (by simp)
  obtain ⟨r, Mi1, Ml1, Mi2, Ml2, h1, h2, hI⟩ := h
  refine ⟨Mi2, Ml2, ?_, hI⟩
  rw [e_law_160, if_pos p1, if_pos p2, h1]
  show pdn X m_L_law (174, [.ref 2000, .ref 1, .ref 54, .int v3], [.int r], (sh0, Mi1, Ml1, mr0), 2002, 200052) = _
  rw [e_law_174, if_pos p1, if_pos p2, h2]
  show pdn X m_L_law (188, [.ref 2000, .ref 1, .ref 54, .int v3], [.int r, .int r], (sh0, Mi2, Ml2, mr0), 2002, 200052) = _
  rw [e_law_188, if_pos rfl, e_law_1200]
theorem lw_op_1 {Inv : MI → ML → Prop} {X : Nat × (Nat → Int32)} {Mi : MI} {Ml : ML} {v3 : Int32} (hps : ∀ k : Int32, k = 1 ∨ k = 2 ∨ k = 3 ∨ k = 4 → pin (v3 + k) X.1) (h : LStp Inv X m_CT_with m_M_with [.int (X.2 (Int32.toNatClampNeg (v3 + 1)))] Mi Ml) : ∃ Mi2 Ml2, pdn X m_L_law (193, [.ref 2000, .ref 1, .ref 54, .int v3], [], (sh0, Mi, Ml, mr0), 2002, 200052) = pdn X m_L_law (18, [.ref 2000, .ref 1, .ref 54, .int (v3 + 5)], [], (sh0, Mi2, Ml2, mr0), 2002, 200052) ∧ Inv Mi2 Ml2 := by
  have p1 := hps 1 (by simp)
  obtain ⟨r, Mi1, Ml1, Mi2, Ml2, h1, h2, hI⟩ := h
  refine ⟨Mi2, Ml2, ?_, hI⟩
  rw [e_law_193, if_pos p1, h1]
  show pdn X m_L_law (202, [.ref 2000, .ref 1, .ref 54, .int v3], [.int r], (sh0, Mi1, Ml1, mr0), 2002, 200052) = _
  rw [e_law_202, if_pos p1, h2]
  show pdn X m_L_law (211, [.ref 2000, .ref 1, .ref 54, .int v3], [.int r, .int r], (sh0, Mi2, Ml2, mr0), 2002, 200052) = _
  rw [e_law_211, if_pos rfl, e_law_1200]
theorem lw_op_2 {Inv : MI → ML → Prop} {X : Nat × (Nat → Int32)} {Mi : MI} {Ml : ML} {v3 : Int32} (hps : ∀ k : Int32, k = 1 ∨ k = 2 ∨ k = 3 ∨ k = 4 → pin (v3 + k) X.1) (h : ∀ (a b t : Int32), t = 0 ∨ t = 1 → LStp Inv X m_CT_near m_M_near [.int a, .int b, .int t] Mi Ml) : ∃ Mi2 Ml2, pdn X m_L_law (216, [.ref 2000, .ref 1, .ref 54, .int v3], [], (sh0, Mi, Ml, mr0), 2002, 200052) = pdn X m_L_law (18, [.ref 2000, .ref 1, .ref 54, .int (v3 + 5)], [], (sh0, Mi2, Ml2, mr0), 2002, 200052) ∧ Inv Mi2 Ml2 := by
  have p1 := hps 1 (by simp)
  have p2 := hps 2 (by simp)
  have p3 := hps 3 (by simp)
  by_cases hz : (X.2 (Int32.toNatClampNeg (v3 + 3))) = 0
  · obtain ⟨r, Mi1, Ml1, Mi2, Ml2, h1, h2, hI⟩ := h (X.2 (Int32.toNatClampNeg (v3 + 1))) (X.2 (Int32.toNatClampNeg (v3 + 2))) 0 (Or.inl rfl)
    refine ⟨Mi2, Ml2, ?_, hI⟩
    rw [e_law_216, if_pos p1, if_pos p2, if_pos p3, if_pos hz, e_law_240, h1]
    show pdn X m_L_law (243, [.ref 2000, .ref 1, .ref 54, .int v3], [.int r], (sh0, Mi1, Ml1, mr0), 2002, 200052) = _
    rw [e_law_243, if_pos p1, if_pos p2, if_pos p3, if_pos hz, e_law_267, h2]
    show pdn X m_L_law (270, [.ref 2000, .ref 1, .ref 54, .int v3], [.int r, .int r], (sh0, Mi2, Ml2, mr0), 2002, 200052) = _
    rw [e_law_270, if_pos rfl, e_law_1200]
  · obtain ⟨r, Mi1, Ml1, Mi2, Ml2, h1, h2, hI⟩ := h (X.2 (Int32.toNatClampNeg (v3 + 1))) (X.2 (Int32.toNatClampNeg (v3 + 2))) 1 (Or.inr rfl)
    refine ⟨Mi2, Ml2, ?_, hI⟩
    rw [e_law_216, if_pos p1, if_pos p2, if_pos p3, if_neg hz, e_law_240, h1]
    show pdn X m_L_law (243, [.ref 2000, .ref 1, .ref 54, .int v3], [.int r], (sh0, Mi1, Ml1, mr0), 2002, 200052) = _
    rw [e_law_243, if_pos p1, if_pos p2, if_pos p3, if_neg hz, e_law_267, h2]
    show pdn X m_L_law (270, [.ref 2000, .ref 1, .ref 54, .int v3], [.int r, .int r], (sh0, Mi2, Ml2, mr0), 2002, 200052) = _
    rw [e_law_270, if_pos rfl, e_law_1200]
theorem lw_op_3 {Inv : MI → ML → Prop} {X : Nat × (Nat → Int32)} {Mi : MI} {Ml : ML} {v3 : Int32} (hps : ∀ k : Int32, k = 1 ∨ k = 2 ∨ k = 3 ∨ k = 4 → pin (v3 + k) X.1) (h : LStp Inv X m_CT_paper m_M_paper [.int (X.2 (Int32.toNatClampNeg (v3 + 1))), .int (X.2 (Int32.toNatClampNeg (v3 + 2))), .int (X.2 (Int32.toNatClampNeg (v3 + 3)))] Mi Ml) : ∃ Mi2 Ml2, pdn X m_L_law (275, [.ref 2000, .ref 1, .ref 54, .int v3], [], (sh0, Mi, Ml, mr0), 2002, 200052) = pdn X m_L_law (18, [.ref 2000, .ref 1, .ref 54, .int (v3 + 5)], [], (sh0, Mi2, Ml2, mr0), 2002, 200052) ∧ Inv Mi2 Ml2 := by
  have p1 := hps 1 (by simp)
  have p2 := hps 2 (by simp)
  have p3 := hps 3 (by simp)
  obtain ⟨r, Mi1, Ml1, Mi2, Ml2, h1, h2, hI⟩ := h
  refine ⟨Mi2, Ml2, ?_, hI⟩
  rw [e_law_275, if_pos p1, if_pos p2, if_pos p3, h1]
  show pdn X m_L_law (294, [.ref 2000, .ref 1, .ref 54, .int v3], [.int r], (sh0, Mi1, Ml1, mr0), 2002, 200052) = _
  rw [e_law_294, if_pos p1, if_pos p2, if_pos p3, h2]
  show pdn X m_L_law (313, [.ref 2000, .ref 1, .ref 54, .int v3], [.int r, .int r], (sh0, Mi2, Ml2, mr0), 2002, 200052) = _
  rw [e_law_313, if_pos rfl, e_law_1200]
theorem lw_op_4 {Inv : MI → ML → Prop} {X : Nat × (Nat → Int32)} {Mi : MI} {Ml : ML} {v3 : Int32} (hps : ∀ k : Int32, k = 1 ∨ k = 2 ∨ k = 3 ∨ k = 4 → pin (v3 + k) X.1) (h : LStp Inv X m_CT_filing m_M_filing [.int (X.2 (Int32.toNatClampNeg (v3 + 1))), .int (X.2 (Int32.toNatClampNeg (v3 + 2))), .int (X.2 (Int32.toNatClampNeg (v3 + 3)))] Mi Ml) : ∃ Mi2 Ml2, pdn X m_L_law (318, [.ref 2000, .ref 1, .ref 54, .int v3], [], (sh0, Mi, Ml, mr0), 2002, 200052) = pdn X m_L_law (18, [.ref 2000, .ref 1, .ref 54, .int (v3 + 5)], [], (sh0, Mi2, Ml2, mr0), 2002, 200052) ∧ Inv Mi2 Ml2 := by
  have p1 := hps 1 (by simp)
  have p2 := hps 2 (by simp)
  have p3 := hps 3 (by simp)
  obtain ⟨r, Mi1, Ml1, Mi2, Ml2, h1, h2, hI⟩ := h
  refine ⟨Mi2, Ml2, ?_, hI⟩
  rw [e_law_318, if_pos p1, if_pos p2, if_pos p3, h1]
  show pdn X m_L_law (337, [.ref 2000, .ref 1, .ref 54, .int v3], [.int r], (sh0, Mi1, Ml1, mr0), 2002, 200052) = _
  rw [e_law_337, if_pos p1, if_pos p2, if_pos p3, h2]
  show pdn X m_L_law (356, [.ref 2000, .ref 1, .ref 54, .int v3], [.int r, .int r], (sh0, Mi2, Ml2, mr0), 2002, 200052) = _
  rw [e_law_356, if_pos rfl, e_law_1200]
theorem lw_op_5 {Inv : MI → ML → Prop} {X : Nat × (Nat → Int32)} {Mi : MI} {Ml : ML} {v3 : Int32} (hps : ∀ k : Int32, k = 1 ∨ k = 2 ∨ k = 3 ∨ k = 4 → pin (v3 + k) X.1) (h : LStp Inv X m_CT_elder m_M_elder [.int (X.2 (Int32.toNatClampNeg (v3 + 1))), .int (X.2 (Int32.toNatClampNeg (v3 + 2))), .int (X.2 (Int32.toNatClampNeg (v3 + 3)))] Mi Ml) : ∃ Mi2 Ml2, pdn X m_L_law (361, [.ref 2000, .ref 1, .ref 54, .int v3], [], (sh0, Mi, Ml, mr0), 2002, 200052) = pdn X m_L_law (18, [.ref 2000, .ref 1, .ref 54, .int (v3 + 5)], [], (sh0, Mi2, Ml2, mr0), 2002, 200052) ∧ Inv Mi2 Ml2 := by
  have p1 := hps 1 (by simp)
  have p2 := hps 2 (by simp)
  have p3 := hps 3 (by simp)
  obtain ⟨r, Mi1, Ml1, Mi2, Ml2, h1, h2, hI⟩ := h
  refine ⟨Mi2, Ml2, ?_, hI⟩
  rw [e_law_361, if_pos p1, if_pos p2, if_pos p3, h1]
  show pdn X m_L_law (380, [.ref 2000, .ref 1, .ref 54, .int v3], [.int r], (sh0, Mi1, Ml1, mr0), 2002, 200052) = _
  rw [e_law_380, if_pos p1, if_pos p2, if_pos p3, h2]
  show pdn X m_L_law (399, [.ref 2000, .ref 1, .ref 54, .int v3], [.int r, .int r], (sh0, Mi2, Ml2, mr0), 2002, 200052) = _
  rw [e_law_399, if_pos rfl, e_law_1200]
theorem lw_op_6 {Inv : MI → ML → Prop} {X : Nat × (Nat → Int32)} {Mi : MI} {Ml : ML} {v3 : Int32} (hps : ∀ k : Int32, k = 1 ∨ k = 2 ∨ k = 3 ∨ k = 4 → pin (v3 + k) X.1) (h : LStp Inv X m_CT_count m_M_count [.int (X.2 (Int32.toNatClampNeg (v3 + 1)))] Mi Ml) : ∃ Mi2 Ml2, pdn X m_L_law (404, [.ref 2000, .ref 1, .ref 54, .int v3], [], (sh0, Mi, Ml, mr0), 2002, 200052) = pdn X m_L_law (18, [.ref 2000, .ref 1, .ref 54, .int (v3 + 5)], [], (sh0, Mi2, Ml2, mr0), 2002, 200052) ∧ Inv Mi2 Ml2 := by
  have p1 := hps 1 (by simp)
  obtain ⟨r, Mi1, Ml1, Mi2, Ml2, h1, h2, hI⟩ := h
  refine ⟨Mi2, Ml2, ?_, hI⟩
  rw [e_law_404, if_pos p1, h1]
  show pdn X m_L_law (413, [.ref 2000, .ref 1, .ref 54, .int v3], [.int r], (sh0, Mi1, Ml1, mr0), 2002, 200052) = _
  rw [e_law_413, if_pos p1, h2]
  show pdn X m_L_law (422, [.ref 2000, .ref 1, .ref 54, .int v3], [.int r, .int r], (sh0, Mi2, Ml2, mr0), 2002, 200052) = _
  rw [e_law_422, if_pos rfl, e_law_1200]
theorem lw_op_7 {Inv : MI → ML → Prop} {X : Nat × (Nat → Int32)} {Mi : MI} {Ml : ML} {v3 : Int32} (hps : ∀ k : Int32, k = 1 ∨ k = 2 ∨ k = 3 ∨ k = 4 → pin (v3 + k) X.1) (h : LStp Inv X m_CT_feed m_M_feed [.int (X.2 (Int32.toNatClampNeg (v3 + 1))), .long (((Int32.toInt64 (X.2 (Int32.toNatClampNeg (v3 + 2)))) <<< ((32 : Int32).toInt64 &&& 63)) ||| ((Int32.toInt64 (X.2 (Int32.toNatClampNeg (v3 + 3)))) &&& 4294967295))] Mi Ml) : ∃ Mi2 Ml2, pdn X m_L_law (427, [.ref 2000, .ref 1, .ref 54, .int v3], [], (sh0, Mi, Ml, mr0), 2002, 200052) = pdn X m_L_law (18, [.ref 2000, .ref 1, .ref 54, .int (v3 + 5)], [], (sh0, Mi2, Ml2, mr0), 2002, 200052) ∧ Inv Mi2 Ml2 := by
  have p1 := hps 1 (by simp)
  have p2 := hps 2 (by simp)
  have p3 := hps 3 (by simp)
  obtain ⟨r, Mi1, Ml1, Mi2, Ml2, h1, h2, hI⟩ := h
  refine ⟨Mi2, Ml2, ?_, hI⟩
  rw [e_law_427, if_pos p1, if_pos p2, if_pos p3, h1]
  show pdn X m_L_law (456, [.ref 2000, .ref 1, .ref 54, .int v3], [.int r], (sh0, Mi1, Ml1, mr0), 2002, 200052) = _
  rw [e_law_456, if_pos p1, if_pos p2, if_pos p3, h2]
  show pdn X m_L_law (485, [.ref 2000, .ref 1, .ref 54, .int v3], [.int r, .int r], (sh0, Mi2, Ml2, mr0), 2002, 200052) = _
  rw [e_law_485, if_pos rfl, e_law_1200]
theorem lw_op_8 {Inv : MI → ML → Prop} {X : Nat × (Nat → Int32)} {Mi : MI} {Ml : ML} {v3 : Int32} (hps : ∀ k : Int32, k = 1 ∨ k = 2 ∨ k = 3 ∨ k = 4 → pin (v3 + k) X.1) (h : LStp Inv X m_CT_claims m_M_claims [.int (X.2 (Int32.toNatClampNeg (v3 + 1)))] Mi Ml) : ∃ Mi2 Ml2, pdn X m_L_law (490, [.ref 2000, .ref 1, .ref 54, .int v3], [], (sh0, Mi, Ml, mr0), 2002, 200052) = pdn X m_L_law (18, [.ref 2000, .ref 1, .ref 54, .int (v3 + 5)], [], (sh0, Mi2, Ml2, mr0), 2002, 200052) ∧ Inv Mi2 Ml2 := by
  have p1 := hps 1 (by simp)
  obtain ⟨r, Mi1, Ml1, Mi2, Ml2, h1, h2, hI⟩ := h
  refine ⟨Mi2, Ml2, ?_, hI⟩
  rw [e_law_490, if_pos p1, h1]
  show pdn X m_L_law (499, [.ref 2000, .ref 1, .ref 54, .int v3], [.int r], (sh0, Mi1, Ml1, mr0), 2002, 200052) = _
  rw [e_law_499, if_pos p1, h2]
  show pdn X m_L_law (508, [.ref 2000, .ref 1, .ref 54, .int v3], [.int r, .int r], (sh0, Mi2, Ml2, mr0), 2002, 200052) = _
  rw [e_law_508, if_pos rfl, e_law_1200]
theorem lw_op_9 {Inv : MI → ML → Prop} {X : Nat × (Nat → Int32)} {Mi : MI} {Ml : ML} {v3 : Int32} (hps : ∀ k : Int32, k = 1 ∨ k = 2 ∨ k = 3 ∨ k = 4 → pin (v3 + k) X.1) (h : LStp Inv X m_CT_rules m_M_rules [.int (X.2 (Int32.toNatClampNeg (v3 + 1)))] Mi Ml) : ∃ Mi2 Ml2, pdn X m_L_law (513, [.ref 2000, .ref 1, .ref 54, .int v3], [], (sh0, Mi, Ml, mr0), 2002, 200052) = pdn X m_L_law (18, [.ref 2000, .ref 1, .ref 54, .int (v3 + 5)], [], (sh0, Mi2, Ml2, mr0), 2002, 200052) ∧ Inv Mi2 Ml2 := by
  have p1 := hps 1 (by simp)
  obtain ⟨r, Mi1, Ml1, Mi2, Ml2, h1, h2, hI⟩ := h
  refine ⟨Mi2, Ml2, ?_, hI⟩
  rw [e_law_513, if_pos p1, h1]
  show pdn X m_L_law (522, [.ref 2000, .ref 1, .ref 54, .int v3], [.int r], (sh0, Mi1, Ml1, mr0), 2002, 200052) = _
  rw [e_law_522, if_pos p1, h2]
  show pdn X m_L_law (531, [.ref 2000, .ref 1, .ref 54, .int v3], [.int r, .int r], (sh0, Mi2, Ml2, mr0), 2002, 200052) = _
  rw [e_law_531, if_pos rfl, e_law_1200]
theorem lw_op_10 {Inv : MI → ML → Prop} {X : Nat × (Nat → Int32)} {Mi : MI} {Ml : ML} {v3 : Int32} (hps : ∀ k : Int32, k = 1 ∨ k = 2 ∨ k = 3 ∨ k = 4 → pin (v3 + k) X.1) (h : LStp Inv X m_CT_fault m_M_fault [] Mi Ml) : ∃ Mi2 Ml2, pdn X m_L_law (536, [.ref 2000, .ref 1, .ref 54, .int v3], [], (sh0, Mi, Ml, mr0), 2002, 200052) = pdn X m_L_law (18, [.ref 2000, .ref 1, .ref 54, .int (v3 + 5)], [], (sh0, Mi2, Ml2, mr0), 2002, 200052) ∧ Inv Mi2 Ml2 := by
  have p0 := hps 1 (by simp)
  obtain ⟨r, Mi1, Ml1, Mi2, Ml2, h1, h2, hI⟩ := h
  refine ⟨Mi2, Ml2, ?_, hI⟩
  rw [e_law_536, h1]
  show pdn X m_L_law (540, [.ref 2000, .ref 1, .ref 54, .int v3], [.int r], (sh0, Mi1, Ml1, mr0), 2002, 200052) = _
  rw [e_law_540, h2]
  show pdn X m_L_law (544, [.ref 2000, .ref 1, .ref 54, .int v3], [.int r, .int r], (sh0, Mi2, Ml2, mr0), 2002, 200052) = _
  rw [e_law_544, if_pos rfl, e_law_1200]
theorem lw_op_11 {Inv : MI → ML → Prop} {X : Nat × (Nat → Int32)} {Mi : MI} {Ml : ML} {v3 : Int32} (hps : ∀ k : Int32, k = 1 ∨ k = 2 ∨ k = 3 ∨ k = 4 → pin (v3 + k) X.1) (h : LStp Inv X m_CT_rule m_M_rule [.int (X.2 (Int32.toNatClampNeg (v3 + 1))), .int (X.2 (Int32.toNatClampNeg (v3 + 2)))] Mi Ml) : ∃ Mi2 Ml2, pdn X m_L_law (549, [.ref 2000, .ref 1, .ref 54, .int v3], [], (sh0, Mi, Ml, mr0), 2002, 200052) = pdn X m_L_law (18, [.ref 2000, .ref 1, .ref 54, .int (v3 + 5)], [], (sh0, Mi2, Ml2, mr0), 2002, 200052) ∧ Inv Mi2 Ml2 := by
  have p1 := hps 1 (by simp)
  have p2 := hps 2 (by simp)
  obtain ⟨r, Mi1, Ml1, Mi2, Ml2, h1, h2, hI⟩ := h
  refine ⟨Mi2, Ml2, ?_, hI⟩
  rw [e_law_549, if_pos p1, if_pos p2, h1]
  show pdn X m_L_law (563, [.ref 2000, .ref 1, .ref 54, .int v3], [.int r], (sh0, Mi1, Ml1, mr0), 2002, 200052) = _
  rw [e_law_563, if_pos p1, if_pos p2, h2]
  show pdn X m_L_law (577, [.ref 2000, .ref 1, .ref 54, .int v3], [.int r, .int r], (sh0, Mi2, Ml2, mr0), 2002, 200052) = _
  rw [e_law_577, if_pos rfl, e_law_1200]
theorem lw_op_12 {Inv : MI → ML → Prop} {X : Nat × (Nat → Int32)} {Mi : MI} {Ml : ML} {v3 : Int32} (hps : ∀ k : Int32, k = 1 ∨ k = 2 ∨ k = 3 ∨ k = 4 → pin (v3 + k) X.1) (h : LStp Inv X m_CT_first m_M_first1 [.int (X.2 (Int32.toNatClampNeg (v3 + 1)))] Mi Ml) : ∃ Mi2 Ml2, pdn X m_L_law (582, [.ref 2000, .ref 1, .ref 54, .int v3], [], (sh0, Mi, Ml, mr0), 2002, 200052) = pdn X m_L_law (18, [.ref 2000, .ref 1, .ref 54, .int (v3 + 5)], [], (sh0, Mi2, Ml2, mr0), 2002, 200052) ∧ Inv Mi2 Ml2 := by
  have p1 := hps 1 (by simp)
  obtain ⟨r, Mi1, Ml1, Mi2, Ml2, h1, h2, hI⟩ := h
  refine ⟨Mi2, Ml2, ?_, hI⟩
  rw [e_law_582, if_pos p1, h1]
  show pdn X m_L_law (591, [.ref 2000, .ref 1, .ref 54, .int v3], [.int r], (sh0, Mi1, Ml1, mr0), 2002, 200052) = _
  rw [e_law_591, if_pos p1, h2]
  show pdn X m_L_law (600, [.ref 2000, .ref 1, .ref 54, .int v3], [.int r, .int r], (sh0, Mi2, Ml2, mr0), 2002, 200052) = _
  rw [e_law_600, if_pos rfl, e_law_1200]
theorem lw_op_13 {Inv : MI → ML → Prop} {X : Nat × (Nat → Int32)} {Mi : MI} {Ml : ML} {v3 : Int32} (hps : ∀ k : Int32, k = 1 ∨ k = 2 ∨ k = 3 ∨ k = 4 → pin (v3 + k) X.1) (h : LStp Inv X m_CT_claim m_M_claim [.int (X.2 (Int32.toNatClampNeg (v3 + 1))), .int (X.2 (Int32.toNatClampNeg (v3 + 2)))] Mi Ml) : ∃ Mi2 Ml2, pdn X m_L_law (605, [.ref 2000, .ref 1, .ref 54, .int v3], [], (sh0, Mi, Ml, mr0), 2002, 200052) = pdn X m_L_law (18, [.ref 2000, .ref 1, .ref 54, .int (v3 + 5)], [], (sh0, Mi2, Ml2, mr0), 2002, 200052) ∧ Inv Mi2 Ml2 := by
  have p1 := hps 1 (by simp)
  have p2 := hps 2 (by simp)
  obtain ⟨r, Mi1, Ml1, Mi2, Ml2, h1, h2, hI⟩ := h
  refine ⟨Mi2, Ml2, ?_, hI⟩
  rw [e_law_605, if_pos p1, if_pos p2, h1]
  show pdn X m_L_law (619, [.ref 2000, .ref 1, .ref 54, .int v3], [.int r], (sh0, Mi1, Ml1, mr0), 2002, 200052) = _
  rw [e_law_619, if_pos p1, if_pos p2, h2]
  show pdn X m_L_law (633, [.ref 2000, .ref 1, .ref 54, .int v3], [.int r, .int r], (sh0, Mi2, Ml2, mr0), 2002, 200052) = _
  rw [e_law_633, if_pos rfl, e_law_1200]
theorem lw_op_14 {Inv : MI → ML → Prop} {X : Nat × (Nat → Int32)} {Mi : MI} {Ml : ML} {v3 : Int32} (hps : ∀ k : Int32, k = 1 ∨ k = 2 ∨ k = 3 ∨ k = 4 → pin (v3 + k) X.1) (h : LStp Inv X m_CT_version m_M_version [.int (X.2 (Int32.toNatClampNeg (v3 + 1))), .int (X.2 (Int32.toNatClampNeg (v3 + 2)))] Mi Ml) : ∃ Mi2 Ml2, pdn X m_L_law (638, [.ref 2000, .ref 1, .ref 54, .int v3], [], (sh0, Mi, Ml, mr0), 2002, 200052) = pdn X m_L_law (18, [.ref 2000, .ref 1, .ref 54, .int (v3 + 5)], [], (sh0, Mi2, Ml2, mr0), 2002, 200052) ∧ Inv Mi2 Ml2 := by
  have p1 := hps 1 (by simp)
  have p2 := hps 2 (by simp)
  obtain ⟨r, Mi1, Ml1, Mi2, Ml2, h1, h2, hI⟩ := h
  refine ⟨Mi2, Ml2, ?_, hI⟩
  rw [e_law_638, if_pos p1, if_pos p2, h1]
  show pdn X m_L_law (652, [.ref 2000, .ref 1, .ref 54, .int v3], [.int r], (sh0, Mi1, Ml1, mr0), 2002, 200052) = _
  rw [e_law_652, if_pos p1, if_pos p2, h2]
  show pdn X m_L_law (666, [.ref 2000, .ref 1, .ref 54, .int v3], [.int r, .int r], (sh0, Mi2, Ml2, mr0), 2002, 200052) = _
  rw [e_law_666, if_pos rfl, e_law_1200]
theorem lw_op_15 {Inv : MI → ML → Prop} {X : Nat × (Nat → Int32)} {Mi : MI} {Ml : ML} {v3 : Int32} (hps : ∀ k : Int32, k = 1 ∨ k = 2 ∨ k = 3 ∨ k = 4 → pin (v3 + k) X.1) (h : LStp Inv X m_CT_day m_M_day [.int (X.2 (Int32.toNatClampNeg (v3 + 1))), .int (X.2 (Int32.toNatClampNeg (v3 + 2))), .int (X.2 (Int32.toNatClampNeg (v3 + 3)))] Mi Ml) : ∃ Mi2 Ml2, pdn X m_L_law (671, [.ref 2000, .ref 1, .ref 54, .int v3], [], (sh0, Mi, Ml, mr0), 2002, 200052) = pdn X m_L_law (18, [.ref 2000, .ref 1, .ref 54, .int (v3 + 5)], [], (sh0, Mi2, Ml2, mr0), 2002, 200052) ∧ Inv Mi2 Ml2 := by
  have p1 := hps 1 (by simp)
  have p2 := hps 2 (by simp)
  have p3 := hps 3 (by simp)
  obtain ⟨r, Mi1, Ml1, Mi2, Ml2, h1, h2, hI⟩ := h
  refine ⟨Mi2, Ml2, ?_, hI⟩
  rw [e_law_671, if_pos p1, if_pos p2, if_pos p3, h1]
  show pdn X m_L_law (690, [.ref 2000, .ref 1, .ref 54, .int v3], [.int r], (sh0, Mi1, Ml1, mr0), 2002, 200052) = _
  rw [e_law_690, if_pos p1, if_pos p2, if_pos p3, h2]
  show pdn X m_L_law (709, [.ref 2000, .ref 1, .ref 54, .int v3], [.int r, .int r], (sh0, Mi2, Ml2, mr0), 2002, 200052) = _
  rw [e_law_709, if_pos rfl, e_law_1200]
theorem lw_op_16 {Inv : MI → ML → Prop} {X : Nat × (Nat → Int32)} {Mi : MI} {Ml : ML} {v3 : Int32} (hps : ∀ k : Int32, k = 1 ∨ k = 2 ∨ k = 3 ∨ k = 4 → pin (v3 + k) X.1) (h : LStp Inv X m_CT_does m_M_does [.int (X.2 (Int32.toNatClampNeg (v3 + 1))), .int (X.2 (Int32.toNatClampNeg (v3 + 2))), .int (X.2 (Int32.toNatClampNeg (v3 + 3)))] Mi Ml) : ∃ Mi2 Ml2, pdn X m_L_law (714, [.ref 2000, .ref 1, .ref 54, .int v3], [], (sh0, Mi, Ml, mr0), 2002, 200052) = pdn X m_L_law (18, [.ref 2000, .ref 1, .ref 54, .int (v3 + 5)], [], (sh0, Mi2, Ml2, mr0), 2002, 200052) ∧ Inv Mi2 Ml2 := by
  have p1 := hps 1 (by simp)
  have p2 := hps 2 (by simp)
  have p3 := hps 3 (by simp)
  obtain ⟨r, Mi1, Ml1, Mi2, Ml2, h1, h2, hI⟩ := h
  refine ⟨Mi2, Ml2, ?_, hI⟩
  rw [e_law_714, if_pos p1, if_pos p2, if_pos p3, h1]
  show pdn X m_L_law (733, [.ref 2000, .ref 1, .ref 54, .int v3], [.int r], (sh0, Mi1, Ml1, mr0), 2002, 200052) = _
  rw [e_law_733, if_pos p1, if_pos p2, if_pos p3, h2]
  show pdn X m_L_law (752, [.ref 2000, .ref 1, .ref 54, .int v3], [.int r, .int r], (sh0, Mi2, Ml2, mr0), 2002, 200052) = _
  rw [e_law_752, if_pos rfl, e_law_1200]
theorem lw_op_17 {Inv : MI → ML → Prop} {X : Nat × (Nat → Int32)} {Mi : MI} {Ml : ML} {v3 : Int32} (hps : ∀ k : Int32, k = 1 ∨ k = 2 ∨ k = 3 ∨ k = 4 → pin (v3 + k) X.1) (h : LStp Inv X m_CT_by m_M_by [.int (X.2 (Int32.toNatClampNeg (v3 + 1))), .int (X.2 (Int32.toNatClampNeg (v3 + 2))), .int (X.2 (Int32.toNatClampNeg (v3 + 3)))] Mi Ml) : ∃ Mi2 Ml2, pdn X m_L_law (757, [.ref 2000, .ref 1, .ref 54, .int v3], [], (sh0, Mi, Ml, mr0), 2002, 200052) = pdn X m_L_law (18, [.ref 2000, .ref 1, .ref 54, .int (v3 + 5)], [], (sh0, Mi2, Ml2, mr0), 2002, 200052) ∧ Inv Mi2 Ml2 := by
  have p1 := hps 1 (by simp)
  have p2 := hps 2 (by simp)
  have p3 := hps 3 (by simp)
  obtain ⟨r, Mi1, Ml1, Mi2, Ml2, h1, h2, hI⟩ := h
  refine ⟨Mi2, Ml2, ?_, hI⟩
  rw [e_law_757, if_pos p1, if_pos p2, if_pos p3, h1]
  show pdn X m_L_law (776, [.ref 2000, .ref 1, .ref 54, .int v3], [.int r], (sh0, Mi1, Ml1, mr0), 2002, 200052) = _
  rw [e_law_776, if_pos p1, if_pos p2, if_pos p3, h2]
  show pdn X m_L_law (795, [.ref 2000, .ref 1, .ref 54, .int v3], [.int r, .int r], (sh0, Mi2, Ml2, mr0), 2002, 200052) = _
  rw [e_law_795, if_pos rfl, e_law_1200]
theorem lw_op_18 {Inv : MI → ML → Prop} {X : Nat × (Nat → Int32)} {Mi : MI} {Ml : ML} {v3 : Int32} (hps : ∀ k : Int32, k = 1 ∨ k = 2 ∨ k = 3 ∨ k = 4 → pin (v3 + k) X.1) (h : LStp Inv X m_CT_stands m_M_stands [.int (X.2 (Int32.toNatClampNeg (v3 + 1))), .int (X.2 (Int32.toNatClampNeg (v3 + 2)))] Mi Ml) : ∃ Mi2 Ml2, pdn X m_L_law (800, [.ref 2000, .ref 1, .ref 54, .int v3], [], (sh0, Mi, Ml, mr0), 2002, 200052) = pdn X m_L_law (18, [.ref 2000, .ref 1, .ref 54, .int (v3 + 5)], [], (sh0, Mi2, Ml2, mr0), 2002, 200052) ∧ Inv Mi2 Ml2 := by
  have p1 := hps 1 (by simp)
  have p2 := hps 2 (by simp)
  obtain ⟨r, Mi1, Ml1, Mi2, Ml2, h1, h2, hI⟩ := h
  refine ⟨Mi2, Ml2, ?_, hI⟩
  rw [e_law_800, if_pos p1, if_pos p2, h1]
  show pdn X m_L_law (814, [.ref 2000, .ref 1, .ref 54, .int v3], [.int r], (sh0, Mi1, Ml1, mr0), 2002, 200052) = _
  rw [e_law_814, if_pos p1, if_pos p2, h2]
  show pdn X m_L_law (828, [.ref 2000, .ref 1, .ref 54, .int v3], [.int r, .int r], (sh0, Mi2, Ml2, mr0), 2002, 200052) = _
  rw [e_law_828, if_pos rfl, e_law_1200]
theorem lw_op_19 {Inv : MI → ML → Prop} {X : Nat × (Nat → Int32)} {Mi : MI} {Ml : ML} {v3 : Int32} (hps : ∀ k : Int32, k = 1 ∨ k = 2 ∨ k = 3 ∨ k = 4 → pin (v3 + k) X.1) (h : LStp Inv X m_CT_wider m_M_wider [.int (X.2 (Int32.toNatClampNeg (v3 + 1))), .int (X.2 (Int32.toNatClampNeg (v3 + 2)))] Mi Ml) : ∃ Mi2 Ml2, pdn X m_L_law (833, [.ref 2000, .ref 1, .ref 54, .int v3], [], (sh0, Mi, Ml, mr0), 2002, 200052) = pdn X m_L_law (18, [.ref 2000, .ref 1, .ref 54, .int (v3 + 5)], [], (sh0, Mi2, Ml2, mr0), 2002, 200052) ∧ Inv Mi2 Ml2 := by
  have p1 := hps 1 (by simp)
  have p2 := hps 2 (by simp)
  obtain ⟨r, Mi1, Ml1, Mi2, Ml2, h1, h2, hI⟩ := h
  refine ⟨Mi2, Ml2, ?_, hI⟩
  rw [e_law_833, if_pos p1, if_pos p2, h1]
  show pdn X m_L_law (847, [.ref 2000, .ref 1, .ref 54, .int v3], [.int r], (sh0, Mi1, Ml1, mr0), 2002, 200052) = _
  rw [e_law_847, if_pos p1, if_pos p2, h2]
  show pdn X m_L_law (861, [.ref 2000, .ref 1, .ref 54, .int v3], [.int r, .int r], (sh0, Mi2, Ml2, mr0), 2002, 200052) = _
  rw [e_law_861, if_pos rfl, e_law_1200]
theorem lw_op_20 {Inv : MI → ML → Prop} {X : Nat × (Nat → Int32)} {Mi : MI} {Ml : ML} {v3 : Int32} (hps : ∀ k : Int32, k = 1 ∨ k = 2 ∨ k = 3 ∨ k = 4 → pin (v3 + k) X.1) (h : LStp Inv X m_CT_narrow m_M_narrow [.int (X.2 (Int32.toNatClampNeg (v3 + 1))), .int (X.2 (Int32.toNatClampNeg (v3 + 2)))] Mi Ml) : ∃ Mi2 Ml2, pdn X m_L_law (866, [.ref 2000, .ref 1, .ref 54, .int v3], [], (sh0, Mi, Ml, mr0), 2002, 200052) = pdn X m_L_law (18, [.ref 2000, .ref 1, .ref 54, .int (v3 + 5)], [], (sh0, Mi2, Ml2, mr0), 2002, 200052) ∧ Inv Mi2 Ml2 := by
  have p1 := hps 1 (by simp)
  have p2 := hps 2 (by simp)
  obtain ⟨r, Mi1, Ml1, Mi2, Ml2, h1, h2, hI⟩ := h
  refine ⟨Mi2, Ml2, ?_, hI⟩
  rw [e_law_866, if_pos p1, if_pos p2, h1]
  show pdn X m_L_law (880, [.ref 2000, .ref 1, .ref 54, .int v3], [.int r], (sh0, Mi1, Ml1, mr0), 2002, 200052) = _
  rw [e_law_880, if_pos p1, if_pos p2, h2]
  show pdn X m_L_law (894, [.ref 2000, .ref 1, .ref 54, .int v3], [.int r, .int r], (sh0, Mi2, Ml2, mr0), 2002, 200052) = _
  rw [e_law_894, if_pos rfl, e_law_1200]
theorem lw_op_21 {Inv : MI → ML → Prop} {X : Nat × (Nat → Int32)} {Mi : MI} {Ml : ML} {v3 : Int32} (hps : ∀ k : Int32, k = 1 ∨ k = 2 ∨ k = 3 ∨ k = 4 → pin (v3 + k) X.1) (h : LStp Inv X m_CT_toNarrow m_M_toNarrow [.int (X.2 (Int32.toNatClampNeg (v3 + 1))), .int (X.2 (Int32.toNatClampNeg (v3 + 2)))] Mi Ml) : ∃ Mi2 Ml2, pdn X m_L_law (899, [.ref 2000, .ref 1, .ref 54, .int v3], [], (sh0, Mi, Ml, mr0), 2002, 200052) = pdn X m_L_law (18, [.ref 2000, .ref 1, .ref 54, .int (v3 + 5)], [], (sh0, Mi2, Ml2, mr0), 2002, 200052) ∧ Inv Mi2 Ml2 := by
  have p1 := hps 1 (by simp)
  have p2 := hps 2 (by simp)
  obtain ⟨r, Mi1, Ml1, Mi2, Ml2, h1, h2, hI⟩ := h
  refine ⟨Mi2, Ml2, ?_, hI⟩
  rw [e_law_899, if_pos p1, if_pos p2, h1]
  show pdn X m_L_law (913, [.ref 2000, .ref 1, .ref 54, .int v3], [.int r], (sh0, Mi1, Ml1, mr0), 2002, 200052) = _
  rw [e_law_913, if_pos p1, if_pos p2, h2]
  show pdn X m_L_law (927, [.ref 2000, .ref 1, .ref 54, .int v3], [.int r, .int r], (sh0, Mi2, Ml2, mr0), 2002, 200052) = _
  rw [e_law_927, if_pos rfl, e_law_1200]
theorem lw_op_22 {Inv : MI → ML → Prop} {X : Nat × (Nat → Int32)} {Mi : MI} {Ml : ML} {v3 : Int32} (hps : ∀ k : Int32, k = 1 ∨ k = 2 ∨ k = 3 ∨ k = 4 → pin (v3 + k) X.1) (h : LStp Inv X m_CT_pay m_M_pay [.int (X.2 (Int32.toNatClampNeg (v3 + 1))), .int (X.2 (Int32.toNatClampNeg (v3 + 2))), .int (X.2 (Int32.toNatClampNeg (v3 + 3)))] Mi Ml) : ∃ Mi2 Ml2, pdn X m_L_law (932, [.ref 2000, .ref 1, .ref 54, .int v3], [], (sh0, Mi, Ml, mr0), 2002, 200052) = pdn X m_L_law (18, [.ref 2000, .ref 1, .ref 54, .int (v3 + 5)], [], (sh0, Mi2, Ml2, mr0), 2002, 200052) ∧ Inv Mi2 Ml2 := by
  have p1 := hps 1 (by simp)
  have p2 := hps 2 (by simp)
  have p3 := hps 3 (by simp)
  obtain ⟨r, Mi1, Ml1, Mi2, Ml2, h1, h2, hI⟩ := h
  refine ⟨Mi2, Ml2, ?_, hI⟩
  rw [e_law_932, if_pos p1, if_pos p2, if_pos p3, h1]
  show pdn X m_L_law (951, [.ref 2000, .ref 1, .ref 54, .int v3], [.int r], (sh0, Mi1, Ml1, mr0), 2002, 200052) = _
  rw [e_law_951, if_pos p1, if_pos p2, if_pos p3, h2]
  show pdn X m_L_law (970, [.ref 2000, .ref 1, .ref 54, .int v3], [.int r, .int r], (sh0, Mi2, Ml2, mr0), 2002, 200052) = _
  rw [e_law_970, if_pos rfl, e_law_1200]
theorem lw_op_23 {Inv : MI → ML → Prop} {X : Nat × (Nat → Int32)} {Mi : MI} {Ml : ML} {v3 : Int32} (hps : ∀ k : Int32, k = 1 ∨ k = 2 ∨ k = 3 ∨ k = 4 → pin (v3 + k) X.1) (h : LStp Inv X m_CT_force m_M_force [.int (X.2 (Int32.toNatClampNeg (v3 + 1))), .int (X.2 (Int32.toNatClampNeg (v3 + 2))), .int (X.2 (Int32.toNatClampNeg (v3 + 3)))] Mi Ml) : ∃ Mi2 Ml2, pdn X m_L_law (975, [.ref 2000, .ref 1, .ref 54, .int v3], [], (sh0, Mi, Ml, mr0), 2002, 200052) = pdn X m_L_law (18, [.ref 2000, .ref 1, .ref 54, .int (v3 + 5)], [], (sh0, Mi2, Ml2, mr0), 2002, 200052) ∧ Inv Mi2 Ml2 := by
  have p1 := hps 1 (by simp)
  have p2 := hps 2 (by simp)
  have p3 := hps 3 (by simp)
  obtain ⟨r, Mi1, Ml1, Mi2, Ml2, h1, h2, hI⟩ := h
  refine ⟨Mi2, Ml2, ?_, hI⟩
  rw [e_law_975, if_pos p1, if_pos p2, if_pos p3, h1]
  show pdn X m_L_law (994, [.ref 2000, .ref 1, .ref 54, .int v3], [.int r], (sh0, Mi1, Ml1, mr0), 2002, 200052) = _
  rw [e_law_994, if_pos p1, if_pos p2, if_pos p3, h2]
  show pdn X m_L_law (1013, [.ref 2000, .ref 1, .ref 54, .int v3], [.int r, .int r], (sh0, Mi2, Ml2, mr0), 2002, 200052) = _
  rw [e_law_1013, if_pos rfl, e_law_1200]
theorem lw_op_24 {Inv : MI → ML → Prop} {X : Nat × (Nat → Int32)} {Mi : MI} {Ml : ML} {v3 : Int32} (hps : ∀ k : Int32, k = 1 ∨ k = 2 ∨ k = 3 ∨ k = 4 → pin (v3 + k) X.1) (h : LStp Inv X m_CT_product m_M_product [.int (X.2 (Int32.toNatClampNeg (v3 + 1))), .int (X.2 (Int32.toNatClampNeg (v3 + 2))), .int (X.2 (Int32.toNatClampNeg (v3 + 3)))] Mi Ml) : ∃ Mi2 Ml2, pdn X m_L_law (1018, [.ref 2000, .ref 1, .ref 54, .int v3], [], (sh0, Mi, Ml, mr0), 2002, 200052) = pdn X m_L_law (18, [.ref 2000, .ref 1, .ref 54, .int (v3 + 5)], [], (sh0, Mi2, Ml2, mr0), 2002, 200052) ∧ Inv Mi2 Ml2 := by
  have p1 := hps 1 (by simp)
  have p2 := hps 2 (by simp)
  have p3 := hps 3 (by simp)
  obtain ⟨r, Mi1, Ml1, Mi2, Ml2, h1, h2, hI⟩ := h
  refine ⟨Mi2, Ml2, ?_, hI⟩
  rw [e_law_1018, if_pos p1, if_pos p2, if_pos p3, h1]
  show pdn X m_L_law (1037, [.ref 2000, .ref 1, .ref 54, .int v3], [.int r], (sh0, Mi1, Ml1, mr0), 2002, 200052) = _
  rw [e_law_1037, if_pos p1, if_pos p2, if_pos p3, h2]
  show pdn X m_L_law (1056, [.ref 2000, .ref 1, .ref 54, .int v3], [.int r, .int r], (sh0, Mi2, Ml2, mr0), 2002, 200052) = _
  rw [e_law_1056, if_pos rfl, e_law_1200]
theorem lw_op_25 {Inv : MI → ML → Prop} {X : Nat × (Nat → Int32)} {Mi : MI} {Ml : ML} {v3 : Int32} (hps : ∀ k : Int32, k = 1 ∨ k = 2 ∨ k = 3 ∨ k = 4 → pin (v3 + k) X.1) (h : LStp Inv X m_CT_falls m_M_falls [.int (X.2 (Int32.toNatClampNeg (v3 + 1))), .int (X.2 (Int32.toNatClampNeg (v3 + 2))), .int (X.2 (Int32.toNatClampNeg (v3 + 3))), .int (X.2 (Int32.toNatClampNeg (v3 + 4)))] Mi Ml) : ∃ Mi2 Ml2, pdn X m_L_law (1061, [.ref 2000, .ref 1, .ref 54, .int v3], [], (sh0, Mi, Ml, mr0), 2002, 200052) = pdn X m_L_law (18, [.ref 2000, .ref 1, .ref 54, .int (v3 + 5)], [], (sh0, Mi2, Ml2, mr0), 2002, 200052) ∧ Inv Mi2 Ml2 := by
  have p1 := hps 1 (by simp)
  have p2 := hps 2 (by simp)
  have p3 := hps 3 (by simp)
  have p4 := hps 4 (by simp)
  obtain ⟨r, Mi1, Ml1, Mi2, Ml2, h1, h2, hI⟩ := h
  refine ⟨Mi2, Ml2, ?_, hI⟩
  rw [e_law_1061, if_pos p1, if_pos p2, if_pos p3, if_pos p4, h1]
  show pdn X m_L_law (1085, [.ref 2000, .ref 1, .ref 54, .int v3], [.int r], (sh0, Mi1, Ml1, mr0), 2002, 200052) = _
  rw [e_law_1085, if_pos p1, if_pos p2, if_pos p3, if_pos p4, h2]
  show pdn X m_L_law (1109, [.ref 2000, .ref 1, .ref 54, .int v3], [.int r, .int r], (sh0, Mi2, Ml2, mr0), 2002, 200052) = _
  rw [e_law_1109, if_pos rfl, e_law_1200]
theorem lw_op_26 {Inv : MI → ML → Prop} {X : Nat × (Nat → Int32)} {Mi : MI} {Ml : ML} {v3 : Int32} (hps : ∀ k : Int32, k = 1 ∨ k = 2 ∨ k = 3 ∨ k = 4 → pin (v3 + k) X.1) (h : LStp Inv X m_CT_around m_M_around [.int (X.2 (Int32.toNatClampNeg (v3 + 1))), .int (X.2 (Int32.toNatClampNeg (v3 + 2))), .int (X.2 (Int32.toNatClampNeg (v3 + 3)))] Mi Ml) : ∃ Mi2 Ml2, pdn X m_L_law (1114, [.ref 2000, .ref 1, .ref 54, .int v3], [], (sh0, Mi, Ml, mr0), 2002, 200052) = pdn X m_L_law (18, [.ref 2000, .ref 1, .ref 54, .int (v3 + 5)], [], (sh0, Mi2, Ml2, mr0), 2002, 200052) ∧ Inv Mi2 Ml2 := by
  have p1 := hps 1 (by simp)
  have p2 := hps 2 (by simp)
  have p3 := hps 3 (by simp)
  obtain ⟨r, Mi1, Ml1, Mi2, Ml2, h1, h2, hI⟩ := h
  refine ⟨Mi2, Ml2, ?_, hI⟩
  rw [e_law_1114, if_pos p1, if_pos p2, if_pos p3, h1]
  show pdn X m_L_law (1133, [.ref 2000, .ref 1, .ref 54, .int v3], [.int r], (sh0, Mi1, Ml1, mr0), 2002, 200052) = _
  rw [e_law_1133, if_pos p1, if_pos p2, if_pos p3, h2]
  show pdn X m_L_law (1152, [.ref 2000, .ref 1, .ref 54, .int v3], [.int r, .int r], (sh0, Mi2, Ml2, mr0), 2002, 200052) = _
  rw [e_law_1152, if_pos rfl, e_law_1200]
theorem lw_op_27 {Inv : MI → ML → Prop} {X : Nat × (Nat → Int32)} {Mi : MI} {Ml : ML} {v3 : Int32} (hps : ∀ k : Int32, k = 1 ∨ k = 2 ∨ k = 3 ∨ k = 4 → pin (v3 + k) X.1) (h : LStp Inv X m_CT_since m_M_since [.int (X.2 (Int32.toNatClampNeg (v3 + 1))), .int (X.2 (Int32.toNatClampNeg (v3 + 2))), .int (X.2 (Int32.toNatClampNeg (v3 + 3)))] Mi Ml) : ∃ Mi2 Ml2, pdn X m_L_law (1157, [.ref 2000, .ref 1, .ref 54, .int v3], [], (sh0, Mi, Ml, mr0), 2002, 200052) = pdn X m_L_law (18, [.ref 2000, .ref 1, .ref 54, .int (v3 + 5)], [], (sh0, Mi2, Ml2, mr0), 2002, 200052) ∧ Inv Mi2 Ml2 := by
  have p1 := hps 1 (by simp)
  have p2 := hps 2 (by simp)
  have p3 := hps 3 (by simp)
  obtain ⟨r, Mi1, Ml1, Mi2, Ml2, h1, h2, hI⟩ := h
  refine ⟨Mi2, Ml2, ?_, hI⟩
  rw [e_law_1157, if_pos p1, if_pos p2, if_pos p3, h1]
  show pdn X m_L_law (1176, [.ref 2000, .ref 1, .ref 54, .int v3], [.int r], (sh0, Mi1, Ml1, mr0), 2002, 200052) = _
  rw [e_law_1176, if_pos p1, if_pos p2, if_pos p3, h2]
  show pdn X m_L_law (1195, [.ref 2000, .ref 1, .ref 54, .int v3], [.int r, .int r], (sh0, Mi2, Ml2, mr0), 2002, 200052) = _
  rw [e_law_1195, if_pos rfl, e_law_1200]
theorem lw_turn {Inv : MI → ML → Prop} {X : Nat × (Nat → Int32)} {Mi : MI} {Ml : ML} {v3 : Int32} (hps : ∀ k : Int32, k = 1 ∨ k = 2 ∨ k = 3 ∨ k = 4 → pin (v3 + k) X.1) (hI : Inv Mi Ml) (h : AllLStp Inv X Mi Ml) (j : Nat) (hj : j < 32) : ∃ Mi2 Ml2, pdn X m_L_law (pm_sw (Int32.ofNat j) [160, 193, 216, 275, 318, 361, 404, 427, 490, 513, 536, 549, 582, 605, 638, 671, 714, 757, 800, 833, 866, 899, 932, 975, 1018, 1061, 1114, 1157] 0 1200, [.ref 2000, .ref 1, .ref 54, .int v3], [], (sh0, Mi, Ml, mr0), 2002, 200052) = pdn X m_L_law (18, [.ref 2000, .ref 1, .ref 54, .int (v3 + 5)], [], (sh0, Mi2, Ml2, mr0), 2002, 200052) ∧ Inv Mi2 Ml2 := by
  obtain ⟨h0, h1, h2, h3, h4, h5, h6, h7, h8, h9, h10, h11, h12, h13, h14, h15, h16, h17, h18, h19, h20, h21, h22, h23, h24, h25, h26, h27⟩ := h
  by_cases hk : j < 28
  · have e := sw_in (d := 1200) [160, 193, 216, 275, 318, 361, 404, 427, 490, 513, 536, 549, 582, 605, 638, 671, 714, 757, 800, 833, 866, 899, 932, 975, 1018, 1061, 1114, 1157] 0 j hk (by decide)
    rw [Nat.zero_add] at e
    generalize pm_sw (Int32.ofNat j) [160, 193, 216, 275, 318, 361, 404, 427, 490, 513, 536, 549, 582, 605, 638, 671, 714, 757, 800, 833, 866, 899, 932, 975, 1018, 1061, 1114, 1157] 0 1200 = pc at e ⊢
    match j, hk, e with
    | 0, _, e => cases e; exact lw_op_0 hps (h0 _ _)
    | 1, _, e => cases e; exact lw_op_1 hps (h1 _)
    | 2, _, e => cases e; exact lw_op_2 hps h2
    | 3, _, e => cases e; exact lw_op_3 hps (h3 _ _ _)
    | 4, _, e => cases e; exact lw_op_4 hps (h4 _ _ _)
    | 5, _, e => cases e; exact lw_op_5 hps (h5 _ _ _)
    | 6, _, e => cases e; exact lw_op_6 hps (h6 _)
    | 7, _, e => cases e; exact lw_op_7 hps (h7 _ _)
    | 8, _, e => cases e; exact lw_op_8 hps (h8 _)
    | 9, _, e => cases e; exact lw_op_9 hps (h9 _)
    | 10, _, e => cases e; exact lw_op_10 hps (h10)
    | 11, _, e => cases e; exact lw_op_11 hps (h11 _ _)
    | 12, _, e => cases e; exact lw_op_12 hps (h12 _)
    | 13, _, e => cases e; exact lw_op_13 hps (h13 _ _)
    | 14, _, e => cases e; exact lw_op_14 hps (h14 _ _)
    | 15, _, e => cases e; exact lw_op_15 hps (h15 _ _ _)
    | 16, _, e => cases e; exact lw_op_16 hps (h16 _ _ _)
    | 17, _, e => cases e; exact lw_op_17 hps (h17 _ _ _)
    | 18, _, e => cases e; exact lw_op_18 hps (h18 _ _)
    | 19, _, e => cases e; exact lw_op_19 hps (h19 _ _)
    | 20, _, e => cases e; exact lw_op_20 hps (h20 _ _)
    | 21, _, e => cases e; exact lw_op_21 hps (h21 _ _)
    | 22, _, e => cases e; exact lw_op_22 hps (h22 _ _ _)
    | 23, _, e => cases e; exact lw_op_23 hps (h23 _ _ _)
    | 24, _, e => cases e; exact lw_op_24 hps (h24 _ _ _)
    | 25, _, e => cases e; exact lw_op_25 hps (h25 _ _ _ _)
    | 26, _, e => cases e; exact lw_op_26 hps (h26 _ _ _)
    | 27, _, e => cases e; exact lw_op_27 hps (h27 _ _ _)
  · refine ⟨Mi, Ml, ?_, hI⟩
    have e : pm_sw (Int32.ofNat j) [160, 193, 216, 275, 318, 361, 404, 427, 490, 513, 536, 549, 582, 605, 638, 671, 714, 757, 800, 833, 866, 899, 932, 975, 1018, 1061, 1114, 1157] 0 1200 = 1200 := by
      refine sw_out [160, 193, 216, 275, 318, 361, 404, 427, 490, 513, 536, 549, 582, 605, 638, 671, 714, 757, 800, 833, 866, 899, 932, 975, 1018, 1061, 1114, 1157] 0 (fun i hi q => ?_)
      rw [Nat.zero_add] at q
      have hi : i < 28 := hi
      have := (nI_eq (a := j) (b := i) (by omega) (by omega)).mp q
      omega
    rw [e, e_law_1200]
theorem pin_nI {i n : Nat} (h : i < n) (hn : n < 2 ^ 31) : pin (nI i) n := by
  refine ⟨?_, ?_⟩
  · rw [nI_toInt (by omega)]; omega
  · rw [nI_toInt (by omega)]; omega
theorem lw_loop {Inv : MI → ML → Prop} {X : Nat × (Nat → Int32)} (hX : X.1 ≤ 2560) (hall : ∀ Mi Ml, Inv Mi Ml → AllLStp Inv X Mi Ml) : ∀ (n i : Nat) (Mi : MI) (Ml : ML), X.1 < i + 5 * n → i ≤ X.1 → Inv Mi Ml → ∃ hf, pdn X m_L_law (18, [.ref 2000, .ref 1, .ref 54, .int (nI i)], [], (sh0, Mi, Ml, mr0), 2002, 200052) = some (some (.int 1), hf) := by
  intro n
  induction n with
  | zero => intro i Mi Ml h1 h2; omega
  | succ n ih =>
    intro i Mi Ml h1 h2 hI
    rw [e_law_18]
    by_cases hc : i + 5 ≤ X.1
    · have hc1 : ¬ (Int32.ofNat X.1 - 5) < nI i := by
        show ¬ (nI X.1 - nI 5) < nI i
        rw [pk_sub (by omega)]
        exact nI_nlt (by omega) (by omega)
      rw [if_neg hc1, if_pos (pin_nI (by omega) (by omega))]
      obtain ⟨j, hj, ej⟩ := pk_andE (X.2 (Int32.toNatClampNeg (nI i))) (m := 31) 5 (by decide)
      rw [ej]
      have hps : ∀ k : Int32, k = 1 ∨ k = 2 ∨ k = 3 ∨ k = 4 → pin (nI i + k) X.1 := by
        intro k hk
        rcases hk with rfl | rfl | rfl | rfl
        · exact nI_add i 1 ▸ pin_nI (by omega) (by omega)
        · exact nI_add i 2 ▸ pin_nI (by omega) (by omega)
        · exact nI_add i 3 ▸ pin_nI (by omega) (by omega)
        · exact nI_add i 4 ▸ pin_nI (by omega) (by omega)
      obtain ⟨Mi2, Ml2, e2, hI2⟩ := lw_turn hps hI (hall Mi Ml hI) j hj
      have e3 : pdn X m_L_law (pm_sw (nI j) [160, 193, 216, 275, 318, 361, 404, 427, 490, 513, 536, 549, 582, 605, 638, 671, 714, 757, 800, 833, 866, 899, 932, 975, 1018, 1061, 1114, 1157] 0 1200, [.ref 2000, .ref 1, .ref 54, .int (nI i)], [], (sh0, Mi, Ml, mr0), 2002, 200052) = pdn X m_L_law (18, [.ref 2000, .ref 1, .ref 54, .int (nI i + 5)], [], (sh0, Mi2, Ml2, mr0), 2002, 200052) := e2
      rw [e3, show nI i + 5 = nI (i + 5) from nI_add i 5]
      exact ih (i + 5) Mi2 Ml2 (by omega) (by omega) hI2
    · have hc1 : (Int32.ofNat X.1 - 5) < nI i := by
        show (nI X.1 - nI 5) < nI i
        by_cases h5 : 5 ≤ X.1
        · rw [pk_sub h5]
          exact nI_lt (by omega) (by omega)
        · have h6 := pk_sneg (a := X.1) (b := 5) (by decide) (by omega)
          have h7 : (0 : Int32) ≤ nI i := nI_pos' (by omega)
          have h8 := Int32.lt_iff_toInt_lt.mp h6
          have h9 := Int32.le_iff_toInt_le.mp h7
          exact Int32.lt_iff_toInt_lt.mpr (Int.lt_of_lt_of_le h8 h9)
      rw [if_pos hc1]
      exact ⟨_, rfl⟩
theorem law_pure {Inv : MI → ML → Prop} {X : Nat × (Nat → Int32)} (hX : X.1 ≤ 2560) (hall : ∀ Mi Ml, Inv Mi Ml → AllLStp Inv X Mi Ml) (h0 : Inv hp4.2.1 hp4.2.2.1) : ∃ hf, pD X 191 [.ref 2000] pm_h0 = some (some (.int 1), hf) := by
  rw [law_pre]
  exact lw_loop hX hall 600 0 _ _ (by omega) (by omega) h0
