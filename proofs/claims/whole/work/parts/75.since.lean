/-! THE MARKET: what a claim bites; the operation since -/
def thB (Mi : MI) (p l : Nat) (d : Int32) : Bool := bt (Mi 43 p) l && !decide (d < Mi 44 p)
def frD (Mi : MI) (f l : Nat) (d : Int32) : Bool := decide (frcB (Mi 14 f) (Mi 22 (4 * f + l)) (Mi (46 + 2 * l + 1) 4) d)
theorem c_isThere {X : Nat × (Nat → Int32)} {Mi : MI} {Ml : ML} {p l : Nat} (hp : p < 12) (hl : l < 4) (d : Int32) : pD X m_Market_isThere [.ref 41, .int (nI p), .int (nI l), .int d] (sh0, Mi, Ml, mr0) = some (some (.int (bI (thB Mi p l d = true))), (sh0, Mi, Ml, mr0)) := by
  have p12 : pin (nI p) 12 := pin_nI hp (by decide)
  rw [d_Market_isThere, if_pos p12, nI_clamp (by omega), x_bit (show l < 32 by omega), if_pos p12]
  unfold thB
  by_cases h1 : bt (Mi 43 p) l = true
  · rw [if_neg (by rw [bI_t h1]; decide), h1]
    by_cases h2 : d < Mi 44 p
    · rw [if_pos h2, decide_eq_true h2]; rfl
    · rw [if_neg h2, decide_eq_false h2]; rfl
  · rw [if_pos (bI_f h1)]
    cases q : bt (Mi 43 p) l
    · rfl
    · exact absurd q h1
theorem c_hitBy {X : Nat × (Nat → Int32)} {Mi : MI} {Ml : ML} (h : JW Mi) {nf f l c p : Nat} (ef : Mi 11 11 = nI nf) (hnf : nf ≤ 8) (hf : f < nf) (hl : l < 4) (hc : c < 40) (hp : p < 12) {L : List Int32} (hr : rowA (Mi 27) (Mi 28) c L) (e24 : Mi 24 c = nI f) (d A : Int32) : pD X m_Market_hitBy [.ref 41, .int (nI p), .int (nI c), .int (nI l), .int d, .int A, .ref (46 + 2 * l)] (sh0, Mi, Ml, mr0) = some (some (.int (bI ((((thB Mi p l d && frD Mi f l d) && tkn A L) && std Mi f l L) = true))), (sh0, Mi, Ml, mr0)) := by
  have k := c_upholds (X := X) (Ml := Ml) h ef hnf hf hl hc hr e24 0
  rw [map_or0] at k
  rw [d_Market_hitBy _ _ _ (land_ho hl), c_isThere hp hl, Option.bind_some, pb_i, e_Market_hitBy_8 _ _ _ (land_ho hl), if_pos (pin_nI hc (by decide)), nI_clamp (by omega), e24, c_inForce (by omega) hl, Option.bind_some, pb_i, e_Market_hitBy_32 _ _ _ (land_ho hl), c_takesIn hc hr, Option.bind_some, pb_i, e_Market_hitBy_45 _ _ _ (land_ho hl), k, Option.bind_some, pb_i, e_Market_hitBy_59 _ _ _ (land_ho hl)]
  cases h1 : thB Mi p l d
  · rw [if_pos (bI_f (by decide))]; rfl
  · rw [if_neg (by rw [bI_t rfl]; decide)]
    unfold frD
    by_cases h2 : frcB (Mi 14 f) (Mi 22 (4 * f + l)) (Mi (46 + 2 * l + 1) 4) d
    · rw [if_neg (by rw [bI_t h2]; decide), decide_eq_true h2]
      cases h3 : tkn A L
      · rw [if_pos (bI_f (by decide))]; rfl
      · rw [if_neg (by rw [bI_t rfl]; decide)]
        cases h4 : std Mi f l L
        · rw [if_pos (bI_f (by decide))]; rfl
        · rw [if_neg (by rw [bI_t rfl]; decide)]; rfl
    · rw [if_pos (bI_f h2), decide_eq_false h2]; rfl
theorem c_hasVersion {X : Nat × (Nat → Int32)} {Mi : MI} {Ml : ML} (h : JW Mi) {c : Nat} (hc : c < 40) {L : List Int32} (hr : rowA (Mi 76) (Mi 77) c L) {s : Int32} (hs : pin s 1073741824) : pD X m_M_hasVersion [.ref 54, .int s, .int (nI c)] (sh0, Mi, Ml, mr0) = some (some (.int (bI (tkn (cl (Mi 3) s) L = true))), (sh0, Mi, Ml, mr0)) := by
  rw [d_M_hasVersion, c_withKinds h.1.1 h.1.2 _ hs, Option.bind_some, pb_i, w_M_hasVersion_5]
  refine (c_hasV_go hc hr s (cl (Mi 3) s) L.length 0 false (by omega)).trans ?_
  rw [Bool.false_or, List.drop_zero]
theorem c_isProduct {X : Nat × (Nat → Int32)} {Mi : MI} {Ml : ML} (a : Int32) {n : Nat} (hn : n < 2 ^ 31) (e : Mi 54 36 = nI n) : pD X m_M_isProduct [.ref 54, .int a] (sh0, Mi, Ml, mr0) = some (some (.int (bI (pin a n))), (sh0, Mi, Ml, mr0)) := by
  have hc : (Int32.toInt64 (nI n - 1)).toInt + 1 = (n : Int) := by
    rw [show (Int32.toInt64 (nI n - 1)).toInt = (nI n - 1).toInt from Int32.toInt_toInt64 _, nI_m1 hn]; omega
  rw [d_M_isProduct, e, c_inP a _ (n := n) hc, Option.bind_some, pb_i, e_M_isProduct_13, if_pos (bI_nar _)]
/-- the reference, whether a claim stands: it finds the rows anew, and keeps the others -/
theorem c_standing {X : Nat × (Nat → Int32)} {Mi M : MI} {Ml : ML} (h : JW M) {nf f l c : Nat} (ef : M 11 11 = nI nf) (hnf : nf ≤ 8) (hf : f < nf) (hl : l < 4) (hc : c < 40) {L : List Int32} (e69 : M 69 c = nI f) {M' : MI} (t1 : pD X m_M_findAll [.ref 54, .int (M 69 c)] (sh0, M, Ml, mr0) = some (some (.int 1), (sh0, M', Ml, mr0))) (t2 : ∀ k, k ≠ 76 → k ≠ 77 → M' k = M k) (t3 : rowA (M' 76) (M' 77) c L) : pD X m_M_standing [.ref 54, .int (nI c), .int (nI l)] (sh0, M, Ml, mr0) = some (some (.int (bI (std M f l L = true))), (sh0, M', Ml, mr0)) := by
  have hA : Agr M' M := fun k g => t2 k g.2.1 g.2.2.1
  have k2 := c_stand_go (X := X) (Ml := Ml) (JW_ag h hA) (nf := nf) (f := f) (by rw [hA 11 (by decide)]; exact ef) hnf hf hl hc t3 (by rw [t2 69 (by decide) (by decide)]; exact e69) L.length 0 pm_nul (by omega)
  rw [List.drop_zero, std_ag hA f hl, show nI 0 = 0 from rfl] at k2
  rw [d_M_standing, if_pos (pin_nI hc (by decide)), nI_clamp (by omega), t1, Option.bind_some, pb_i, w_M_standing_10, k2]
theorem mx_eq (a b : Int32) : (if a < b then b else a) = (if b < a then a else b) := by
  by_cases h : a < b
  · rw [if_pos h, if_neg (fun q => by rw [x_lt] at h q; omega)]
  · rw [if_neg h]
    by_cases q : b < a
    · rw [if_pos q]
    · rw [if_neg q]
      rw [x_lt] at h q
      exact Int32.toInt_inj.mp (by omega)
theorem ls_since {X : Nat × (Nat → Int32)} {Mi : MI} {Ml : ML} (h : Inv Mi Ml) (a b c : Int32) : LStp Inv X m_CT_since m_M_since [.int a, .int b, .int c] Mi Ml := by
  obtain ⟨n, h40, e1, e2, _⟩ := h.2.2.2.2.2.2.2.2.2
  have hFi := h.2.2.2.1
  obtain ⟨nf, nf8, ef, _, hF, _⟩ := hFi
  obtain ⟨np, np12, ep, epM, hp⟩ := h.2.2.2.2.2.2.1
  have w2 : n < 2 ^ 31 := by omega
  have w1 : (Mi 23 9).toInt = (n : Int) := by rw [e1, nI_toInt w2]
  have v1 : (Mi 41 9).toInt = (np : Int) := by rw [ep, nI_toInt (by omega)]
  by_cases h0 : pin a np
  · by_cases h1 : pin b n
    · by_cases h3 : pin c 4
      · obtain ⟨p, hp', rfl⟩ := pin_ex (by omega) h0
        obtain ⟨q, hq, rfl⟩ := pin_ex w2 h1
        obtain ⟨l', hl', rfl⟩ := pin_ex (by decide) h3
        obtain ⟨l, hl, f0, _, _, _, hM⟩ := claim_rows (X := X) h e1 h40 hq
        obtain ⟨f, hf, g24, g69⟩ := claim_fil h e1 h40 ef nf8 hq
        obtain ⟨M', t1, t2, t3⟩ := hM Mi (fun _ _ _ _ _ _ => rfl)
        obtain ⟨s1, s2, s3, s4, s5, s6⟩ := hp p hp'
        obtain ⟨_, _, _, f4, f5, _, _, _⟩ := hF f hf
        have p40 : pin (nI q) 40 := pin_nI (by omega) (by decide)
        have p12 : pin (nI p) 12 := pin_nI (by omega) (by decide)
        have cc : (nI q).toNatClampNeg = q := nI_clamp (by omega)
        have cp : (nI p).toNatClampNeg = p := nI_clamp (by omega)
        have cf : (nI f).toNatClampNeg = f := nI_clamp (by omega)
        have p8 : pin (nI f) 8 := pin_nI (by omega) (by decide)
        have cl' : (nI l').toNatClampNeg = l' := nI_clamp (by omega)
        have hc : pin (nI l') 4 ∧ 0 < 46 + 2 * l' ∧ 46 + 2 * l' < 2000 := ⟨h3, by omega, by omega⟩
        have hI : Inv M' Ml := Inv_scr h (fun k q1 q2 _ _ _ => t2 k q1 q2)
        have hA : Agr M' Mi := fun k g => t2 k g.2.1 g.2.2.1
        have hJ := JW_inv h
        have hJ' := JW_inv hI
        generalize hD : (if Mi 44 p < Mi 14 f + 540 then Mi 14 f + 540 else Mi 44 p) = D
        have hD2 : (if Mi 61 f + 540 < Mi 82 p then Mi 82 p else Mi 61 f + 540) = D := by rw [← f4, ← s5, ← mx_eq]; exact hD
        have kc := c_hitBy (X := X) (Ml := Ml) hJ ef nf8 hf hl' (show q < 40 by omega) (show p < 12 by omega) hl g24 D (cl (Mi 3) (Mi 42 p))
        have C1 : pD X m_CT_since [.ref 1, .int (nI p), .int (nI q), .int (nI l')] (sh0, Mi, Ml, mr0) = if (((thB Mi p l' D && frD Mi f l' D) && tkn (cl (Mi 3) (Mi 42 p)) l) && std Mi f l' l) = true then some (some (.int D), (sh0, Mi, Ml, mr0)) else some (some (.int (-1)), (sh0, Mi, Ml, mr0)) := by
          rw [d_CT_since, c_within (nI p) (Mi 41 9) (n := np) v1, Option.bind_some, pb_i, e_CT_since_11, bI_t h0, if_neg (by decide), c_within (nI q) (Mi 23 9) (n := n) w1, Option.bind_some, pb_i, e_CT_since_25, bI_t h1, if_neg (by decide), c_within (nI l') 4 (n := 4) rfl, Option.bind_some, pb_i, e_CT_since_33, bI_t h3, if_neg (by decide), cl', land_rd l' hl', if_pos hc, d_Market_firstDay _ _ _ (land_ho hl'), if_pos p12, if_pos p40, cc, g24, if_pos p8, if_pos p12, cp, cf, hD, c_closed, Option.bind_some, pb_i, w_Market_firstDay_51 _ _ _ (land_ho hl'), kc, Option.bind_some, pb_i, w_Market_firstDay_56 _ _ _ (land_ho hl')]
          by_cases z : (((thB Mi p l' D && frD Mi f l' D) && tkn (cl (Mi 3) (Mi 42 p)) l) && std Mi f l' l) = true
          · rw [if_neg (by rw [bI_t z]; decide), if_pos z, Option.bind_some, pb_i, e_CT_since_56]
          · rw [if_pos (bI_f z), if_neg z, Option.bind_some, pb_i, e_CT_since_56]
        have th : thB Mi p l' D = bt (Mi 43 p) l' := by
          unfold thB
          rw [decide_eq_false, Bool.not_false, Bool.and_true]
          rw [← hD]
          intro z
          by_cases y : Mi 44 p < Mi 14 f + 540
          · rw [if_pos y] at z; rw [x_lt] at y z; omega
          · rw [if_neg y] at z; rw [x_lt] at z; omega
        have g61 : Mi 61 f = Mi 14 f := f4.symm
        have g79 := h.2.2.2.2.2.2.2.2.1 (4 * f + l') (by omega)
        have g66 := (IR_at h.2.2.2.2.2.2.2.1 hl' (show 4 < 6 by decide)).symm
        have kst := c_standing (X := X) (Mi := Mi) (Ml := Ml) hJ ef nf8 hf hl' (show q < 40 by omega) g69 t1 t2 t3
        have khv := c_hasVersion (X := X) (Ml := Ml) hJ' (show q < 40 by omega) t3 (s := Mi 80 p) (by rw [← s1]; exact s2)
        rw [t2 3 (by decide) (by decide), ← s1] at khv
        have n0 : pD X m_M_since [.ref 54, .int (nI p), .int (nI q), .int (nI l')] (sh0, Mi, Ml, mr0) = pdn X m_M_since (70, [.ref 54, .int (nI p), .int (nI q), .int (nI l'), .int (nI f), .int (Mi 61 f + 540), pm_nul, pm_nul], [.int D], (sh0, Mi, Ml, mr0), 0, 0) := by
          rw [d_M_since, c_isProduct (nI p) (by omega) epM, Option.bind_some, pb_i, w_M_since_5, bI_t h0, if_neg (by decide), c_isClaim (nI q) w2 e2, Option.bind_some, pb_i, w_M_since_13, bI_t h1, if_neg (by decide), c_isLand, Option.bind_some, pb_i, w_M_since_20, bI_t h3, if_neg (by decide), if_pos p40, cc, g69, if_pos p8, if_pos p12, if_pos p12, cp, cf, ← hD2]
          by_cases y : Mi 61 f + 540 < Mi 82 p
          · rw [if_pos y, if_pos y]
          · rw [if_neg y, if_neg y]
        have z0 : ∀ w5 w7 : Value, pdn X m_M_since (119, [.ref 54, .int (nI p), .int (nI q), .int (nI l'), .int (nI f), w5, .int D, w7], [], (sh0, Mi, Ml, mr0), 0, 0) = some (some (.int (-1)), (sh0, Mi, Ml, mr0)) := fun w5 w7 => by rw [w_M_since_119, w_M_since_120, if_pos (rfl : (0 : Int32) = 0)]
        by_cases y1 : bt (Mi 43 p) l' = true
        · have y1' : (((Mi 81 p) >>> (nI l' &&& 31)) &&& 1) = 1 := by rw [← s3, x_bit (show l' < 32 by omega), bI_t y1]
          by_cases y2 : frcB (Mi 14 f) (Mi 22 (4 * f + l')) (Mi (46 + 2 * l' + 1) 4) D
          · have y3 : pin D 20001 := by
              have hn : 0 ≤ D.toInt := by
                have e : D.toInt = max (Mi 44 p).toInt (Mi 14 f + 540).toInt := by
                  rw [← hD]
                  by_cases y : Mi 44 p < Mi 14 f + 540
                  · rw [if_pos y]; rw [x_lt] at y; omega
                  · rw [if_neg y]; rw [x_lt] at y; omega
                obtain ⟨k, hk, ek⟩ := pin_ex (by decide) s6
                rw [e, ek, nI_toInt (by omega)]; omega
              have hu := y2.2.1
              rw [x_lt] at hu
              rcases g79.2 with u | u
              · rw [u] at hu
                have : (-1 : Int32).toInt = -1 := by decide
                omega
              · obtain ⟨k, hk, ek⟩ := pin_ex (by decide) u
                rw [ek, nI_toInt (by omega)] at hu
                have ed : D = nI D.toInt.toNat := Int32.toInt_inj.mp (by rw [nI_toInt (by omega)]; omega)
                rw [ed]
                exact pin_nI (by omega) (by decide)
            by_cases y4 : std Mi f l' l = true
            · have s2' : pD X m_M_since [.ref 54, .int (nI p), .int (nI q), .int (nI l')] (sh0, Mi, Ml, mr0) = if tkn (cl (Mi 3) (Mi 42 p)) l = true then some (some (.int D), (sh0, M', Ml, mr0)) else some (some (.int (-1)), (sh0, M', Ml, mr0)) := by
                rw [n0, w_M_since_70, if_pos p12, cp, if_pos y1', c_isDayM, Option.bind_some, pb_i, w_M_since_91, bI_t y3, if_neg (by decide), c_isForce (by omega) hl', g61, ← g79.1, g66, bI_t y2, Option.bind_some, pb_i, w_M_since_103, if_neg (show ¬ (1 : Int32) = 0 by decide), kst, bI_t y4, Option.bind_some, pb_i, w_M_since_112, if_neg (show ¬ (1 : Int32) = 0 by decide), w_M_since_120, if_neg (show ¬ (1 : Int32) = 0 by decide), if_pos p12, cp, t2 80 (by decide) (by decide), ← s1, khv, Option.bind_some, pb_i, w_M_since_138]
                by_cases z : tkn (cl (Mi 3) (Mi 42 p)) l = true
                · rw [if_neg (by rw [bI_t z]; decide), if_pos z]
                · rw [if_pos (bI_f z), if_neg z]
              have cz : (((thB Mi p l' D && frD Mi f l' D) && tkn (cl (Mi 3) (Mi 42 p)) l) && std Mi f l' l) = tkn (cl (Mi 3) (Mi 42 p)) l := by
                unfold frD
                rw [th, y1, decide_eq_true y2, y4]; simp
              rw [cz] at C1
              by_cases z : tkn (cl (Mi 3) (Mi 42 p)) l = true
              · rw [if_pos z] at C1 s2'; exact LS_mk C1 s2' hI
              · rw [if_neg z] at C1 s2'; exact LS_mk C1 s2' hI
            · have s2' : pD X m_M_since [.ref 54, .int (nI p), .int (nI q), .int (nI l')] (sh0, Mi, Ml, mr0) = some (some (.int (-1)), (sh0, M', Ml, mr0)) := by
                rw [n0, w_M_since_70, if_pos p12, cp, if_pos y1', c_isDayM, Option.bind_some, pb_i, w_M_since_91, bI_t y3, if_neg (by decide), c_isForce (by omega) hl', g61, ← g79.1, g66, bI_t y2, Option.bind_some, pb_i, w_M_since_103, if_neg (show ¬ (1 : Int32) = 0 by decide), kst, bI_f y4, Option.bind_some, pb_i, w_M_since_112, if_pos (rfl : (0 : Int32) = 0), w_M_since_119, w_M_since_120, if_pos (rfl : (0 : Int32) = 0)]
              rw [if_neg (by intro z; rw [Bool.and_eq_true] at z; exact y4 z.2)] at C1
              exact LS_mk C1 s2' hI
          · have cz : (((thB Mi p l' D && frD Mi f l' D) && tkn (cl (Mi 3) (Mi 42 p)) l) && std Mi f l' l) = false := by
              unfold frD
              rw [decide_eq_false y2]; simp
            rw [cz, if_neg (by decide)] at C1
            have s2' : pD X m_M_since [.ref 54, .int (nI p), .int (nI q), .int (nI l')] (sh0, Mi, Ml, mr0) = some (some (.int (-1)), (sh0, Mi, Ml, mr0)) := by
              rw [n0, w_M_since_70, if_pos p12, cp, if_pos y1', c_isDayM, Option.bind_some, pb_i, w_M_since_91, z0, c_isForce (by omega) hl', g61, ← g79.1, g66, bI_f y2, Option.bind_some, pb_i, w_M_since_103, if_pos (rfl : (0 : Int32) = 0), z0]
              split <;> rfl
            exact LS_mk C1 s2' h
        · have cz : (((thB Mi p l' D && frD Mi f l' D) && tkn (cl (Mi 3) (Mi 42 p)) l) && std Mi f l' l) = false := by
            rw [th]
            cases u : bt (Mi 43 p) l'
            · simp
            · exact absurd u y1
          rw [cz, if_neg (by decide)] at C1
          have s2' : pD X m_M_since [.ref 54, .int (nI p), .int (nI q), .int (nI l')] (sh0, Mi, Ml, mr0) = some (some (.int (-1)), (sh0, Mi, Ml, mr0)) := by
            rw [n0, w_M_since_70, if_pos p12, cp, ← s3, x_bit (show l' < 32 by omega), if_neg (by rw [bI_f y1]; decide), z0]
          exact LS_mk C1 s2' h
      · refine LS_mk (r := -1001) (Mi1 := Mi) (Ml1 := Ml) (Mi2 := Mi) (Ml2 := Ml) ?_ ?_ h
        · rw [d_CT_since, c_within a (Mi 41 9) (n := np) v1, Option.bind_some, pb_i, e_CT_since_11, bI_t h0, if_neg (by decide), c_within b (Mi 23 9) (n := n) w1, Option.bind_some, pb_i, e_CT_since_25, bI_t h1, if_neg (by decide), c_within c 4 (n := 4) rfl, Option.bind_some, pb_i, e_CT_since_33, if_pos (bI_f h3)]
        · rw [d_M_since, c_isProduct a (by omega) epM, Option.bind_some, pb_i, w_M_since_5, bI_t h0, if_neg (by decide), c_isClaim b w2 e2, Option.bind_some, pb_i, w_M_since_13, bI_t h1, if_neg (by decide), c_isLand, Option.bind_some, pb_i, w_M_since_20, if_pos (bI_f h3)]
    · refine LS_mk (r := -1001) (Mi1 := Mi) (Ml1 := Ml) (Mi2 := Mi) (Ml2 := Ml) ?_ ?_ h
      · rw [d_CT_since, c_within a (Mi 41 9) (n := np) v1, Option.bind_some, pb_i, e_CT_since_11, bI_t h0, if_neg (by decide), c_within b (Mi 23 9) (n := n) w1, Option.bind_some, pb_i, e_CT_since_25, if_pos (bI_f h1)]
      · rw [d_M_since, c_isProduct a (by omega) epM, Option.bind_some, pb_i, w_M_since_5, bI_t h0, if_neg (by decide), c_isClaim b w2 e2, Option.bind_some, pb_i, w_M_since_13, if_pos (bI_f h1)]
  · refine LS_mk (r := -1001) (Mi1 := Mi) (Ml1 := Ml) (Mi2 := Mi) (Ml2 := Ml) ?_ ?_ h
    · rw [d_CT_since, c_within a (Mi 41 9) (n := np) v1, Option.bind_some, pb_i, e_CT_since_11, if_pos (bI_f h0)]
    · rw [d_M_since, c_isProduct a (by omega) epM, Option.bind_some, pb_i, w_M_since_5, if_pos (bI_f h0)]
