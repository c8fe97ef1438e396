/-! JUDGING: the reference's easyBy -/
theorem cl_or (hs : Nat → Int32) (a b : Int32) : cl hs (a ||| b) = cl hs a ||| cl hs b := by
  apply b_ext; intro i _
  rw [Bool.eq_iff_iff, b_or, Bool.or_eq_true, cl_bt, cl_bt, cl_bt]
  constructor
  · rintro ⟨f, h1, h2, h3⟩
    rw [b_or, Bool.or_eq_true] at h2
    exact h2.imp (fun q => ⟨f, h1, q, h3⟩) (fun q => ⟨f, h1, q, h3⟩)
  · rintro (⟨f, h1, h2, h3⟩ | ⟨f, h1, h2, h3⟩)
    · exact ⟨f, h1, by rw [b_or, h2]; rfl, h3⟩
    · exact ⟨f, h1, by rw [b_or, h2, Bool.or_true], h3⟩
def nrB (Mi : MI) (ff a b : Nat) : Bool := bt (Mi 8 (fd7 Mi a)) (fd7 Mi b) && bt (Mi 8 ff) (fd7 Mi a) && bt (Mi 8 ff) (fd7 Mi b)
def cnB (Mi : MI) (bf : Int32) (a : Nat) : Bool := decide ((Mi 10 a) < bf)
def t3 (Mi : MI) (nd bf : Int32) (ff a b c : Nat) : Option Int32 := if (cnB Mi bf a && cnB Mi bf b && cnB Mi bf c) = true ∧ (nrB Mi ff a b && nrB Mi ff b c && nrB Mi ff a c) = true ∧ (nd &&& (((Mi 6 a ||| Mi 6 b) ||| Mi 6 c) ^^^ (-1))) = 0 then some ((((1 : Int32) <<< (nI a &&& 31)) ||| ((1 : Int32) <<< (nI b &&& 31))) ||| ((1 : Int32) <<< (nI c &&& 31))) else none
def rC (Mi : MI) (nd bf : Int32) (ff np k a b : Nat) : Option Int32 := srch (t3 Mi nd bf ff a b) (if 2 < k then np - (b + 1) else 1) (if 2 < k then b + 1 else b)
def rB (Mi : MI) (nd bf : Int32) (ff np k a : Nat) : Option Int32 := srch (rC Mi nd bf ff np k a) (if 1 < k then np - (a + 1) else 1) (if 1 < k then a + 1 else a)
def rA (Mi : MI) (nd bf : Int32) (ff np k : Nat) : Option Int32 := srch (rB Mi nd bf ff np k) np 0
def ezM (Mi : MI) (f l : Nat) (s : Int32) (np mo : Nat) : Int32 := if ndv Mi l s = 0 then 0 else (srch (rA Mi (ndv Mi l s) (bfv Mi f l s) (Mi 15 f).toNatClampNeg np) mo 1).getD (-1)
theorem five_at (l k : Nat) : 5 * nI l + nI k = nI (5 * l + k) := by rw [show (5 : Int32) = nI 5 from rfl, nI_mul', nI_add]
theorem c_areNear {X : Nat × (Nat → Int32)} {Mi : MI} {Ml : ML} (h : JW Mi) {nf np f a b : Nat} (ef : Mi 11 11 = nI nf) (hnf : nf ≤ 8) (hf : f < nf) (ep : Mi 5 5 = nI np) (hnp : np ≤ 24) (ha : a < np) (hb : b < np) : pD X m_M_areNear [.ref 54, .int (nI f), .int (nI a), .int (nI b)] (sh0, Mi, Ml, mr0) = some (some (.int (bI (nrB Mi (Mi 15 f).toNatClampNeg a b = true))), (sh0, Mi, Ml, mr0)) := by
  obtain ⟨_, hN, ⟨np', _, ep', _, hP⟩, ⟨nf', _, ef', _, hF, _⟩, _⟩ := h
  obtain rfl : np' = np := (nI_eq (by omega) (by omega)).mp (ep'.symm.trans ep)
  obtain rfl : nf' = nf := (nI_eq (by omega) (by omega)).mp (ef'.symm.trans ef)
  obtain ⟨_, _, _, _, _, a6, a7⟩ := hP a ha
  obtain ⟨_, _, _, _, _, b6, b7⟩ := hP b hb
  obtain ⟨_, _, _, _, _, f6, f7, _⟩ := hF f hf
  obtain ⟨fa, hfa, ea⟩ := pin_ex (by decide) a7
  obtain ⟨fb, hfb, eb⟩ := pin_ex (by decide) b7
  obtain ⟨ff, hff, eff⟩ := pin_ex (by decide) f7
  have xa : fd7 Mi a = fa := by unfold fd7; rw [ea, nI_clamp (by omega)]
  have xb : fd7 Mi b = fb := by unfold fd7; rw [eb, nI_clamp (by omega)]
  have xf : (Mi 15 f).toNatClampNeg = ff := by rw [eff, nI_clamp (by omega)]
  have pa : pin (nI a) 24 := pin_nI (by omega) (by decide)
  have pb : pin (nI b) 24 := pin_nI (by omega) (by decide)
  have pf : pin (nI f) 8 := pin_nI (by omega) (by decide)
  have p1 : pin (nI (5 * fa + fb)) 25 := pin_nI (by omega) (by decide)
  have p2 : pin (nI (5 * ff + fa)) 25 := pin_nI (by omega) (by decide)
  have p3 : pin (nI (5 * ff + fb)) 25 := pin_nI (by omega) (by decide)
  rw [d_M_areNear, if_pos pa, if_pos pb, nI_clamp (show a < 2 ^ 31 by omega), nI_clamp (show b < 2 ^ 31 by omega), nI_clamp (show f < 2 ^ 31 by omega), ← a6, ← b6, ← f6, ea, eb, eff, five_at, if_pos p1, five_at, five_at, if_pos pf, if_pos pa, if_pos p2, if_pos pf, if_pos pb, if_pos p3, nI_clamp (show 5 * fa + fb < 2 ^ 31 by omega), nI_clamp (show 5 * ff + fa < 2 ^ 31 by omega), nI_clamp (show 5 * ff + fb < 2 ^ 31 by omega), (hN fa fb hfa hfb).1, (hN ff fa hff hfa).1, (hN ff fb hff hfb).1, nI_clamp (show ff < 2 ^ 31 by omega)]
  unfold nrB
  rw [xa, xb]
  by_cases g1 : bt (Mi 8 fa) fb = true
  · rw [if_neg (by rw [bI_t g1]; decide)]
    by_cases g2 : bt (Mi 8 ff) fa = true
    · rw [if_neg (by rw [bI_t g2]; decide)]
      by_cases g3 : bt (Mi 8 ff) fb = true
      · rw [if_neg (by rw [bI_t g3]; decide), bI_t (by rw [g1, g2, g3]; rfl)]
      · rw [if_pos (bI_f g3), bI_f (by simp [g3])]
    · rw [if_pos (bI_f g2), bI_f (by simp [g2])]
  · rw [if_pos (bI_f g1), bI_f (by simp [g1])]
theorem c_eb3 {X : Nat × (Nat → Int32)} {Mi : MI} {Ml : ML} (h : JW Mi) {nf np f l a b c : Nat} (ef : Mi 11 11 = nI nf) (hnf : nf ≤ 8) (hf : f < nf) (hl : l < 4) (ep : Mi 5 5 = nI np) (hnp : np ≤ 24) (ha : a < np) (hb : b < np) (hc : c < np) {d : Int32} (hd : pin d 20001) (w2 : Value) (nd v6 : Int32) {K : Option PRs} (hK : ∀ w10 w11 : Value, pdn X m_M_easyBy (122, [.ref 54, .int (nI f), w2, .int (nI l), .int d, .int nd, .int v6, .int (nI a), .int (nI b), .int (nI (c + 1)), w10, w11], [], (sh0, Mi, Ml, mr0), 0, 0) = K) (w10 w11 : Value) (s0 s1 : Int32) (hs : s1 < s0) : pdn X m_M_easyBy (141, [.ref 54, .int (nI f), w2, .int (nI l), .int d, .int nd, .int v6, .int (nI a), .int (nI b), .int (nI c), w10, w11], [.int s0, .int s1], (sh0, Mi, Ml, mr0), 0, 0) = match t3 Mi nd (d - Mi (46 + 2 * l + 1) 2) (Mi 15 f).toNatClampNeg a b c with
    | some x => some (some (.int x), (sh0, Mi, Ml, mr0))
    | none => K := by
  have hP' := h.2.2.1
  obtain ⟨np', _, ep', _, hP⟩ := hP'
  obtain rfl : np' = np := (nI_eq (by omega) (by omega)).mp (ep'.symm.trans ep)
  have pa : pin (nI a) 24 := pin_nI (by omega) (by decide)
  have pb : pin (nI b) 24 := pin_nI (by omega) (by decide)
  have pc : pin (nI c) 24 := pin_nI (by omega) (by decide)
  have st : pin ((Mi 57 a ||| Mi 57 b) ||| Mi 57 c) 1073741824 := by
    rw [← (hP a ha).1, ← (hP b hb).1, ← (hP c hc).1]
    exact or_set (or_set (hP a ha).2.1 (hP b hb).2.1) (hP c hc).2.1
  have ec : cl (Mi 3) ((Mi 57 a ||| Mi 57 b) ||| Mi 57 c) = (Mi 6 a ||| Mi 6 b) ||| Mi 6 c := by
    rw [cl_or, cl_or, (hP a ha).2.2.1, (hP b hb).2.2.1, (hP c hc).2.2.1, (hP a ha).1, (hP b hb).1, (hP c hc).1]
  have e228 : ∀ (x y : Int32) (w : Value), pdn X m_M_easyBy (228, [.ref 54, .int (nI f), w2, .int (nI l), .int d, .int nd, .int v6, .int (nI a), .int (nI b), .int (nI c), .int x, w], [.int y], (sh0, Mi, Ml, mr0), 0, 0) = if x = 0 then K else if y = 0 then K else if (nd &&& (((Mi 6 a ||| Mi 6 b) ||| Mi 6 c) ^^^ (-1))) = 0 then some (some (.int ((((1 : Int32) <<< (nI a &&& 31)) ||| ((1 : Int32) <<< (nI b &&& 31))) ||| ((1 : Int32) <<< (nI c &&& 31)))), (sh0, Mi, Ml, mr0)) else K := by
    intro x y w
    rw [w_M_easyBy_228, nI_1, hK, if_pos pa, if_pos pb, if_pos pc, nI_clamp (show a < 2 ^ 31 by omega), nI_clamp (show b < 2 ^ 31 by omega), nI_clamp (show c < 2 ^ 31 by omega), c_withKinds h.1.1 h.1.2 _ st, Option.bind_some, pb_i, w_M_easyBy_267, c_has, Option.bind_some, pb_i, w_M_easyBy_272, nI_1, hK, ec]
    by_cases g : (nd &&& (((Mi 6 a ||| Mi 6 b) ||| Mi 6 c) ^^^ (-1))) = 0
    · rw [if_neg (show ¬ bI ((nd &&& (((Mi 6 a ||| Mi 6 b) ||| Mi 6 c) ^^^ (-1))) = 0) = 0 by rw [bI_t g]; decide), if_pos g]
    · rw [if_pos (show bI ((nd &&& (((Mi 6 a ||| Mi 6 b) ||| Mi 6 c) ^^^ (-1))) = 0) = 0 from bI_f g), if_neg g]
  have e185 : ∀ (x : Int32) (w10 w11 : Value), pdn X m_M_easyBy (185, [.ref 54, .int (nI f), w2, .int (nI l), .int d, .int nd, .int v6, .int (nI a), .int (nI b), .int (nI c), w10, w11], [.int x], (sh0, Mi, Ml, mr0), 0, 0) = if x = 0 then K else if (nrB Mi (Mi 15 f).toNatClampNeg a b && nrB Mi (Mi 15 f).toNatClampNeg b c && nrB Mi (Mi 15 f).toNatClampNeg a c) = true then (if (nd &&& (((Mi 6 a ||| Mi 6 b) ||| Mi 6 c) ^^^ (-1))) = 0 then some (some (.int ((((1 : Int32) <<< (nI a &&& 31)) ||| ((1 : Int32) <<< (nI b &&& 31))) ||| ((1 : Int32) <<< (nI c &&& 31)))), (sh0, Mi, Ml, mr0)) else K) else K := by
    intro x w10 w11
    rw [w_M_easyBy_185, c_areNear h ef hnf hf ep hnp ha hb, Option.bind_some, pb_i, w_M_easyBy_196, w_M_easyBy_227, e228, c_areNear h ef hnf hf ep hnp hb hc, Option.bind_some, pb_i, w_M_easyBy_208, w_M_easyBy_227, e228, c_areNear h ef hnf hf ep hnp ha hc, Option.bind_some, pb_i, w_M_easyBy_220, w_M_easyBy_227, e228, e228]
    by_cases gx : x = 0
    · simp only [if_pos gx]; split <;> (try rfl); split <;> (try rfl); split <;> rfl
    · simp only [if_neg gx, if_pos (rfl : (0 : Int32) = 0), if_neg (show ¬ (1 : Int32) = 0 by decide)]
      cases g1 : nrB Mi (Mi 15 f).toNatClampNeg a b <;> cases g2 : nrB Mi (Mi 15 f).toNatClampNeg b c <;> cases g3 : nrB Mi (Mi 15 f).toNatClampNeg a c <;> rfl
  have z185 : ∀ (w10 w11 : Value), pdn X m_M_easyBy (185, [.ref 54, .int (nI f), w2, .int (nI l), .int d, .int nd, .int v6, .int (nI a), .int (nI b), .int (nI c), w10, w11], [.int 0], (sh0, Mi, Ml, mr0), 0, 0) = K := fun w10 w11 => by rw [e185, if_pos (rfl : (0 : Int32) = 0)]
  rw [w_M_easyBy_141, if_pos hs, c_countsFor h ep hnp ha hl hd, Option.bind_some, pb_i, w_M_easyBy_153, w_M_easyBy_184, z185, c_countsFor h ep hnp hb hl hd, Option.bind_some, pb_i, w_M_easyBy_165, w_M_easyBy_184, z185, c_countsFor h ep hnp hc hl hd, Option.bind_some, pb_i, w_M_easyBy_177, w_M_easyBy_184, z185, e185, if_neg (show ¬ (1 : Int32) = 0 by decide)]
  unfold t3
  by_cases g1 : (Mi 10 a) < d - Mi (46 + 2 * l + 1) 2
  · rw [if_neg (by rw [bI_t g1]; decide)]
    by_cases g2 : (Mi 10 b) < d - Mi (46 + 2 * l + 1) 2
    · rw [if_neg (by rw [bI_t g2]; decide)]
      by_cases g3 : (Mi 10 c) < d - Mi (46 + 2 * l + 1) 2
      · rw [if_neg (by rw [bI_t g3]; decide)]
        have e1 : (cnB Mi (d - Mi (46 + 2 * l + 1) 2) a && cnB Mi (d - Mi (46 + 2 * l + 1) 2) b && cnB Mi (d - Mi (46 + 2 * l + 1) 2) c) = true := by unfold cnB; rw [decide_eq_true g1, decide_eq_true g2, decide_eq_true g3]; rfl
        by_cases g4 : (nrB Mi (Mi 15 f).toNatClampNeg a b && nrB Mi (Mi 15 f).toNatClampNeg b c && nrB Mi (Mi 15 f).toNatClampNeg a c) = true
        · rw [if_pos g4]
          by_cases g5 : (nd &&& (((Mi 6 a ||| Mi 6 b) ||| Mi 6 c) ^^^ (-1))) = 0
          · rw [if_pos g5, if_pos ⟨e1, g4, g5⟩]
          · rw [if_neg g5, if_neg (fun q => g5 q.2.2)]
        · rw [if_neg g4, if_neg (fun q => g4 q.2.1)]
      · rw [if_pos (bI_f g3), if_neg (fun q => by have := q.1; unfold cnB at this; rw [decide_eq_false g3] at this; simp at this)]
    · rw [if_pos (bI_f g2), if_neg (fun q => by have := q.1; unfold cnB at this; rw [decide_eq_false g2] at this; simp at this)]
  · rw [if_pos (bI_f g1), if_neg (fun q => by have := q.1; unfold cnB at this; rw [decide_eq_false g1] at this; simp at this)]
