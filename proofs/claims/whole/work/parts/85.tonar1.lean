/-! NARROWING: the versions of a claim with more features -/
theorem or_asc (a b x : Int32) : a ||| (b ||| x) = (a ||| b) ||| x := b_ext (fun i _ => by rw [b_or, b_or, b_or, b_or, Bool.or_assoc])
theorem pv_or {more x : Int32} : ∀ (R l l' L : List Int32), putvs more l R = some L → (∀ y, y ∈ l' ↔ y ∈ l.map (fun s => s ||| x)) → l'.length ≤ l.length → ∃ L', putvs (more ||| x) l' R = some L' ∧ (∀ y, y ∈ L' ↔ y ∈ L.map (fun s => s ||| x)) ∧ L'.length ≤ L.length
  | [], l, l', L, h, hm, hl => by
    have : l = L := Option.some.inj h
    subst this
    exact ⟨l', rfl, hm, hl⟩
  | s :: R, l, l', L, h, hm, hl => by
    rw [putvs] at h
    cases e : putv l (s ||| more) with
    | none => rw [e] at h; exact absurd h (by simp)
    | some l1 =>
      rw [e, Option.bind_some] at h
      have et : s ||| (more ||| x) = (s ||| more) ||| x := or_asc s more x
      unfold putv at e
      by_cases q : s ||| more ∈ l
      · rw [if_pos q] at e
        obtain rfl : l = l1 := Option.some.inj e
        have ht : (s ||| more) ||| x ∈ l' := (hm _).mpr (List.mem_map.mpr ⟨_, q, rfl⟩)
        obtain ⟨L', g1, g2⟩ := pv_or R l l' L h hm hl
        refine ⟨L', ?_, g2⟩
        rw [putvs, et]
        unfold putv
        rw [if_pos ht, Option.bind_some]; exact g1
      · rw [if_neg q] at e
        by_cases q8 : l.length < 8
        · rw [if_pos q8] at e
          obtain rfl : l ++ [s ||| more] = l1 := Option.some.inj e
          by_cases ht : (s ||| more) ||| x ∈ l'
          · obtain ⟨L', g1, g2⟩ := pv_or R (l ++ [s ||| more]) l' L h (fun y => by
              rw [List.map_append, List.mem_append, ← hm y]
              constructor
              · exact Or.inl
              · rintro (z | z)
                · exact z
                · have : y = (s ||| more) ||| x := by simpa using z
                  rw [this]; exact ht) (by rw [List.length_append]; omega)
            refine ⟨L', ?_, g2⟩
            rw [putvs, et]
            unfold putv
            rw [if_pos ht, Option.bind_some]; exact g1
          · obtain ⟨L', g1, g2⟩ := pv_or R (l ++ [s ||| more]) (l' ++ [(s ||| more) ||| x]) L h (fun y => by
              rw [List.map_append, List.mem_append, List.mem_append, ← hm y]
              constructor
              · rintro (z | z)
                · exact Or.inl z
                · exact Or.inr (by simpa using z)
              · rintro (z | z)
                · exact Or.inl z
                · exact Or.inr (by simpa using z)) (by rw [List.length_append, List.length_append]; simp; exact hl)
            refine ⟨L', ?_, g2⟩
            rw [putvs, et]
            unfold putv
            rw [if_neg ht, if_pos (by omega), Option.bind_some]; exact g1
        · rw [if_neg q8] at e; exact absurd e (by simp)
theorem all_mem {L L' : List Int32} (h : ∀ y, y ∈ L' ↔ y ∈ L) (P : Int32 → Bool) : L'.all P = L.all P := by
  rw [Bool.eq_iff_iff, List.all_eq_true, List.all_eq_true]
  exact ⟨fun z y hy => z y ((h y).mpr hy), fun z y hy => z y ((h y).mp hy)⟩
theorem bld_or {more x : Int32} {ps : List (List Int32)} {L : List Int32} (h : bldv more ps = some L) : ∃ L', bldv (more ||| x) ps = some L' ∧ ∀ y, y ∈ L' ↔ y ∈ L.map (fun s => s ||| x) := by
  unfold bldv at h ⊢
  by_cases q : ps.isEmpty = true
  · rw [if_pos q] at h ⊢
    have e : putv [] more = some [more] := by unfold putv; rw [if_neg (by simp), if_pos (by decide)]; rfl
    rw [e] at h
    have : [more] = L := Option.some.inj h
    subst this
    exact ⟨[more ||| x], by unfold putv; rw [if_neg (by simp), if_pos (by decide)]; rfl, fun y => by simp⟩
  · rw [if_neg q] at h ⊢
    obtain ⟨L', g1, g2, _⟩ := pv_or (more := more) (x := x) ps.flatten [] [] L h (fun y => by simp) (Nat.le_refl _)
    exact ⟨L', g1, g2⟩
theorem nar_row {X : Nat × (Nat → Int32)} {Mi : MI} {Ml : ML} (h : Inv Mi Ml) {n : Nat} (en : Mi 23 9 = nI n) (hn : n ≤ 40) {c : Nat} (hc : c < n) {L : List Int32} (hL : rowA (Mi 27) (Mi 28) c L) (x : Int32) (M : MI) (hM : ∀ k, (k ≠ 76 ∧ k ≠ 77 ∧ k ≠ 78 ∧ k ≠ 83 ∧ k ≠ 45) → M k = Mi k) : ∃ (M' : MI) (L' : List Int32) (z : Int32), pD X m_M_findAll [.ref 54, .int (Mi 69 c)] (sh0, pm_up M 71 c (Mi 71 c ||| x), Ml, mr0) = some (some (.int z), (sh0, M', Ml, mr0)) ∧ (∀ k, k ≠ 76 → k ≠ 77 → M' k = pm_up M 71 c (Mi 71 c ||| x) k) ∧ rowA (M' 76) (M' 77) c L' ∧ ∀ y, y ∈ L' ↔ y ∈ L.map (fun s => s ||| x) := by
  obtain ⟨n', h40, e1, e2, _, fs, mn, fo, ps, pe, V, hF, hQ⟩ := h.2.2.2.2.2.2.2.2.2
  obtain rfl : n' = n := (nI_eq (by omega) (by omega)).mp (e1.symm.trans en)
  obtain ⟨⟨q1, q2, q3, q4, q5⟩, ⟨o1, o2, o3, o4⟩, _, ⟨r1, r2⟩, _⟩ := hQ c hc
  obtain ⟨m1, m2, m3, m4, m5⟩ := hF (fo c) q1
  obtain ⟨m6, m7⟩ := m4 (by omega)
  obtain rfl : L = V c := row_one hL r1
  have hpar : ∀ q, fs (fo c) ≤ q → q < fs (fo c) + mn (fo c) → Mi 72 q = nI ((fun q => pe q - ps q) q) ∧ (fun q => pe q - ps q) q ≤ 40 ∧ ∀ k, k < (fun q => pe q - ps q) q → fs (fo c) ≤ (fun q k => (Mi 32 (ps q + k)).toNatClampNeg) q k ∧ (fun q k => (Mi 32 (ps q + k)).toNatClampNeg) q k < q ∧ Mi 73 (40 * q + k) = nI ((fun q k => (Mi 32 (ps q + k)).toNatClampNeg) q k) := by
    intro q a1 a2
    obtain ⟨_, _, ⟨_, _, p3, p4, _, _, p7, p8'⟩, _, _⟩ := hQ q (by omega)
    refine ⟨p7, by show pe q - ps q ≤ 40; omega, fun k hk => ?_⟩
    obtain ⟨p, b1, b2, b3, b4⟩ := p8' k hk
    show fs (fo c) ≤ (Mi 32 (ps q + k)).toNatClampNeg ∧ (Mi 32 (ps q + k)).toNatClampNeg < q ∧ Mi 73 (40 * q + k) = nI (Mi 32 (ps q + k)).toNatClampNeg
    rw [b3, nI_clamp (by omega)]
    rw [m5 q a1 a2] at b1
    exact ⟨b1, b2, b4⟩
  have hV0 : ∀ q, q < n' → bl (fun q => Mi 25 q ||| Mi 26 q) (fun q => pe q - ps q) (fun q k => (Mi 32 (ps q + k)).toNatClampNeg) V q = some (V q) := fun q hq => (hQ q hq).2.2.2.1.2
  generalize hmo : (fun q => Mi 25 q ||| (if q = c then Mi 26 c ||| x else Mi 26 q)) = mo
  have mo_eq : ∀ q, mo q = Mi 25 q ||| (if q = c then Mi 26 c ||| x else Mi 26 q) := fun q => by rw [← hmo]
  have mo_ne : ∀ q, q ≠ c → mo q = Mi 25 q ||| Mi 26 q := fun q hq => by rw [mo_eq, if_neg hq]
  obtain ⟨M', W, t1, t2, t3, hW⟩ := c_findW (X := X) (Ml := Ml) (mo := mo) (np := fun q => pe q - ps q) (pr := fun q k => (Mi 32 (ps q + k)).toNatClampNeg) q1 (show fs (fo c) + mn (fo c) ≤ 40 by omega) (pm_up M 71 c (Mi 71 c ||| x)) (by rw [up_off (show (74 : Nat) ≠ 71 by decide), hM 74 (by decide)]; exact m7) (by rw [up_off (show (75 : Nat) ≠ 71 by decide), hM 75 (by decide)]; exact m2) (by
    intro q a1 a2
    rw [up_off (show (70 : Nat) ≠ 71 by decide), up_off (show (72 : Nat) ≠ 71 by decide), up_off (show (73 : Nat) ≠ 71 by decide), hM 70 (by decide), hM 72 (by decide), hM 73 (by decide)]
    refine ⟨?_, hpar q a1 a2⟩
    obtain ⟨_, ⟨y1, _, y3, _⟩, _⟩ := hQ q (by omega)
    rw [mo_eq, y1]
    by_cases e : q = c
    · rw [if_pos e, e, up_ok, o3]
    · rw [if_neg e, up_kk e, hM 71 (by decide), y3])
  have hb : ∀ q, fs (fo c) ≤ q → q < c → bl mo (fun q => pe q - ps q) (fun q k => (Mi 32 (ps q + k)).toNatClampNeg) V q = some (V q) := fun q a1 a2 => by
    have := hV0 q (by omega)
    unfold bl at this ⊢
    rw [mo_ne q (by omega)]; exact this
  have hlow := bl_uniq (s := fs (fo c)) (e := c) (W := V) (W' := W) (fun q a1 a2 k hk => ⟨((hpar q a1 (by omega)).2.2 k hk).1, ((hpar q a1 (by omega)).2.2 k hk).2.1⟩) (fun q a1 a2 l hl => by rw [hb q a1 a2] at hl; exact Option.some.inj hl) (fun q a1 a2 => hW q a1 (by omega)) c (Nat.le_refl c) (fun q a1 a2 => by rw [hb q a1 a2]; rfl)
  have ebl : bl mo (fun q => pe q - ps q) (fun q k => (Mi 32 (ps q + k)).toNatClampNeg) W c = bl mo (fun q => pe q - ps q) (fun q k => (Mi 32 (ps q + k)).toNatClampNeg) V c := bl_cong (fun k hk => (hlow _ ((hpar c q4 q5).2.2 k hk).1 ((hpar c q4 q5).2.2 k hk).2.1).1)
  obtain ⟨L', g1, g2⟩ := bld_or (x := x) (hV0 c hc)
  have ebl2 : bl mo (fun q => pe q - ps q) (fun q k => (Mi 32 (ps q + k)).toNatClampNeg) V c = some L' := by
    rw [← g1]
    unfold bl
    rw [mo_eq, if_pos rfl, or_asc]
  have eW : W c = L' := hW c q4 q5 L' (ebl.trans ebl2)
  rw [q3]
  exact ⟨M', L', _, t1, t2, by rw [← eW]; exact t3 c q4 q5, g2⟩
/-! what all versions have -/
def cmn (i0 : Int32) (L : List Int32) : Int32 := L.foldl (fun a s => a &&& s) i0
theorem cmn_bt : ∀ (L : List Int32) (i0 : Int32) (i : Nat), bt (cmn i0 L) i = (bt i0 i && L.all (fun s => bt s i))
  | [], i0, i => by show bt i0 i = (bt i0 i && true); rw [Bool.and_true]
  | s :: L, i0, i => by
    show bt (cmn (i0 &&& s) L) i = _
    rw [cmn_bt L (i0 &&& s) i, b_and, List.all_cons, Bool.and_assoc]
theorem cmn_step {L : List Int32} {i : Nat} (h : i < L.length) (a : Int32) : cmn a (L.drop i) = cmn (a &&& L.getD i 0) (L.drop (i + 1)) := by
  rw [drop_at h]; rfl
theorem c_inAll {X : Nat × (Nat → Int32)} {Mi : MI} {Ml : ML} {c : Nat} (hc : c < 40) {L : List Int32} (hr : rowA (Mi 27) (Mi 28) c L) : ∀ (n i : Nat) (a : Int32), i + n = L.length → pdn X m_Claims_inAllVersions (5, [.ref 23, .int (nI c), .int a, .int (nI i)], [], (sh0, Mi, Ml, mr0), 0, 0) = some (some (.int (cmn a (L.drop i))), (sh0, Mi, Ml, mr0)) := by
  have h8 := hr.2.1
  have p40 : pin (nI c) 40 := pin_nI hc (by decide)
  have cc : (nI c).toNatClampNeg = c := nI_clamp (by omega)
  intro n
  induction n with
  | zero =>
    intro i a hi
    obtain rfl : i = L.length := by omega
    rw [e_Claims_inAllVersions_5, if_pos p40, cc, hr.1, if_neg (by rw [nI_lt' (by omega) (by omega)]; omega), List.drop_length]; rfl
  | succ n ih =>
    intro i a hi
    have ix : nI c * 8 + nI i = nI (8 * c + i) := by rw [show (8 : Int32) = nI 8 from rfl, nI_mul', nI_add, Nat.mul_comm]
    rw [e_Claims_inAllVersions_5, if_pos p40, cc, hr.1, if_pos (by rw [nI_lt' (by omega) (by omega)]; omega), d_Claims_versionAt, ix, if_pos (pin_nI (by omega) (by decide)), nI_clamp (by omega), Option.bind_some, pb_i, e_Claims_inAllVersions_22, hr.2.2 i (by omega), nI_1, ih (i + 1) _ (by omega), cmn_step (i := i) (by omega)]
theorem c_cmnM {X : Nat × (Nat → Int32)} {M : MI} {Ml : ML} {c : Nat} (hc : c < 40) {L : List Int32} (hr : rowA (M 76) (M 77) c L) (v2 : Int32) (w5 w6 w7 w8 : Value) : ∀ (n i : Nat) (a : Int32), i + n = L.length → pdn X m_M_toNarrow (35, [.ref 54, .int (nI c), .int v2, .int a, .int (nI i), w5, w6, w7, w8], [], (sh0, M, Ml, mr0), 0, 0) = pdn X m_M_toNarrow (35, [.ref 54, .int (nI c), .int v2, .int (cmn a (L.drop i)), .int (nI L.length), w5, w6, w7, w8], [], (sh0, M, Ml, mr0), 0, 0) := by
  have h8 := hr.2.1
  have p40 : pin (nI c) 40 := pin_nI hc (by decide)
  have cc : (nI c).toNatClampNeg = c := nI_clamp (by omega)
  intro n
  induction n with
  | zero =>
    intro i a hi
    obtain rfl : i = L.length := by omega
    rw [List.drop_length]; rfl
  | succ n ih =>
    intro i a hi
    have ix : 8 * nI c + nI i = nI (8 * c + i) := by rw [show (8 : Int32) = nI 8 from rfl, nI_mul', nI_add]
    rw [cmn_step (i := i) (by omega), ← ih (i + 1) _ (by omega)]
    rw [w_M_toNarrow_35, if_pos p40, cc, hr.1, if_pos (by rw [nI_lt' (by omega) (by omega)]; omega), ix, if_pos (pin_nI (by omega) (by decide)), nI_clamp (by omega), hr.2.2 i (by omega), nI_1]
theorem cmn_eq {F : Int32} (hF : pin F 1073741824) (L : List Int32) : F &&& (cmn 1073741823 L ^^^ (-1)) = F &&& (cmn (-1) L ^^^ (-1)) := by
  apply b_ext
  intro i hi
  rw [b_and, b_and, b_inv _ hi, b_inv _ hi, cmn_bt, cmn_bt, b_m1 i hi]
  by_cases q : i < 30
  · have : ∀ i, i < 30 → bt 1073741823 i = true := by decide +kernel
    rw [this i q]
  · rw [set_hi hF i (by omega)]; rfl
