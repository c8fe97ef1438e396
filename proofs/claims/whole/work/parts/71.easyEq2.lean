/-! JUDGING: the two searches agree -/
def HpOk (Mi : MI) (hp N bf : Int32) (ff np : Nat) : Prop := ∀ p, p < np → (bt hp p = true ↔ gdB Mi bf ff p = true ∧ ¬ (N &&& Mi 6 p) = 0)
theorem gd_fl {Mi : MI} {bf : Int32} {ff p : Nat} (h : gdB Mi bf ff p = true) : bt (Mi 8 ff) (fd7 Mi p) = true := by
  unfold gdB at h; rw [Bool.and_eq_true] at h; exact h.2
theorem ez_1 {Mi : MI} {hp N bf : Int32} {ff np : Nat} (h0 : ¬ N = 0) (hH : HpOk Mi hp N bf ff np) (hD : ∀ p, p < np → nr2 Mi p p = true) : cvr Mi hp np 1 N (Mi 8 ff) 0 = rA Mi N bf ff np 1 := by
  rw [cv1 h0, rA1]
  refine srch_cong (fun p _ hp' => ?_)
  have hp'' : p < np := by omega
  rw [T1 N bf ff (hD p hp'')]
  refine ite_iffI ?_ _ _
  constructor
  · rintro ⟨h1, h2, h3⟩; exact ⟨((hH p hp'').mp h2).1, h1⟩
  · rintro ⟨h1, h2⟩
    exact ⟨h2, (hH p hp'').mpr ⟨h1, opn_meet (fun _ _ q => q) (opn_z h0 h2)⟩, gd_fl h1⟩
theorem n1 {Mi : MI} {N bf : Int32} {ff np : Nat} (hD : ∀ p, p < np → nr2 Mi p p = true) (h : rA Mi N bf ff np 1 = none) {a : Nat} (ha : a < np) (hg : gdB Mi bf ff a = true) : ¬ opn Mi N a = 0 := by
  intro q
  rw [rA1, srch_none] at h
  have := h a (by omega) (by omega)
  rw [T1 N bf ff (hD a ha), if_pos ⟨hg, q⟩] at this
  exact absurd this (by simp)
theorem n2 {Mi : MI} {N bf : Int32} {ff np : Nat} (hD : ∀ p, p < np → nr2 Mi p p = true) (h : rA Mi N bf ff np 2 = none) {a b : Nat} (hab : a < b) (hb : b < np) (ga : gdB Mi bf ff a = true) (gb : gdB Mi bf ff b = true) (hn : nr2 Mi a b = true) : ¬ opn Mi (opn Mi N a) b = 0 := by
  intro q
  rw [rA2, srch_none] at h
  have h1 := h a (by omega) (by omega)
  rw [srch_none] at h1
  have := h1 b (by omega) (by omega)
  rw [T2 N bf ff a (hD b hb), if_pos ⟨ga, gb, hn, q⟩] at this
  exact absurd this (by simp)
theorem ez_2 {Mi : MI} {hp N bf : Int32} {ff np : Nat} (h0 : ¬ N = 0) (hH : HpOk Mi hp N bf ff np) (hD : ∀ p, p < np → nr2 Mi p p = true) (r1 : rA Mi N bf ff np 1 = none) : cvr Mi hp np 2 N (Mi 8 ff) 0 = rA Mi N bf ff np 2 := by
  rw [cvS (m := 0) h0, rA2]
  refine srch_cong (fun a _ ha' => ?_)
  have ha : a < np := by omega
  by_cases ga : gdB Mi bf ff a = true
  · by_cases gs : opn Mi N a = N
    · rw [if_neg (fun q => q.1 gs), eq_comm, srch_none]
      intro b _ hb'
      rw [T2 N bf ff a (hD b (by omega)), if_neg]
      rintro ⟨_, gb, _, q⟩
      rw [gs] at q
      exact n1 hD r1 (by omega) gb q
    · have hm := opn_meet (fun _ _ q => q) gs
      have hn0 := n1 hD r1 ha ga
      rw [if_pos ⟨gs, (hH a ha).mpr ⟨ga, hm⟩, gd_fl ga⟩, cv1 hn0, srch_map]
      refine srch_cong (fun b hb1 hb2 => ?_)
      have hb : b < np := by omega
      rw [T2 N bf ff a (hD b hb)]
      by_cases q : opn Mi (opn Mi N a) b = 0 ∧ bt hp b = true ∧ bt (Mi 8 ff &&& Mi 8 (fd7 Mi a)) (fd7 Mi b) = true
      · have q3 := q.2.2
        rw [b_and, Bool.and_eq_true] at q3
        rw [if_pos q, if_pos ⟨ga, ((hH b hb).mp q.2.1).1, q3.2, q.1⟩]
        show some (one b ||| one a) = _
        rw [show one b ||| one a = one a ||| one b from b_ext (fun i _ => by rw [b_or, b_or, Bool.or_comm])]
      · rw [if_neg q, if_neg]
        · rfl
        rintro ⟨_, gb, hn, qz⟩
        refine q ⟨qz, (hH b hb).mpr ⟨gb, opn_meet (opn_sub Mi N a) (opn_z hn0 qz)⟩, ?_⟩
        rw [b_and, Bool.and_eq_true]; exact ⟨gd_fl gb, hn⟩
  · rw [if_neg (fun q => ga ((hH a ha).mp q.2.1).1), eq_comm, srch_none]
    intro b _ hb'
    rw [T2 N bf ff a (hD b (by omega)), if_neg (fun q => ga q.1)]
theorem ez_3 {Mi : MI} {hp N bf : Int32} {ff np : Nat} (h0 : ¬ N = 0) (hH : HpOk Mi hp N bf ff np) (hD : ∀ p, p < np → nr2 Mi p p = true) (r1 : rA Mi N bf ff np 1 = none) (r2 : rA Mi N bf ff np 2 = none) : cvr Mi hp np 3 N (Mi 8 ff) 0 = rA Mi N bf ff np 3 := by
  rw [cvS (m := 1) h0, rA3]
  refine srch_cong (fun a _ ha' => ?_)
  have ha : a < np := by omega
  by_cases ga : gdB Mi bf ff a = true
  · by_cases gs : opn Mi N a = N
    · rw [if_neg (fun q => q.1 gs), eq_comm, srch_none]
      intro b hb1 hb'
      rw [srch_none]
      intro c hc1 hc2
      rw [T3, if_neg]
      rintro ⟨_, gb, gc, _, hbc, _, q⟩
      rw [gs] at q
      exact n2 hD r2 (by omega) (by omega) gb gc hbc q
    · have hm := opn_meet (fun _ _ q => q) gs
      have hn0 := n1 hD r1 ha ga
      rw [if_pos ⟨gs, (hH a ha).mpr ⟨ga, hm⟩, gd_fl ga⟩, cvS (m := 0) hn0, srch_map]
      refine srch_cong (fun b hb1 hb2 => ?_)
      have hb : b < np := by omega
      by_cases gb : gdB Mi bf ff b = true ∧ nr2 Mi a b = true
      · by_cases gs2 : opn Mi (opn Mi N a) b = opn Mi N a
        · rw [if_neg (fun q => q.1 gs2), eq_comm]
          show srch _ _ _ = none
          rw [srch_none]
          intro c hc1 hc2
          rw [T3, if_neg]
          rintro ⟨_, _, gc, _, _, hac, q⟩
          rw [gs2] at q
          exact n2 hD r2 (by omega) (by omega) ga gc hac q
        · have hm2 := opn_meet (opn_sub Mi N a) gs2
          have hn2 := n2 hD r2 (by omega) hb ga gb.1 gb.2
          have hfb : bt (Mi 8 ff &&& Mi 8 (fd7 Mi a)) (fd7 Mi b) = true := by rw [b_and, Bool.and_eq_true]; exact ⟨gd_fl gb.1, gb.2⟩
          rw [if_pos ⟨gs2, (hH b hb).mpr ⟨gb.1, hm2⟩, hfb⟩, cv1 hn2, srch_map, srch_map]
          refine srch_cong (fun c hc1 hc2 => ?_)
          have hc : c < np := by omega
          rw [T3]
          by_cases q : opn Mi (opn Mi (opn Mi N a) b) c = 0 ∧ bt hp c = true ∧ bt ((Mi 8 ff &&& Mi 8 (fd7 Mi a)) &&& Mi 8 (fd7 Mi b)) (fd7 Mi c) = true
          · have q3 := q.2.2
            rw [b_and, b_and, Bool.and_eq_true, Bool.and_eq_true] at q3
            rw [if_pos q, if_pos ⟨ga, gb.1, ((hH c hc).mp q.2.1).1, gb.2, q3.2, q3.1.2, q.1⟩]
            show some ((one c ||| one b) ||| one a) = _
            rw [show (one c ||| one b) ||| one a = (one a ||| one b) ||| one c from b_ext (fun i _ => by rw [b_or, b_or, b_or, b_or]; cases bt (one a) i <;> cases bt (one b) i <;> cases bt (one c) i <;> rfl)]
          · rw [if_neg q, if_neg]
            · rfl
            rintro ⟨_, _, gc, _, hbc, hac, qz⟩
            refine q ⟨qz, (hH c hc).mpr ⟨gc, opn_meet (fun i hi t => opn_sub Mi N a i hi (opn_sub Mi (opn Mi N a) b i hi t)) (opn_z hn2 qz)⟩, ?_⟩
            rw [b_and, b_and, Bool.and_eq_true, Bool.and_eq_true]; exact ⟨⟨gd_fl gc, hac⟩, hbc⟩
      · rw [if_neg, eq_comm]
        · show srch _ _ _ = none
          rw [srch_none]
          intro c hc1 hc2
          rw [T3, if_neg]
          rintro ⟨_, g1, _, g2, _⟩
          exact gb ⟨g1, g2⟩
        · rintro ⟨_, q1, q2⟩
          rw [b_and, Bool.and_eq_true] at q2
          exact gb ⟨((hH b hb).mp q1).1, q2.2⟩
  · rw [if_neg (fun q => ga ((hH a ha).mp q.2.1).1), eq_comm, srch_none]
    intro b hb1 hb'
    rw [srch_none]
    intro c hc1 hc2
    rw [T3, if_neg (fun q => ga q.1)]
/-- what is not told by the helpful papers together, no papers tell -/
theorem tg_none {Mi : MI} {hp N bf : Int32} {ff np : Nat} (hnp : np ≤ 24) (hH : HpOk Mi hp N bf ff np) (ht : ¬ (N &&& (tgN Mi hp np ^^^ (-1))) = 0) {a b c : Nat} (ha : a < np) (hb : b < np) (hc : c < np) : t3 Mi N bf ff a b c = none := by
  rw [T3, if_neg]
  rintro ⟨ga, gb, gc, _, _, _, q⟩
  apply ht
  rw [i_zero]
  intro i hi
  rw [b_and, b_inv _ hi]
  cases hN : bt N i
  · rfl
  · have q' := (i_zero.mp q) i hi
    rw [opn_bt _ _ _ hi, opn_bt _ _ _ hi, opn_bt _ _ _ hi, hN] at q'
    have put : ∀ p, p < np → gdB Mi bf ff p = true → bt (Mi 6 p) i = true → bt (tgN Mi hp np) i = true := by
      intro p hp' hg hb'
      refine (tgN_bt np).mpr ⟨p, hp', (hH p hp').mpr ⟨hg, fun z => ?_⟩, hb'⟩
      have := (i_zero.mp z) i hi
      rw [b_and, hN, hb'] at this; exact absurd this (by decide)
    cases e1 : bt (Mi 6 a) i
    · cases e2 : bt (Mi 6 b) i
      · cases e3 : bt (Mi 6 c) i
        · rw [e1, e2, e3] at q'; exact absurd q' (by decide)
        · rw [put c hc gc e3]; rfl
      · rw [put b hb gb e2]; rfl
    · rw [put a ha ga e1]; rfl
theorem tg_rA {Mi : MI} {hp N bf : Int32} {ff np : Nat} (hnp : np ≤ 24) (hH : HpOk Mi hp N bf ff np) (ht : ¬ (N &&& (tgN Mi hp np ^^^ (-1))) = 0) (k : Nat) : rA Mi N bf ff np k = none := by
  unfold rA
  rw [srch_none]
  intro a _ ha
  unfold rB
  rw [srch_none]
  intro b hb1 hb2
  unfold rC
  rw [srch_none]
  intro c hc1 hc2
  have hb : b < np := by
    by_cases q : 1 < k
    · rw [if_pos q, if_pos q] at hb2; omega
    · rw [if_neg q, if_neg q] at hb2; omega
  have hc : c < np := by
    by_cases q : 2 < k
    · rw [if_pos q, if_pos q] at hc2; omega
    · rw [if_neg q, if_neg q] at hc2; omega
  exact tg_none hnp hH ht (by omega) hb hc
theorem ez_eq {Mi : MI} (h : JW Mi) {nf np f l mo : Nat} (ef : Mi 11 11 = nI nf) (hnf : nf ≤ 8) (hf : f < nf) (ep : Mi 5 5 = nI np) (hnp : np ≤ 24) (hmo : mo ≤ 3) (s : Int32) : ezC Mi f l s np mo = ezM Mi f l s np mo := by
  obtain ⟨_, hN, ⟨np', _, ep', _, hP⟩, _, _⟩ := h
  obtain rfl : np' = np := (nI_eq (by omega) (by omega)).mp (ep'.symm.trans ep)
  have hD : ∀ p, p < np' → nr2 Mi p p = true := fun p hp => by
    obtain ⟨fd, hfd, e7⟩ := pin_ex (by decide) (hP p hp).2.2.2.2.2.2
    have efd : fd7 Mi p = fd := by unfold fd7; rw [e7, nI_clamp (by omega)]
    unfold nr2; rw [efd]; exact (hN fd fd hfd hfd).2.2
  have hH : HpOk Mi (hpv Mi f l s np') (ndv Mi l s) (bfv Mi f l s) (Mi 15 f).toNatClampNeg np' := fun p hp => by
    unfold hpv
    rw [hpN_bt (show p < 32 by omega) np' hnp]
    unfold hpc gdB cnB flv
    simp only [Bool.and_eq_true, Bool.not_eq_true', decide_eq_true_iff, decide_eq_false_iff_not]
    constructor
    · rintro ⟨_, ⟨h1, h2⟩, h3⟩; exact ⟨⟨h1, h2⟩, h3⟩
    · rintro ⟨⟨h1, h2⟩, h3⟩; exact ⟨hp, ⟨h1, h2⟩, h3⟩
  unfold ezC ezM
  by_cases h0 : ndv Mi l s = 0
  · rw [if_pos h0, if_pos (by rw [h0]; exact i_zero.mpr (fun i _ => by rw [b_and, b_0, Bool.false_and]))]
    have : cvr Mi (hpv Mi f l s np') np' 0 (ndv Mi l s) (flv Mi f) 0 = some 0 := if_pos h0
    rw [srch_s (x := 0) (by exact this)]; rfl
  · rw [if_neg h0]
    have c0 : cvr Mi (hpv Mi f l s np') np' 0 (ndv Mi l s) (flv Mi f) 0 = none := if_neg h0
    by_cases ht : (ndv Mi l s &&& (tgN Mi (hpv Mi f l s np') np' ^^^ (-1))) = 0
    · rw [if_pos ht, srch_n (by exact c0)]
      congr 1
      have e1 := ez_1 h0 hH hD
      have e2 := fun r1 => ez_2 h0 hH hD r1
      have e3 := fun r1 r2 => ez_3 h0 hH hD r1 r2
      have ff : flv Mi f = Mi 8 (Mi 15 f).toNatClampNeg := rfl
      rw [ff]
      cases q1 : rA Mi (ndv Mi l s) (bfv Mi f l s) (Mi 15 f).toNatClampNeg np' 1 with
      | some x =>
        cases mo with
        | zero => rfl
        | succ m => rw [srch_s (x := x) (by rw [← q1]; exact e1), srch_s q1]
      | none =>
        cases q2 : rA Mi (ndv Mi l s) (bfv Mi f l s) (Mi 15 f).toNatClampNeg np' 2 with
        | some x =>
          cases mo with
          | zero => rfl
          | succ m =>
            rw [srch_n (by rw [← q1]; exact e1), srch_n q1]
            cases m with
            | zero => rfl
            | succ m => rw [srch_s (x := x) (by rw [← q2]; exact e2 q1), srch_s q2]
        | none =>
          cases mo with
          | zero => rfl
          | succ m =>
            rw [srch_n (by rw [← q1]; exact e1), srch_n q1]
            cases m with
            | zero => rfl
            | succ m =>
              rw [srch_n (by rw [← q2]; exact e2 q1), srch_n q2]
              cases m with
              | zero => rfl
              | succ m =>
                obtain rfl : m = 0 := by omega
                rw [srch_1, srch_1]; exact e3 q1 q2
    · rw [if_neg ht]
      have : srch (rA Mi (ndv Mi l s) (bfv Mi f l s) (Mi 15 f).toNatClampNeg np') mo 1 = none := srch_none.mpr (fun k _ _ => tg_rA hnp hH ht k)
      rw [this]; rfl
