/-! JUDGING: one answer for both sides -/
def ez (Mi : MI) (f l : Nat) (s : Int32) : Int32 := ezC Mi f l s (Mi 5 5).toNatClampNeg (Mi (46 + 2 * l + 1) 0).toNatClampNeg
theorem hpN_ag {M Mi : MI} (F : Agr M Mi) (nd b fl : Int32) : ∀ n, hpN M nd b fl n = hpN Mi nd b fl n
  | 0 => rfl
  | n + 1 => by
    rw [hpN, hpN, hpN_ag F nd b fl n]
    unfold hpc fd7
    rw [F 10 (by decide), F 7 (by decide), F 6 (by decide)]
theorem tgN_ag {M Mi : MI} (F : Agr M Mi) (hp : Int32) : ∀ n, tgN M hp n = tgN Mi hp n
  | 0 => rfl
  | n + 1 => by rw [tgN, tgN, tgN_ag F hp n, F 6 (by decide)]
theorem cvr_ag {M Mi : MI} (F : Agr M Mi) (hp : Int32) (P : Nat) : ∀ m, cvr M hp P m = cvr Mi hp P m
  | 0 => rfl
  | m + 1 => by
    funext nd fl fr
    show (if nd = 0 then some 0 else srch (cvg M hp (cvr M hp P m) m nd fl) (P - fr) fr) = (if nd = 0 then some 0 else srch (cvg Mi hp (cvr Mi hp P m) m nd fl) (P - fr) fr)
    rw [cvr_ag F hp P m]
    have : cvg M hp (cvr Mi hp P m) m nd fl = cvg Mi hp (cvr Mi hp P m) m nd fl := by
      funext p
      unfold cvg opn fd7
      rw [F 6 (by decide), F 7 (by decide), F 8 (by decide)]
    rw [this]
theorem ez_ag {M Mi : MI} (F : Agr M Mi) (f : Nat) {l : Nat} (hl : l < 4) (s : Int32) : ez M f l s = ez Mi f l s := by
  unfold ez ezC hpv flv bfv ndv
  simp only [hpN_ag F, tgN_ag F, cvr_ag F, dyv_ag F f hl s]
  rw [F 3 (by decide), F 8 (by decide), F 15 (by decide), F 5 (by decide), F (46 + 2 * l + 1) (by omega)]
theorem ez_neg {Mi : MI} (h : JW Mi) (f l : Nat) (s : Int32) : ez Mi f l s < 0 ↔ ez Mi f l s = -1 := by
  obtain ⟨_, _, ⟨np, hnp, ep, _⟩, _⟩ := h
  have cp : (Mi 5 5).toNatClampNeg = np := by rw [ep, nI_clamp (by omega)]
  have m1 : ((-1 : Int32) < 0 ↔ (-1 : Int32) = -1) := by decide
  unfold ez ezC
  rw [cp]
  split
  · cases hx : srch (fun m => cvr Mi (hpv Mi f l s np) np m (ndv Mi l s) (flv Mi f) 0) ((Mi (46 + 2 * l + 1) 0).toNatClampNeg + 1) 0 with
    | none => exact m1
    | some r =>
      obtain ⟨m, _, _, hg⟩ := srch_some hx
      have hp := hi_set (s := r) (fun i h1 h2 => cvr_hi hnp m _ _ 0 r (by omega) hg i (by omega) h1)
      obtain ⟨k, hk, rfl⟩ := pin_ex (by decide) hp
      show nI k < 0 ↔ nI k = -1
      refine ⟨fun q => ?_, fun q => absurd q (nI_ne1 (by omega))⟩
      rw [x_lt, nI_toInt (by omega)] at q
      have e0 : (0 : Int32).toInt = 0 := by decide
      omega
  · exact m1
theorem j_mo {Mi : MI} (h : JW Mi) {l : Nat} (hl : l < 4) : ∃ mo, mo ≤ 3 ∧ Mi (46 + 2 * l + 1) 0 = nI mo := by
  obtain ⟨mo, h1, h2⟩ := pin_ex (by decide) (IR_ran h.2.2.2.2 hl).1.1
  exact ⟨mo, by omega, h2⟩
theorem j_easyC {X : Nat × (Nat → Int32)} {Mi : MI} {Ml : ML} (h : JW Mi) {nf f l : Nat} (ef : Mi 11 11 = nI nf) (hnf : nf ≤ 8) (hf : f < nf) (hl : l < 4) (s : Int32) : pD X m_Judge_easyPapers [.ref 40, .int s, .int (nI f), .ref (46 + 2 * l)] (sh0, Mi, Ml, mr0) = some (some (.int (ez Mi f l s)), (sh0, Mi, Ml, mr0)) := by
  obtain ⟨mo, hmo, em⟩ := j_mo h hl
  obtain ⟨np, hnp, ep, _⟩ := h.2.2.1
  rw [c_easyPapers h ef hnf hf hl ep hnp hmo em s, ez, ep, em, nI_clamp (by omega), nI_clamp (by omega)]
theorem j_easyM {X : Nat × (Nat → Int32)} {Mi : MI} {Ml : ML} (h : JW Mi) {nf f l : Nat} (ef : Mi 11 11 = nI nf) (hnf : nf ≤ 8) (hf : f < nf) (hl : l < 4) (s : Int32) : pD X m_M_easyBy [.ref 54, .int (nI f), .int s, .int (nI l)] (sh0, Mi, Ml, mr0) = some (some (.int (ez Mi f l s)), (sh0, Mi, Ml, mr0)) := by
  obtain ⟨mo, hmo, em⟩ := j_mo h hl
  obtain ⟨np, hnp, ep, _⟩ := h.2.2.1
  rw [c_easyBy h ef hnf hf hl ep hnp hmo em s, ez, ep, em, nI_clamp (by omega), nI_clamp (by omega), ez_eq h ef hnf hf ep hnp hmo]
