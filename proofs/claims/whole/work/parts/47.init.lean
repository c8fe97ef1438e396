/-! THE RELATION holds behind the constructors -/
theorem RK_dead {K : Nat → Int32} (h : ∀ f, f < 30 → (K f) < 0) {f g : Nat} (hf : f < 30) : RK K f g ↔ g = f := by
  constructor
  · intro q
    refine RK_ind (P := fun g => g = f) rfl (fun z _ ih hn => ?_) q
    rw [ih] at hn; exact absurd (h f hf) hn
  · rintro rfl; exact RK_here g
theorem inv_init : Inv hp4.2.1 hp4.2.2.1 := by
  obtain ⟨⟨z1, z2, z3, z4, z5⟩, ⟨z6, z7, z8, z9, z10⟩, z11, z12⟩ := inv_0
  refine ⟨⟨fun f hf => Or.inl (inv_k f hf).1, fun f hf g hg => ?_, fun f hf => ?_, ?_⟩, fun a b ha hb => inv_nr a ha b hb, ⟨0, by omega, z2, z3, fun i hi => absurd hi (Nat.not_lt_zero i)⟩, ⟨0, by omega, z4, z5, fun i hi => absurd hi (Nat.not_lt_zero i), fun i _ h8 => (inv_f i h8).1⟩, ⟨0, by omega, z6, z7, fun i hi => absurd hi (Nat.not_lt_zero i)⟩, z8, ⟨0, by omega, z9, z10, fun i hi => absurd hi (Nat.not_lt_zero i)⟩, ⟨inv_r, inv_rr 47 (by decide), inv_rr 49 (by decide), inv_rr 51 (by decide), inv_rr 53 (by decide)⟩, fun i hi => ⟨(inv_p i hi).1, Or.inl (inv_p i hi).2⟩, ⟨0, by omega, z11, z12, fun i hi => Or.inl (inv_f i hi).2.1, fun _ => 0, fun _ => 0, fun _ => 0, fun _ => 0, fun _ => 0, fun _ => [], fun f hf => ⟨(inv_f f hf).2.1, (inv_f f hf).2.2, Nat.le_refl 0, fun q => absurd q (Nat.lt_irrefl 0), fun q _ q2 => absurd q2 (Nat.not_lt_zero q)⟩, fun q hq => absurd hq (Nat.not_lt_zero q)⟩⟩
  · rw [RK_dead (fun f hf => (inv_k f hf).1) hf, inv_hs f hf g hg, decide_eq_true_iff]
  · exact ⟨fun _ => (inv_k f hf).1, fun _ => (inv_k f hf).2⟩
  · rw [z1]
    have : fb_ct (fun f => decide (¬ (hp4.2.1 55 f) < 0)) 30 = fb_ct (fun _ => false) 30 := fb_ct_cong (fun k hk => by simp [(inv_k k hk).1])
    rw [this]; decide +kernel
