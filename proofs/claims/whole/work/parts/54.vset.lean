/-! every version is a set of features -/
theorem or_set {a b : Int32} (ha : pin a 1073741824) (hb : pin b 1073741824) : pin (a ||| b) 1073741824 :=
  hi_set (fun i _ h => by rw [b_or, set_hi ha i h, set_hi hb i h]; rfl)
theorem putv_set {l l2 : List Int32} {s : Int32} (hl : ∀ x, x ∈ l → pin x 1073741824) (hs : pin s 1073741824) (h : putv l s = some l2) : ∀ x, x ∈ l2 → pin x 1073741824 := by
  unfold putv at h
  by_cases h1 : s ∈ l
  · rw [if_pos h1] at h; cases h; exact hl
  · rw [if_neg h1] at h
    by_cases h2 : l.length < 8
    · rw [if_pos h2] at h; cases h
      intro x hx
      rcases List.mem_append.mp hx with q | q
      · exact hl x q
      · rw [List.mem_singleton.mp q]; exact hs
    · rw [if_neg h2] at h; exact absurd h (by simp)
theorem putvs_set {more : Int32} (hm : pin more 1073741824) : ∀ (r l l2 : List Int32), (∀ x, x ∈ r → pin x 1073741824) → (∀ x, x ∈ l → pin x 1073741824) → putvs more l r = some l2 → ∀ x, x ∈ l2 → pin x 1073741824
  | [], l, l2, _, hl, h => by have : l = l2 := Option.some.inj h; rw [← this]; exact hl
  | s :: r, l, l2, hr, hl, h => by
    rw [putvs] at h
    cases e : putv l (s ||| more) with
    | none => rw [e] at h; exact absurd h (by simp)
    | some l3 =>
      rw [e, Option.bind_some] at h
      exact putvs_set hm r l3 l2 (fun x hx => hr x (List.mem_cons_of_mem _ hx)) (putv_set hl (or_set (hr s List.mem_cons_self) hm) e) h
theorem bldv_set {more : Int32} (hm : pin more 1073741824) {ps : List (List Int32)} {l2 : List Int32} (hp : ∀ l, l ∈ ps → ∀ x, x ∈ l → pin x 1073741824) (h : bldv more ps = some l2) : ∀ x, x ∈ l2 → pin x 1073741824 := by
  unfold bldv at h
  by_cases q : ps.isEmpty = true
  · rw [if_pos q] at h
    exact putv_set (fun x hx => absurd hx (by simp)) hm h
  · rw [if_neg q] at h
    refine putvs_set hm _ _ _ (fun x hx => ?_) (fun x hx => absurd hx (by simp)) h
    obtain ⟨l, h1, h2⟩ := List.mem_flatten.mp hx
    exact hp l h1 x h2
