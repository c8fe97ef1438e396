/-! THE RELATION between the class's cells and the reference's -/
theorem x10 : ((1 : Int32) = 0) = False := by decide +kernel
def IK (K hs of : Nat → Int32) (told : Int32) : Prop := KOk K ∧ HsOk K hs ∧ (∀ f, f < 30 → (of f = 0 ↔ (K f) < 0)) ∧ told = nI (fb_ct (fun f => decide (¬ (K f) < 0)) 30)
def IN (nt isn : Nat → Int32) : Prop := ∀ a b, a < 5 → b < 5 → isn (5 * a + b) = bI (bt (nt a) b = true) ∧ bt (nt a) b = bt (nt b) a ∧ bt (nt a) a = true
def IP (hs : Nat → Int32) (c cM : Int32) (ss ha ff dd sM dM fM : Nat → Int32) : Prop := ∃ n, n ≤ 24 ∧ c = nI n ∧ cM = nI n ∧ ∀ i, i < n → ss i = sM i ∧ pin (ss i) 1073741824 ∧ ha i = cl hs (ss i) ∧ dd i = dM i ∧ pin (dd i) 20001 ∧ ff i = fM i ∧ pin (ff i) 5
def IE (hs : Nat → Int32) (i : Nat) (dd ec es eh ed ecM esM edM : Nat → Int32) : Prop := ∃ e, e ≤ 3 ∧ ec i = nI e ∧ ecM i = nI e ∧ ∀ j, j < e → es (3 * i + j) = esM (3 * i + j) ∧ pin (es (3 * i + j)) 1073741824 ∧ eh (3 * i + j) = cl hs (es (3 * i + j)) ∧ ed (3 * i + j) = edM (3 * i + j) ∧ pin (ed (3 * i + j)) 20001
def IFi (hs : Nat → Int32) (c cM : Int32) (ss ha dd ff ec es eh ed sM dM fM ecM esM edM : Nat → Int32) : Prop := ∃ n, n ≤ 8 ∧ c = nI n ∧ cM = nI n ∧ (∀ i, i < n → ss i = sM i ∧ pin (ss i) 1073741824 ∧ ha i = cl hs (ss i) ∧ dd i = dM i ∧ pin (dd i) 20001 ∧ ff i = fM i ∧ pin (ff i) 5 ∧ IE hs i dd ec es eh ed ecM esM edM) ∧ (∀ i, n ≤ i → i < 8 → ec i = 0)
def IX (c cM : Int32) (t tM : Nat → Int32) : Prop := ∃ n, n ≤ 200 ∧ c = nI n ∧ cM = nI n ∧ ∀ i, i < n → t i = tM i ∧ pin (t i) 256
def IM (c cM : Int32) (ss ll dd sM lM dM : Nat → Int32) : Prop := ∃ n, n ≤ 12 ∧ c = nI n ∧ cM = nI n ∧ ∀ i, i < n → ss i = sM i ∧ pin (ss i) 1073741824 ∧ ll i = lM i ∧ pin (ll i) 16 ∧ dd i = dM i ∧ pin (dd i) 20001
def RRan (v : Nat → Int32) : Prop := (pin (v 0) 4 ∧ ¬ v 0 = 0) ∧ pin (v 1) 10000 ∧ pin (v 2) 10000 ∧ (v 3 = 0 ∨ v 3 = 1) ∧ pin (v 4) 10000 ∧ pin (v 5) 1073741824
def IR (v0 v1 v2 v3 L : Nat → Int32) : Prop := (∀ k, k < 6 → v0 k = L (6 * 0 + k) ∧ v1 k = L (6 * 1 + k) ∧ v2 k = L (6 * 2 + k) ∧ v3 k = L (6 * 3 + k)) ∧ RRan v0 ∧ RRan v1 ∧ RRan v2 ∧ RRan v3
def IPd (a b : Nat → Int32) : Prop := ∀ i, i < 32 → a i = b i ∧ (a i = -1 ∨ pin (a i) 20001)
/-! versions: a list that takes a set once, and eight at most -/
def putv (l : List Int32) (s : Int32) : Option (List Int32) := if s ∈ l then some l else if l.length < 8 then some (l ++ [s]) else none
def putvs (more : Int32) : List Int32 → List Int32 → Option (List Int32)
  | l, [] => some l
  | l, s :: r => (putv l (s ||| more)).bind (fun l2 => putvs more l2 r)
def bldv (more : Int32) (ps : List (List Int32)) : Option (List Int32) := if ps.isEmpty then putv [] more else putvs more [] ps.flatten
def rowA (fc fv : Nat → Int32) (q : Nat) (l : List Int32) : Prop := fc q = nI l.length ∧ l.length ≤ 8 ∧ ∀ i, i < l.length → fv (8 * q + i) = l.getD i 0
def IPar (fs fo ps pe : Nat → Nat) (f30 f31 f32 f72 f73 : Nat → Int32) (q : Nat) : Prop := f30 q = nI (ps q) ∧ f31 q = nI (pe q) ∧ ps q ≤ pe q ∧ pe q ≤ ps q + q ∧ (q = 0 → ps q = 0) ∧ (0 < q → ps q = pe (q - 1)) ∧ f72 q = nI (pe q - ps q) ∧ ∀ k, k < pe q - ps q → ∃ p, fs (fo q) ≤ p ∧ p < q ∧ f32 (ps q + k) = nI p ∧ f73 (40 * q + k) = nI p
def IVer (V : Nat → List Int32) (ps pe : Nat → Nat) (f25 f26 f27 f28 f32 : Nat → Int32) (q : Nat) : Prop := rowA f27 f28 q (V q) ∧ bldv (f25 q ||| f26 q) ((List.range (pe q - ps q)).map (fun k => V (f32 (ps q + k)).toNatClampNeg)) = some (V q)
def IAnc (ps pe : Nat → Nat) (f32 : Nat → Int32) (a29 : Nat → Int64) (q : Nat) : Prop := ∀ p, p < 64 → ((a29 q).toBitVec.getLsbD p = true ↔ ∃ k, k < pe q - ps q ∧ (f32 (ps q + k) = nI p ∨ (a29 (f32 (ps q + k)).toNatClampNeg).toBitVec.getLsbD p = true))
def IC (c cM : Int32) (f16 f17 f74 f75 f24 f69 f25 f70 f26 f71 f27 f28 f30 f31 f32 f72 f73 : Nat → Int32) (a29 : Nat → Int64) (c11 : Int32) : Prop := ∃ n, n ≤ 40 ∧ c = nI n ∧ cM = nI n ∧ (∀ i, i < 8 → f17 i = 0 ∨ nI i < c11) ∧ ∃ (fs mn fo ps pe : Nat → Nat) (V : Nat → List Int32), (∀ f, f < 8 → f17 f = nI (mn f) ∧ f75 f = nI (mn f) ∧ fs f + mn f ≤ n ∧ (0 < mn f → f16 f = nI (fs f) ∧ f74 f = nI (fs f)) ∧ ∀ q, fs f ≤ q → q < fs f + mn f → fo q = f) ∧ (∀ q, q < n → (fo q < 8 ∧ f24 q = nI (fo q) ∧ f69 q = nI (fo q) ∧ fs (fo q) ≤ q ∧ q < fs (fo q) + mn (fo q)) ∧ (f25 q = f70 q ∧ pin (f25 q) 1073741824 ∧ f26 q = f71 q ∧ pin (f26 q) 1073741824) ∧ IPar fs fo ps pe f30 f31 f32 f72 f73 q ∧ IVer V ps pe f25 f26 f27 f28 f32 q ∧ IAnc ps pe f32 a29 q)
theorem IC_11 {c cM : Int32} {f16 f17 f74 f75 f24 f69 f25 f70 f26 f71 f27 f28 f30 f31 f32 f72 f73 : Nat → Int32} {a29 : Nat → Int64} {c11 d11 : Int32} (h : IC c cM f16 f17 f74 f75 f24 f69 f25 f70 f26 f71 f27 f28 f30 f31 f32 f72 f73 a29 c11) (hd : c11 ≤ d11) : IC c cM f16 f17 f74 f75 f24 f69 f25 f70 f26 f71 f27 f28 f30 f31 f32 f72 f73 a29 d11 := by
  obtain ⟨n, h1, h2, h3, h4, h5⟩ := h
  refine ⟨n, h1, h2, h3, fun i hi => (h4 i hi).imp id (fun q => ?_), h5⟩
  rw [x_lt] at q ⊢; rw [x_le] at hd; omega
def Inv (Mi : MI) (Ml : ML) : Prop := IK (Mi 55) (Mi 3) (Mi 4) (Mi 2 2) ∧ IN (Mi 8) (Mi 56) ∧ IP (Mi 3) (Mi 5 5) (Mi 54 2) (Mi 9) (Mi 6) (Mi 7) (Mi 10) (Mi 57) (Mi 58) (Mi 59) ∧ IFi (Mi 3) (Mi 11 11) (Mi 54 6) (Mi 12) (Mi 13) (Mi 14) (Mi 15) (Mi 18) (Mi 19) (Mi 20) (Mi 21) (Mi 60) (Mi 61) (Mi 62) (Mi 63) (Mi 64) (Mi 65) ∧ IX (Mi 34 1) (Mi 54 16) (Mi 35) (Mi 68) ∧ Mi 1 10 = Mi 54 17 ∧ IM (Mi 41 9) (Mi 54 36) (Mi 42) (Mi 43) (Mi 44) (Mi 80) (Mi 81) (Mi 82) ∧ IR (Mi 47) (Mi 49) (Mi 51) (Mi 53) (Mi 66) ∧ IPd (Mi 22) (Mi 79) ∧ IC (Mi 23 9) (Mi 54 23) (Mi 16) (Mi 17) (Mi 74) (Mi 75) (Mi 24) (Mi 69) (Mi 25) (Mi 70) (Mi 26) (Mi 71) (Mi 27) (Mi 28) (Mi 30) (Mi 31) (Mi 32) (Mi 72) (Mi 73) (Ml 29) (Mi 11 11)
theorem upd_eq (f : Nat → Int32) (k : Nat) (x : Int32) : upd f k x k = x := if_pos rfl
theorem upd_nq {f : Nat → Int32} {k : Nat} {x : Int32} {j : Nat} (h : j ≠ k) : upd f k x j = f j := if_neg h
theorem nI_lt' {a b : Nat} (ha : a < 2 ^ 31) (hb : b < 2 ^ 31) : nI a < nI b ↔ a < b := by rw [x_lt, nI_toInt ha, nI_toInt hb]; omega
theorem nI_pm (n : Nat) : nI n + 1 - 1 = nI n := by rw [nI_1]; exact nI_subN (b := 1) (by omega)
theorem LS_mk {X : Nat × (Nat → Int32)} {mC mM : Nat} {as : List Value} {Mi Mi1 Mi2 : MI} {Ml Ml1 Ml2 : ML} {r : Int32} (h1 : pD X mC (.ref 1 :: as) (sh0, Mi, Ml, mr0) = some (some (.int r), (sh0, Mi1, Ml1, mr0))) (h2 : pD X mM (.ref 54 :: as) (sh0, Mi1, Ml1, mr0) = some (some (.int r), (sh0, Mi2, Ml2, mr0))) (h3 : Inv Mi2 Ml2) : LStp Inv X mC mM as Mi Ml := ⟨r, Mi1, Ml1, Mi2, Ml2, h1, h2, h3⟩
theorem nI_is {n m : Nat} {b : Int32} (hb : b = nI m) (hn : n < 2 ^ 31) (hm : m < 2 ^ 31) : nI n = b ↔ n = m := by rw [hb, nI_eq hn hm]
