/-! THE RELATION between the class's cells and the reference's -/
theorem x10 : ((1 : Int32) = 0) = False := by decide +kernel
def IK (K hs of : Nat → Int32) (told : Int32) : Prop := KOk K ∧ HsOk K hs ∧ (∀ f, f < 30 → (of f = 0 ↔ (K f) < 0)) ∧ told = nI (fb_ct (fun f => decide (¬ (K f) < 0)) 30)
def IN (nt isn : Nat → Int32) : Prop := ∀ a b, a < 5 → b < 5 → isn (5 * a + b) = bI (bt (nt a) b = true) ∧ bt (nt a) b = bt (nt b) a ∧ bt (nt a) a = true
def IP (hs : Nat → Int32) (c cM : Int32) (ss ha ff dd sM dM fM : Nat → Int32) : Prop := ∃ n, n ≤ 24 ∧ c = nI n ∧ cM = nI n ∧ ∀ i, i < n → ss i = sM i ∧ pin (ss i) 1073741824 ∧ ha i = cl hs (ss i) ∧ dd i = dM i ∧ pin (dd i) 20001 ∧ ff i = fM i ∧ pin (ff i) 5
def IE (hs : Nat → Int32) (i : Nat) (dd ec es eh ed ecM esM edM : Nat → Int32) : Prop := ∃ e, e ≤ 3 ∧ ec i = nI e ∧ ecM i = nI e ∧ ∀ j, j < e → es (3 * i + j) = esM (3 * i + j) ∧ pin (es (3 * i + j)) 1073741824 ∧ eh (3 * i + j) = cl hs (es (3 * i + j)) ∧ ed (3 * i + j) = edM (3 * i + j) ∧ pin (ed (3 * i + j)) 20001
def IFi (hs : Nat → Int32) (c cM : Int32) (ss ha dd ff ec es eh ed sM dM fM ecM esM edM : Nat → Int32) : Prop := ∃ n, n ≤ 8 ∧ c = nI n ∧ cM = nI n ∧ (∀ i, i < n → ss i = sM i ∧ pin (ss i) 1073741824 ∧ ha i = cl hs (ss i) ∧ dd i = dM i ∧ pin (dd i) 20001 ∧ ff i = fM i ∧ pin (ff i) 5 ∧ IE hs i dd ec es eh ed ecM esM edM) ∧ (∀ i, n ≤ i → i < 8 → ec i = 0)
def IX (c cM : Int32) (t tM : Nat → Int32) : Prop := ∃ n, n ≤ 200 ∧ c = nI n ∧ cM = nI n ∧ ∀ i, i < n → t i = tM i ∧ pin (t i) 256
def IM (c cM : Int32) (ss ll dd sM lM dM : Nat → Int32) : Prop := ∃ n, n ≤ 12 ∧ c = nI n ∧ cM = nI n ∧ ∀ i, i < n → ss i = sM i ∧ pin (ss i) 1073741824 ∧ ll i = lM i ∧ pin (ll i) 16 ∧ dd i = dM i ∧ pin (dd i) 20001
def RRan (v : Nat → Int32) : Prop := (pin (v 0) 4 ∧ ¬ v 0 = 0) ∧ pin (v 1) 10000 ∧ pin (v 2) 10000 ∧ (v 3 = 0 ∨ v 3 = 1) ∧ pin (v 4) 10000 ∧ pin (v 5) 1073741824
def IR (v0 v1 v2 v3 L : Nat → Int32) : Prop := (∀ k, k < 6 → v0 k = L (6 * 0 + k) ∧ v1 k = L (6 * 1 + k) ∧ v2 k = L (6 * 2 + k) ∧ v3 k = L (6 * 3 + k)) ∧ RRan v0 ∧ RRan v1 ∧ RRan v2 ∧ RRan v3
def Inv (Mi : MI) (Ml : ML) : Prop := IK (Mi 55) (Mi 3) (Mi 4) (Mi 2 2) ∧ IN (Mi 8) (Mi 56) ∧ IP (Mi 3) (Mi 5 5) (Mi 54 2) (Mi 9) (Mi 6) (Mi 7) (Mi 10) (Mi 57) (Mi 58) (Mi 59) ∧ IFi (Mi 3) (Mi 11 11) (Mi 54 6) (Mi 12) (Mi 13) (Mi 14) (Mi 15) (Mi 18) (Mi 19) (Mi 20) (Mi 21) (Mi 60) (Mi 61) (Mi 62) (Mi 63) (Mi 64) (Mi 65) ∧ IX (Mi 34 1) (Mi 54 16) (Mi 35) (Mi 68) ∧ Mi 1 10 = Mi 54 17 ∧ IM (Mi 41 9) (Mi 54 36) (Mi 42) (Mi 43) (Mi 44) (Mi 80) (Mi 81) (Mi 82) ∧ IR (Mi 47) (Mi 49) (Mi 51) (Mi 53) (Mi 66)
theorem upd_eq (f : Nat → Int32) (k : Nat) (x : Int32) : upd f k x k = x := if_pos rfl
theorem upd_nq {f : Nat → Int32} {k : Nat} {x : Int32} {j : Nat} (h : j ≠ k) : upd f k x j = f j := if_neg h
theorem nI_lt' {a b : Nat} (ha : a < 2 ^ 31) (hb : b < 2 ^ 31) : nI a < nI b ↔ a < b := by rw [x_lt, nI_toInt ha, nI_toInt hb]; omega
theorem nI_pm (n : Nat) : nI n + 1 - 1 = nI n := by rw [nI_1]; exact nI_subN (b := 1) (by omega)
theorem LS_mk {X : Nat × (Nat → Int32)} {mC mM : Nat} {as : List Value} {Mi Mi1 Mi2 : MI} {Ml Ml1 Ml2 : ML} {r : Int32} (h1 : pD X mC (.ref 1 :: as) (sh0, Mi, Ml, mr0) = some (some (.int r), (sh0, Mi1, Ml1, mr0))) (h2 : pD X mM (.ref 54 :: as) (sh0, Mi1, Ml1, mr0) = some (some (.int r), (sh0, Mi2, Ml2, mr0))) (h3 : Inv Mi2 Ml2) : LStp Inv X mC mM as Mi Ml := ⟨r, Mi1, Ml1, Mi2, Ml2, h1, h2, h3⟩
theorem nI_is {n m : Nat} {b : Int32} (hb : b = nI m) (hn : n < 2 ^ 31) (hm : m < 2 ^ 31) : nI n = b ↔ n = m := by rw [hb, nI_eq hn hm]
