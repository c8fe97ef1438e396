def pl_w (p : Nat) (w : Cond) : Bool := decide (lw_tbl[p]? = some w) && goodWord w
def lw_g : List Cond := lw_tbl.filter goodWord
theorem pl_w_in {p : Nat} {w : Cond} (h : pl_w p w = true) : w ∈ lw_g := by
  simp only [pl_w, Bool.and_eq_true, decide_eq_true_eq] at h
  exact List.mem_filter.mpr ⟨List.mem_of_getElem? h.1, h.2⟩
def pl_own (mid : Nat) : String := (pt_y mid).cls
/-- the instruction is the machine's, its operands are what the tables of words say -/
def pl_i (mid pc : Nat) (n : Nat) (v : Value) (a b : Nat) (ts : List Nat) : Instr → Bool
  | .iconst i => Nat.beq n 1 && decide (v = .int (Int32.ofInt i))
  | .bipush i => Nat.beq n 2 && decide (v = .int (Int8.ofInt i).toInt32)
  | .sipush i => Nat.beq n 3 && decide (v = .int (Int16.ofInt i).toInt32)
  | .ldc i => Nat.beq n 2 && (match v with
    | .int x => pl_w (ts.getD 0 0) (.constant (pl_own mid) i x)
    | .ref r => Nat.beq r (2100 + a) && Nat.blt a 10 && decide ((pt_sr.getD a ("", 0, "")).1 = pl_own mid) && Nat.beq (pt_sr.getD a ("", 0, "")).2.1 i
    | _ => false)
  | .ldc_w i => Nat.beq n 3 && (match v with
    | .int x => pl_w (ts.getD 0 0) (.constant (pl_own mid) i x)
    | _ => false)
  | .lconst i => Nat.beq n 1 && decide (v = .long (Int64.ofNat i))
  | .ldc2_w i => Nat.beq n 3 && (match v with
    | .long x => pl_w (ts.getD 0 0) (.constantLong (pl_own mid) i x)
    | _ => false)
  | .getstatic i => Nat.beq n 3 && Nat.blt a 5 && pl_w (ts.getD 0 0) (.fieldLink (pl_own mid) i (pt_stat.getD a ("", "", "", .null)).1 (pt_stat.getD a ("", "", "", .null)).2.1 (pt_stat.getD a ("", "", "", .null)).2.2.1) && decide (v = (pt_stat.getD a ("", "", "", .null)).2.2.2)
  | .iload i => Nat.beq n 2 && Nat.beq a i
  | .lload i => Nat.beq n 2 && Nat.beq a i
  | .aload i => Nat.beq n 2 && Nat.beq a i
  | .istore i => Nat.beq n 2 && Nat.beq a i
  | .lstore i => Nat.beq n 2 && Nat.beq a i
  | .iload_n i => Nat.beq n 1 && Nat.beq a i.val
  | .lload_n i => Nat.beq n 1 && Nat.beq a i.val
  | .aload_n i => Nat.beq n 1 && Nat.beq a i.val
  | .istore_n i => Nat.beq n 1 && Nat.beq a i.val
  | .lstore_n i => Nat.beq n 1 && Nat.beq a i.val
  | .astore_n i => Nat.beq n 1 && Nat.beq a i.val
  | .iinc i d => Nat.beq n 3 && Nat.beq a i && decide (v = .int (Int32.ofInt d))
  | .ifCond _ d => Nat.beq n 3 && decide ((pc : Int) + d = (a : Int))
  | .if_icmp _ d => Nat.beq n 3 && decide ((pc : Int) + d = (a : Int))
  | .goto d => Nat.beq n 3 && decide ((pc : Int) + d = (a : Int))
  | .tableswitch d lo hi offs => decide (lo = 0) && decide ((pc : Int) + d = (a : Int)) && decide (hi + 1 = (ts.length : Int)) && decide (offs.toList.map (fun o => (pc : Int) + o) = ts.map (fun t : Nat => (t : Int))) && Nat.blt ts.length 100
  | .getfield i => Nat.beq n 3 && (bif Nat.beq a 100 then pl_w (ts.getD 0 0) (.fieldLink (pl_own mid) i "java/lang/String" (bif Nat.beq b 0 then "value" else "coder") (bif Nat.beq b 0 then "[B" else "B"))
    else Nat.blt a 12 && Nat.blt b (vwCl.getD a ("", TX0, 0)).2.2 && pl_w (ts.getD 0 0) (.fieldLink (pl_own mid) i ((vwCl.getD a ("", TX0, 0)).2.1 b).1 ((vwCl.getD a ("", TX0, 0)).2.1 b).2.1 ((vwCl.getD a ("", TX0, 0)).2.1 b).2.2.1))
  | .putfield i => Nat.beq n 3 && Nat.blt a 12 && Nat.blt b (vwCl.getD a ("", TX0, 0)).2.2 && pl_w (ts.getD 0 0) (.fieldLink (pl_own mid) i ((vwCl.getD a ("", TX0, 0)).2.1 b).1 ((vwCl.getD a ("", TX0, 0)).2.1 b).2.1 ((vwCl.getD a ("", TX0, 0)).2.1 b).2.2.1)
  | .new i => Nat.beq n 3 && Nat.blt a 12 && Nat.beq b (vwCl.getD a ("", TX0, 0)).2.2 && pl_w (ts.getD 0 0) (.classLink (pl_own mid) i (vwCl.getD a ("", TX0, 0)).1) && pl_w (ts.getD 1 0) (.instantiable (vwCl.getD a ("", TX0, 0)).1 (vwCl.getD a ("", TX0, 0)).2.2) && pl_w (ts.getD 2 0) (.initialized (vwCl.getD a ("", TX0, 0)).1)
  | .newarray t => Nat.beq n 2 && (match t, a with
    | .int, 0 => pl_w (ts.getD 0 0) (.arrayClass .int)
    | .boolean, 1 => pl_w (ts.getD 0 0) (.arrayClass .boolean)
    | .long, 2 => pl_w (ts.getD 0 0) (.arrayClass .long)
    | _, _ => false)
  | .anewarray i => Nat.beq n 3 && pl_w (ts.getD 0 0) (.classLink (pl_own mid) i "ClaimTrees$Rules")
  | .invokevirtual i => Nat.beq n 3 && (Nat.beq a 9999 || (Nat.blt a mid && !pt_st a && (match ts with
    | [0, q] => pl_w q (.methodLink (pl_own mid) i (pt_y a))
    | [1, q] => decide (pt_nest[q]? = some (.methodLinkNest (pl_own mid) i (pt_y a) "ClaimTrees"))
    | _ => false) && pl_w ((pt_hw a).getD 2 0) (.selects (pl_own a) (pt_y a) (pt_y a)) && decide ((parseMethodDescriptor (pt_y a).desc).map (fun d => d.parameters.length + 1) = some b)))
  | .invokestatic i => Nat.beq n 3 && (Nat.beq a 9999 || (Nat.beq a 9990 && pl_w (ts.getD 0 0) (.methodLink (pl_own mid) i Lib.Math.min.name)) || (Nat.beq a 9991 && pl_w (ts.getD 0 0) (.methodLink (pl_own mid) i Lib.Math.max.name)) || (Nat.blt a mid && pt_st a && (match ts with
    | [0, q] => pl_w q (.methodLink (pl_own mid) i (pt_y a))
    | [1, q] => decide (pt_nest[q]? = some (.methodLinkNest (pl_own mid) i (pt_y a) "ClaimTrees"))
    | _ => false) && decide ((parseMethodDescriptor (pt_y a).desc).map (fun d => d.parameters.length) = some b)))
  | .invokespecial i => Nat.beq n 3 && (Nat.beq a 9999 || (Nat.beq a 9998 && pl_w (ts.getD 0 0) (.methodLink (pl_own mid) i objectInit)) || (Nat.blt a mid && !pt_st a && pt_init a && (match ts with
    | [0, q] => pl_w q (.methodLink (pl_own mid) i (pt_y a))
    | [1, q] => decide (pt_nest[q]? = some (.methodLinkNest (pl_own mid) i (pt_y a) "ClaimTrees"))
    | _ => false) && decide ((parseMethodDescriptor (pt_y a).desc).map (fun d => d.parameters.length + 1) = some b)))
  | _ => Nat.beq n 1
def pl_ok (mid : Nat) (q : Nat × PIn) : Bool := decide (decode (pt_bytes mid) q.1 = .ok (q.2.1, q.2.2.1)) && pl_i mid q.1 q.2.2.1 q.2.2.2.1 q.2.2.2.2.1 q.2.2.2.2.2.1 q.2.2.2.2.2.2 q.2.1
/-- a method's own words -/
def pl_m (mid : Nat) : Bool := plainName (pl_own mid) && pl_w ((pt_hw mid).getD 3 0) (.initialized (pl_own mid))
  && (bif pt_st mid then pl_w ((pt_hw mid).getD 1 0) (.static (pt_y mid)) else pl_w ((pt_hw mid).getD 1 0) (.instanceMethod (pt_y mid))) && decide (pl_own mid ≠ "java/lang/invoke/MethodHandle") && decide (pl_own mid ≠ "java/lang/invoke/VarHandle")
  && Nat.ble (pt_maxL mid) 12 && decide (pt_init mid = decide ((pt_y mid).name = "<init>")) && decide (pt_retT mid = [none, some .int, some .boolean, some .long, some .char, some .byte].getD (pt_ret mid) none) && (Nat.blt (pt_cls mid) 12 && decide ((vwCl.getD (pt_cls mid) ("", TX0, 0)).1 = pl_own mid) || Nat.beq (pt_cls mid) 100 && (pt_st mid || decide (pl_own mid = "java/lang/String")))
