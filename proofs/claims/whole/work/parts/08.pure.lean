/-! THE PURE MACHINE: refs are numbers (cell k of the world is ref k+1; 2000 and on are cells that were there before), ints and longs are the machine's, memory is functions -/
abbrev PMm : Type := (Nat → Nat → Int32) × (Nat → Nat → Int64) × List (List Nat)
abbrev PHp : Type := List (Nat × Nat) × PMm
abbrev PCf : Type := Nat × List Value × List Value × PHp × Nat × Nat
abbrev PRs : Type := Option Value × PHp
abbrev POut : Type := PCf ⊕ PRs ⊕ (Nat × List Value × PCf)
abbrev pin (i : Int32) (n : Nat) : Prop := 0 ≤ i.toInt ∧ i.toInt < (n : Int)
def pm_lk : List (Nat × PIn) → Nat → Option PIn
  | [], _ => none
  | q :: r, pc => bif Nat.beq q.1 pc then some q.2 else pm_lk r pc
def pm_sh (h : PHp) (o : Nat) : Nat × Nat := match o with
  | 0 => (9, 0)
  | k + 1 => h.1.getD k (9, 0)
def pm_up {α : Type} (f : Nat → Nat → α) (o k : Nat) (x : α) : Nat → Nat → α := fun a b => bif Nat.beq a o && Nat.beq b k then x else f a b
def pm_cell {α : Type} (f : Nat → Nat → α) (o : Nat) (g : Nat → α) : Nat → Nat → α := fun a b => bif Nat.beq a o then g b else f a b
def pm_rd (R : List (List Nat)) (o k : Nat) : Nat := (R.getD (o - 1) []).getD k 0
def pm_wr (R : List (List Nat)) (o k r : Nat) : List (List Nat) := R.set (o - 1) ((R.getD (o - 1) []).set k r)
def pm_sw (x : Int32) : List Nat → Nat → Nat → Nat
  | [], _, d => d
  | t :: r, k, d => if x = Int32.ofNat k then t else pm_sw x r (k + 1) d
def pm_c (c : ClassFile.Cond) (x y : Int32) (a b : Nat) : Nat := match c with
  | .eq => if x = y then a else b
  | .ne => if x = y then b else a
  | .lt => if x < y then a else b
  | .ge => if x < y then b else a
  | .gt => if y < x then a else b
  | .le => if y < x then b else a
def pm_nul : Value := .retAddr 0
def pm_args : List Value → List Value
  | [] => []
  | .long x :: r => .long x :: pm_nul :: pm_args r
  | .double x :: r => .double x :: pm_nul :: pm_args r
  | v :: r => v :: pm_args r
def pm_pad (L : List Value) (n : Nat) : List Value := L ++ List.replicate (n - L.length) pm_nul
def pm_ok1 (L : List Value) (a : Nat) : Bool := Nat.blt a L.length && match a with
  | 0 => true
  | k + 1 => match L.getD k .null with
    | .long _ => false
    | _ => true
def pm_pop : Nat → List Value → List Value → Option (List Value × List Value)
  | 0, st, acc => some (acc, st)
  | k + 1, st, acc => match st with
    | [] => none
    | v :: r => pm_pop k r (v :: acc)
def pm_cat : List Value → Nat
  | [] => 0
  | v :: r => v.category + pm_cat r
/-- arrays that were there before: the script, the three static ones -/
def pm_old (X : Nat × (Nat → Int32)) (r : Nat) : Nat × (Nat → Int32) := match r - 2000 with
  | 0 => X
  | 1 => (6, fun j => ([2, 365, 0, 1, 7300, 0] : List Int32).getD j 0)
  | 2 => (6, fun j => ([1, 0, 0, 0, 1, 0] : List Int32).getD j 0)
  | 3 => (6, fun j => ([3, 999, 999, 1, 9999, 29] : List Int32).getD j 0)
  | _ => (0, fun _ => 0)
def pm_obj (h : PHp) (o c : Nat) : Bool := Nat.beq (pm_sh h o).1 4 && Nat.beq (pm_sh h o).2 c && Nat.blt o 2000
def pm_arr (h : PHp) (o t : Nat) : Bool := Nat.beq (pm_sh h o).1 t && Nat.blt o 2000
def pm_rcv (h : PHp) (o c : Nat) : Bool := pm_obj h o c || (Nat.beq c 100 && Nat.ble 2100 o && Nat.blt o 2110)
/-- a value as a return type keeps it -/
def pm_nar (t : Nat) (x : Int32) : Int32 := match t with
  | 2 => vp_nar .boolean x
  | 4 => vp_nar .char x
  | 5 => vp_nar .byte x
  | _ => x
section PX
variable (X : Nat × (Nat → Int32)) (mid pc : Nat) (L st : List Value) (h : PHp) (cs ss n : Nat)
def pm_nx (st' : List Value) : Option POut := some (.inl (pc + n, L, st', h, cs, ss))
def pm_i2 (f : Int32 → Int32 → Int32) : Option POut := match st with
  | .int y :: .int x :: r => some (.inl (pc + n, L, .int (f x y) :: r, h, cs, ss))
  | _ => none
def pm_l2 (f : Int64 → Int64 → Int64) : Option POut := match st with
  | .long y :: .long x :: r => some (.inl (pc + n, L, .long (f x y) :: r, h, cs, ss))
  | _ => none
def pm_ls (f : Int64 → Int32 → Int64) : Option POut := match st with
  | .int y :: .long x :: r => some (.inl (pc + n, L, .long (f x y) :: r, h, cs, ss))
  | _ => none
def pm_st1 (a : Nat) (v : Value) (r : List Value) : Option POut := bif pm_ok1 L a then some (.inl (pc + n, L.set a v, r, h, cs, ss)) else none
def pm_getf (a b : Nat) : Option POut := match st with
  | .ref o :: r => bif Nat.beq a 100 then
      bif Nat.ble 2100 o && Nat.blt o 2110 then some (.inl (pc + n, L, (bif Nat.beq b 0 then .ref (o + 100) else .int 0) :: r, h, cs, ss)) else none
    else bif pm_obj h o a then match (pt_fty a).getD b 9 with
      | 0 => some (.inl (pc + n, L, .int (h.2.1 o b) :: r, h, cs, ss))
      | 1 => some (.inl (pc + n, L, .long (h.2.2.1 o b) :: r, h, cs, ss))
      | 2 => bif Nat.blt 0 (pm_rd h.2.2.2 o b) && Nat.blt (pm_rd h.2.2.2 o b) 2000 then some (.inl (pc + n, L, .ref (pm_rd h.2.2.2 o b) :: r, h, cs, ss)) else none
      | _ => none
    else none
  | _ => none
def pm_putf (a b : Nat) : Option POut := match st with
  | v :: .ref o :: r => bif pm_obj h o a && (!((pt_fin a).getD b true) || (pt_init mid && Nat.beq (pt_cls mid) a)) then match (pt_fty a).getD b 9, v with
      | 0, .int x => some (.inl (pc + n, L, r, (h.1, pm_up h.2.1 o b x, h.2.2), cs, ss))
      | 1, .long x => some (.inl (pc + n, L, r, (h.1, h.2.1, pm_up h.2.2.1 o b x, h.2.2.2), cs, ss))
      | 2, .ref x => bif Nat.blt 0 x && Nat.blt x 2000 && Nat.blt (o - 1) h.2.2.2.length && Nat.blt b (h.2.2.2.getD (o - 1) []).length then some (.inl (pc + n, L, r, (h.1, h.2.1, h.2.2.1, pm_wr h.2.2.2 o b x), cs, ss)) else none
      | _, _ => none
    else none
  | _ => none
def pm_iald : Option POut := match st with
  | .int i :: .ref o :: r => bif pm_arr h o 0 then
      if pin i (pm_sh h o).2 then some (.inl (pc + n, L, .int (h.2.1 o i.toNatClampNeg) :: r, h, cs, ss)) else none
    else bif Nat.ble 2000 o && Nat.blt o 2004 then
      if pin i (pm_old X o).1 then some (.inl (pc + n, L, .int ((pm_old X o).2 i.toNatClampNeg) :: r, h, cs, ss)) else none
    else none
  | _ => none
def pm_bald : Option POut := match st with
  | .int i :: .ref o :: r => bif pm_arr h o 1 then
      if pin i (pm_sh h o).2 then some (.inl (pc + n, L, .int (h.2.1 o i.toNatClampNeg) :: r, h, cs, ss)) else none
    else bif Nat.ble 2200 o && Nat.blt o 2210 then
      if pin i (pt_str.getD (o - 2200) []).length then some (.inl (pc + n, L, .int ((pt_str.getD (o - 2200) []).getD i.toNatClampNeg 0) :: r, h, cs, ss)) else none
    else none
  | _ => none
def pm_lald : Option POut := match st with
  | .int i :: .ref o :: r => bif pm_arr h o 2 then
      if pin i (pm_sh h o).2 then some (.inl (pc + n, L, .long (h.2.2.1 o i.toNatClampNeg) :: r, h, cs, ss)) else none
    else none
  | _ => none
def pm_aald : Option POut := match st with
  | .int i :: .ref o :: r => bif pm_arr h o 3 then
      if pin i (pm_sh h o).2 ∧ 0 < pm_rd h.2.2.2 o i.toNatClampNeg ∧ pm_rd h.2.2.2 o i.toNatClampNeg < 2000 then some (.inl (pc + n, L, .ref (pm_rd h.2.2.2 o i.toNatClampNeg) :: r, h, cs, ss)) else none
    else none
  | _ => none
def pm_iast : Option POut := match st with
  | .int x :: .int i :: .ref o :: r => bif pm_arr h o 0 then
      if pin i (pm_sh h o).2 then some (.inl (pc + n, L, r, (h.1, pm_up h.2.1 o i.toNatClampNeg x, h.2.2), cs, ss)) else none
    else none
  | _ => none
def pm_bast : Option POut := match st with
  | .int x :: .int i :: .ref o :: r => bif pm_arr h o 1 then
      if pin i (pm_sh h o).2 then some (.inl (pc + n, L, r, (h.1, pm_up h.2.1 o i.toNatClampNeg (vp_nar .boolean x), h.2.2), cs, ss)) else none
    else none
  | _ => none
def pm_last : Option POut := match st with
  | .long x :: .int i :: .ref o :: r => bif pm_arr h o 2 then
      if pin i (pm_sh h o).2 then some (.inl (pc + n, L, r, (h.1, h.2.1, pm_up h.2.2.1 o i.toNatClampNeg x, h.2.2.2), cs, ss)) else none
    else none
  | _ => none
def pm_aast : Option POut := match st with
  | .ref x :: .int i :: .ref o :: r => bif pm_arr h o 3 && pm_obj h x 8 && Nat.blt (o - 1) h.2.2.2.length && Nat.ble (pm_sh h o).2 (h.2.2.2.getD (o - 1) []).length then
      if pin i (pm_sh h o).2 then some (.inl (pc + n, L, r, (h.1, h.2.1, h.2.2.1, pm_wr h.2.2.2 o i.toNatClampNeg x), cs, ss)) else none
    else none
  | _ => none
def pm_alen : Option POut := match st with
  | .ref o :: r => bif Nat.blt (pm_sh h o).1 4 && Nat.blt o 2000 then some (.inl (pc + n, L, .int (Int32.ofNat (pm_sh h o).2) :: r, h, cs, ss))
    else bif Nat.beq o 2000 then some (.inl (pc + n, L, .int (Int32.ofNat X.1) :: r, h, cs, ss))
    else bif Nat.ble 2200 o && Nat.blt o 2210 then some (.inl (pc + n, L, .int (Int32.ofNat (pt_str.getD (o - 2200) []).length) :: r, h, cs, ss))
    else none
  | _ => none
/-- a new cell: shape q, z places, all zero -/
def pm_new (q : Nat × Nat) (z : Nat) (r : List Value) : Option POut := bif Nat.ble (cs + 1) (pt_mc mid) && Nat.ble (ss + z) (pt_ms mid) && Nat.blt h.1.length 1900 && Nat.beq h.2.2.2.length h.1.length then
    some (.inl (pc + n, L, .ref (h.1.length + 1) :: r, (h.1 ++ [q], pm_cell h.2.1 (h.1.length + 1) (fun _ => 0), pm_cell h.2.2.1 (h.1.length + 1) (fun _ => 0), h.2.2.2 ++ [List.replicate z 0]), cs + 1, ss + z))
  else none
def pm_call (rc : Bool) (a b : Nat) : Option POut := bif Nat.beq a 9998 then match st with
    | .ref o :: r => bif Nat.ble (pm_cat r) 8 && Nat.blt o 2000 then some (.inl (pc + n, L, r, h, cs, ss)) else none
    | _ => none
  else bif Nat.beq a 9990 then match st with
    | .int y :: .int x :: r => bif Nat.ble (pm_cat r) 8 then some (.inl (pc + n, L, .int (if y < x then y else x) :: r, h, cs, ss)) else none
    | _ => none
  else bif Nat.beq a 9991 then match st with
    | .int y :: .int x :: r => bif Nat.ble (pm_cat r) 8 then some (.inl (pc + n, L, .int (if x < y then y else x) :: r, h, cs, ss)) else none
    | _ => none
  else match pm_pop b st [] with
    | some (as, r) => bif Nat.ble (cs + pt_mc a) (pt_mc mid) && Nat.ble (ss + pt_ms a) (pt_ms mid) && Nat.ble (pm_cat r) 8 && Nat.blt a mid && (!rc || match as with
        | .ref o :: _ => pm_rcv h o (pt_cls a)
        | _ => false) then some (.inr (.inr (a, as, (pc + n, L, r, h, cs + pt_mc a, ss + pt_ms a)))) else none
    | none => none
def pm_iret : Option POut := match st with
  | [.int x] => if pm_nar (pt_ret mid) x = x then some (.inr (.inl (some (.int x), h))) else none
  | _ => none
def pm_ex (v : Value) (a b : Nat) (ts : List Nat) : Instr → Option POut
  | .iconst _ => some (.inl (pc + n, L, v :: st, h, cs, ss))
  | .bipush _ => some (.inl (pc + n, L, v :: st, h, cs, ss))
  | .sipush _ => some (.inl (pc + n, L, v :: st, h, cs, ss))
  | .ldc _ => some (.inl (pc + n, L, v :: st, h, cs, ss))
  | .ldc_w _ => some (.inl (pc + n, L, v :: st, h, cs, ss))
  | .lconst _ => some (.inl (pc + n, L, v :: st, h, cs, ss))
  | .ldc2_w _ => some (.inl (pc + n, L, v :: st, h, cs, ss))
  | .getstatic _ => some (.inl (pc + n, L, v :: st, h, cs, ss))
  | .iload _ => match L.getD a .null with
    | .int x => some (.inl (pc + n, L, .int x :: st, h, cs, ss))
    | _ => none
  | .iload_n _ => match L.getD a .null with
    | .int x => some (.inl (pc + n, L, .int x :: st, h, cs, ss))
    | _ => none
  | .lload _ => match L.getD a .null with
    | .long x => some (.inl (pc + n, L, .long x :: st, h, cs, ss))
    | _ => none
  | .lload_n _ => match L.getD a .null with
    | .long x => some (.inl (pc + n, L, .long x :: st, h, cs, ss))
    | _ => none
  | .aload _ => match L.getD a .null with
    | .ref x => bif Nat.beq x 2300 then none else some (.inl (pc + n, L, .ref x :: st, h, cs, ss))
    | _ => none
  | .aload_n _ => match L.getD a .null with
    | .ref x => bif Nat.beq x 2300 then none else some (.inl (pc + n, L, .ref x :: st, h, cs, ss))
    | _ => none
  | .istore _ => match st with
    | .int x :: r => pm_st1 pc L h cs ss n a (.int x) r
    | _ => none
  | .istore_n _ => match st with
    | .int x :: r => pm_st1 pc L h cs ss n a (.int x) r
    | _ => none
  | .astore_n _ => match st with
    | .ref x :: r => bif Nat.beq x 2300 then none else pm_st1 pc L h cs ss n a (.ref x) r
    | _ => none
  | .lstore _ => match st with
    | .long x :: r => bif pm_ok1 L a && Nat.blt (a + 1) L.length then some (.inl (pc + n, (L.set a (.long x)).set (a + 1) pm_nul, r, h, cs, ss)) else none
    | _ => none
  | .lstore_n _ => match st with
    | .long x :: r => bif pm_ok1 L a && Nat.blt (a + 1) L.length then some (.inl (pc + n, (L.set a (.long x)).set (a + 1) pm_nul, r, h, cs, ss)) else none
    | _ => none
  | .iinc _ _ => match L.getD a .null, v with
    | .int x, .int d => pm_st1 pc L h cs ss n a (.int (x + d)) st
    | _, _ => none
  | .iadd => pm_i2 pc L st h cs ss n (fun x y => x + y)
  | .isub => pm_i2 pc L st h cs ss n (fun x y => x - y)
  | .imul => pm_i2 pc L st h cs ss n (fun x y => x * y)
  | .iand => pm_i2 pc L st h cs ss n (fun x y => x &&& y)
  | .ior => pm_i2 pc L st h cs ss n (fun x y => x ||| y)
  | .ixor => pm_i2 pc L st h cs ss n (fun x y => x ^^^ y)
  | .ishl => pm_i2 pc L st h cs ss n (fun x y => x <<< (y &&& 31))
  | .ishr => pm_i2 pc L st h cs ss n (fun x y => x >>> (y &&& 31))
  | .iushr => pm_i2 pc L st h cs ss n (fun x y => (x.toUInt32 >>> (y.toUInt32 &&& Int32.toUInt32 31)).toInt32)
  | .ladd => pm_l2 pc L st h cs ss n (fun x y => x + y)
  | .lsub => pm_l2 pc L st h cs ss n (fun x y => x - y)
  | .lmul => pm_l2 pc L st h cs ss n (fun x y => x * y)
  | .land => pm_l2 pc L st h cs ss n (fun x y => x &&& y)
  | .lor => pm_l2 pc L st h cs ss n (fun x y => x ||| y)
  | .lshl => pm_ls pc L st h cs ss n (fun x y => x <<< (y.toInt64 &&& 63))
  | .lshr => pm_ls pc L st h cs ss n (fun x y => x >>> (y.toInt64 &&& 63))
  | .i2l => match st with
    | .int x :: r => some (.inl (pc + n, L, .long x.toInt64 :: r, h, cs, ss))
    | _ => none
  | .l2i => match st with
    | .long x :: r => some (.inl (pc + n, L, .int x.toInt32 :: r, h, cs, ss))
    | _ => none
  | .i2c => match st with
    | .int x :: r => some (.inl (pc + n, L, .int (x.toUInt32 % 65536).toInt32 :: r, h, cs, ss))
    | _ => none
  | .lcmp => match st with
    | .long y :: .long x :: r => some (.inl (pc + n, L, .int (lg_cmp x y) :: r, h, cs, ss))
    | _ => none
  | .ifCond c _ => match st with
    | .int x :: r => some (.inl (pm_c c x 0 a (pc + n), L, r, h, cs, ss))
    | _ => none
  | .if_icmp c _ => match st with
    | .int y :: .int x :: r => some (.inl (pm_c c x y a (pc + n), L, r, h, cs, ss))
    | _ => none
  | .goto _ => some (.inl (a, L, st, h, cs, ss))
  | .tableswitch _ _ _ _ => match st with
    | .int x :: r => some (.inl (pm_sw x ts 0 a, L, r, h, cs, ss))
    | _ => none
  | .dup => match st with
    | v :: r => bif Nat.beq v.category 1 then some (.inl (pc + n, L, v :: v :: r, h, cs, ss)) else none
    | _ => none
  | .dup2 => match st with
    | v :: w :: r => bif Nat.beq v.category 1 && Nat.beq w.category 1 then some (.inl (pc + n, L, v :: w :: v :: w :: r, h, cs, ss)) else none
    | _ => none
  | .pop => match st with
    | v :: r => bif Nat.beq v.category 1 then some (.inl (pc + n, L, r, h, cs, ss)) else none
    | _ => none
  | .ireturn => pm_iret mid st h
  | .lreturn => match st with
    | [.long x] => some (.inr (.inl (some (.long x), h)))
    | _ => none
  | .return_ => match st with
    | [] => some (.inr (.inl (none, h)))
    | _ => none
  | .getfield _ => pm_getf pc L st h cs ss n a b
  | .putfield _ => pm_putf mid pc L st h cs ss n a b
  | .iaload => pm_iald X pc L st h cs ss n
  | .baload => pm_bald pc L st h cs ss n
  | .laload => pm_lald pc L st h cs ss n
  | .aaload => pm_aald pc L st h cs ss n
  | .iastore => pm_iast pc L st h cs ss n
  | .bastore => pm_bast pc L st h cs ss n
  | .lastore => pm_last pc L st h cs ss n
  | .aastore => pm_aast pc L st h cs ss n
  | .arraylength => pm_alen X pc L st h cs ss n
  | .new _ => pm_new mid pc L h cs ss n (4, a) b st
  | .newarray _ => match st with
    | .int x :: r => bif decide (0 ≤ x.toInt) && Nat.ble x.toNatClampNeg 60000 then pm_new mid pc L h cs ss n (a, x.toNatClampNeg) x.toNatClampNeg r else none
    | _ => none
  | .anewarray _ => match st with
    | .int x :: r => bif decide (0 ≤ x.toInt) && Nat.ble x.toNatClampNeg 60000 then pm_new mid pc L h cs ss n (3, x.toNatClampNeg) x.toNatClampNeg r else none
    | _ => none
  | .invokevirtual _ => pm_call mid pc L st h cs ss n true a b
  | .invokestatic _ => pm_call mid pc L st h cs ss n false a b
  | .invokespecial _ => pm_call mid pc L st h cs ss n true a b
  | _ => none
end PX
def pm_step (X : Nat × (Nat → Int32)) (mid : Nat) (q : PCf) : Option POut := match pm_lk (pt_code mid) q.1 with
  | none => none
  | some i => pm_ex X mid q.1 q.2.1 q.2.2.1 q.2.2.2.1 q.2.2.2.2.1 q.2.2.2.2.2 i.2.1 i.2.2.1 i.2.2.2.1 i.2.2.2.2.1 i.2.2.2.2.2 i.1
def pm_init (mid : Nat) (as : List Value) (h : PHp) : PCf := bif Nat.ble (pm_args as).length (pt_maxL mid) then (0, pm_pad (pm_args as) (pt_maxL mid), [], h, 0, 0) else (99999, [], [], h, 0, 0)
/-- the state behind a call -/
def pm_back (q : PCf) (r : PRs) : PCf := (q.1, q.2.1, r.1.toList ++ q.2.2.1, r.2, q.2.2.2.2)
def pm_run (X : Nat × (Nat → Int32)) (K : Nat → List Value → PHp → Option PRs) (mid : Nat) : Nat → PCf → Option PRs
  | 0, _ => none
  | n + 1, q => match pm_step X mid q with
    | none => none
    | some (.inl q') => pm_run X K mid n q'
    | some (.inr (.inl r)) => some r
    | some (.inr (.inr q')) => match (bif Nat.blt q'.1 mid then K q'.1 q'.2.1 q'.2.2.2.2.2.1 else none) with
      | none => none
      | some r => pm_run X K mid n (pm_back q'.2.2 r)
