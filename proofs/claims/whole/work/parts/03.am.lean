/-! THE ABSTRACT MACHINE: values (kind, number): 0 int, 1 a reference (0 is null, x stands for the cell x - 1 of the abstract heap), 2 long, 4 a String constant, 5 its bytes, 6 another reference, 9 nothing; a cell: its shape and its numbers. Shapes: below 20 arrays, 20 + i objects of class i of vwCl. -/
abbrev aV : Type := Nat × Int
abbrev aC : Type := Nat × List Int
abbrev aH : Type := List aC
/-- an instruction with what its places in the pool stand for -/
abbrev aI : Type := Instr × Int × Nat × Nat
def wr (x : Int) : Int := Int.bmod x 4294967296
def wl (x : Int) : Int := Int.bmod x 18446744073709551616
def i3 (x : Int) : Int32 := Int32.ofInt x
def i6 (x : Int) : Int64 := Int64.ofInt x
def bI (f : Int32 → Int32 → Int32) (x y : Int) : Int := (f (i3 x) (i3 y)).toInt
def bL (f : Int64 → Int64 → Int64) (x y : Int) : Int := (f (i6 x) (i6 y)).toInt
def tagT : FieldType → Nat
  | .long => 2
  | .int => 0
  | .boolean => 0
  | .byte => 0
  | .char => 0
  | .short => 0
  | _ => 1
def aty (ci k : Nat) : FieldType := match ci with
  | 0 => tyX0 k | 1 => tyX1 k | 2 => tyX2 k | 3 => tyX3 k | 4 => tyX4 k | 5 => tyX5 k | 6 => tyX6 k | 7 => tyX7 k | 8 => tyX8 k | 9 => tyX9 k | 10 => tyX10 k | 11 => tyX11 k | _ => tyX12 k
def ftag (ci k : Nat) : Nat := tagT (aty ci k)
/-- what arrays of a shape hold -/
def aft (k : Nat) : FieldType := match k with
  | 0 => .int | 1 => .long | 2 => .boolean | 3 => .object RX7 | 4 => .object RX1 | 5 => .object RX2 | 6 => .array .int | 7 => .array .long | _ => .object RX7
/-- the class of what arrays of references hold -/
def aec (k : Nat) : Nat := match k with
  | 3 => 7 | 4 => 1 | 5 => 2 | _ => 7
def tgA (k : Nat) : Nat := if k = 1 then 2 else if k ≤ 2 then 0 else 1
def tgC (sh k : Nat) : Nat := if sh < 20 then tgA sh else ftag (sh - 20) k
def slen (i : Int) : Int := if i = 0 then 10 else if i = 1 then 144 else 0
def sby0 : List Int := [126, 94, 39, 38, 64, 35, 37, 42, 43, 61]
def sby1 : List Int := [111, 112, 101, 110, 32, 32, 32, 32, 119, 111, 114, 100, 32, 32, 32, 32, 97, 103, 114, 101, 101, 32, 32, 32, 112, 97, 105, 114, 32, 32, 32, 32, 115, 116, 114, 97, 110, 103, 101, 32, 104, 97, 98, 105, 116, 32, 32, 32, 115, 101, 101, 100, 32, 32, 32, 32, 97, 110, 121, 32, 32, 32, 32, 32, 115, 116, 97, 114, 116, 32, 32, 32, 118, 111, 119, 101, 108, 32, 32, 32, 99, 111, 110, 115, 32, 32, 32, 32, 101, 110, 100, 32, 32, 32, 32, 32, 115, 105, 103, 110, 32, 32, 32, 32, 110, 111, 117, 110, 32, 32, 32, 32, 118, 101, 114, 98, 32, 32, 32, 32, 97, 100, 106, 32, 32, 32, 32, 32, 112, 114, 101, 112, 32, 32, 32, 32, 99, 111, 110, 106, 32, 32, 32, 32]
def sbyt (i : Int) (j : Nat) : Int := if i = 0 then sby0.getD j 0 else sby1.getD j 0
def cellAt (hp : aH) (x : Int) : Option aC := if 1 ≤ x then hp[(x - 1).toNat]? else none
def putAt (hp : aH) (x : Int) (c : aC) : aH := hp.set (x - 1).toNat c
abbrev aR : Type := Option (Nat × List aV × List aV × aH)
/-- does a value go with a kind of load, store: 0 int, 1 reference, 2 long -/
def tok (t : Nat) (w : aV) : Bool := match t with
  | 0 => w.1 == 0
  | 2 => w.1 == 2
  | _ => (w.1 == 1 && decide (1 ≤ w.2)) || w.1 == 4 || w.1 == 5
def lsok (ls : List aV) (i : Nat) : Bool := decide (i < ls.length) && (i == 0 || (ls.getD (i - 1) (9, 0)).1 != 2)
def ldS (hp : aH) (ls st : List aV) (np t i : Nat) : aR := match ls[i]? with
  | some w => if tok t w then some (np, ls, w :: st, hp) else none
  | none => none
def stS (hp : aH) (ls st : List aV) (np t i : Nat) : aR := match st with
  | w :: st' => if tok t w && lsok ls i then (if t = 2 then (if i + 1 < ls.length then some (np, (ls.set i w).set (i + 1) (9, 0), st', hp) else none) else some (np, ls.set i w, st', hp)) else none
  | [] => none
def op2 (hp : aH) (ls st : List aV) (np : Nat) (f : Int → Int → Option Int) : aR := match st with
  | (0, y) :: (0, x) :: st' => (f x y).map fun z => (np, ls, (0, z) :: st', hp)
  | _ => none
def op2L (hp : aH) (ls st : List aV) (np t : Nat) (f : Int → Int → Option Int) : aR := match st with
  | (2, y) :: (2, x) :: st' => (f x y).map fun z => (np, ls, (t, z) :: st', hp)
  | _ => none
def op1 (hp : aH) (ls st : List aV) (np t u : Nat) (f : Int → Int) : aR := match st with
  | (a, x) :: st' => if a = t then some (np, ls, (u, f x) :: st', hp) else none
  | _ => none
def jmp (hp : aH) (ls st : List aV) (pc : Nat) (off : Int) : aR := if 0 ≤ (pc : Int) + off then some (((pc : Int) + off).toNat, ls, st, hp) else none
def cmpI (c : ClassFile.Cond) (x y : Int) : Bool := match c with
  | .eq => decide (x = y) | .ne => decide (x ≠ y) | .lt => decide (x < y) | .ge => decide (y ≤ x) | .gt => decide (y < x) | .le => decide (x ≤ y)
def if1 (hp : aH) (ls st : List aV) (pc : Nat) (c : ClassFile.Cond) (off : Int) : aR := match st with
  | (0, x) :: st' => if 0 ≤ (pc : Int) + off then some (if cmpI c x 0 then ((pc : Int) + off).toNat else pc + 3, ls, st', hp) else none
  | _ => none
def if2 (hp : aH) (ls st : List aV) (pc : Nat) (c : ClassFile.Cond) (off : Int) : aR := match st with
  | (0, y) :: (0, x) :: st' => if 0 ≤ (pc : Int) + off then some (if cmpI c x y then ((pc : Int) + off).toNat else pc + 3, ls, st', hp) else none
  | _ => none
def swT (hp : aH) (ls st : List aV) (pc : Nat) (d lo hi : Int) (offs : Array Int) : aR := match st with
  | (0, x) :: st' => if x < lo ∨ hi < x then jmp hp ls st' pc d else match offs[(x - lo).toNat]? with
    | some off => jmp hp ls st' pc off
    | none => none
  | _ => none
def swL (hp : aH) (ls st : List aV) (pc : Nat) (d : Int) (ps : Array (Int × Int)) : aR := match st with
  | (0, x) :: st' => if (ps.toList.zip (ps.toList.drop 1)).all (fun (a, next) => a.1 < next.1) = true then jmp hp ls st' pc (Op.lookupswitch.offset ps.toList d x) else none
  | _ => none
/-- a field: of an object of class ci, of a String constant (100: coder, 101: value) -/
def gfS (hp : aH) (ls st : List aV) (np ci k : Nat) : aR := match st with
  | (1, a) :: st' => match cellAt hp a with
    | some (sh, l) => if sh = 20 + ci then (l[k]?).map fun z => (np, ls, (ftag ci k, z) :: st', hp) else none
    | none => none
  | (4, i) :: st' => if ¬ (i = 0 ∨ i = 1) then none else if ci = 100 then some (np, ls, (0, 0) :: st', hp) else if ci = 101 then some (np, ls, (5, i) :: st', hp) else none
  | _ => none
def bok (ty : FieldType) (z : Int) : Bool := match ty with
  | .boolean => z == 0 || z == 1
  | .char => decide (0 ≤ z) && decide (z < 65536)
  | .byte => decide (-128 ≤ z) && decide (z < 128)
  | .short => decide (-32768 ≤ z) && decide (z < 32768)
  | _ => true
def pfS (hp : aH) (ls st : List aV) (np ci k : Nat) : aR := match st with
  | (t, z) :: (1, a) :: st' => match cellAt hp a with
    | some (sh, l) => if sh = 20 + ci ∧ t = ftag ci k ∧ k < l.length ∧ bok (aty ci k) z = true then some (np, ls, st', putAt hp a (sh, l.set k z)) else none
    | none => none
  | _ => none
def alS (hp : aH) (ls st : List aV) (np t lo hi : Nat) : aR := match st with
  | (0, j) :: (1, a) :: st' => match cellAt hp a with
    | some (sh, l) => if lo ≤ sh ∧ sh ≤ hi ∧ 0 ≤ j then (l[j.toNat]?).map fun z => (np, ls, (t, z) :: st', hp) else none
    | none => none
  | _ => none
def blS (hp : aH) (ls st : List aV) (np : Nat) : aR := match st with
  | (0, j) :: (5, i) :: st' => if 0 ≤ j ∧ j < slen i ∧ (i = 0 ∨ i = 1) then some (np, ls, (0, sbyt i j.toNat) :: st', hp) else none
  | _ => alS hp ls st np 0 2 2
def asS (hp : aH) (ls st : List aV) (np t sh0 : Nat) : aR := match st with
  | (t', z) :: (0, j) :: (1, a) :: st' => match cellAt hp a with
    | some (sh, l) => if t' = t ∧ sh = sh0 ∧ 0 ≤ j ∧ j.toNat < l.length ∧ bok (aft sh0) z = true then some (np, ls, st', putAt hp a (sh, l.set j.toNat z)) else none
    | none => none
  | _ => none
def arS (hp : aH) (ls st : List aV) (np : Nat) : aR := match st with
  | (1, z) :: (0, j) :: (1, a) :: st' => match cellAt hp a, cellAt hp z with
    | some (sh, l), some (sv, _) => if (sh = 3 ∨ sh = 4 ∨ sh = 5 ∨ sh = 8) ∧ sv = 20 + aec sh ∧ 0 ≤ j ∧ j.toNat < l.length then some (np, ls, st', putAt hp a (sh, l.set j.toNat z)) else none
    | _, _ => none
  | _ => none
def anS (hp : aH) (ls st : List aV) (np : Nat) : aR := match st with
  | (1, a) :: st' => match cellAt hp a with
    | some (sh, l) => if sh < 9 then some (np, ls, (0, (l.length : Int)) :: st', hp) else none
    | none => none
  | (5, i) :: st' => if i = 0 ∨ i = 1 then some (np, ls, (0, slen i) :: st', hp) else none
  | _ => none
def nfs (ci : Nat) : Nat := match vwCl[ci]? with
  | some r => r.2.2
  | none => 0
def nwS (hp : aH) (ls st : List aV) (np ci : Nat) : aR := some (np, ls, (1, (hp.length : Int) + 1) :: st, hp ++ [(20 + ci, List.replicate (nfs ci) 0)])
def naS (hp : aH) (ls st : List aV) (np sh : Nat) : aR := match st with
  | (0, n) :: st' => if 0 ≤ n ∧ n ≤ 60000 then some (np, ls, (1, (hp.length : Int) + 1) :: st', hp ++ [(sh, List.replicate n.toNat 0)]) else none
  | _ => none
def nmS (hp : aH) (ls st : List aV) (np sh : Nat) : aR := match st with
  | (0, k) :: (0, n) :: st' => if 0 ≤ n ∧ n ≤ 60000 ∧ 0 ≤ k ∧ k ≤ 60000 then some (np, ls, (1, (hp.length : Int) + 1) :: st', hp ++ (sh, (List.range n.toNat).map fun (i : Nat) => (hp.length : Int) + 2 + (i : Int)) :: List.replicate n.toNat (sh - 6, List.replicate k.toNat 0)) else none
  | _ => none
def shOf (t : ArrayType) : Nat := match t with
  | .int => 0 | .long => 1 | .boolean => 2 | _ => 99
def oif (b : Bool) (r : aR) : aR := if b then r else none
def inI (n : Int) : Bool := decide (-2147483648 ≤ n) && decide (n < 2147483648)
/-- one instruction that is no call and no return -/
def stp1 (al : Bool) (hp : aH) (ls st : List aV) (pc : Nat) (q : aI) : aR := match q.1 with
  | .iconst n => oif (inI n) (some (pc + 1, ls, (0, n) :: st, hp))
  | .bipush n => oif (decide (-128 ≤ n) && decide (n < 128)) (some (pc + 2, ls, (0, n) :: st, hp))
  | .sipush n => oif (decide (-32768 ≤ n) && decide (n < 32768)) (some (pc + 3, ls, (0, n) :: st, hp))
  | .lconst k => some (pc + 1, ls, (2, (k.val : Int)) :: st, hp)
  | .ldc _ => oif (q.2.2.1 == 4 || (q.2.2.1 == 0 && inI q.2.1)) (some (pc + 2, ls, (q.2.2.1, q.2.1) :: st, hp))
  | .ldc_w _ => oif (q.2.2.1 == 4 || (q.2.2.1 == 0 && inI q.2.1)) (some (pc + 3, ls, (q.2.2.1, q.2.1) :: st, hp))
  | .ldc2_w _ => oif (decide (-9223372036854775808 ≤ q.2.1) && decide (q.2.1 < 9223372036854775808)) (some (pc + 3, ls, (2, q.2.1) :: st, hp))
  | .iload_n k => ldS hp ls st (pc + 1) 0 k.val
  | .iload i => ldS hp ls st (pc + 2) 0 i
  | .aload_n k => ldS hp ls st (pc + 1) 1 k.val
  | .aload i => ldS hp ls st (pc + 2) 1 i
  | .lload_n k => ldS hp ls st (pc + 1) 2 k.val
  | .lload i => ldS hp ls st (pc + 2) 2 i
  | .istore_n k => stS hp ls st (pc + 1) 0 k.val
  | .istore i => stS hp ls st (pc + 2) 0 i
  | .astore_n k => stS hp ls st (pc + 1) 1 k.val
  | .astore i => stS hp ls st (pc + 2) 1 i
  | .lstore_n k => stS hp ls st (pc + 1) 2 k.val
  | .lstore i => stS hp ls st (pc + 2) 2 i
  | .iinc i n => match ls[i]? with
    | some (0, x) => oif (lsok ls i) (some (pc + 3, ls.set i (0, wr (x + n)), st, hp))
    | _ => none
  | .iadd => op2 hp ls st (pc + 1) fun x y => some (wr (x + y))
  | .isub => op2 hp ls st (pc + 1) fun x y => some (wr (x - y))
  | .imul => op2 hp ls st (pc + 1) fun x y => some (wr (x * y))
  | .idiv => op2 hp ls st (pc + 1) fun x y => if y = 0 then none else some (bI (fun a b => a / b) x y)
  | .irem => op2 hp ls st (pc + 1) fun x y => if y = 0 then none else some (bI (fun a b => a - a / b * b) x y)
  | .iand => op2 hp ls st (pc + 1) fun x y => some (bI (fun a b => a &&& b) x y)
  | .ior => op2 hp ls st (pc + 1) fun x y => some (bI (fun a b => a ||| b) x y)
  | .ishl => op2 hp ls st (pc + 1) fun x y => some (bI (fun a b => a <<< (b &&& 31)) x y)
  | .ishr => op2 hp ls st (pc + 1) fun x y => some (bI (fun a b => a >>> (b &&& 31)) x y)
  | .iushr => op2 hp ls st (pc + 1) fun x y => some (bI (fun a b => (a.toUInt32 >>> (b.toUInt32 &&& Int32.toUInt32 31)).toInt32) x y)
  | .ladd => op2L hp ls st (pc + 1) 2 fun x y => some (wl (x + y))
  | .lsub => op2L hp ls st (pc + 1) 2 fun x y => some (wl (x - y))
  | .lmul => op2L hp ls st (pc + 1) 2 fun x y => some (wl (x * y))
  | .ldiv => op2L hp ls st (pc + 1) 2 fun x y => if y = 0 then none else some (bL (fun a b => a / b) x y)
  | .lrem => op2L hp ls st (pc + 1) 2 fun x y => if y = 0 then none else some (bL (fun a b => a - a / b * b) x y)
  | .land => op2L hp ls st (pc + 1) 2 fun x y => some (bL (fun a b => a &&& b) x y)
  | .lcmp => op2L hp ls st (pc + 1) 0 fun x y => some (if y < x then 1 else if x = y then 0 else -1)
  | .lshr => match st with
    | (0, y) :: (2, x) :: st' => some (pc + 1, ls, (2, (i6 x >>> ((i3 y).toInt64 &&& 63)).toInt) :: st', hp)
    | _ => none
  | .i2l => op1 hp ls st (pc + 1) 0 2 fun x => x
  | .l2i => op1 hp ls st (pc + 1) 2 0 fun x => wr x
  | .i2c => op1 hp ls st (pc + 1) 0 0 fun x => (((i3 x).toUInt32 % 65536).toInt32).toInt
  | .i2b => op1 hp ls st (pc + 1) 0 0 fun x => ((i3 x).toInt8.toInt32).toInt
  | .dup => match st with
    | w :: st' => oif (w.1 != 2) (some (pc + 1, ls, w :: w :: st', hp))
    | _ => none
  | .dup2 => match st with
    | w :: v :: st' => oif (w.1 != 2 && v.1 != 2) (some (pc + 1, ls, w :: v :: w :: v :: st', hp))
    | _ => none
  | .pop => match st with
    | w :: st' => oif (w.1 != 2) (some (pc + 1, ls, st', hp))
    | _ => none
  | .ifCond c off => if1 hp ls st pc c off
  | .if_icmp c off => if2 hp ls st pc c off
  | .goto off => jmp hp ls st pc off
  | .tableswitch d lo hi offs => swT hp ls st pc d lo hi offs
  | .lookupswitch d ps => swL hp ls st pc d ps
  | .getfield _ => gfS hp ls st (pc + 3) q.2.2.1 q.2.2.2
  | .putfield _ => pfS hp ls st (pc + 3) q.2.2.1 q.2.2.2
  | .getstatic _ => oif ((q.2.2.1 == 0 && q.2.1 == 1) || q.2.2.1 == 6) (some (pc + 3, ls, (q.2.2.1, q.2.1) :: st, hp))
  | .iaload => alS hp ls st (pc + 1) 0 0 0
  | .laload => alS hp ls st (pc + 1) 2 1 1
  | .baload => blS hp ls st (pc + 1)
  | .aaload => alS hp ls st (pc + 1) 1 3 8
  | .iastore => asS hp ls st (pc + 1) 0 0
  | .lastore => asS hp ls st (pc + 1) 2 1
  | .bastore => asS hp ls st (pc + 1) 0 2
  | .aastore => arS hp ls st (pc + 1)
  | .arraylength => anS hp ls st (pc + 1)
  | .new _ => oif (al && decide (q.2.2.1 < 13)) (nwS hp ls st (pc + 3) q.2.2.1)
  | .newarray t => oif al (naS hp ls st (pc + 2) (shOf t))
  | .anewarray _ => oif al (naS hp ls st (pc + 3) q.2.2.1)
  | .multianewarray _ _ => oif al (nmS hp ls st (pc + 4) q.2.2.1)
  | _ => none
def catS (st : List aV) : Nat := (st.map fun v => if v.1 = 2 then 2 else 1).sum
/-- the variables at a method's entry -/
def entL : List aV → List aV
  | [] => []
  | v :: r => if v.1 = 2 then v :: (9, 0) :: entL r else v :: entL r
def entA (args : List aV) (nL : Nat) : List aV := entL args ++ List.replicate (nL - (entL args).length) (9, 0)
/-- what a return gives back, by the method's type -/
def retS (ty : Option FieldType) (I : Instr) (st : List aV) : Option (Option aV) := match I, st, ty with
  | .return_, [], none => some none
  | .ireturn, [(0, z)], some t => if tagT t = 0 ∧ bok t z = true then some (some (0, z)) else none
  | .lreturn, [(2, z)], some .long => some (some (2, z))
  | .areturn, [(1, z)], some (.object _) => some (some (1, z))
  | .areturn, [(1, z)], some (.array _) => some (some (1, z))
  | _, _, _ => none
