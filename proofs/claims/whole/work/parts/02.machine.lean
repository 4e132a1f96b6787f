/-! THE PLAIN MACHINE: a heap of typed maps, one step of an instruction whose links are resolved, runs by fuel and depth.
Instructions are spelt with the model's own type; what is resolved is packed into their numbers:
iconst v: an int; jsr_w v: a long; jumps hold the number (not the offset) of the instruction; getfield/putfield n: slot + 100 * type + 1000 * class (type 0 int, 1 long, 2 reference, 3 boolean);
new t: a class's number; newarray; anewarray t: an array's number; getstatic k, ldc k: the k-th fixed address; invoke..: a method's number; invokedynamic 0 .. 5: Math.max, Math.min, System.arraycopy, Object(), String.length, String.charAt. -/
abbrev ZH : Type := (Nat × Nat) × (Nat → Nat) × (Nat → Nat) × (Nat → Nat → Int32) × (Nat → Nat → Int64) × (Nat → Nat → Nat)
def zsz (h : ZH) : Nat := h.1.1
def ztot (h : ZH) : Nat := h.1.2
def ztag (h : ZH) : Nat → Nat := h.2.1
def zlen (h : ZH) : Nat → Nat := h.2.2.1
def zI (h : ZH) : Nat → Nat → Int32 := h.2.2.2.1
def zL (h : ZH) : Nat → Nat → Int64 := h.2.2.2.2.1
def zR (h : ZH) : Nat → Nat → Nat := h.2.2.2.2.2
def zup {α : Type} (f : Nat → Nat → α) (a i : Nat) (v : α) : Nat → Nat → α := fun b j => if b = a ∧ j = i then v else f b j
def zuI (h : ZH) (a i : Nat) (v : Int32) : ZH := (h.1, h.2.1, h.2.2.1, zup h.2.2.2.1 a i v, h.2.2.2.2.1, h.2.2.2.2.2)
def zuL (h : ZH) (a i : Nat) (v : Int64) : ZH := (h.1, h.2.1, h.2.2.1, h.2.2.2.1, zup h.2.2.2.2.1 a i v, h.2.2.2.2.2)
def zuR (h : ZH) (a i : Nat) (v : Nat) : ZH := (h.1, h.2.1, h.2.2.1, h.2.2.2.1, h.2.2.2.2.1, zup h.2.2.2.2.2 a i v)
def zrow {α : Type} (f : Nat → Nat → α) (a : Nat) (g : Nat → α) : Nat → Nat → α := fun b j => if b = a then g j else f b j
/-- a row of ints anew -/
def zuA (h : ZH) (a : Nat) (g : Nat → Int32) : ZH := (h.1, h.2.1, h.2.2.1, zrow h.2.2.2.1 a g, h.2.2.2.2.1, h.2.2.2.2.2)
def zup1 (f : Nat → Nat) (a v : Nat) : Nat → Nat := fun b => if b = a then v else f b
/-- a new cell: tag, how many slots it counts, its length -/
def znew (h : ZH) (tg n : Nat) : ZH := ((zsz h + 1, ztot h + n), zup1 (ztag h) (zsz h) tg, zup1 (zlen h) (zsz h) n, zrow (zI h) (zsz h) (fun _ => 0), zrow (zL h) (zsz h) (fun _ => 0), zrow (zR h) (zsz h) (fun _ => 0))
def zrv (r : Nat) : Value := match r with
  | 0 => .null
  | a + 1 => .ref a
/-- locals: a store of one word, of two -/
def zcut (ls : List Value) (n : Nat) : List Value := match n with
  | 0 => ls
  | j + 1 => match ls[j]? with
    | some (.long _) => ls.set j (.retAddr 0)
    | _ => ls
def zset1 (ls : List Value) (n : Nat) (v : Value) : List Value := (zcut ls n).set n v
def zset2 (ls : List Value) (n : Nat) (v : Value) : List Value := ((zcut ls n).set n v).set (n + 1) (.retAddr 0)
def zcmp (c : Jvm.ClassFile.Cond) (x y : Int32) : Bool := match c with
  | .eq => decide (x = y)
  | .ne => decide (¬ x = y)
  | .lt => decide (x < y)
  | .ge => decide (y ≤ x)
  | .gt => decide (y < x)
  | .le => decide (x ≤ y)
def zin (i : Int32) (n : Nat) : Bool := decide (0 ≤ i) && decide (i.toNatClampNeg < n)
def zcat (st : List Value) : Nat := (st.map fun v => v.category).sum
/-- how many slots an object of a class has -/
def zN (t : Nat) : Nat := [12, 20, 9, 7, 8, 3, 3, 12, 6, 11, 9, 52].getD t 0
def zbyte (t : Nat) (x : Int32) : Int32 := if t = 15 then x &&& 1 else x.toInt8.toInt32
def zcpy (f g : Nat → Int32) (sp dp n : Nat) : Nat → Int32 := fun k => if dp ≤ k ∧ k < dp + n then f (sp + (k - dp)) else g k
def zsw (x lo hi dflt : Int) (offs : Array Int) : Option Nat := if x < lo ∨ hi < x then some dflt.toNat else (offs[(x - lo).toNat]?).map Int.toNat
abbrev ZS : Type := Nat × List Value × List Value × ZH
def zstep (E : Nat → Nat) (d : Nat) (i : Instr) (k : Nat) (ls st : List Value) (h : ZH) : Option ZS :=
  match i with
  | .iconst v => some (k + 1, ls, .int (Int32.ofInt v) :: st, h)
  | .jsr_w v => some (k + 1, ls, .long (Int64.ofInt v) :: st, h)
  | .iload n => match ls[n]? with
    | some (.int x) => some (k + 1, ls, .int x :: st, h)
    | _ => none
  | .lload n => match ls[n]? with
    | some (.long x) => some (k + 1, ls, .long x :: st, h)
    | _ => none
  | .aload n => match ls[n]? with
    | some (.ref x) => some (k + 1, ls, .ref x :: st, h)
    | _ => none
  | .istore n => match st with
    | .int x :: st => if n < ls.length then some (k + 1, zset1 ls n (.int x), st, h) else none
    | _ => none
  | .lstore n => match st with
    | .long x :: st => if n + 1 < ls.length then some (k + 1, zset2 ls n (.long x), st, h) else none
    | _ => none
  | .astore n => match st with
    | .ref x :: st => if n < ls.length then some (k + 1, zset1 ls n (.ref x), st, h) else none
    | _ => none
  | .iinc n c => match ls[n]? with
    | some (.int x) => some (k + 1, zset1 ls n (.int (x + Int32.ofInt c)), st, h)
    | _ => none
  | .pop => match st with
    | v :: st => if v.category = 1 then some (k + 1, ls, st, h) else none
    | _ => none
  | .dup => match st with
    | v :: st => if v.category = 1 then some (k + 1, ls, v :: v :: st, h) else none
    | _ => none
  | .dup2 => match st with
    | .long x :: st => some (k + 1, ls, .long x :: .long x :: st, h)
    | .int x :: w :: st => if w.category = 1 then some (k + 1, ls, .int x :: w :: .int x :: w :: st, h) else none
    | _ => none
  | .iadd => match st with
    | .int y :: .int x :: st => some (k + 1, ls, .int (x + y) :: st, h)
    | _ => none
  | .isub => match st with
    | .int y :: .int x :: st => some (k + 1, ls, .int (x - y) :: st, h)
    | _ => none
  | .imul => match st with
    | .int y :: .int x :: st => some (k + 1, ls, .int (x * y) :: st, h)
    | _ => none
  | .idiv => match st with
    | .int y :: .int x :: st => if y = 0 then none else some (k + 1, ls, .int (x / y) :: st, h)
    | _ => none
  | .irem => match st with
    | .int y :: .int x :: st => if y = 0 then none else some (k + 1, ls, .int (x - x / y * y) :: st, h)
    | _ => none
  | .iand => match st with
    | .int y :: .int x :: st => some (k + 1, ls, .int (x &&& y) :: st, h)
    | _ => none
  | .ior => match st with
    | .int y :: .int x :: st => some (k + 1, ls, .int (x ||| y) :: st, h)
    | _ => none
  | .ishl => match st with
    | .int y :: .int x :: st => some (k + 1, ls, .int (x <<< (y &&& 31)) :: st, h)
    | _ => none
  | .ishr => match st with
    | .int y :: .int x :: st => some (k + 1, ls, .int (x >>> (y &&& 31)) :: st, h)
    | _ => none
  | .iushr => match st with
    | .int y :: .int x :: st => some (k + 1, ls, .int (x.toUInt32 >>> (y.toUInt32 &&& Int32.toUInt32 31)).toInt32 :: st, h)
    | _ => none
  | .ladd => match st with
    | .long y :: .long x :: st => some (k + 1, ls, .long (x + y) :: st, h)
    | _ => none
  | .lsub => match st with
    | .long y :: .long x :: st => some (k + 1, ls, .long (x - y) :: st, h)
    | _ => none
  | .lmul => match st with
    | .long y :: .long x :: st => some (k + 1, ls, .long (x * y) :: st, h)
    | _ => none
  | .ldiv => match st with
    | .long y :: .long x :: st => if y = 0 then none else some (k + 1, ls, .long (x / y) :: st, h)
    | _ => none
  | .lrem => match st with
    | .long y :: .long x :: st => if y = 0 then none else some (k + 1, ls, .long (x - x / y * y) :: st, h)
    | _ => none
  | .land => match st with
    | .long y :: .long x :: st => some (k + 1, ls, .long (x &&& y) :: st, h)
    | _ => none
  | .lor => match st with
    | .long y :: .long x :: st => some (k + 1, ls, .long (x ||| y) :: st, h)
    | _ => none
  | .lneg => match st with
    | .long x :: st => some (k + 1, ls, .long (-x) :: st, h)
    | _ => none
  | .lshl => match st with
    | .int y :: .long x :: st => some (k + 1, ls, .long (x <<< (y.toInt64 &&& 63)) :: st, h)
    | _ => none
  | .lshr => match st with
    | .int y :: .long x :: st => some (k + 1, ls, .long (x >>> (y.toInt64 &&& 63)) :: st, h)
    | _ => none
  | .lcmp => match st with
    | .long y :: .long x :: st => some (k + 1, ls, .int (lg_cmp x y) :: st, h)
    | _ => none
  | .i2l => match st with
    | .int x :: st => some (k + 1, ls, .long x.toInt64 :: st, h)
    | _ => none
  | .l2i => match st with
    | .long x :: st => some (k + 1, ls, .int x.toInt32 :: st, h)
    | _ => none
  | .i2b => match st with
    | .int x :: st => some (k + 1, ls, .int x.toInt8.toInt32 :: st, h)
    | _ => none
  | .i2s => match st with
    | .int x :: st => some (k + 1, ls, .int x.toInt16.toInt32 :: st, h)
    | _ => none
  | .ifCond c t => match st with
    | .int x :: st => some (if zcmp c x 0 = true then t.toNat else k + 1, ls, st, h)
    | _ => none
  | .if_icmp c t => match st with
    | .int y :: .int x :: st => some (if zcmp c x y = true then t.toNat else k + 1, ls, st, h)
    | _ => none
  | .ifnonnull t => match st with
    | .ref _ :: st => some (t.toNat, ls, st, h)
    | .null :: st => some (k + 1, ls, st, h)
    | _ => none
  | .goto t => some (t.toNat, ls, st, h)
  | .tableswitch df lo hi offs => match st with
    | .int x :: st => (zsw x.toInt lo hi df offs).map fun t => (t, ls, st, h)
    | _ => none
  | .getfield n => match st with
    | .ref a :: st => if ztag h a = n / 1000 then
        (match n / 100 % 10 with
        | 0 => some (k + 1, ls, .int (zI h a (n % 100)) :: st, h)
        | 1 => some (k + 1, ls, .long (zL h a (n % 100)) :: st, h)
        | 2 => some (k + 1, ls, zrv (zR h a (n % 100)) :: st, h)
        | 3 => some (k + 1, ls, .int (zI h a (n % 100)) :: st, h)
        | _ => none) else none
    | _ => none
  | .putfield n => match st with
    | v :: .ref a :: st => if ztag h a = n / 1000 then
        (match n / 100 % 10, v with
        | 0, .int x => some (k + 1, ls, st, zuI h a (n % 100) x)
        | 1, .long x => some (k + 1, ls, st, zuL h a (n % 100) x)
        | 2, .ref b => some (k + 1, ls, st, zuR h a (n % 100) (b + 1))
        | 3, .int x => if x = 0 ∨ x = 1 then some (k + 1, ls, st, zuI h a (n % 100) x) else none
        | _, _ => none) else none
    | _ => none
  | .getstatic n => some (k + 1, ls, .ref (E n) :: st, h)
  | .ldc n => some (k + 1, ls, .ref (E n) :: st, h)
  | .iaload => match st with
    | .int i :: .ref a :: st => if (ztag h a = 13 ∨ ztag h a = 19) ∧ zin i (zlen h a) = true then some (k + 1, ls, .int (zI h a i.toNatClampNeg) :: st, h) else none
    | _ => none
  | .laload => match st with
    | .int i :: .ref a :: st => if ztag h a = 14 ∧ zin i (zlen h a) = true then some (k + 1, ls, .long (zL h a i.toNatClampNeg) :: st, h) else none
    | _ => none
  | .baload => match st with
    | .int i :: .ref a :: st => if (ztag h a = 12 ∨ ztag h a = 15) ∧ zin i (zlen h a) = true then some (k + 1, ls, .int (zI h a i.toNatClampNeg) :: st, h) else none
    | _ => none
  | .aaload => match st with
    | .int i :: .ref a :: st => if (ztag h a = 16 ∨ ztag h a = 17) ∧ zin i (zlen h a) = true then some (k + 1, ls, zrv (zR h a i.toNatClampNeg) :: st, h) else none
    | _ => none
  | .iastore => match st with
    | .int x :: .int i :: .ref a :: st => if ztag h a = 13 ∧ zin i (zlen h a) = true then some (k + 1, ls, st, zuI h a i.toNatClampNeg x) else none
    | _ => none
  | .lastore => match st with
    | .long x :: .int i :: .ref a :: st => if ztag h a = 14 ∧ zin i (zlen h a) = true then some (k + 1, ls, st, zuL h a i.toNatClampNeg x) else none
    | _ => none
  | .bastore => match st with
    | .int x :: .int i :: .ref a :: st => if (ztag h a = 12 ∨ ztag h a = 15) ∧ zin i (zlen h a) = true then some (k + 1, ls, st, zuI h a i.toNatClampNeg (zbyte (ztag h a) x)) else none
    | _ => none
  | .aastore => match st with
    | .ref v :: .int i :: .ref a :: st => if ((ztag h a = 16 ∧ ztag h v = 2) ∨ (ztag h a = 17 ∧ ztag h v = 6)) ∧ zin i (zlen h a) = true then some (k + 1, ls, st, zuR h a i.toNatClampNeg (v + 1)) else none
    | _ => none
  | .arraylength => match st with
    | .ref a :: st => if 12 ≤ ztag h a ∧ ztag h a ≤ 19 ∧ ztag h a ≠ 18 then some (k + 1, ls, .int (Int32.ofNat (zlen h a)) :: st, h) else none
    | _ => none
  | .new t => if t < 12 then some (k + 1, ls, .ref (zsz h) :: st, znew h t (zN t)) else none
  | .newarray ty => match st with
    | .int n :: st => if 0 ≤ n ∧ n.toNatClampNeg ≤ 1000000 then
        (match ty with
        | .byte => some (k + 1, ls, .ref (zsz h) :: st, znew h 12 n.toNatClampNeg)
        | .int => some (k + 1, ls, .ref (zsz h) :: st, znew h 13 n.toNatClampNeg)
        | .long => some (k + 1, ls, .ref (zsz h) :: st, znew h 14 n.toNatClampNeg)
        | .boolean => some (k + 1, ls, .ref (zsz h) :: st, znew h 15 n.toNatClampNeg)
        | _ => none) else none
    | _ => none
  | .anewarray t => match st with
    | .int n :: st => if 0 ≤ n ∧ n.toNatClampNeg ≤ 1000000 ∧ (t = 16 ∨ t = 17) then some (k + 1, ls, .ref (zsz h) :: st, znew h t n.toNatClampNeg) else none
    | _ => none
  | .invokedynamic 0 => match st with
    | .int y :: .int x :: st => if 5 ≤ d ∧ zcat st ≤ 8 then some (k + 1, ls, .int (if x < y then y else x) :: st, h) else none
    | _ => none
  | .invokedynamic 1 => match st with
    | .int y :: .int x :: st => if 5 ≤ d ∧ zcat st ≤ 8 then some (k + 1, ls, .int (if y < x then y else x) :: st, h) else none
    | _ => none
  | .invokedynamic 2 => match st with
    | .int n :: .int dp :: .ref a :: .int sp :: .ref b :: st => if 5 ≤ d ∧ zcat st ≤ 8 ∧ ztag h a = 13 ∧ (ztag h b = 13 ∨ ztag h b = 19) ∧ 0 ≤ n ∧ 0 ≤ sp ∧ 0 ≤ dp ∧ sp.toNatClampNeg + n.toNatClampNeg ≤ zlen h b ∧ dp.toNatClampNeg + n.toNatClampNeg ≤ zlen h a then
        some (k + 1, ls, st, zuA h a (zcpy (zI h b) (zI h a) sp.toNatClampNeg dp.toNatClampNeg n.toNatClampNeg)) else none
    | _ => none
  | .invokedynamic 3 => match st with
    | .ref _ :: st => if 5 ≤ d ∧ zcat st ≤ 8 then some (k + 1, ls, st, h) else none
    | _ => none
  | .invokedynamic 4 => match st with
    | .ref a :: st => if 5 ≤ d ∧ zcat st ≤ 8 ∧ ztag h a = 18 then some (k + 1, ls, .int (Int32.ofNat (zlen h a)) :: st, h) else none
    | _ => none
  | .invokedynamic 5 => match st with
    | .int i :: .ref a :: st => if 5 ≤ d ∧ zcat st ≤ 8 ∧ ztag h a = 18 ∧ zin i (zlen h a) = true then some (k + 1, ls, .int (zI h a i.toNatClampNeg) :: st, h) else none
    | _ => none
  | _ => none
/-- arguments as locals: a long is followed by its second half -/
def zargs : List Value → List Value
  | [] => []
  | v :: vs => match v with
    | .long x => .long x :: .retAddr 0 :: zargs vs
    | w => w :: zargs vs
def zframe (mL : Nat) (as : List Value) : List Value := zargs as ++ List.replicate (mL - (zargs as).length) (.retAddr 0)
/-- what a method is here: its code, its locals, its arguments' number (with the receiver), whether it has a receiver, the receiver's tag -/
abbrev ZM : Type := List Instr × Nat × Nat
def zcall (i : Instr) : Option Nat := match i with
  | .invokestatic z => some z
  | .invokevirtual z => some z
  | .invokespecial z => some z
  | _ => none
def zret (b : Bool) (i : Instr) (st : List Value) : Option (Option Value) := match i, st with
  | .ireturn, [.int x] => if b = false ∨ x = 0 ∨ x = 1 then some (some (.int x)) else none
  | .lreturn, [.long x] => some (some (.long x))
  | .areturn, [.ref x] => some (some (.ref x))
  | .return_, [] => some none
  | _, _ => none
def zok (v : Value) : Bool := match v with
  | .int _ => true
  | .long _ => true
  | .ref _ => true
  | .null => true
  | _ => false
/-- the arguments are ints, longs and references; the receiver is there and of the class that is called -/
def zrecv (i : Instr) (h : ZH) (tg : Nat) (as : List Value) : Bool := as.all zok && (match i, as with
  | .invokestatic _, _ => true
  | _, .ref a :: _ => decide (ztag h a = tg)
  | _, _ => false)
def zx (E : Nat → Nat) (M : Nat → ZM) (T : Nat → Nat) : Nat → Nat → Nat → Nat → List Value → List Value → ZH → Option (Option Value × ZH)
  | 0, _, _, _, _, _, _ => none
  | n + 1, d, y, k, ls, st, h =>
    match (M y).1[k]? with
    | none => none
    | some i =>
      match zret (decide (100 ≤ T y)) i st with
      | some v => some (v, h)
      | none =>
        match zcall i with
        | none =>
          match zstep E d i k ls st h with
          | none => none
          | some (k', ls', st', h') => zx E M T n d y k' ls' st' h'
        | some z =>
          match d with
          | 0 => none
          | d' + 1 =>
            if (M z).2.2 ≤ st.length ∧ zcat (st.drop (M z).2.2) ≤ 8 ∧ zrecv i h (T z % 100) (st.take (M z).2.2).reverse = true ∧ (zargs (st.take (M z).2.2).reverse).length ≤ (M z).2.1 then
              match zx E M T n d' z 0 (zframe (M z).2.1 (st.take (M z).2.2).reverse) [] h with
              | none => none
              | some (v, h') => zx E M T n (d' + 1) y (k + 1) ls (v.toList ++ st.drop (M z).2.2) h'
            else none
