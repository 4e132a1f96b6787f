/-! the resolved code is the bytecode: a program decides it, method by method -/
def zJn (j : Nat) : MethodName := [Lib.Math.max.name, Lib.Math.min.name, arraycopyName, objectInit, ⟨"java/lang/String", "length", "()I"⟩, ⟨"java/lang/String", "charAt", "(I)C"⟩].getD j objectInit
def zFf (own idx : Nat) : Option (Nat × Nat × Nat × Nat × Nat × Nat) := zFL.find? (fun q => q.1 == own && q.2.1 == idx)
def zMf (own idx : Nat) : Option (Nat × Nat × Nat × Nat × Nat) := zML.find? (fun q => q.1 == own && q.2.1 == idx)
def zJf (own idx : Nat) : Option (Nat × Nat × Nat × Nat) := zJL.find? (fun q => q.1 == own && q.2.1 == idx)
def zCf (own idx : Nat) : Option (Nat × Nat × Nat × Nat) := zCL.find? (fun q => q.1 == own && q.2.1 == idx)
def zKf (own idx : Nat) : Option (Nat × Nat × Int × Nat) := zKC.find? (fun q => q.1 == own && q.2.1 == idx)
def zLf (own idx : Nat) : Option (Nat × Nat × Int × Nat) := zKL.find? (fun q => q.1 == own && q.2.1 == idx)
def zGf (own idx : Nat) : Option (Nat × Nat × Nat × Nat) := zGS.find? (fun q => q.1 == own && q.2.1 == idx)
def zSf (own idx : Nat) : Option (Nat × Nat × Nat) := zSR.find? (fun q => q.1 == own && q.2.1 == idx)
def zFw (q : Nat × Nat × Nat × Nat × Nat × Nat) : Cond := if q.2.2.2.2.1 = 0 then .fieldLink (zcn q.1) q.2.1 (zcn q.2.2.1) (zT q.2.2.1 q.2.2.2.1).2.1 (zT q.2.2.1 q.2.2.2.1).2.2.1 else .fieldLinkNest (zcn q.1) q.2.1 (zcn q.2.2.1) (zT q.2.2.1 q.2.2.2.1).2.1 (zT q.2.2.1 q.2.2.2.1).2.2.1 "TakeOrPay"
def zMw (q : Nat × Nat × Nat × Nat × Nat) : Cond := if q.2.2.2.1 = 0 then .methodLink (zcn q.1) q.2.1 (zY q.2.2.1).1 else .methodLinkNest (zcn q.1) q.2.1 (zY q.2.2.1).1 "TakeOrPay"
def zidx (pcs : List Nat) (p : Int) : Option Nat := pcs.findIdx? (fun q : Nat => ((q : Int) == p))
def zidxs (pcs : List Nat) (pc : Nat) : List Int → Option (List Int)
  | [] => some []
  | o :: os => match zidx pcs (pc + o), zidxs pcs pc os with
    | some t, some ts => some ((t : Int) :: ts)
    | _, _ => none
def zres (own : Nat) (ini : Bool) (pcs : List Nat) (pc : Nat) (raw : Instr) : Option Instr := match raw with
  | .iconst n => some (.iconst n)
  | .bipush n => if (Int8.ofInt n).toInt32 = Int32.ofInt n then some (.iconst n) else none
  | .sipush n => if (Int16.ofInt n).toInt32 = Int32.ofInt n then some (.iconst n) else none
  | .ldc i => match zKf own i with
    | some q => some (.iconst q.2.2.1)
    | none => match zSf own i with
      | some _ => some (.ldc 7)
      | none => none
  | .ldc_w i => match zKf own i with
    | some q => some (.iconst q.2.2.1)
    | none => none
  | .ldc2_w i => match zLf own i with
    | some q => some (.jsr_w q.2.2.1)
    | none => none
  | .lconst n => some (.jsr_w (n.val : Nat))
  | .iload n => some (.iload n)
  | .iload_n n => some (.iload n.val)
  | .lload n => some (.lload n)
  | .lload_n n => some (.lload n.val)
  | .aload n => some (.aload n)
  | .aload_n n => some (.aload n.val)
  | .istore n => some (.istore n)
  | .istore_n n => some (.istore n.val)
  | .lstore n => some (.lstore n)
  | .lstore_n n => some (.lstore n.val)
  | .astore n => some (.astore n)
  | .astore_n n => some (.astore n.val)
  | .iinc n c => some (.iinc n c)
  | .pop => some .pop
  | .dup => some .dup
  | .dup2 => some .dup2
  | .iadd => some .iadd
  | .isub => some .isub
  | .imul => some .imul
  | .idiv => some .idiv
  | .irem => some .irem
  | .iand => some .iand
  | .ior => some .ior
  | .ishl => some .ishl
  | .ishr => some .ishr
  | .iushr => some .iushr
  | .ladd => some .ladd
  | .lsub => some .lsub
  | .lmul => some .lmul
  | .ldiv => some .ldiv
  | .lrem => some .lrem
  | .land => some .land
  | .lor => some .lor
  | .lneg => some .lneg
  | .lshl => some .lshl
  | .lshr => some .lshr
  | .lcmp => some .lcmp
  | .i2l => some .i2l
  | .l2i => some .l2i
  | .i2b => some .i2b
  | .i2s => some .i2s
  | .ifCond c o => (zidx pcs (pc + o)).map fun t => .ifCond c t
  | .if_icmp c o => (zidx pcs (pc + o)).map fun t => .if_icmp c t
  | .ifnonnull o => (zidx pcs (pc + o)).map fun t => .ifnonnull t
  | .goto o => (zidx pcs (pc + o)).map fun t => .goto t
  | .tableswitch df lo hi offs => match zidx pcs (pc + df), zidxs pcs pc offs.toList with
    | some t, some ts => some (.tableswitch t lo hi ts.toArray)
    | _, _ => none
  | .getfield i => match zFf own i with
    | some q => some (.getfield (q.2.2.2.1 + 100 * zty q.2.2.1 q.2.2.2.1 + 1000 * q.2.2.1))
    | none => none
  | .putfield i => match zFf own i with
    | some q => if (zT q.2.2.1 q.2.2.2.1).2.2.2 = false ∨ (q.1 = q.2.2.1 ∧ q.2.2.2.2.1 = 0 ∧ ini = true) then some (.putfield (q.2.2.2.1 + 100 * zty q.2.2.1 q.2.2.2.1 + 1000 * q.2.2.1)) else none
    | none => none
  | .getstatic i => match zGf own i with
    | some q => some (.getstatic q.2.2.1)
    | none => none
  | .iaload => some .iaload
  | .laload => some .laload
  | .baload => some .baload
  | .aaload => some .aaload
  | .iastore => some .iastore
  | .lastore => some .lastore
  | .bastore => some .bastore
  | .aastore => some .aastore
  | .arraylength => some .arraylength
  | .new i => match zCf own i with
    | some q => some (.new q.2.2.1)
    | none => none
  | .newarray t => some (.newarray t)
  | .anewarray i => match zCf own i with
    | some q => if q.2.2.1 = 2 then some (.anewarray 16) else if q.2.2.1 = 6 then some (.anewarray 17) else none
    | none => none
  | .invokestatic i => match zMf own i with
    | some q => if (zMP.getD q.2.2.1 (9, 0, 0, 0, 0, 0)).1 = 0 then some (.invokestatic q.2.2.1) else none
    | none => match zJf own i with
      | some q => if q.2.2.1 < 3 then some (.invokedynamic q.2.2.1) else none
      | none => none
  | .invokevirtual i => match zMf own i with
    | some q => if (zMP.getD q.2.2.1 (9, 0, 0, 0, 0, 0)).1 = 1 then some (.invokevirtual q.2.2.1) else none
    | none => match zJf own i with
      | some q => if q.2.2.1 = 4 ∨ q.2.2.1 = 5 then some (.invokedynamic q.2.2.1) else none
      | none => none
  | .invokespecial i => match zMf own i with
    | some q => if (zMP.getD q.2.2.1 (9, 0, 0, 0, 0, 0)).1 = 2 then some (.invokespecial q.2.2.1) else none
    | none => match zJf own i with
      | some q => if q.2.2.1 = 3 then some (.invokedynamic 3) else none
      | none => none
  | .ireturn => some .ireturn
  | .lreturn => some .lreturn
  | .areturn => some .areturn
  | .return_ => some .return_
  | _ => none
/-- instructions behind which the next one need not stand -/
def zfall (raw : Instr) : Bool := match raw with
  | .goto _ => true
  | .tableswitch _ _ _ _ => true
  | .ireturn => true
  | .lreturn => true
  | .areturn => true
  | .return_ => true
  | _ => false
/-- how many bytes an instruction has; 0: any -/
def zil (raw : Instr) : Nat := match raw with
  | .bipush _ => 2
  | .sipush _ => 3
  | .ldc _ => 2
  | .ldc_w _ => 3
  | .ldc2_w _ => 3
  | .iload _ => 2
  | .lload _ => 2
  | .aload _ => 2
  | .istore _ => 2
  | .lstore _ => 2
  | .astore _ => 2
  | .iinc _ _ => 3
  | .ifCond _ _ => 3
  | .if_icmp _ _ => 3
  | .ifnonnull _ => 3
  | .goto _ => 3
  | .tableswitch _ _ _ _ => 0
  | .getfield _ => 3
  | .putfield _ => 3
  | .getstatic _ => 3
  | .new _ => 3
  | .newarray _ => 2
  | .anewarray _ => 3
  | .invokestatic _ => 3
  | .invokevirtual _ => 3
  | .invokespecial _ => 3
  | _ => 1
def zchkL (bytes : ByteArray) (own : Nat) (ini : Bool) (all : List Nat) : List Instr → List Nat → Bool
  | [], [] => true
  | i :: is, pc :: ps => (match decode bytes pc with
      | .ok (raw, len) => decide (zres own ini all pc raw = some i ∧ (zil raw = 0 ∨ zil raw = len)) && (zfall raw || (match ps with
        | q :: _ => q == pc + len
        | [] => false))
      | _ => false) && zchkL bytes own ini all is ps
  | _, _ => false
theorem zchkL_spec {bytes : ByteArray} {own : Nat} {ini : Bool} {all : List Nat} : ∀ {cs : List Instr} {ps : List Nat}, zchkL bytes own ini all cs ps = true → ∀ (k : Nat) (i : Instr), cs[k]? = some i →
    ∃ (pc : Nat) (raw : Instr) (len : Nat), ps[k]? = some pc ∧ decode bytes pc = .ok (raw, len) ∧ zres own ini all pc raw = some i ∧ (zil raw = 0 ∨ zil raw = len) ∧ (zfall raw = true ∨ ps[k + 1]? = some (pc + len)) := by
  intro cs
  induction cs with
  | nil => intro ps _ k i hk; simp at hk
  | cons c cs ih =>
    intro ps h k i hk
    cases ps with
    | nil => simp [zchkL] at h
    | cons pc ps =>
      simp only [zchkL, Bool.and_eq_true] at h
      obtain ⟨h1, h2⟩ := h
      cases k with
      | zero =>
        simp at hk
        subst hk
        split at h1
        next raw len hd =>
          simp only [Bool.and_eq_true, decide_eq_true_eq, Bool.or_eq_true] at h1
          refine ⟨pc, raw, len, rfl, hd, h1.1.1, h1.1.2, ?_⟩
          rcases h1.2 with h3 | h3
          · exact Or.inl h3
          · right
            cases ps with
            | nil => simp at h3
            | cons q ps => simp at h3; simp [h3]
        next => simp at h1
      | succ k =>
        simp at hk
        obtain ⟨pc', raw, len, a1, a2, a3, a0, a4⟩ := ih h2 k i hk
        exact ⟨pc', raw, len, by simpa using a1, a2, a3, a0, by simpa using a4⟩
def zini (y : Nat) : Bool := (zY y).1.name == "<init>"
def zmp (y : Nat) : Nat × Nat × Nat × Nat × Nat × Nat := zMP.getD y (9, 0, 0, 0, 0, 0)
/-- a method's bytes, as the tables' word has them -/
def zBy (y : Nat) : ByteArray := if y = 219 then code else match lw_tbl[(zmp y).2.1]? with
  | some (.code _ b _ _) => b
  | _ => code
def zcw (w : Option Cond) (y : MethodName) (n : Nat) (r : Option FieldType) : Bool := match w with
  | some (.code y' _ n' r') => decide (y' = y ∧ n' = n ∧ r' = r)
  | _ => false
def zchk (y : Nat) : Bool := zchkL (zBy y) (zY y).2.2.2.2 (zini y) (zP y) (zM y).1 (zP y)
set_option maxRecDepth 100000 in
theorem zFL_ok : zFL.all (fun q => decide (lw_tbl[q.2.2.2.2.2]? = some (zFw q)) && decide (q.2.2.1 < 12) && decide (q.2.2.2.1 < zN q.2.2.1)) = true := by decide +kernel
set_option maxRecDepth 100000 in
theorem zML_ok : zML.all (fun q => decide (lw_tbl[q.2.2.2.2]? = some (zMw q)) && decide (q.2.2.1 < 219)) = true := by decide +kernel
set_option maxRecDepth 100000 in
theorem zJL_ok : zJL.all (fun q => decide (lw_tbl[q.2.2.2]? = some (.methodLink (zcn q.1) q.2.1 (zJn q.2.2.1)))) = true := by decide +kernel
set_option maxRecDepth 100000 in
theorem zCL_ok : zCL.all (fun q => decide (lw_tbl[q.2.2.2]? = some (.classLink (zcn q.1) q.2.1 (zcn q.2.2.1))) && decide (q.2.2.1 < 12)) = true := by decide +kernel
set_option maxRecDepth 100000 in
theorem zKC_ok : zKC.all (fun q => decide (lw_tbl[q.2.2.2]? = some (.constant (zcn q.1) q.2.1 (Int32.ofInt q.2.2.1)))) = true := by decide +kernel
set_option maxRecDepth 100000 in
theorem zKL_ok : zKL.all (fun q => decide (lw_tbl[q.2.2.2]? = some (.constantLong (zcn q.1) q.2.1 (Int64.ofInt q.2.2.1)))) = true := by decide +kernel
set_option maxRecDepth 100000 in
theorem zGS_ok : zGS.all (fun q => decide (lw_tbl[q.2.2.2]? = some (.fieldLink (zcn q.1) q.2.1 (zSN.getD q.2.2.1 ("", "")).1 (zSN.getD q.2.2.1 ("", "")).2 "[I")) && decide (1 ≤ q.2.2.1) && decide (q.2.2.1 < 7)) = true := by decide +kernel
