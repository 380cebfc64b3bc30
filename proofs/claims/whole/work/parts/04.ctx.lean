/-! THE CHECK OF THE TABLES, and the context of a frame -/
def dmTB : List Cond := lw_tbl.filter goodWord
theorem dmTB_in {t : Nat} {w : Cond} (h : lw_tbl[t]? = some w) (hg : goodWord w = true) : w ∈ dmTB := List.mem_filter.mpr ⟨List.mem_of_getElem? h, hg⟩
theorem dmTB_good : ∀ w ∈ dmTB, goodWord w = true := fun _ h => (List.mem_filter.mp h).2
def dmStName (a : Nat) : String × String := match a with
  | 0 => ("WhichOneAllKnow", "ABOVE")
  | 1 => ("WhichOneAllKnow$Text", "NUMBERS_OF")
  | _ => ("WhichOneAllKnow$Moves", "BODIES")
/-- string constants: class, entry, text -/
def dmStr : List (String × Nat × String) := [("WhichOneAllKnow$Text", 86, "tune"), ("WhichOneAllKnow$Text", 88, "voice"), ("WhichOneAllKnow$Text", 90, "knows"), ("WhichOneAllKnow$Text", 92, "moves"), ("WhichOneAllKnow$Text", 94, "wait"), ("WhichOneAllKnowModel", 157, "tune"), ("WhichOneAllKnowModel", 165, "voice"), ("WhichOneAllKnowModel", 171, "knows"), ("WhichOneAllKnowModel", 173, "moves"), ("WhichOneAllKnowModel", 175, "wait")]
def dmBytes (t : String) : List Int32 := t.toList.map (fun c => nI c.toNat)
def dmTab (a : Nat) : List Int32 := match a with
  | 0 => [-1, 0, 0, 1, 0, 2, 4]
  | 1 => [1, 5, 2, 2, 1]
  | _ => [10, 11, 12, 20, 11, 12, 10, 30, 12, 20, 40, 12, 51, 11, 50, 10, 30, 60, 70, 71, 50]
def dmPc (M : dmM) (i : Nat) : Nat := match dmAt M.2.2.2.2.1 i with
  | some x => x.1
  | none => 0
def dmD (M : dmM) (pc : Nat) (ins : ClassFile.Instr) (n : Nat) : Bool := decide (decode M.2.1 pc = .ok (ins, n))
def dmNx (M : dmM) (pc nx n : Nat) : Bool := Nat.beq (dmPc M nx) (pc + n)
def dmWd (t : Nat) (w : Cond) : Bool := decide (lw_tbl[t]? = some w)
/-- what a call needs of its callee -/
def dmMt (M' : dmM) (n : Nat) : Bool := decide ((parseMethodDescriptor M'.1.desc).map (fun d => d.parameters.length) = some n) && decide (M'.1.cls ≠ "java/lang/invoke/MethodHandle" ∧ M'.1.cls ≠ "java/lang/invoke/VarHandle") && Nat.ble M'.2.2.1 21 && dmWd (M'.2.2.2.2.2.getD 0 0) (.code M'.1 M'.2.1 M'.2.2.1 M'.2.2.2.1) && dmWd (M'.2.2.2.2.2.getD 3 0) (.initialized M'.1.cls)
/-- calls of a private method of a nest mate: class, entry, method, host -/
def dmNest : List (String × Nat × MethodName × String) := [("WhichOneAllKnow$Moves", 32, ⟨"WhichOneAllKnow", "isKind", "(I)Z"⟩, "WhichOneAllKnow"), ("WhichOneAllKnow$Moves", 36, ⟨"WhichOneAllKnow", "within", "(III)Z"⟩, "WhichOneAllKnow"), ("WhichOneAllKnow$Text", 126, ⟨"WhichOneAllKnow", "isKind", "(I)Z"⟩, "WhichOneAllKnow"), ("WhichOneAllKnow$Text", 99, ⟨"WhichOneAllKnow", "within", "(III)Z"⟩, "WhichOneAllKnow")]
/-- one instruction's row of the tables -/
def dmCk (M : dmM) (x : dmA) : Bool := match x with
  | (pc, ins, nx, a, b, c, t, L) => match ins with
    | .aload_n k => dmD M pc ins 1 && dmNx M pc nx 1 && Nat.beq k.val a
    | .iload_n k => dmD M pc ins 1 && dmNx M pc nx 1 && Nat.beq k.val a
    | .lload_n k => dmD M pc ins 1 && dmNx M pc nx 1 && Nat.beq k.val a
    | .istore_n k => dmD M pc ins 1 && dmNx M pc nx 1 && Nat.beq k.val a
    | .astore_n k => dmD M pc ins 1 && dmNx M pc nx 1 && Nat.beq k.val a
    | .aload k => dmD M pc ins 2 && dmNx M pc nx 2 && Nat.beq k a
    | .iload k => dmD M pc ins 2 && dmNx M pc nx 2 && Nat.beq k a
    | .istore k => dmD M pc ins 2 && dmNx M pc nx 2 && Nat.beq k a
    | .iinc k n => dmD M pc ins 3 && dmNx M pc nx 3 && Nat.beq k a && decide (Int32.ofInt n = c)
    | .iconst n => dmD M pc ins 1 && dmNx M pc nx 1 && decide (Int32.ofInt n = c)
    | .bipush n => dmD M pc ins 2 && dmNx M pc nx 2 && decide ((Int8.ofInt n).toInt32 = c)
    | .sipush n => dmD M pc ins 3 && dmNx M pc nx 3 && decide ((Int16.ofInt n).toInt32 = c)
    | .ldc k => dmD M pc ins 2 && dmNx M pc nx 2 && (match b with
      | 0 => dmWd t (.constant M.1.cls k c)
      | _ => match dmStr[a - 10]? with
        | some y => decide (10 ≤ a) && decide (M.1.cls = y.1) && decide (k = y.2.1)
        | none => false)
    | .ldc_w k => dmD M pc ins 3 && dmNx M pc nx 3 && dmWd t (.constant M.1.cls k c)
    | .ldc2_w k => dmD M pc ins 3 && dmNx M pc nx 3 && dmWd t (.constantLong M.1.cls k 4294967295)
    | .lconst k => dmD M pc ins 1 && dmNx M pc nx 1 && Nat.beq k.val 0
    | .getstatic k => dmD M pc ins 3 && dmNx M pc nx 3 && Nat.ble a 2 && (match b with
      | 0 => dmWd t (.fieldLink M.1.cls k (dmStName a).1 (dmStName a).2 "[I")
      | 1 => decide (M.1.cls = "WhichOneAllKnow$Moves" ∧ k = 50 ∧ a = 0)
      | 2 => dmWd t (.fieldLink M.1.cls k "java/lang/String" "COMPACT_STRINGS" "Z")
      | _ => dmWd t (.fieldLink M.1.cls k "jdk/internal/util/Preconditions" "SIOOBE_FORMATTER" "Ljava/util/function/BiFunction;"))
    | .iadd => dmD M pc ins 1 && dmNx M pc nx 1
    | .isub => dmD M pc ins 1 && dmNx M pc nx 1
    | .imul => dmD M pc ins 1 && dmNx M pc nx 1
    | .idiv => dmD M pc ins 1 && dmNx M pc nx 1
    | .irem => dmD M pc ins 1 && dmNx M pc nx 1
    | .iand => dmD M pc ins 1 && dmNx M pc nx 1
    | .ior => dmD M pc ins 1 && dmNx M pc nx 1
    | .ixor => dmD M pc ins 1 && dmNx M pc nx 1
    | .ishl => dmD M pc ins 1 && dmNx M pc nx 1
    | .ishr => dmD M pc ins 1 && dmNx M pc nx 1
    | .iushr => dmD M pc ins 1 && dmNx M pc nx 1
    | .ineg => dmD M pc ins 1 && dmNx M pc nx 1
    | .i2l => dmD M pc ins 1 && dmNx M pc nx 1
    | .l2i => dmD M pc ins 1 && dmNx M pc nx 1
    | .i2b => dmD M pc ins 1 && dmNx M pc nx 1
    | .i2s => dmD M pc ins 1 && dmNx M pc nx 1
    | .i2c => dmD M pc ins 1 && dmNx M pc nx 1
    | .baload => dmD M pc ins 1 && dmNx M pc nx 1
    | .ladd => dmD M pc ins 1 && dmNx M pc nx 1
    | .land => dmD M pc ins 1 && dmNx M pc nx 1
    | .lor => dmD M pc ins 1 && dmNx M pc nx 1
    | .lshl => dmD M pc ins 1 && dmNx M pc nx 1
    | .lcmp => dmD M pc ins 1 && dmNx M pc nx 1
    | .dup => dmD M pc ins 1 && dmNx M pc nx 1
    | .dup2 => dmD M pc ins 1 && dmNx M pc nx 1
    | .dup_x1 => dmD M pc ins 1 && dmNx M pc nx 1
    | .pop => dmD M pc ins 1 && dmNx M pc nx 1
    | .iaload => dmD M pc ins 1 && dmNx M pc nx 1
    | .laload => dmD M pc ins 1 && dmNx M pc nx 1
    | .aaload => dmD M pc ins 1 && dmNx M pc nx 1
    | .iastore => dmD M pc ins 1 && dmNx M pc nx 1
    | .lastore => dmD M pc ins 1 && dmNx M pc nx 1
    | .arraylength => dmD M pc ins 1 && dmNx M pc nx 1
    | .goto o => dmD M pc ins 3 && decide ((pc : Int) + o = (dmPc M a : Int))
    | .ifCond _ o => dmD M pc ins 3 && dmNx M pc nx 3 && decide ((pc : Int) + o = (dmPc M a : Int))
    | .if_icmp _ o => dmD M pc ins 3 && dmNx M pc nx 3 && decide ((pc : Int) + o = (dmPc M a : Int))
    | .getfield k => dmD M pc ins 3 && dmNx M pc nx 3 && (match dmCl[b]? with
      | some (_, T, N) => Nat.blt a N && dmWd t (.fieldLink M.1.cls k (T a).1 (T a).2.1 (T a).2.2.1)
      | none => match a with
        | 0 => dmWd t (.fieldLink M.1.cls k "java/lang/String" "value" "[B")
        | _ => dmWd t (.fieldLink M.1.cls k "java/lang/String" "coder" "B"))
    | .putfield k => dmD M pc ins 3 && dmNx M pc nx 3 && (match dmCl[b]? with
      | some (_, T, N) => Nat.blt a N && dmWd t (.fieldLink M.1.cls k (T a).1 (T a).2.1 (T a).2.2.1) && (!(T a).2.2.2 || (decide (M.1.name = "<init>") && decide ((T a).1 = M.1.cls)))
      | none => false)
    | .invokevirtual k => dmD M pc ins 3 && dmNx M pc nx 3 && (match dmAt dmT a with
      | some M' => dmWd t (.methodLink M.1.cls k M'.1) && dmMt M' b && dmWd (M'.2.2.2.2.2.getD 1 0) (.instanceMethod M'.1) && dmWd (M'.2.2.2.2.2.getD 2 0) (.selects M'.1.cls M'.1 M'.1)
      | none => false)
    | .invokestatic k => dmD M pc ins 3 && dmNx M pc nx 3 && (match L with
      | [4] => dmWd t (.methodLink M.1.cls k Lib.Math.max.name)
      | [5] => dmWd t (.methodLink M.1.cls k Lib.Math.min.name)
      | [6] => dmWd t (.methodLink M.1.cls k Lib.Math.abs.name)
      | [7] => dmWd t (.methodLink M.1.cls k arraycopyName)
      | [1] => match dmAt dmT a with
        | some M' => dmWd t (.methodLink M.1.cls k M'.1) && dmMt M' b && dmWd (M'.2.2.2.2.2.getD 1 0) (.static M'.1)
        | none => false
      | _ => match dmAt dmT a with
        | some M' => decide ((M.1.cls, k, M'.1, M'.1.cls) ∈ dmNest) && dmMt M' b && dmWd (M'.2.2.2.2.2.getD 1 0) (.static M'.1)
        | none => false)
    | .invokespecial k => dmD M pc ins 3 && dmNx M pc nx 3 && (match L with
      | [8] => dmWd t (.methodLink M.1.cls k Lib.objectInit)
      | _ => match dmAt dmT a with
        | some M' => dmWd t (.methodLink M.1.cls k M'.1) && dmMt M' b && dmWd (M'.2.2.2.2.2.getD 1 0) (.instanceMethod M'.1) && decide (M'.1.name = "<init>") && decide (M'.2.2.2.1 = none)
        | none => false)
    | .new k => dmD M pc ins 3 && dmNx M pc nx 3 && (match dmCl[a]? with
      | some (C, _, _) => dmWd t (.classLink M.1.cls k C)
      | none => false)
    | .multianewarray k n => dmD M pc ins 4 && dmNx M pc nx 4 && dmWd t (.classLink M.1.cls k "[[J")
    | .newarray _ => dmD M pc ins 2 && dmNx M pc nx 2
    | .ireturn => dmD M pc ins 1
    | .lreturn => dmD M pc ins 1
    | .areturn => dmD M pc ins 1
    | .return_ => dmD M pc ins 1
    | .lookupswitch _ _ => dmD M pc ins b
    | .tableswitch df lo hi os => dmD M pc ins b && decide ((pc : Int) + df = (dmPc M a : Int)) && decide (L.map (fun k => (dmPc M k : Int)) = os.toList.map (fun o => (pc : Int) + o))
    | _ => true
def dmOK (M : dmM) : Bool := M.2.2.2.2.1.all (fun bl => bl.all (dmCk M))
