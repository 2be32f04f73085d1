/-! every method's list against its bytes -/
def f4 (b : Nat) : Fin 4 := ⟨b % 4, Nat.mod_lt _ (by decide)⟩
def okD (I : mI) (pc : Nat) (i : Instr) (len : Nat) : Bool := match decode I.2.2.1 pc with
  | .ok (j, l) => decide (j = i) && decide (l = len)
  | _ => false
def okN (pc : Nat) (nx : Option Nat) (len : Nat) : Bool := match nx with
  | some n => decide (n = pc + len)
  | none => false
def okS (I : mI) (pc : Nat) (nx : Option Nat) (i : Instr) (len : Nat) : Bool := okD I pc i len && okN pc nx len
def okT (I : mI) (pc : Nat) (off t : Int) : Bool := match nth I.2.2.2.2.2.2.2.2 t.toNat with
  | some tp => decide ((pc : Int) + off = (tp : Int))
  | none => false
def okTs (I : mI) (pc : Nat) : List Int → List Int → Bool
  | [], [] => true
  | o :: os, t :: ts => okT I pc o t && okTs I pc os ts
  | _, _ => false
def okB (I : mI) (pc : Nat) (nx : Option Nat) (i : Instr) (v : Value) : Bool :=
  match i with
  | .iload b => decide (b < I.2.2.2.1) && ((decide (b < 4) && okS I pc nx (.iload_n (f4 b)) 1) || okS I pc nx (.iload b) 2)
  | .lload b => decide (b < I.2.2.2.1) && ((decide (b < 4) && okS I pc nx (.lload_n (f4 b)) 1) || okS I pc nx (.lload b) 2)
  | .aload b => decide (b < I.2.2.2.1) && ((decide (b < 4) && okS I pc nx (.aload_n (f4 b)) 1) || okS I pc nx (.aload b) 2)
  | .istore b => decide (b < I.2.2.2.1) && ((decide (b < 4) && okS I pc nx (.istore_n (f4 b)) 1) || okS I pc nx (.istore b) 2)
  | .astore b => decide (b < I.2.2.2.1) && ((decide (b < 4) && okS I pc nx (.astore_n (f4 b)) 1) || okS I pc nx (.astore b) 2)
  | .lstore b => decide (b + 1 < I.2.2.2.1) && ((decide (b < 4) && okS I pc nx (.lstore_n (f4 b)) 1) || okS I pc nx (.lstore b) 2)
  | .iconst _ => match v with
    | .int x => okS I pc nx (.iconst x.toInt) 1 || (okS I pc nx (.bipush x.toInt) 2 && decide ((Int8.ofInt x.toInt).toInt32 = x)) || (okS I pc nx (.sipush x.toInt) 3 && decide ((Int16.ofInt x.toInt).toInt32 = x)) ||
      tCI.any (fun q => decide (q.1 = I.1) && decide (q.2.2 = x) && (okS I pc nx (.ldc q.2.1) 2 || okS I pc nx (.ldc_w q.2.1) 3))
    | _ => false
  | .lconst _ => match v with
    | .long x => (decide (x = 0) && okS I pc nx (.lconst 0) 1) || (decide (x = 1) && okS I pc nx (.lconst 1) 1) || tCL.any (fun q => decide (q.1 = I.1) && decide (q.2.2 = x) && okS I pc nx (.ldc2_w q.2.1) 3)
    | _ => false
  | .iinc n _ => match v with
    | .int y => decide (n < I.2.2.2.1) && okS I pc nx (.iinc n y.toInt) 3
    | _ => false
  | .goto t => match decode I.2.2.1 pc with
    | .ok (.goto off, 3) => okT I pc off t
    | _ => false
  | .ifnull t => match decode I.2.2.1 pc with
    | .ok (.ifnull off, 3) => okT I pc off t && okN pc nx 3
    | _ => false
  | .ifnonnull t => match decode I.2.2.1 pc with
    | .ok (.ifnonnull off, 3) => okT I pc off t && okN pc nx 3
    | _ => false
  | .if_icmp c t => match decode I.2.2.1 pc with
    | .ok (.if_icmp c' off, 3) => decide (c = c') && okT I pc off t && okN pc nx 3
    | _ => false
  | .ifCond c t => match decode I.2.2.1 pc with
    | .ok (.ifCond c' off, 3) => decide (c = c') && okT I pc off t && okN pc nx 3
    | _ => false
  | .tableswitch d lo hi offs => match decode I.2.2.1 pc with
    | .ok (.tableswitch d' lo' hi' offs', _) => decide (lo = lo') && decide (hi = hi') && okT I pc d' d && okTs I pc offs'.toList offs.toList
    | _ => false
  | .invokeinterface ci j => tFT.any (fun q => decide (q.1 = I.1) && decide (q.2.2.1 = ci) && decide (q.2.2.2 = j) && okS I pc nx (.getfield q.2.1) 3)
  | .multianewarray ci j => tFT.any (fun q => decide (q.1 = I.1) && decide (q.2.2.1 = ci) && decide (q.2.2.2 = j) && okS I pc nx (.putfield q.2.1) 3 && (!(mFt ci j).2.2.2 || (decide (I.2.1.name = "<init>") && decide (I.1 = ci))))
  | .getstatic _ => decide (I.1 = 5) && okS I pc nx (.getstatic 27) 3
  | .anewarray k => (match nth mKs k with
    | some (.inr (.int, _)) => okS I pc nx (.newarray .int) 2
    | some (.inr (.byte, _)) => okS I pc nx (.newarray .byte) 2
    | some (.inr (.boolean, _)) => okS I pc nx (.newarray .boolean) 2
    | _ => false) || tAN.any (fun q => decide (q.1 = I.1) && decide (q.2.2 = k) && okS I pc nx (.anewarray q.2.1) 3)
  | .new k => tCN.any (fun q => decide (q.1 = I.1) && decide (q.2.2 = k) && okS I pc nx (.new q.2.1) 3)
  | .pop => tOB.any (fun q => decide (q.1 = I.1) && okS I pc nx (.invokespecial q.2) 3)
  | .lneg => tMA.any (fun q => decide (q.1 = I.1) && decide (q.2.2 = 0) && okS I pc nx (.invokestatic q.2.1) 3)
  | .lor => tMA.any (fun q => decide (q.1 = I.1) && decide (q.2.2 = 1) && okS I pc nx (.invokestatic q.2.1) 3)
  | .lxor => tMA.any (fun q => decide (q.1 = I.1) && decide (q.2.2 = 2) && okS I pc nx (.invokestatic q.2.1) 3)
  | .dup2_x2 => decide (I.1 = 6) && okS I pc nx (.invokestatic 102) 3
  | .invokestatic t => tMT.any (fun q => decide (q.1 = I.1) && decide (q.2.2 = t) && okS I pc nx (.invokestatic q.2.1) 3) || tNT.any (fun q => decide (q.1 = I.1) && decide (q.2.2 = t) && okS I pc nx (.invokestatic q.2.1) 3)
  | .invokevirtual t => decide (t ∈ tVM) && tMT.any (fun q => decide (q.1 = I.1) && decide (q.2.2 = t) && okS I pc nx (.invokevirtual q.2.1) 3)
  | .invokespecial t => decide ((mYn t).name = "<init>") && (tMT.any (fun q => decide (q.1 = I.1) && decide (q.2.2 = t) && okS I pc nx (.invokespecial q.2.1) 3) || tNT.any (fun q => decide (q.1 = I.1) && decide (q.2.2 = t) && okS I pc nx (.invokespecial q.2.1) 3))
  | .aconst_null => okS I pc nx .aconst_null 1
  | .iadd => okS I pc nx .iadd 1
  | .isub => okS I pc nx .isub 1
  | .imul => okS I pc nx .imul 1
  | .iand => okS I pc nx .iand 1
  | .ior => okS I pc nx .ior 1
  | .ixor => okS I pc nx .ixor 1
  | .ishl => okS I pc nx .ishl 1
  | .ishr => okS I pc nx .ishr 1
  | .iushr => okS I pc nx .iushr 1
  | .idiv => okS I pc nx .idiv 1
  | .irem => okS I pc nx .irem 1
  | .ineg => okS I pc nx .ineg 1
  | .ladd => okS I pc nx .ladd 1
  | .lmul => okS I pc nx .lmul 1
  | .ldiv => okS I pc nx .ldiv 1
  | .lrem => okS I pc nx .lrem 1
  | .lcmp => okS I pc nx .lcmp 1
  | .i2l => okS I pc nx .i2l 1
  | .l2i => okS I pc nx .l2i 1
  | .i2b => okS I pc nx .i2b 1
  | .dup => okS I pc nx .dup 1
  | .dup2 => okS I pc nx .dup2 1
  | .iaload => okS I pc nx .iaload 1
  | .baload => okS I pc nx .baload 1
  | .caload => okS I pc nx .caload 1
  | .aaload => okS I pc nx .aaload 1
  | .iastore => okS I pc nx .iastore 1
  | .bastore => okS I pc nx .bastore 1
  | .aastore => okS I pc nx .aastore 1
  | .arraylength => okS I pc nx .arraylength 1
  | .ireturn => okD I pc .ireturn 1
  | .lreturn => okD I pc .lreturn 1
  | .areturn => okD I pc .areturn 1
  | .return_ => okD I pc .return_ 1
  | _ => false
def okL (I : mI) : List mO → List Nat → Bool
  | [], [] => true
  | o :: os, pc :: pcs => okB I pc (nth pcs 0) o.1 o.2 && okL I os pcs
  | _, _ => false
def okLc (I : mI) (nxt : Option Nat) : List mO → List Nat → Bool
  | [], [] => true
  | o :: os, pc :: pcs => okB I pc (match nth pcs 0 with
    | some n => some n
    | none => nxt) o.1 o.2 && okLc I nxt os pcs
  | _, _ => false
def okH (I : mI) : Bool := decide (I.2.1.cls = ownN I.1) && decide (I.1 < 12) && plainName I.2.1.cls && decide (I.2.1.cls ≠ "java/lang/invoke/MethodHandle") && decide (I.2.1.cls ≠ "java/lang/invoke/VarHandle") && decide ((parseMethodDescriptor I.2.1.desc).map (fun d => d.parameters.length) = some (if I.2.2.2.2.2.2.1 = true then I.2.2.2.2.2.1 else I.2.2.2.2.2.1 - 1)) && decide (I.2.2.2.2.2.2.1 = true ∨ 0 < I.2.2.2.2.2.1) && decide (I.2.2.2.1 ≤ 40) && decide (nth I.2.2.2.2.2.2.2.2 0 = some 0)
def okM (I : mI) : Bool := okH I && okL I I.2.2.2.2.2.2.2.1 I.2.2.2.2.2.2.2.2
