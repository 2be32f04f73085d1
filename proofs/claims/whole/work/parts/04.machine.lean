/-! A small machine over numbered cells: a reference is a kind and a number; ints, longs, references lie in three tables. -/
abbrev mM : Type := List (Nat × Nat) × (Nat → Nat → Nat → Option (Nat × Nat)) × (Nat → Nat → Nat → Int32) × (Nat → Nat → Nat → Int64)
abbrev vI (x : Int32) : mV := .inl x
abbrev vL (x : Int64) : mV := .inr (.inl x)
abbrev vR (k i : Nat) : mV := .inr (.inr (some (k, i)))
abbrev vN : mV := .inr (.inr none)
def mKs : List (Nat ⊕ (FieldType × Nat)) := [.inl 0, .inl 1, .inl 2, .inl 3, .inl 4, .inl 5, .inl 6, .inl 7, .inr (.int, 6), .inr (.int, 6), .inr (.int, 6), .inr (.int, 6), .inr (.int, 6), .inr (.int, 6), .inr (.int, 6), .inr (.int, 6), .inr (.int, 6), .inr (.int, 6), .inr (.int, 40), .inr (.int, 40), .inr (.int, 40), .inr (.int, 40), .inr (.int, 6), .inr (.int, 6), .inr (.byte, 60), .inr ((.object "AnnCups$Row"), 6), .inr ((.object "AnnCups$Text"), 4), .inr ((.object "AnnCups$Deeds"), 3), .inr (.int, 6), .inr (.int, 6), .inr (.int, 240), .inr (.int, 4), .inr (.int, 240), .inr (.int, 6), .inr (.int, 6), .inr (.int, 6), .inr (.int, 6), .inr (.int, 6), .inr (.int, 9), .inr (.int, 9), .inr (.int, 360), .inr (.int, 1110), .inr (.boolean, 3), .inr (.int, 6), .inr (.int, 30), .inr (.int, 6), .inr (.int, 6), .inr (.int, 63), .inr (.int, 7), .inr (.int, 45), .inr (.int, 5), .inr (.int, 5)]
def mTy (ci j : Nat) : FieldType := match ci with
  | 0 => tyX0 j
  | 1 => tyX1 j
  | 2 => tyX2 j
  | 3 => tyX3 j
  | 4 => tyX4 j
  | 5 => tyX5 j
  | 6 => tyX6 j
  | _ => tyX7 j
def mNf (ci : Nat) : Nat := match ci with
  | 0 => 7
  | 1 => 11
  | 2 => 4
  | 3 => 2
  | 4 => 8
  | 5 => 2
  | 6 => 14
  | 7 => 35
  | _ => 0
def mEl (k : Nat) : Nat := match k with
  | 25 => 3
  | 26 => 5
  | 27 => 2
  | _ => 99
def up3 {α : Type} (f : Nat → Nat → Nat → α) (k i j : Nat) (v : α) : Nat → Nat → Nat → α := fun k' i' j' => if k' = k ∧ i' = i ∧ j' = j then v else f k' i' j'
def up2 {α : Type} (f : Nat → Nat → Nat → α) (k i : Nat) (g : Nat → α) : Nat → Nat → Nat → α := fun k' i' j' => if k' = k ∧ i' = i then g j' else f k' i' j'
def mCnt : List (Nat × Nat) → Nat → Nat
  | [], _ => 0
  | r :: l, k => if r.1 = k then mCnt l k + 1 else mCnt l k
def mHas : List (Nat × Nat) → Nat → Nat → Bool
  | [], _, _ => false
  | r :: l, k, i => if r.1 = k ∧ r.2 = i then true else mHas l k i
def lett (j : Nat) : Int32 := match j with
  | 0 => 99
  | 1 => 106
  | 2 => 116
  | 3 => 103
  | 4 => 102
  | _ => 100
def lkill (ls : List (Option mV)) (n : Nat) : List (Option mV) := match n with
  | 0 => ls
  | k + 1 => match nth ls k with
    | some (some (.inr (.inl _))) => ls.set k none
    | _ => ls
def lst1 (ls : List (Option mV)) (n : Nat) (v : mV) : List (Option mV) := (lkill ls n).set n (some v)
def lst2 (ls : List (Option mV)) (n : Nat) (v : mV) : List (Option mV) := ((lkill ls n).set n (some v)).set (n + 1) none
/-- a value's width -/
def mCat : mV → Nat
  | .inr (.inl _) => 2
  | _ => 1
def mCats : List mV → Nat
  | [] => 0
  | v :: l => mCat v + mCats l
abbrev mS : Type := Nat × List (Option mV) × List mV × mM
/-- one instruction that is no call and no return; L, xs: the law's script (kind 100); kind 101: the letters -/
def mstep (L : Nat) (xs : Nat → Int32) (i : Instr) (v : Value) (ip : Nat) (ls : List (Option mV)) (st : List mV) (M : mM) : Option mS :=
  match i with
  | .iload n => match nth ls n with
    | some (some (.inl x)) => some (ip + 1, ls, .inl x :: st, M)
    | _ => none
  | .lload n => match nth ls n with
    | some (some (.inr (.inl x))) => some (ip + 1, ls, .inr (.inl x) :: st, M)
    | _ => none
  | .aload n => match nth ls n with
    | some (some (.inr (.inr r))) => some (ip + 1, ls, .inr (.inr r) :: st, M)
    | _ => none
  | .istore n => match st with
    | .inl x :: st => some (ip + 1, lst1 ls n (.inl x), st, M)
    | _ => none
  | .astore n => match st with
    | .inr (.inr r) :: st => some (ip + 1, lst1 ls n (.inr (.inr r)), st, M)
    | _ => none
  | .lstore n => match st with
    | .inr (.inl x) :: st => some (ip + 1, lst2 ls n (.inr (.inl x)), st, M)
    | _ => none
  | .iconst _ => match v with
    | .int x => some (ip + 1, ls, .inl x :: st, M)
    | _ => none
  | .lconst _ => match v with
    | .long x => some (ip + 1, ls, .inr (.inl x) :: st, M)
    | _ => none
  | .aconst_null => some (ip + 1, ls, .inr (.inr none) :: st, M)
  | .iinc n _ => match v, nth ls n with
    | .int y, some (some (.inl x)) => some (ip + 1, lst1 ls n (.inl (x + y)), st, M)
    | _, _ => none
  | .iadd => match st with
    | .inl y :: .inl x :: st => some (ip + 1, ls, .inl (x + y) :: st, M)
    | _ => none
  | .isub => match st with
    | .inl y :: .inl x :: st => some (ip + 1, ls, .inl (x - y) :: st, M)
    | _ => none
  | .imul => match st with
    | .inl y :: .inl x :: st => some (ip + 1, ls, .inl (x * y) :: st, M)
    | _ => none
  | .iand => match st with
    | .inl y :: .inl x :: st => some (ip + 1, ls, .inl (x &&& y) :: st, M)
    | _ => none
  | .ior => match st with
    | .inl y :: .inl x :: st => some (ip + 1, ls, .inl (x ||| y) :: st, M)
    | _ => none
  | .ixor => match st with
    | .inl y :: .inl x :: st => some (ip + 1, ls, .inl (x ^^^ y) :: st, M)
    | _ => none
  | .ishl => match st with
    | .inl y :: .inl x :: st => some (ip + 1, ls, .inl (x <<< (y &&& 31)) :: st, M)
    | _ => none
  | .ishr => match st with
    | .inl y :: .inl x :: st => some (ip + 1, ls, .inl (x >>> (y &&& 31)) :: st, M)
    | _ => none
  | .iushr => match st with
    | .inl y :: .inl x :: st => some (ip + 1, ls, .inl (x.toUInt32 >>> (y.toUInt32 &&& Int32.toUInt32 31)).toInt32 :: st, M)
    | _ => none
  | .idiv => match st with
    | .inl y :: .inl x :: st => if y = 0 then none else some (ip + 1, ls, .inl (x / y) :: st, M)
    | _ => none
  | .irem => match st with
    | .inl y :: .inl x :: st => if y = 0 then none else some (ip + 1, ls, .inl (x - x / y * y) :: st, M)
    | _ => none
  | .ineg => match st with
    | .inl x :: st => some (ip + 1, ls, .inl (-x) :: st, M)
    | _ => none
  | .ladd => match st with
    | .inr (.inl y) :: .inr (.inl x) :: st => some (ip + 1, ls, .inr (.inl (x + y)) :: st, M)
    | _ => none
  | .lmul => match st with
    | .inr (.inl y) :: .inr (.inl x) :: st => some (ip + 1, ls, .inr (.inl (x * y)) :: st, M)
    | _ => none
  | .ldiv => match st with
    | .inr (.inl y) :: .inr (.inl x) :: st => if y = 0 then none else some (ip + 1, ls, .inr (.inl (x / y)) :: st, M)
    | _ => none
  | .lrem => match st with
    | .inr (.inl y) :: .inr (.inl x) :: st => if y = 0 then none else some (ip + 1, ls, .inr (.inl (x - x / y * y)) :: st, M)
    | _ => none
  | .lcmp => match st with
    | .inr (.inl y) :: .inr (.inl x) :: st => some (ip + 1, ls, .inl (lg_cmp x y) :: st, M)
    | _ => none
  | .i2l => match st with
    | .inl x :: st => some (ip + 1, ls, .inr (.inl x.toInt64) :: st, M)
    | _ => none
  | .l2i => match st with
    | .inr (.inl x) :: st => some (ip + 1, ls, .inl x.toInt32 :: st, M)
    | _ => none
  | .i2b => match st with
    | .inl x :: st => some (ip + 1, ls, .inl x.toInt8.toInt32 :: st, M)
    | _ => none
  | .dup => match st with
    | .inl x :: st => some (ip + 1, ls, .inl x :: .inl x :: st, M)
    | .inr (.inr r) :: st => some (ip + 1, ls, .inr (.inr r) :: .inr (.inr r) :: st, M)
    | _ => none
  | .dup2 => match st with
    | .inl x :: .inr (.inr r) :: st => some (ip + 1, ls, .inl x :: .inr (.inr r) :: .inl x :: .inr (.inr r) :: st, M)
    | _ => none
  | .goto t => some (t.toNat, ls, st, M)
  | .if_icmp c t => match st with
    | .inl y :: .inl x :: st => match c with
      | .eq => if x = y then some (t.toNat, ls, st, M) else some (ip + 1, ls, st, M)
      | .ne => if ¬ x = y then some (t.toNat, ls, st, M) else some (ip + 1, ls, st, M)
      | .lt => if x < y then some (t.toNat, ls, st, M) else some (ip + 1, ls, st, M)
      | .ge => if y ≤ x then some (t.toNat, ls, st, M) else some (ip + 1, ls, st, M)
      | .gt => if y < x then some (t.toNat, ls, st, M) else some (ip + 1, ls, st, M)
      | .le => if x ≤ y then some (t.toNat, ls, st, M) else some (ip + 1, ls, st, M)
    | _ => none
  | .ifCond c t => match st with
    | .inl x :: st => match c with
      | .eq => if x = 0 then some (t.toNat, ls, st, M) else some (ip + 1, ls, st, M)
      | .ne => if ¬ x = 0 then some (t.toNat, ls, st, M) else some (ip + 1, ls, st, M)
      | .lt => if x < 0 then some (t.toNat, ls, st, M) else some (ip + 1, ls, st, M)
      | .ge => if 0 ≤ x then some (t.toNat, ls, st, M) else some (ip + 1, ls, st, M)
      | .gt => if 0 < x then some (t.toNat, ls, st, M) else some (ip + 1, ls, st, M)
      | .le => if x ≤ 0 then some (t.toNat, ls, st, M) else some (ip + 1, ls, st, M)
    | _ => none
  | .ifnull t => match st with
    | .inr (.inr none) :: st => some (t.toNat, ls, st, M)
    | .inr (.inr (some _)) :: st => some (ip + 1, ls, st, M)
    | _ => none
  | .ifnonnull t => match st with
    | .inr (.inr none) :: st => some (ip + 1, ls, st, M)
    | .inr (.inr (some _)) :: st => some (t.toNat, ls, st, M)
    | _ => none
  | .tableswitch d lo hi offs => match st with
    | .inl x :: st => if x.toInt < lo ∨ hi < x.toInt then some (d.toNat, ls, st, M) else match nth offs.toList (x.toInt - lo).toNat with
      | some t => some (t.toNat, ls, st, M)
      | none => none
    | _ => none
  | .invokeinterface ci j => match st with
    | .inr (.inr (some (k, i))) :: st => if k = ci then match mTy ci j with
      | .int => some (ip + 1, ls, .inl (M.2.2.1 k i j) :: st, M)
      | .boolean => some (ip + 1, ls, .inl (M.2.2.1 k i j) :: st, M)
      | .long => some (ip + 1, ls, .inr (.inl (M.2.2.2 k i j)) :: st, M)
      | .object _ => some (ip + 1, ls, .inr (.inr (M.2.1 k i j)) :: st, M)
      | .array _ => some (ip + 1, ls, .inr (.inr (M.2.1 k i j)) :: st, M)
      | _ => none
      else none
    | _ => none
  | .multianewarray ci j => match st with
    | .inl x :: .inr (.inr (some (k, i))) :: st => if k = ci then match mTy ci j with
      | .int => some (ip + 1, ls, st, (M.1, M.2.1, up3 M.2.2.1 k i j x, M.2.2.2))
      | .boolean => if x = 0 ∨ x = 1 then some (ip + 1, ls, st, (M.1, M.2.1, up3 M.2.2.1 k i j x, M.2.2.2)) else none
      | _ => none
      else none
    | .inr (.inl y) :: .inr (.inr (some (k, i))) :: st => if k = ci then match mTy ci j with
      | .long => some (ip + 1, ls, st, (M.1, M.2.1, M.2.2.1, up3 M.2.2.2 k i j y))
      | _ => none
      else none
    | .inr (.inr r) :: .inr (.inr (some (k, i))) :: st => if k = ci then match mTy ci j with
      | .object _ => some (ip + 1, ls, st, (M.1, up3 M.2.1 k i j r, M.2.2.1, M.2.2.2))
      | .array _ => some (ip + 1, ls, st, (M.1, up3 M.2.1 k i j r, M.2.2.1, M.2.2.2))
      | _ => none
      else none
    | _ => none
  | .getstatic _ => some (ip + 1, ls, .inr (.inr (some (101, 0))) :: st, M)
  | .iaload => match st with
    | .inl x :: .inr (.inr (some (k, i))) :: st => if k = 100 then (if x < 0 ∨ L ≤ x.toNatClampNeg then none else some (ip + 1, ls, .inl (xs x.toNatClampNeg) :: st, M)) else match nth mKs k with
      | some (.inr (.int, n)) => if x < 0 ∨ n ≤ x.toNatClampNeg then none else some (ip + 1, ls, .inl (M.2.2.1 k i x.toNatClampNeg) :: st, M)
      | _ => none
    | _ => none
  | .baload => match st with
    | .inl x :: .inr (.inr (some (k, i))) :: st => match nth mKs k with
      | some (.inr (.byte, n)) => if x < 0 ∨ n ≤ x.toNatClampNeg then none else some (ip + 1, ls, .inl (M.2.2.1 k i x.toNatClampNeg) :: st, M)
      | some (.inr (.boolean, n)) => if x < 0 ∨ n ≤ x.toNatClampNeg then none else some (ip + 1, ls, .inl (M.2.2.1 k i x.toNatClampNeg) :: st, M)
      | _ => none
    | _ => none
  | .caload => match st with
    | .inl x :: .inr (.inr (some (k, _))) :: st => if k = 101 then (if x < 0 ∨ 6 ≤ x.toNatClampNeg then none else some (ip + 1, ls, .inl (lett x.toNatClampNeg) :: st, M)) else none
    | _ => none
  | .aaload => match st with
    | .inl x :: .inr (.inr (some (k, i))) :: st => match nth mKs k with
      | some (.inr (.object _, n)) => if x < 0 ∨ n ≤ x.toNatClampNeg then none else some (ip + 1, ls, .inr (.inr (M.2.1 k i x.toNatClampNeg)) :: st, M)
      | _ => none
    | _ => none
  | .iastore => match st with
    | .inl y :: .inl x :: .inr (.inr (some (k, i))) :: st => match nth mKs k with
      | some (.inr (.int, n)) => if x < 0 ∨ n ≤ x.toNatClampNeg then none else some (ip + 1, ls, st, (M.1, M.2.1, up3 M.2.2.1 k i x.toNatClampNeg y, M.2.2.2))
      | _ => none
    | _ => none
  | .bastore => match st with
    | .inl y :: .inl x :: .inr (.inr (some (k, i))) :: st => match nth mKs k with
      | some (.inr (.byte, n)) => if x < 0 ∨ n ≤ x.toNatClampNeg then none else some (ip + 1, ls, st, (M.1, M.2.1, up3 M.2.2.1 k i x.toNatClampNeg (vp_nar .byte y), M.2.2.2))
      | some (.inr (.boolean, n)) => if x < 0 ∨ n ≤ x.toNatClampNeg then none else some (ip + 1, ls, st, (M.1, M.2.1, up3 M.2.2.1 k i x.toNatClampNeg (vp_nar .boolean y), M.2.2.2))
      | _ => none
    | _ => none
  | .aastore => match st with
    | .inr (.inr (some (k2, i2))) :: .inl x :: .inr (.inr (some (k, i))) :: st => if mEl k = k2 then match nth mKs k with
      | some (.inr (.object _, n)) => if x < 0 ∨ n ≤ x.toNatClampNeg then none else some (ip + 1, ls, st, (M.1, up3 M.2.1 k i x.toNatClampNeg (some (k2, i2)), M.2.2.1, M.2.2.2))
      | _ => none
      else none
    | _ => none
  | .arraylength => match st with
    | .inr (.inr (some (k, _))) :: st => if k = 100 then some (ip + 1, ls, .inl (Int32.ofNat L) :: st, M) else match nth mKs k with
      | some (.inr (_, n)) => some (ip + 1, ls, .inl (Int32.ofNat n) :: st, M)
      | _ => none
    | _ => none
  | .anewarray k => match st with
    | .inl x :: st => match nth mKs k with
      | some (.inr (_, n)) => if x < 0 ∨ x.toNatClampNeg ≠ n ∨ mHas M.1 k (mCnt M.1 k) = true then none else some (ip + 1, ls, .inr (.inr (some (k, mCnt M.1 k))) :: st, (M.1 ++ [(k, mCnt M.1 k)], up2 M.2.1 k (mCnt M.1 k) (fun _ => none), up2 M.2.2.1 k (mCnt M.1 k) (fun _ => 0), M.2.2.2))
      | _ => none
    | _ => none
  | .new k => match nth mKs k with
    | some (.inl _) => if mHas M.1 k (mCnt M.1 k) = true then none else some (ip + 1, ls, .inr (.inr (some (k, mCnt M.1 k))) :: st, (M.1 ++ [(k, mCnt M.1 k)], up2 M.2.1 k (mCnt M.1 k) (fun _ => none), up2 M.2.2.1 k (mCnt M.1 k) (fun _ => 0), up2 M.2.2.2 k (mCnt M.1 k) (fun _ => 0)))
    | _ => none
  | .pop => match st with
    | .inr (.inr (some _)) :: st => if mCats st ≤ 8 then some (ip + 1, ls, st, M) else none
    | _ => none
  | .lneg => match st with
    | .inl x :: st => if mCats st ≤ 8 then some (ip + 1, ls, .inl (if 0 ≤ x then x else 0 - x) :: st, M) else none
    | _ => none
  | .lor => match st with
    | .inl y :: .inl x :: st => if mCats st ≤ 8 then some (ip + 1, ls, .inl (if x < y then y else x) :: st, M) else none
    | _ => none
  | .lxor => match st with
    | .inl y :: .inl x :: st => if mCats st ≤ 8 then some (ip + 1, ls, .inl (if y < x then y else x) :: st, M) else none
    | _ => none
  | .dup2_x2 => match st with
    | .inl n :: .inl dp :: .inr (.inr (some (k2, i2))) :: .inl sp :: .inr (.inr (some (k1, i1))) :: st => match nth mKs k1, nth mKs k2 with
      | some (.inr (.int, n1)), some (.inr (.int, n2)) => if 8 < mCats st ∨ n < 0 ∨ sp < 0 ∨ dp < 0 ∨ n1 < sp.toNatClampNeg + n.toNatClampNeg ∨ n2 < dp.toNatClampNeg + n.toNatClampNeg then none else
        some (ip + 1, ls, st, (M.1, M.2.1, up2 M.2.2.1 k2 i2 (va_cpy (M.2.2.1 k1 i1) (M.2.2.1 k2 i2) sp.toNatClampNeg dp.toNatClampNeg n.toNatClampNeg), M.2.2.2))
      | _, _ => none
    | _ => none
  | _ => none
