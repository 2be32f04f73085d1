/-! a bar, and what became of it, as plain things -/
abbrev tB : Type := Nat × Nat × (Nat → Nat) × (Nat → Nat) × (Nat → Nat) × (Nat → Nat) × (Nat → Nat)
abbrev bN (B : tB) : Nat := B.1
abbrev bE (B : tB) : Nat := B.2.1
abbrev bK (B : tB) : Nat → Nat := B.2.2.1
abbrev bS (B : tB) : Nat → Nat := B.2.2.2.1
abbrev bM (B : tB) : Nat → Nat := B.2.2.2.2.1
abbrev bA (B : tB) : Nat → Nat := B.2.2.2.2.2.1
abbrev bW (B : tB) : Nat → Nat := B.2.2.2.2.2.2
def wB (B : tB) : Prop := bN B ≤ 6 ∧ bE B ≤ 9 ∧ ∀ i : Nat, i < bN B → bK B i ≤ 5 ∧ 1 ≤ bS B i ∧ bS B i ≤ 9 ∧ bM B i ≤ 3 ∧ bA B i ≤ 9 ∧ bW B i ≤ 9
/-- where each cup is, the time, who has had something (bits), the cup made last (or -9) -/
abbrev tT : Type := (Nat → Int32) × Nat × Nat × Int32
abbrev tH (T : tT) : Nat → Int32 := T.1
abbrev tI (T : tT) : Nat := T.2.1
abbrev tD (T : tT) : Nat := T.2.2.1
abbrev tL (T : tT) : Int32 := T.2.2.2
def T0 : tT := (fun _ => -9, 0, 0, -9)
/-- how long one takes -/
def takes (k s : Nat) (m : Bool) : Nat :=
  let jug := if m then (if 1 < s then s / 2 else 1) else s
  let tea := if 2 < s then s - 2 else 1
  match k with
  | 1 => jug
  | 2 => tea
  | 4 => 2 * jug
  | 5 => tea + 3
  | _ => s
def milkA (B : tB) (l : Int32) (i : Nat) : Bool := decide (l ≠ -9) && decide (bM B l.toNatClampNeg = bM B i)
def takesO (B : tB) (T : tT) (i : Nat) : Nat := takes (bK B i) (bS B i) (milkA B (tL T) i)
/-- names are alike -/
def alk (a b e : Nat) : Bool := decide (a ≤ b + e) && decide (b ≤ a + e)
/-- person p is there, has had nothing, and takes what is called by name w -/
def canT (B : tB) (had w e p : Nat) : Bool := decide (bK B p ≠ 3) && !had.testBit p && alk (bA B p) w e
def firstN (f : Nat → Bool) : Nat → Nat → Option Nat
  | _, 0 => none
  | p, z + 1 => if f p then some p else firstN f (p + 1) z
/-- who takes cup i, by ears e -/
def who (B : tB) (had i e : Nat) : Option Nat := firstN (canT B had (bW B i) e) 0 (bN B)
def oI (r : Option Nat) : Int32 := match r with
  | none => -9
  | some p => nI p
def makesT (B : tB) (T : tT) (i e : Nat) : tT :=
  (fun j => if j = i then (match who B (tD T) i e with
    | none => 6
    | some p => nI p) else tH T j, tI T + takesO B T i, (match who B (tD T) i e with
    | none => tD T
    | some p => tD T ||| 2 ^ p), nI i)
/-- the cup that a person holds -/
def heldT (n : Nat) (T : tT) (p : Int32) : Option Nat := firstN (fun i => decide (tH T i = p)) 0 n
def bitsOf (f : Nat → Bool) : Nat → Nat
  | 0 => 0
  | n + 1 => bitsOf f n ||| (if f n then 2 ^ n else 0)
def madeT (n : Nat) (T : tT) : Nat := bitsOf (fun i => decide (tH T i ≠ -9)) n
def wrongT (T : tT) : Nat → Nat
  | 0 => 0
  | n + 1 => wrongT T n ||| (if (0 ≤ tH T n ∧ tH T n ≤ 5) ∧ tH T n ≠ nI n then 2 ^ (tH T n).toNatClampNeg else 0)
theorem firstN_some {f : Nat → Bool} {p z r : Nat} (h : firstN f p z = some r) : p ≤ r ∧ r < p + z ∧ f r = true ∧ ∀ j, p ≤ j → j < r → f j = false := by
  induction z generalizing p with
  | zero => cases h
  | succ z ih =>
    unfold firstN at h
    split at h
    · rename_i hf
      cases h
      exact ⟨Nat.le_refl _, by omega, hf, fun j h1 h2 => by omega⟩
    · rename_i hf
      obtain ⟨h1, h2, h3, h4⟩ := ih h
      refine ⟨by omega, by omega, h3, fun j g1 g2 => ?_⟩
      by_cases hj : j = p
      · rw [hj]; simpa using hf
      · exact h4 j (by omega) g2
theorem firstN_none {f : Nat → Bool} {p z : Nat} (h : firstN f p z = none) : ∀ j, p ≤ j → j < p + z → f j = false := by
  induction z generalizing p with
  | zero => intro j h1 h2; omega
  | succ z ih =>
    unfold firstN at h
    split at h
    · cases h
    · rename_i hf
      intro j g1 g2
      by_cases hj : j = p
      · rw [hj]; simpa using hf
      · exact ih h j (by omega) (by omega)
theorem bitsOf_lt (f : Nat → Bool) (n : Nat) : bitsOf f n < 2 ^ n := by
  induction n with
  | zero => exact Nat.one_pos
  | succ n ih =>
    unfold bitsOf
    refine Nat.or_lt_two_pow (Nat.lt_of_lt_of_le ih (Nat.pow_le_pow_right (by decide) (by omega))) ?_
    split
    · exact Nat.pow_lt_pow_right (by decide) (by omega)
    · exact Nat.two_pow_pos _
theorem bitsOf_bit (f : Nat → Bool) (n i : Nat) : (bitsOf f n).testBit i = (decide (i < n) && f i) := by
  induction n with
  | zero => unfold bitsOf; simp
  | succ n ih =>
    unfold bitsOf
    rw [Nat.testBit_or, ih]
    by_cases h : i = n
    · subst h
      cases hf : f i <;> simp
    · have h2 : (if f n then 2 ^ n else 0).testBit i = false := by
        split
        · rw [Nat.testBit_two_pow]; simpa using fun e => h e.symm
        · simp
      rw [h2, Bool.or_false]
      congr 1
      exact decide_eq_decide.mpr ⟨fun _ => by omega, fun _ => by omega⟩
/-! bits of small numbers -/
theorem b_sh : ∀ p : Nat, p < 31 → (1 : Int32) <<< (nI p &&& 31) = nI (2 ^ p) := by decide +kernel
theorem b_or (a b : Nat) : nI a ||| nI b = nI (a ||| b) := by
  apply Int32.toBitVec_inj.mp
  show BitVec.ofNat 32 a ||| BitVec.ofNat 32 b = BitVec.ofNat 32 (a ||| b)
  exact BitVec.ofNat_or.symm
theorem b_and (a b : Nat) : nI a &&& nI b = nI (a &&& b) := by
  apply Int32.toBitVec_inj.mp
  show BitVec.ofNat 32 a &&& BitVec.ofNat 32 b = BitVec.ofNat 32 (a &&& b)
  exact BitVec.ofNat_and.symm
theorem b_or0 (x : Int32) : x ||| 0 = x := by
  apply Int32.toBitVec_inj.mp
  show x.toBitVec ||| 0#32 = x.toBitVec
  exact BitVec.or_zero
theorem b_has : ∀ h : Nat, h < 64 → ∀ p : Nat, p < 6 → (((nI h >>> (nI p &&& 31)) &&& 1 = 1) ↔ h.testBit p = true) := by decide +kernel
