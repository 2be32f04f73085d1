/-! orders, one behind the other -/
def lpL (F : Nat → List (List Nat)) (mq : Nat) : Nat → Nat → List (List Nat)
  | _, 0 => []
  | i, w + 1 => (if mq.testBit i then [] else (F (mq ||| 2 ^ i)).map (fun l => i :: l)) ++ lpL F mq (i + 1) w
def lpO (n : Nat) : Nat → Nat → List (List Nat)
  | 0, _ => [[]]
  | z + 1, mq => if mq = 2 ^ n - 1 then [[]] else lpL (lpO n z) mq 0 n
def kkF (f : Nat → Nat) : Nat → Nat
  | 0 => 0
  | k + 1 => if f (k + 1) < f k then kkF f k else k + 1
def eeF (f : Nat → Nat) (v : Nat) : Nat → Nat
  | 0 => 0
  | e + 1 => if f (e + 1) < v then eeF f v e else e + 1
def exF (f : Nat → Nat) (a b : Nat) : Nat → Nat := fun j => if j = b then f a else if j = a then f b else f j
def rvF : Nat → (Nat → Nat) → Nat → Nat → Nat → Nat
  | 0, f, _, _ => f
  | w + 1, f, a, b => if a < b then rvF w (exF f a b) (a + 1) (b - 1) else f
def nxF (m : Nat) (f : Nat → Nat) : Option (Nat → Nat) := match kkF f (m - 1) with
  | 0 => none
  | k + 1 => some (rvF 6 (exF f k (eeF f (f k) (m - 1))) (k + 1) (m - 1))
def gtD (l : List Nat) (j : Nat) : Nat := l.getD j 0
def foL (mq : Nat) : Nat → Nat → List Nat
  | _, 0 => []
  | i, w + 1 => if mq.testBit i then foL mq (i + 1) w else i :: foL mq (i + 1) w
def chC (m : Nat) : List Nat → List (List Nat) → Bool
  | l, [] => match nxF m (gtD l) with
    | none => true
    | some _ => false
  | l, l' :: r => (match nxF m (gtD l) with
    | none => false
    | some g => (List.range m).all (fun j => Nat.beq (g j) (gtD l' j))) && chC m l' r
def eqL : List Nat → List Nat → Bool
  | [], [] => true
  | a :: l, b :: l' => Nat.beq a b && eqL l l'
  | _, _ => false
def chA (n mq : Nat) : Bool := match lpO n 6 mq with
  | [] => false
  | l :: r => eqL l (foL mq 0 n) && Nat.ble l.length 6 && chC l.length l r && (l :: r).all (fun l' => Nat.beq l'.length l.length && l'.all (fun i => Nat.blt i n))
set_option maxRecDepth 1000000 in
theorem ch_all : (List.range 7).all (fun n => (List.range (2 ^ n)).all (fun mq => chA n mq)) = true := by decide +kernel
