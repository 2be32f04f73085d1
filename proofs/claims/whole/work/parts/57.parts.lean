/-! sums, products, fractions -/
def sumN (f : Nat → Nat) : Nat → Nat
  | 0 => 0
  | n + 1 => sumN f n + f n
def prodN (f : Nat → Nat) : Nat → Nat
  | 0 => 1
  | n + 1 => prodN f n * f n
theorem sumN_congr {f g : Nat → Nat} (n : Nat) (h : ∀ i, i < n → f i = g i) : sumN f n = sumN g n := by
  induction n with
  | zero => rfl
  | succ n ih =>
    unfold sumN
    rw [ih (fun i hi => h i (by omega)), h n (by omega)]
theorem prodN_congr {f g : Nat → Nat} (n : Nat) (h : ∀ i, i < n → f i = g i) : prodN f n = prodN g n := by
  induction n with
  | zero => rfl
  | succ n ih =>
    unfold prodN
    rw [ih (fun i hi => h i (by omega)), h n (by omega)]
theorem prodN_zero {f : Nat → Nat} (n i : Nat) (hi : i < n) (h : f i = 0) : prodN f n = 0 := by
  induction n with
  | zero => omega
  | succ n ih =>
    unfold prodN
    by_cases e : i = n
    · subst e
      rw [h, Nat.mul_zero]
    · rw [ih (by omega), Nat.zero_mul]
theorem sumN_add (f : Nat → Nat) (a b : Nat) : sumN f (a + b) = sumN f a + sumN (fun g => f (a + g)) b := by
  induction b with
  | zero => rfl
  | succ b ih =>
    show sumN f (a + b) + f (a + b) = sumN f a + (sumN (fun g => f (a + g)) b + f (a + b))
    rw [ih, Nat.add_assoc]
theorem sumN_mul (f : Nat → Nat) (c n : Nat) : sumN (fun i => f i * c) n = sumN f n * c := by
  induction n with
  | zero => exact (Nat.zero_mul c).symm
  | succ n ih =>
    show sumN (fun i => f i * c) n + f n * c = (sumN f n + f n) * c
    rw [ih, Nat.add_mul]
theorem sumN_le {f : Nat → Nat} {M : Nat} (n : Nat) (h : ∀ i, i < n → f i ≤ M) : sumN f n ≤ n * M := by
  induction n with
  | zero => exact Nat.zero_le _
  | succ n ih =>
    show sumN f n + f n ≤ (n + 1) * M
    have h1 := ih (fun i hi => h i (by omega))
    have h2 := h n (by omega)
    rw [Nat.add_mul, Nat.one_mul]
    omega
/-- a sum of products over all sets is a product of sums -/
theorem sum_sets (W : Nat → Bool → Nat) (n : Nat) : sumN (fun g => prodN (fun k => W k (g.testBit k)) n) (2 ^ n) = prodN (fun k => W k false + W k true) n := by
  induction n with
  | zero => rfl
  | succ n ih =>
    rw [show 2 ^ (n + 1) = 2 ^ n + 2 ^ n from by rw [Nat.pow_succ]; omega, sumN_add]
    have h1 : sumN (fun g => prodN (fun k => W k (g.testBit k)) (n + 1)) (2 ^ n) = sumN (fun g => prodN (fun k => W k (g.testBit k)) n * W n false) (2 ^ n) := by
      refine sumN_congr _ (fun g hg => ?_)
      show prodN (fun k => W k (g.testBit k)) n * W n (g.testBit n) = _
      rw [Nat.testBit_lt_two_pow hg]
    have h2 : sumN (fun g => prodN (fun k => W k ((2 ^ n + g).testBit k)) (n + 1)) (2 ^ n) = sumN (fun g => prodN (fun k => W k (g.testBit k)) n * W n true) (2 ^ n) := by
      refine sumN_congr _ (fun g hg => ?_)
      show prodN (fun k => W k ((2 ^ n + g).testBit k)) n * W n ((2 ^ n + g).testBit n) = _
      rw [Nat.testBit_two_pow_add_eq, Nat.testBit_lt_two_pow hg, prodN_congr (g := fun k => W k (g.testBit k)) n (fun k hk => by rw [Nat.testBit_two_pow_add_gt hk])]
      rfl
    rw [h1, h2, sumN_mul, sumN_mul, ih]
    show _ = prodN (fun k => W k false + W k true) n * (W n false + W n true)
    rw [Nat.mul_add]
theorem prod_pow (A O : Nat → Bool) (x y n : Nat) : prodN (fun k => if A k then x else if O k then y else 1) n = x ^ cntN A n * y ^ cntN (fun k => O k && !A k) n := by
  induction n with
  | zero => rfl
  | succ n ih =>
    unfold prodN cntN
    rw [ih]
    cases hA : A n with
    | true =>
      rw [if_pos rfl, if_pos rfl]
      simp only [Bool.not_true, Bool.and_false, Bool.false_eq_true, if_false, Nat.add_zero]
      rw [Nat.pow_succ, Nat.mul_right_comm]
    | false =>
      simp only [Bool.false_eq_true, if_false, Nat.add_zero, Bool.not_false, Bool.and_true]
      cases hO : O n with
      | true =>
        rw [if_pos rfl, if_pos rfl, Nat.pow_succ, Nat.mul_assoc]
      | false =>
        simp
theorem cnt_split (A O : Nat → Bool) (n : Nat) (h : ∀ k, k < n → A k = true → O k = true) : cntN O n = cntN A n + cntN (fun k => O k && !A k) n := by
  induction n with
  | zero => rfl
  | succ n ih =>
    unfold cntN
    rw [ih (fun k hk => h k (by omega))]
    have h1 := h n (by omega)
    cases hA : A n with
    | true =>
      rw [h1 hA]
      simp
      omega
    | false =>
      cases hO : O n with
      | true => simp; omega
      | false => simp
theorem bits_self {g n : Nat} (h : g < 2 ^ n) : bitsOf g.testBit n = g := by
  apply Nat.eq_of_testBit_eq
  intro i
  rw [bitsOf_bit]
  by_cases hi : i < n
  · rw [decide_eq_true hi, Bool.true_and]
  · rw [decide_eq_false hi, Bool.false_and]
    exact (Nat.testBit_lt_two_pow (Nat.lt_of_lt_of_le h (Nat.pow_le_pow_right (by decide) (by omega)))).symm
/-- within: no bit outside -/
theorem sub_bits {a b : Nat} (ha : a < 64) : a &&& (63 ^^^ b) = 0 ↔ ∀ k, a.testBit k = true → b.testBit k = true := by
  constructor
  · intro h k hk
    have h1 : (a &&& (63 ^^^ b)).testBit k = false := by rw [h, Nat.zero_testBit]
    rw [Nat.testBit_and, Nat.testBit_xor, hk, Bool.true_and] at h1
    have hk6 : k < 6 := by
      rcases Nat.lt_or_ge k 6 with z | z
      · exact z
      · rw [Nat.testBit_lt_two_pow (Nat.lt_of_lt_of_le ha (Nat.pow_le_pow_right (n := 2) (i := 6) (by decide) z))] at hk
        cases hk
    have h6 : (63 : Nat).testBit k = true := by
      have : ∀ j : Nat, j < 6 → (63 : Nat).testBit j = true := by decide +kernel
      exact this k hk6
    rw [h6] at h1
    simpa using h1
  · intro h
    apply Nat.eq_of_testBit_eq
    intro k
    rw [Nat.zero_testBit, Nat.testBit_and, Nat.testBit_xor]
    cases hk : a.testBit k with
    | false => rfl
    | true =>
      rw [h k hk]
      have hk6 : k < 6 := by
        rcases Nat.lt_or_ge k 6 with z | z
        · exact z
        · rw [Nat.testBit_lt_two_pow (Nat.lt_of_lt_of_le ha (Nat.pow_le_pow_right (n := 2) (i := 6) (by decide) z))] at hk
          cases hk
      have h6 : (63 : Nat).testBit k = true := by
        have : ∀ j : Nat, j < 6 → (63 : Nat).testBit j = true := by decide +kernel
        exact this k hk6
      rw [h6]
      rfl
theorem gcd_step (a b : Nat) : Nat.gcd a b = Nat.gcd b (a % b) := by
  rw [Nat.gcd_comm a b, Nat.gcd_rec b a, Nat.gcd_comm]
theorem prod_half {a b z : Nat} (h0 : 0 < b) (hb : b < a) (h : a * b < 2 ^ (z + 1)) : b * (a % b) < 2 ^ z := by
  have h1 : 2 * (a % b) ≤ a := by
    have h2 := Nat.mod_lt a h0
    have h3 := Nat.div_add_mod a b
    have h4 : 1 ≤ a / b := Nat.div_pos (by omega) h0
    have h5 : b * 1 ≤ b * (a / b) := Nat.mul_le_mul_left b h4
    omega
  have h6 : b * (2 * (a % b)) ≤ b * a := Nat.mul_le_mul_left b h1
  rw [Nat.mul_comm b a] at h6
  rw [show b * (2 * (a % b)) = 2 * (b * (a % b)) by rw [← Nat.mul_assoc, Nat.mul_comm b 2, Nat.mul_assoc]] at h6
  rw [Nat.pow_succ] at h
  omega
section FRAC
variable {E : mEv} {d : Nat} {mu : fMu} {la : fLa}
theorem s_common {Q : Int64 → fMu → fLa → Prop} (a b : Nat) (ha : a < 2 ^ 62) (hb : b < 2 ^ 31) (q : Q (lN (Nat.gcd a b)) mu la) : FnL E d mi_100 [.inr (.inl (lN a)), .inr (.inl (lN b))] mu la Q := by
  have stp : ∀ (a b k : Nat), a < 2 ^ 62 → b < 2 ^ 62 → k < 1000 → (b = 0 → Q (lN a) mu la) → (0 < b → Ev E d mi_100 2 [some (.inr (.inl (lN b))), none, some (.inr (.inl (lN (a % b)))), none, some (.inl (nI (k + 1))), none, none] [] (mem E mu la) (qL E Q)) → Ev E d mi_100 2 [some (.inr (.inl (lN a))), none, some (.inr (.inl (lN b))), none, some (.inl (nI k)), none, none] [] (mem E mu la) (qL E Q) := by
    intro a b k ha hb hk q0 q1
    refine vc_X6_commonDivisor_2 _ _ _ (noo (nI_ge (b := 1000000) (by omega) (by decide)) ?_)
    rw [lg_cmp_eq, show (0 : Int64) = lN 0 from rfl, ← nI_succ]
    rcases Nat.eq_zero_or_pos b with z | z
    · subst z
      exact yes rfl (q0 rfl)
    · have hne : ¬ lN b = lN 0 := fun y => by have := (pk_lEQ (by omega) (by decide)).mp y; omega
      rw [pk_lRem (by omega) z (by omega)]
      exact noo hne ⟨hne, q1 z⟩
  have key : ∀ (z a b k : Nat), a < 2 ^ 62 → b < a → a * b < 2 ^ z → k + z < 900 → Q (lN (Nat.gcd a b)) mu la → Ev E d mi_100 2 [some (.inr (.inl (lN a))), none, some (.inr (.inl (lN b))), none, some (.inl (nI k)), none, none] [] (mem E mu la) (qL E Q) := by
    intro z
    induction z with
    | zero =>
      intro a b k ha hb hz hk q
      have h0 : b = 0 := by
        rcases Nat.eq_zero_or_pos b with y | y
        · exact y
        · have := Nat.mul_pos (show 0 < a by omega) y
          omega
      subst h0
      refine stp a 0 k ha (by omega) (by omega) (fun _ => ?_) (fun y => by omega)
      rw [Nat.gcd_zero_right] at q
      exact q
    | succ z ih =>
      intro a b k ha hb hz hk q
      refine stp a b k ha (by omega) (by omega) (fun e => ?_) (fun h0 => ?_)
      · rw [e, Nat.gcd_zero_right] at q
        exact q
      · rw [gcd_step] at q
        exact ih b (a % b) (k + 1) (by omega) (Nat.mod_lt a h0) (prod_half h0 hb hz) (by omega) q
  refine vc_X6_commonDivisor _ _ (stp a b 0 ha (by omega) (by omega) (fun e => ?_) (fun h0 => ?_))
  · rw [e, Nat.gcd_zero_right] at q
    exact q
  · rw [gcd_step] at q
    have h1 := Nat.mod_lt a h0
    refine key 62 b (a % b) 1 (by omega) h1 ?_ (by decide) q
    have h2 : b * (a % b) ≤ b * 2 ^ 31 := Nat.mul_le_mul_left b (by omega)
    have h3 : b * 2 ^ 31 < 2 ^ 31 * 2 ^ 31 := Nat.mul_lt_mul_of_pos_right hb (by decide)
    omega
theorem s_tellParts {Q : fMu → fLa → Prop} (a b : Nat) (h0 : 0 < b) (ha : a < 2 ^ 62) (hb : b < 2 ^ 31) (q : Q mu (up3 (up3 la 6 0 12 (lN (a / Nat.gcd a b))) 6 0 13 (lN (b / Nat.gcd a b)))) : FnV E (d + 1) mi_99 [.inr (.inr (some (6, 0))), .inr (.inl (lN a)), .inr (.inl (lN b))] mu la Q := by
  have hg : 0 < Nat.gcd a b := Nat.gcd_pos_of_pos_right a h0
  have hg2 : Nat.gcd a b ≤ b := Nat.gcd_le_right a h0
  have hne : ¬ lN (Nat.gcd a b) = 0 := fun y => by
    have := (pk_lEQ (b := 0) (by omega) (by decide)).mp y
    omega
  refine vc_X6_tellParts _ _ (s_common a b ha hb ?_)
  rw [lg_cmp_le, show (0 : Int64) = lN 0 from rfl, pk_lLE (by omega) (by decide), pk_lDiv (by omega) hg (by omega), pk_lDiv (by omega) hg (by omega)]
  refine noo (by omega) ⟨hne, ?_⟩
  rintro la1 rfl
  refine ⟨hne, ?_⟩
  rintro la2 rfl
  exact q
theorem s_fraction {Q : Int32 → fMu → fLa → Prop} (a b : Nat) (h0 : 0 < b) (ha : a < 2 ^ 62) (hb : b < 2 ^ 31) (q : Q 1 mu (up3 (up3 la 7 0 18 (lN (a / Nat.gcd a b))) 7 0 19 (lN (b / Nat.gcd a b)))) : FnI E d mi_192 [.inr (.inr (some (7, 0))), .inr (.inl (lN a)), .inr (.inl (lN b))] mu la Q := by
  have hg : 0 < Nat.gcd a b := Nat.gcd_pos_of_pos_right a h0
  have hg2 : Nat.gcd a b ≤ b := Nat.gcd_le_right a h0
  have key : ∀ (z x y : Nat), x < 2 ^ 62 → y ≤ z → y < 2 ^ 62 → Nat.gcd x y = Nat.gcd a b → Ev E d mi_192 4 [some (.inr (.inr (some (7, 0)))), some (.inr (.inl (lN a))), none, some (.inr (.inl (lN b))), none, some (.inr (.inl (lN x))), none, some (.inr (.inl (lN y))), none, none, none] [] (mem E mu la) (qI E Q) := by
    have fin : ∀ x : Nat, x = Nat.gcd a b → Ev E d mi_192 4 [some (.inr (.inr (some (7, 0)))), some (.inr (.inl (lN a))), none, some (.inr (.inl (lN b))), none, some (.inr (.inl (lN x))), none, some (.inr (.inl (lN 0))), none, none, none] [] (mem E mu la) (qI E Q) := by
      rintro x rfl
      have hne : ¬ lN (Nat.gcd a b) = 0 := fun y => by
        have := (pk_lEQ (b := 0) (by omega) (by decide)).mp y
        omega
      refine vc_X7_fraction_4 0 _ _ _ _ ?_
      rw [lg_cmp_eq, pk_lDiv (a := a) (by omega) hg (by omega), pk_lDiv (a := b) (by omega) hg (by omega)]
      refine yes rfl ⟨hne, ?_⟩
      rintro la1 rfl
      refine ⟨hne, ?_⟩
      rintro la2 rfl
      exact q
    intro z
    induction z with
    | zero =>
      intro x y hx hy hy2 he
      have : y = 0 := by omega
      subst this
      rw [Nat.gcd_zero_right] at he
      exact fin x he
    | succ z ih =>
      intro x y hx hy hy2 he
      rcases Nat.eq_zero_or_pos y with e | e
      · subst e
        rw [Nat.gcd_zero_right] at he
        exact fin x he
      · have hne : ¬ lN y = 0 := fun h => by
          have := (pk_lEQ (b := 0) (by omega) (by decide)).mp h
          omega
        refine vc_X7_fraction_4 0 _ _ _ _ ?_
        rw [lg_cmp_eq, pk_lRem (a := x) (by omega) e (by omega)]
        have h1 := Nat.mod_lt x e
        rw [gcd_step] at he
        exact noo hne ⟨hne, ih y (x % y) hy2 (by omega) (by omega) he⟩
  exact vc_X7_fraction _ _ (key b a b ha (Nat.le_refl b) (by omega) rfl)
theorem Inv.parts {mu : fMu} {la : fLa} (h : Inv IB mu la) (x y : Int64) : Inv IB mu (up3 (up3 (up3 (up3 la 6 0 12 x) 6 0 13 y) 7 0 18 x) 7 0 19 y) := by
  obtain ⟨h1, h2, ⟨e1, e2, e3, e4, e5⟩, h4⟩ := h
  refine ⟨h1, h2, ⟨e1, e2, e3, ?_, ?_⟩, h4⟩
  · unfold up3; simp
  · unfold up3; simp
theorem s_power {Q : Int64 → fMu → fLa → Prop} (b t : Nat) (hb : b < 1000) (ht : t < 1000) (q : Q (lN (b ^ t)) mu la) : FnL E d mi_101 [.inl (nI b), .inl (nI t)] mu la Q := by
  refine vc_X6_power _ _ ?_
  refine lpU (P := fun k => Ev E d mi_101 4 [some (.inl (nI b)), some (.inl (nI t)), some (.inr (.inl (lN (b ^ k)))), none, some (.inl (nI k))] [] (mem E mu la) (qL E Q)) (n := t) ?_ ?_ 0 (Nat.zero_le _)
  · exact vc_X6_power_4 _ _ _ _ (yes (nI_le (Nat.le_refl _) (by omega)) q)
  · intro k hk ih
    refine vc_X6_power_4 _ _ _ _ (noo (nI_ge hk (by omega)) ?_)
    rw [nI_l (by omega), lN_mul, ← Nat.pow_succ, ← nI_succ]
    exact ih
theorem s_twelves {Q : Int64 → fMu → fLa → Prop} (t : Nat) (ht : t < 1000) (q : Q (lN (12 ^ t)) mu la) : FnL E d mi_213 [.inl (nI t)] mu la Q := by
  refine vc_X7_twelves _ ?_
  refine lpU (P := fun k => Ev E d mi_213 4 [some (.inl (nI t)), some (.inr (.inl (lN (12 ^ k)))), none, some (.inl (nI k))] [] (mem E mu la) (qL E Q)) (n := t) ?_ ?_ 0 (Nat.zero_le _)
  · exact vc_X7_twelves_4 _ _ _ (yes (nI_le (Nat.le_refl _) (by omega)) q)
  · intro k hk ih
    refine vc_X7_twelves_4 _ _ _ (noo (nI_ge hk (by omega)) ?_)
    rw [show (12 : Int64) = lN 12 from rfl, lN_mul, ← Nat.pow_succ, ← nI_succ]
    exact ih
end FRAC
