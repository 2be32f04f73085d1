/-! how both objects hold a bar and what became of it -/
def thB (B : tB) : Nat := bitsOf (fun p => decide (bK B p ≠ 3)) (bN B)
def hrB (B : tB) (w e : Nat) : Nat := bitsOf (fun p => decide (bK B p ≠ 3) && alk (bA B p) w e) (bN B)
def CN (B : tB) (mu : fMu) : Prop := mu 1 0 0 = nI (bN B) ∧ mu 1 0 2 = nI (thB B) ∧ ∀ i : Nat, i < bN B → mu 13 0 i = nI (bA B i)
def CB (B : tB) (mu : fMu) : Prop := mu 1 0 0 = nI (bN B) ∧ mu 1 0 1 = nI (bE B) ∧ mu 1 0 2 = nI (thB B) ∧ ∀ i : Nat, i < bN B → mu 10 0 i = nI (bK B i) ∧ mu 11 0 i = nI (bS B i) ∧ mu 12 0 i = nI (bM B i) ∧ mu 13 0 i = nI (bA B i) ∧ mu 14 0 i = nI (bW B i) ∧ mu 15 0 i = nI (hrB B (bW B i) (bE B)) ∧ mu 16 0 i = nI (takes (bK B i) (bS B i) false) ∧ mu 17 0 i = nI (takes (bK B i) (bS B i) true)
def MB (B : tB) (mu : fMu) : Prop := mu 7 0 4 = nI (bN B) ∧ mu 7 0 5 = nI (bE B) ∧ ∀ i : Nat, i < bN B → mu 33 0 i = nI (bK B i) ∧ mu 34 0 i = nI (bS B i) ∧ mu 35 0 i = nI (bM B i) ∧ mu 36 0 i = nI (bA B i) ∧ mu 37 0 i = nI (bW B i)
def CC (B : tB) (c : Nat) (T : tT) (mu : fMu) : Prop := mu 0 c 1 = nI (tI T) ∧ mu 0 c 2 = tL T ∧ mu 0 c 3 = nI (madeT (bN B) T) ∧ mu 0 c 4 = nI (tD T) ∧ (∀ i : Nat, i < 6 → mu 8 c i = tH T i) ∧ ∀ p : Nat, p < 6 → mu 9 c p = oI (heldT (bN B) T (nI p))
def MC (k o : Nat) (T : tT) (mu : fMu) : Prop := (∀ i : Nat, i < 6 → mu k 0 (o + i) = tH T i) ∧ mu k 0 (o + 6) = nI (tI T) ∧ mu k 0 (o + 7) = nI (tD T) ∧ mu k 0 (o + 8) = tL T
theorem CB.cn {B : tB} {mu : fMu} (h : CB B mu) : CN B mu := ⟨h.1, h.2.2.1, fun i hi => (h.2.2.2 i hi).2.2.2.1⟩
theorem MC.w {k : Nat} {T : tT} {mu : fMu} (h : MC k 0 T mu) {i : Nat} (hi : i < 6) : mu k 0 i = tH T i := by
  have := h.1 i hi
  rwa [Nat.zero_add] at this
theorem MC.of {k : Nat} {T : tT} {mu : fMu} (h1 : ∀ i : Nat, i < 6 → mu k 0 i = tH T i) (h2 : mu k 0 6 = nI (tI T)) (h3 : mu k 0 7 = nI (tD T)) (h4 : mu k 0 8 = tL T) : MC k 0 T mu := ⟨fun i hi => by rw [Nat.zero_add]; exact h1 i hi, h2, h3, h4⟩
/-- the frames of these -/
def sCB (k i _ : Nat) : Bool := match k with
  | 1 => i == 0
  | 10 => i == 0
  | 11 => i == 0
  | 12 => i == 0
  | 13 => i == 0
  | 14 => i == 0
  | 15 => i == 0
  | 16 => i == 0
  | 17 => i == 0
  | _ => false
def sMB (k _ j : Nat) : Bool := match k with
  | 7 => match j with
    | 4 => true
    | 5 => true
    | _ => false
  | 33 => true
  | 34 => true
  | 35 => true
  | 36 => true
  | 37 => true
  | _ => false
def sCC (c : Nat) (k i _ : Nat) : Bool := match k with
  | 0 => i == c
  | 8 => i == c
  | 9 => i == c
  | _ => false
def sK (k0 : Nat) (k _ _ : Nat) : Bool := k == k0
theorem CB.fr {B : tB} {mu mu' : fMu} (h : CB B mu) (f : Fr sCB mu mu') : CB B mu' := by
  obtain ⟨h1, h2, h3, h4⟩ := h
  refine ⟨(f 1 0 0 rfl).trans h1, (f 1 0 1 rfl).trans h2, (f 1 0 2 rfl).trans h3, fun i hi => ?_⟩
  obtain ⟨g1, g2, g3, g4, g5, g6, g7, g8⟩ := h4 i hi
  exact ⟨(f 10 0 i rfl).trans g1, (f 11 0 i rfl).trans g2, (f 12 0 i rfl).trans g3, (f 13 0 i rfl).trans g4, (f 14 0 i rfl).trans g5, (f 15 0 i rfl).trans g6, (f 16 0 i rfl).trans g7, (f 17 0 i rfl).trans g8⟩
theorem MB.fr {B : tB} {mu mu' : fMu} (h : MB B mu) (f : Fr sMB mu mu') : MB B mu' := by
  obtain ⟨h1, h2, h4⟩ := h
  refine ⟨(f 7 0 4 rfl).trans h1, (f 7 0 5 rfl).trans h2, fun i hi => ?_⟩
  obtain ⟨g1, g2, g3, g4, g5⟩ := h4 i hi
  exact ⟨(f 33 0 i rfl).trans g1, (f 34 0 i rfl).trans g2, (f 35 0 i rfl).trans g3, (f 36 0 i rfl).trans g4, (f 37 0 i rfl).trans g5⟩
theorem CC.fr {B : tB} {c : Nat} {T : tT} {mu mu' : fMu} (h : CC B c T mu) (f : Fr (sCC c) mu mu') : CC B c T mu' := by
  obtain ⟨h1, h2, h3, h4, h5, h6⟩ := h
  have e : (c == c) = true := beq_self_eq_true c
  exact ⟨(f 0 c 1 e).trans h1, (f 0 c 2 e).trans h2, (f 0 c 3 e).trans h3, (f 0 c 4 e).trans h4, fun i hi => (f 8 c i e).trans (h5 i hi), fun i hi => (f 9 c i e).trans (h6 i hi)⟩
theorem MC.fr {k o : Nat} {T : tT} {mu mu' : fMu} (h : MC k o T mu) (f : Fr (sK k) mu mu') : MC k o T mu' := by
  have e : (k == k) = true := beq_self_eq_true k
  obtain ⟨h1, h2, h3, h4⟩ := h
  exact ⟨fun i hi => (f k 0 _ e).trans (h1 i hi), (f k 0 _ e).trans h2, (f k 0 _ e).trans h3, (f k 0 _ e).trans h4⟩
/-- how many -/
def cntN (f : Nat → Bool) : Nat → Nat
  | 0 => 0
  | n + 1 => cntN f n + (if f n then 1 else 0)
theorem cntN_le (f : Nat → Bool) (n : Nat) : cntN f n ≤ n := by
  induction n with
  | zero => exact Nat.le_refl 0
  | succ n ih =>
    unfold cntN
    split <;> omega
theorem cntN_congr {f g : Nat → Bool} (n : Nat) (h : ∀ i, i < n → f i = g i) : cntN f n = cntN g n := by
  induction n with
  | zero => rfl
  | succ n ih =>
    unfold cntN
    rw [ih (fun i hi => h i (by omega)), h n (by omega)]
theorem cntN_set {f g : Nat → Bool} (n i : Nat) (hi : i < n) (h0 : f i = false) (h1 : g i = true) (h : ∀ j, j ≠ i → g j = f j) : cntN g n = cntN f n + 1 := by
  induction n with
  | zero => omega
  | succ n ih =>
    unfold cntN
    by_cases e : i = n
    · subst e
      rw [h0, h1, cntN_congr i (f := g) (g := f) (fun j hj => h j (by omega))]
      rfl
    · rw [ih (by omega), h n (by omega)]
      omega
/-- what can become of a bar -/
def WT (B : tB) (T : tT) : Prop := bN B ≤ 6 ∧
  (∀ i : Nat, i < 6 → tH T i = -9 ∨ (i < bN B ∧ (tH T i = 6 ∨ tH T i = 7 ∨ ∃ p : Nat, p < bN B ∧ tH T i = nI p ∧ bK B p ≠ 3 ∧ (tD T).testBit p = true))) ∧
  (∀ i j p : Nat, i < 6 → j < 6 → p < 6 → tH T i = nI p → tH T j = nI p → i = j) ∧
  tD T < 2 ^ bN B ∧ tI T ≤ 18 * cntN (fun i => decide (tH T i ≠ -9)) 6 ∧ (tL T = -9 ∨ ∃ j : Nat, j < bN B ∧ tL T = nI j)
theorem b_p9 : ∀ p : Nat, p < 6 → nI p ≠ -9 ∧ nI p ≠ 6 ∧ nI p ≠ 7 := by decide +kernel
theorem WT.d64 {B : tB} {T : tT} (h : WT B T) : tD T < 64 := Nat.lt_of_lt_of_le h.2.2.2.1 (Nat.pow_le_pow_right (n := 2) (by decide) h.1)
theorem WT.i108 {B : tB} {T : tT} (h : WT B T) : tI T ≤ 108 := by
  have := cntN_le (fun i => decide (tH T i ≠ -9)) 6
  have h2 := h.2.2.2.2.1
  omega
theorem WT.p {B : tB} {T : tT} (h : WT B T) {i p : Nat} (hi : i < 6) (hp : p < 6) (e : tH T i = nI p) : i < bN B ∧ p < bN B ∧ bK B p ≠ 3 ∧ (tD T).testBit p = true := by
  obtain ⟨q1, q2, q3⟩ := b_p9 p hp
  have hn := h.1
  rcases h.2.1 i hi with z | ⟨z0, z | z | ⟨p', g1, g2, g3, g4⟩⟩
  · exact absurd (e.symm.trans z) q1
  · exact absurd (e.symm.trans z) q2
  · exact absurd (e.symm.trans z) q3
  · have : p = p' := (nI_eq (by omega) (by omega)).mp (e.symm.trans g2)
    subst this
    exact ⟨z0, g1, g3, g4⟩
theorem WT.held {B : tB} {T : tT} (h : WT B T) {i p : Nat} (hp : p < 6) : heldT (bN B) T (nI p) = some i ↔ i < 6 ∧ tH T i = nI p := by
  have hn := h.1
  constructor
  · intro e
    obtain ⟨-, h2, h3, -⟩ := firstN_some e
    exact ⟨by omega, of_decide_eq_true h3⟩
  · rintro ⟨hi, e⟩
    have h0 := (h.p hi hp e).1
    cases hh : heldT (bN B) T (nI p) with
    | none =>
      have := firstN_none hh i (Nat.zero_le _) (by omega)
      rw [decide_eq_false_iff_not] at this
      exact absurd e this
    | some j =>
      obtain ⟨-, h2, h3, -⟩ := firstN_some hh
      rw [h.2.2.1 j i p (by omega) hi hp (of_decide_eq_true h3) e]
theorem WT.no {B : tB} {T : tT} (h : WT B T) {p : Nat} (hp : p < 6) (e : heldT (bN B) T (nI p) = none) {i : Nat} (hi : i < 6) : tH T i ≠ nI p := by
  intro z
  rw [(h.held hp).mpr ⟨hi, z⟩] at e
  cases e
/-- who is wrong, by hands and by cups -/
theorem wrongT_bit {T : tT} {p : Nat} (hp : p < 6) (n : Nat) (hn : n ≤ 6) : (wrongT T n).testBit p = true ↔ ∃ i : Nat, i < n ∧ tH T i = nI p ∧ i ≠ p := by
  induction n with
  | zero =>
    unfold wrongT
    constructor
    · intro z; rw [Nat.zero_testBit] at z; cases z
    · rintro ⟨i, h, -⟩; omega
  | succ n ih =>
    unfold wrongT
    rw [Nat.testBit_or, Bool.or_eq_true, ih (by omega)]
    have key : (if (0 ≤ tH T n ∧ tH T n ≤ 5) ∧ tH T n ≠ nI n then 2 ^ (tH T n).toNatClampNeg else 0).testBit p = true ↔ tH T n = nI p ∧ n ≠ p := by
      split
      · rename_i hc
        obtain ⟨⟨c1, c2⟩, c3⟩ := hc
        rcases b_ix (tH T n) 6 (by decide) with ⟨j, hj, e⟩ | ⟨z | z, -⟩
        · rw [e, b_cl (by omega), Nat.testBit_two_pow, decide_eq_true_iff, nI_eq (by omega) (by omega)]
          rw [e] at c3
          constructor
          · rintro rfl
            exact ⟨rfl, fun z => c3 (by rw [z])⟩
          · exact fun z => z.1
        · exact absurd c1 (Int32.not_le.mpr z)
        · exact absurd (Int32.le_trans z c2) (by decide)
      · rename_i hc
        rw [Nat.zero_testBit]
        constructor
        · intro z; cases z
        · rintro ⟨e, c3⟩
          refine absurd ⟨⟨?_, ?_⟩, ?_⟩ hc
          · rw [e]; exact b_np p (by omega)
          · rw [e]; exact nI_le (b := 5) (by omega) (by decide)
          · rw [e]; exact fun z => c3 ((nI_eq (by omega) (by omega)).mp z).symm
    rw [key]
    constructor
    · rintro (⟨i, h1, h2⟩ | h)
      · exact ⟨i, by omega, h2⟩
      · exact ⟨n, by omega, h⟩
    · rintro ⟨i, h1, h2⟩
      by_cases e : i = n
      · subst e; exact Or.inr h2
      · exact Or.inl ⟨i, by omega, h2⟩
theorem wrongT_lt {T : tT} (n : Nat) : wrongT T n < 64 := by
  induction n with
  | zero => unfold wrongT; decide
  | succ n ih =>
    unfold wrongT
    refine Nat.or_lt_two_pow (n := 6) ih ?_
    split
    · rename_i hc
      rcases b_ix (tH T n) 6 (by decide) with ⟨j, hj, e⟩ | ⟨z | z, -⟩
      · rw [e, b_cl (by omega)]
        exact Nat.pow_lt_pow_right (by decide) hj
      · exact absurd hc.1.1 (Int32.not_le.mpr z)
      · exact absurd (Int32.le_trans z hc.1.2) (by decide)
    · decide
def wrH (n : Nat) (T : tT) (p : Nat) : Bool := match heldT n T (nI p) with
  | none => false
  | some i => decide (i ≠ p)
theorem WT.wrong {B : tB} {T : tT} (h : WT B T) : wrongT T (bN B) = bitsOf (wrH (bN B) T) (bN B) := by
  have hn := h.1
  apply Nat.eq_of_testBit_eq
  intro p
  rw [bitsOf_bit]
  by_cases hp : p < bN B
  · rw [show decide (p < bN B) = true from decide_eq_true hp, Bool.true_and, Bool.eq_iff_iff, wrongT_bit (by omega) _ hn]
    unfold wrH
    cases hh : heldT (bN B) T (nI p) with
    | none =>
      constructor
      · rintro ⟨i, h1, h2, -⟩
        exact absurd h2 (h.no (by omega) hh (by omega))
      · intro z; cases z
    | some j =>
      obtain ⟨h1, h2⟩ := (h.held (by omega)).mp hh
      constructor
      · rintro ⟨i, g1, g2, g3⟩
        have := h.2.2.1 i j p (by omega) h1 (by omega) g2 h2
        subst this
        exact decide_eq_true g3
      · intro z
        exact ⟨j, (h.p h1 (by omega) h2).1, h2, of_decide_eq_true z⟩
  · rw [show decide (p < bN B) = false from decide_eq_false hp, Bool.false_and]
    by_cases hp6 : p < 6
    · cases hb : (wrongT T (bN B)).testBit p
      · rfl
      · obtain ⟨i, h1, h2, -⟩ := (wrongT_bit hp6 _ hn).mp hb
        exact absurd (h.p (by omega) hp6 h2).2.1 hp
    · exact Nat.testBit_lt_two_pow (Nat.lt_of_lt_of_le (wrongT_lt _) (Nat.pow_le_pow_right (n := 2) (i := 6) (by decide) (by omega)))
