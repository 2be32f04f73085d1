/-! by turns: a bar and a wag -/
def mvT (B : tB) (e : Bool) (T : tT) (mv : Nat) : Option tT := if e then (if mv = 36 then some T else if mv / 6 < mv % 6 ∧ mv % 6 < bN B ∧ (heldT (bN B) T (nI (mv / 6))).isSome = true ∧ (heldT (bN B) T (nI (mv % 6))).isSome = true then some (chT (bN B) T (mv / 6) (mv % 6)) else none) else (if mv = 6 then (if madeT (bN B) T = 2 ^ bN B - 1 then some T else none) else if mv < bN B ∧ tH T mv = -9 then some (makesT B T mv (bE B)) else none)
def wei (e : Bool) (a : Option Nat) (v : Nat) : Option Nat := match a with
  | none => some v
  | some b => if e then (if b < v then some v else some b) else (if v < b then some v else some b)
def wgL (e : Bool) (G : tT → Nat) (M : Nat → Option tT) : Nat → Nat → Option Nat → Option Nat
  | _, 0, a => a
  | mv, w + 1, a => wgL e G M (mv + 1) w (match M mv with
    | none => a
    | some T' => wei e a (G T'))
def wgV (B : tB) : Nat → Bool → tT → Nat
  | 0, _, T => pop (wrongT T (bN B))
  | k + 1, e, T => (wgL e (wgV B k (!e)) (mvT B e T) 0 37 none).getD 0
def leE (e : Bool) (v x : Nat) : Prop := if e then x ≤ v else v ≤ x
theorem leE.tr {e : Bool} {a b c : Nat} (h1 : leE e a b) (h2 : leE e b c) : leE e a c := by
  cases e with
  | true => exact Nat.le_trans (show c ≤ b from h2) (show b ≤ a from h1)
  | false => exact Nat.le_trans (show a ≤ b from h1) (show b ≤ c from h2)
theorem leE.rf {e : Bool} {a : Nat} : leE e a a := by
  cases e with
  | true => exact Nat.le_refl a
  | false => exact Nat.le_refl a
theorem wei_spec (e : Bool) (a : Option Nat) (x : Nat) : ∃ y, wei e a x = some y ∧ leE e y x ∧ (∀ b, a = some b → leE e y b) ∧ (y = x ∨ a = some y) := by
  cases a with
  | none => exact ⟨x, rfl, leE.rf, (fun b hb => by cases hb), Or.inl rfl⟩
  | some b =>
    cases e with
    | true =>
      by_cases h : b < x
      · refine ⟨x, ?_, leE.rf, fun b' hb => ?_, Or.inl rfl⟩
        · show (if b < x then some x else some b) = some x
          rw [if_pos h]
        · cases hb
          show b ≤ x
          omega
      · refine ⟨b, ?_, ?_, fun b' hb => ?_, Or.inr rfl⟩
        · show (if b < x then some x else some b) = some b
          rw [if_neg h]
        · show x ≤ b
          omega
        · cases hb
          exact Nat.le_refl b
    | false =>
      by_cases h : x < b
      · refine ⟨x, ?_, leE.rf, fun b' hb => ?_, Or.inl rfl⟩
        · show (if x < b then some x else some b) = some x
          rw [if_pos h]
        · cases hb
          show x ≤ b
          omega
      · refine ⟨b, ?_, ?_, fun b' hb => ?_, Or.inr rfl⟩
        · show (if x < b then some x else some b) = some b
          rw [if_neg h]
        · show b ≤ x
          omega
        · cases hb
          exact Nat.le_refl b
theorem wgL_spec (e : Bool) (G : tT → Nat) (M : Nat → Option tT) (w : Nat) : ∀ (mv : Nat) (a : Option Nat), (∀ b, a = some b → ∃ v, wgL e G M mv w a = some v ∧ leE e v b) ∧ (∀ j T', mv ≤ j → j < mv + w → M j = some T' → ∃ v, wgL e G M mv w a = some v ∧ leE e v (G T')) ∧ (∀ v, wgL e G M mv w a = some v → a = some v ∨ ∃ j T', mv ≤ j ∧ j < mv + w ∧ M j = some T' ∧ v = G T') := by
  induction w with
  | zero =>
    intro mv a
    refine ⟨fun b hb => ⟨b, hb, leE.rf⟩, fun j T' h1 h2 => by omega, fun v hv => Or.inl hv⟩
  | succ w ih =>
    intro mv a
    cases hM : M mv with
    | none =>
      have e1 : wgL e G M mv (w + 1) a = wgL e G M (mv + 1) w a := by
        show wgL e G M (mv + 1) w (match M mv with | none => a | some T' => wei e a (G T')) = _
        rw [hM]
      rw [e1]
      obtain ⟨i1, i2, i3⟩ := ih (mv + 1) a
      refine ⟨i1, fun j T' h1 h2 h3 => ?_, fun v hv => ?_⟩
      · by_cases ej : j = mv
        · subst ej
          rw [hM] at h3
          cases h3
        · exact i2 j T' (by omega) (by omega) h3
      · rcases i3 v hv with z | ⟨j, T', h1, h2, h3⟩
        · exact Or.inl z
        · exact Or.inr ⟨j, T', by omega, by omega, h3⟩
    | some T0 =>
      have e1 : wgL e G M mv (w + 1) a = wgL e G M (mv + 1) w (wei e a (G T0)) := by
        show wgL e G M (mv + 1) w (match M mv with | none => a | some T' => wei e a (G T')) = _
        rw [hM]
      rw [e1]
      obtain ⟨y, hy, y1, y2, y3⟩ := wei_spec e a (G T0)
      obtain ⟨i1, i2, i3⟩ := ih (mv + 1) (wei e a (G T0))
      obtain ⟨v, hv, hvy⟩ := i1 y hy
      refine ⟨fun b hb => ⟨v, hv, hvy.tr (y2 b hb)⟩, fun j T' h1 h2 h3 => ?_, fun v' hv' => ?_⟩
      · by_cases ej : j = mv
        · subst ej
          rw [hM] at h3
          cases h3
          exact ⟨v, hv, hvy.tr y1⟩
        · exact i2 j T' (by omega) (by omega) h3
      · rcases i3 v' hv' with z | ⟨j, T', h1, h2, h3⟩
        · rw [hy] at z
          have : y = v' := Option.some.inj z
          subst this
          rcases y3 with y3 | y3
          · exact Or.inr ⟨mv, T0, Nat.le_refl mv, by omega, hM, y3⟩
          · exact Or.inl y3
        · exact Or.inr ⟨j, T', by omega, by omega, h3⟩
theorem wgV_le (B : tB) : ∀ (k : Nat) (e : Bool) (T : tT), wgV B k e T ≤ 6 := by
  intro k
  induction k with
  | zero => intro e T; exact pop_le _ (wrongT_lt _)
  | succ k ih =>
    intro e T
    show (wgL e (wgV B k (!e)) (mvT B e T) 0 37 none).getD 0 ≤ 6
    cases h : wgL e (wgV B k (!e)) (mvT B e T) 0 37 none with
    | none => exact Nat.zero_le 6
    | some v =>
      rcases (wgL_spec e _ _ 37 0 none).2.2 v h with z | ⟨j, T', -, -, -, z⟩
      · cases z
      · show v ≤ 6
        rw [z]
        exact ih _ _
section GAME
variable {B : tB} {T : tT}
theorem held_there (h : WT B T) {p : Nat} (hp : p < 6) (hs : (heldT (bN B) T (nI p)).isSome = true) : p < bN B ∧ bK B p ≠ 3 ∧ (tD T).testBit p = true := by
  cases hh : heldT (bN B) T (nI p) with
  | none => rw [hh] at hs; cases hs
  | some j =>
    obtain ⟨j1, j2⟩ := (h.held hp).mp hh
    exact (h.p j1 hp j2).2
theorem wt_mv (hB : wB B) (h : WT B T) {e : Bool} {mv : Nat} {T' : tT} (hm : mvT B e T mv = some T') (h36 : mv ≤ 36) : WT B T' := by
  unfold mvT at hm
  split at hm
  · split at hm
    · cases hm; exact h
    · split at hm
      · rename_i hc
        cases hm
        have t1 := held_there h (show mv / 6 < 6 by omega) hc.2.2.1
        have t2 := held_there h (show mv % 6 < 6 by omega) hc.2.2.2
        exact wt_change h t1.1 t2.1 (by omega) t1.2.1 t2.2.1
      · cases hm
  · split at hm
    · split at hm
      · cases hm; exact h
      · cases hm
    · split at hm
      · rename_i hc
        cases hm
        exact wt_make hB h hc.1 hc.2
      · cases hm
theorem made_full {n : Nat} (h : ∀ i, i < n → ¬ tH T i = -9) : madeT n T = 2 ^ n - 1 := by
  apply Nat.eq_of_testBit_eq
  intro i
  unfold madeT
  rw [bitsOf_bit, Nat.testBit_two_pow_sub_one]
  by_cases hi : i < n
  · rw [decide_eq_true hi, Bool.true_and]
    exact decide_eq_true (h i hi)
  · rw [decide_eq_false hi]; rfl
theorem full_made {n : Nat} (h : madeT n T = 2 ^ n - 1) : ∀ i, i < n → ¬ tH T i = -9 := by
  intro i hi h9
  have h1 : (madeT n T).testBit i = true := by rw [h, Nat.testBit_two_pow_sub_one, decide_eq_true hi]
  unfold madeT at h1
  rw [bitsOf_bit, decide_eq_true hi, Bool.true_and] at h1
  exact of_decide_eq_true h1 h9
theorem mv_some (hn : bN B ≤ 6) (e : Bool) (T : tT) : ∃ j T', j < 37 ∧ mvT B e T j = some T' := by
  cases e with
  | true => exact ⟨36, T, by decide, rfl⟩
  | false =>
    by_cases h : madeT (bN B) T = 2 ^ bN B - 1
    · exact ⟨6, T, by decide, if_pos h⟩
    · have hex : ∃ i, i < bN B ∧ tH T i = -9 := by
        refine Classical.byContradiction (fun hno => h (made_full (fun i hi h9 => hno ⟨i, hi, h9⟩)))
      obtain ⟨i, hi, h9⟩ := hex
      refine ⟨i, makesT B T i (bE B), by omega, ?_⟩
      show (if i = 6 then _ else if i < bN B ∧ tH T i = -9 then some (makesT B T i (bE B)) else none) = _
      rw [if_neg (by omega), if_pos ⟨hi, h9⟩]
theorem wg_some (hn : bN B ≤ 6) (e : Bool) (T : tT) (G : tT → Nat) : ∃ v, wgL e G (mvT B e T) 0 37 none = some v := by
  obtain ⟨j, T', h1, h2⟩ := mv_some hn e T
  obtain ⟨v, hv, -⟩ := (wgL_spec e G (mvT B e T) 37 0 none).2.1 j T' (Nat.zero_le j) (by omega) h2
  exact ⟨v, hv⟩
/-! the class's way -/
def mxJ (B : tB) (G : tT → Nat) (T : tT) (p : Nat) : Nat → Nat → Nat → Nat
  | _, 0, a => a
  | q, w + 1, a => mxJ B G T p (q + 1) w (if (heldT (bN B) T (nI p)).isSome = true ∧ (heldT (bN B) T (nI q)).isSome = true then (if a < G (chT (bN B) T p q) then G (chT (bN B) T p q) else a) else a)
def mxP (B : tB) (G : tT → Nat) (T : tT) : Nat → Nat → Nat → Nat
  | _, 0, a => a
  | p, w + 1, a => mxP B G T (p + 1) w (mxJ B G T p (p + 1) (bN B - (p + 1)) a)
def mxW (B : tB) (G : tT → Nat) (T : tT) : Nat := mxP B G T 0 (bN B) (G T)
def mnL (B : tB) (W : tT → Nat) (T : tT) : Nat → Nat → Nat → Nat
  | _, 0, a => a
  | i, w + 1, a => mnL B W T (i + 1) w (if tH T i = -9 then (if W (makesT B T i (bE B)) < a then W (makesT B T i (bE B)) else a) else a)
def clB (B : tB) : Nat → tT → Nat
  | 0, T => pop (wrongT T (bN B))
  | t + 1, T => if madeT (bN B) T = 2 ^ bN B - 1 then mxW B (clB B t) T else mnL B (mxW B (clB B t)) T 0 (bN B) 7
abbrev hb2 (B : tB) (T : tT) (p q : Nat) : Prop := (heldT (bN B) T (nI p)).isSome = true ∧ (heldT (bN B) T (nI q)).isSome = true
theorem mxJ_spec (B : tB) (G : tT → Nat) (T : tT) (p w : Nat) : ∀ (q a : Nat), a ≤ mxJ B G T p q w a ∧ (∀ j, q ≤ j → j < q + w → hb2 B T p j → G (chT (bN B) T p j) ≤ mxJ B G T p q w a) ∧ (mxJ B G T p q w a = a ∨ ∃ j, q ≤ j ∧ j < q + w ∧ hb2 B T p j ∧ mxJ B G T p q w a = G (chT (bN B) T p j)) := by
  induction w with
  | zero =>
    intro q a
    exact ⟨Nat.le_refl a, fun j h1 h2 => by omega, Or.inl rfl⟩
  | succ w ih =>
    intro q a
    by_cases hh : hb2 B T p q
    · by_cases hl : a < G (chT (bN B) T p q)
      · have e1 : mxJ B G T p q (w + 1) a = mxJ B G T p (q + 1) w (G (chT (bN B) T p q)) := by
          show mxJ B G T p (q + 1) w (if _ then (if _ then _ else _) else _) = _
          rw [if_pos hh, if_pos hl]
        rw [e1]
        obtain ⟨i1, i2, i3⟩ := ih (q + 1) (G (chT (bN B) T p q))
        refine ⟨by omega, fun j h1 h2 h3 => ?_, ?_⟩
        · by_cases ej : j = q
          · rw [ej]; exact i1
          · exact i2 j (by omega) (by omega) h3
        · rcases i3 with z | ⟨j, h1, h2, h3⟩
          · exact Or.inr ⟨q, Nat.le_refl q, by omega, hh, z⟩
          · exact Or.inr ⟨j, by omega, by omega, h3⟩
      · have e1 : mxJ B G T p q (w + 1) a = mxJ B G T p (q + 1) w a := by
          show mxJ B G T p (q + 1) w (if _ then (if _ then _ else _) else _) = _
          rw [if_pos hh, if_neg hl]
        rw [e1]
        obtain ⟨i1, i2, i3⟩ := ih (q + 1) a
        refine ⟨i1, fun j h1 h2 h3 => ?_, ?_⟩
        · by_cases ej : j = q
          · rw [ej]; omega
          · exact i2 j (by omega) (by omega) h3
        · rcases i3 with z | ⟨j, h1, h2, h3⟩
          · exact Or.inl z
          · exact Or.inr ⟨j, by omega, by omega, h3⟩
    · have e1 : mxJ B G T p q (w + 1) a = mxJ B G T p (q + 1) w a := by
        show mxJ B G T p (q + 1) w (if _ then (if _ then _ else _) else _) = _
        rw [if_neg hh]
      rw [e1]
      obtain ⟨i1, i2, i3⟩ := ih (q + 1) a
      refine ⟨i1, fun j h1 h2 h3 => ?_, ?_⟩
      · by_cases ej : j = q
        · rw [ej] at h3; exact absurd h3 hh
        · exact i2 j (by omega) (by omega) h3
      · rcases i3 with z | ⟨j, h1, h2, h3⟩
        · exact Or.inl z
        · exact Or.inr ⟨j, by omega, by omega, h3⟩
theorem mxP_spec (B : tB) (G : tT → Nat) (T : tT) (w : Nat) : ∀ (p a : Nat), p + w = bN B → a ≤ mxP B G T p w a ∧ (∀ i j, p ≤ i → i < j → j < bN B → hb2 B T i j → G (chT (bN B) T i j) ≤ mxP B G T p w a) ∧ (mxP B G T p w a = a ∨ ∃ i j, i < j ∧ j < bN B ∧ hb2 B T i j ∧ mxP B G T p w a = G (chT (bN B) T i j)) := by
  induction w with
  | zero =>
    intro p a hp
    exact ⟨Nat.le_refl a, fun i j h1 h2 h3 => by omega, Or.inl rfl⟩
  | succ w ih =>
    intro p a hp
    have e1 : mxP B G T p (w + 1) a = mxP B G T (p + 1) w (mxJ B G T p (p + 1) (bN B - (p + 1)) a) := rfl
    rw [e1]
    obtain ⟨j1, j2, j3⟩ := mxJ_spec B G T p (bN B - (p + 1)) (p + 1) a
    obtain ⟨i1, i2, i3⟩ := ih (p + 1) (mxJ B G T p (p + 1) (bN B - (p + 1)) a) (by omega)
    refine ⟨by omega, fun i j h1 h2 h3 h4 => ?_, ?_⟩
    · by_cases ei : i = p
      · subst ei
        have := j2 j (by omega) (by omega) h4
        omega
      · exact i2 i j (by omega) h2 h3 h4
    · rcases i3 with z | z
      · rcases j3 with y | ⟨j, h1, h2, h3, h4⟩
        · exact Or.inl (z.trans y)
        · exact Or.inr ⟨p, j, by omega, by omega, h3, z.trans h4⟩
      · exact Or.inr z
theorem mnL_spec (B : tB) (W : tT → Nat) (T : tT) (w : Nat) : ∀ (i a : Nat), mnL B W T i w a ≤ a ∧ (∀ j, i ≤ j → j < i + w → tH T j = -9 → mnL B W T i w a ≤ W (makesT B T j (bE B))) ∧ (mnL B W T i w a = a ∨ ∃ j, i ≤ j ∧ j < i + w ∧ tH T j = -9 ∧ mnL B W T i w a = W (makesT B T j (bE B))) := by
  induction w with
  | zero =>
    intro q a
    exact ⟨Nat.le_refl a, fun j h1 h2 => by omega, Or.inl rfl⟩
  | succ w ih =>
    intro q a
    by_cases hh : tH T q = -9
    · by_cases hl : W (makesT B T q (bE B)) < a
      · have e1 : mnL B W T q (w + 1) a = mnL B W T (q + 1) w (W (makesT B T q (bE B))) := by
          show mnL B W T (q + 1) w (if _ then (if _ then _ else _) else _) = _
          rw [if_pos hh, if_pos hl]
        rw [e1]
        obtain ⟨i1, i2, i3⟩ := ih (q + 1) (W (makesT B T q (bE B)))
        refine ⟨by omega, fun j h1 h2 h3 => ?_, ?_⟩
        · by_cases ej : j = q
          · rw [ej]; exact i1
          · exact i2 j (by omega) (by omega) h3
        · rcases i3 with z | ⟨j, h1, h2, h3⟩
          · exact Or.inr ⟨q, Nat.le_refl q, by omega, hh, z⟩
          · exact Or.inr ⟨j, by omega, by omega, h3⟩
      · have e1 : mnL B W T q (w + 1) a = mnL B W T (q + 1) w a := by
          show mnL B W T (q + 1) w (if _ then (if _ then _ else _) else _) = _
          rw [if_pos hh, if_neg hl]
        rw [e1]
        obtain ⟨i1, i2, i3⟩ := ih (q + 1) a
        refine ⟨i1, fun j h1 h2 h3 => ?_, ?_⟩
        · by_cases ej : j = q
          · rw [ej]; omega
          · exact i2 j (by omega) (by omega) h3
        · rcases i3 with z | ⟨j, h1, h2, h3⟩
          · exact Or.inl z
          · exact Or.inr ⟨j, by omega, by omega, h3⟩
    · have e1 : mnL B W T q (w + 1) a = mnL B W T (q + 1) w a := by
        show mnL B W T (q + 1) w (if _ then (if _ then _ else _) else _) = _
        rw [if_neg hh]
      rw [e1]
      obtain ⟨i1, i2, i3⟩ := ih (q + 1) a
      refine ⟨i1, fun j h1 h2 h3 => ?_, ?_⟩
      · by_cases ej : j = q
        · rw [ej] at h3; exact absurd h3 hh
        · exact i2 j (by omega) (by omega) h3
      · rcases i3 with z | ⟨j, h1, h2, h3⟩
        · exact Or.inl z
        · exact Or.inr ⟨j, by omega, by omega, h3⟩
theorem mx_eq {G G' : tT → Nat} (hB : wB B) (hT : WT B T) (hG : ∀ T', WT B T' → G T' = G' T') : mxW B G T = (wgL true G' (mvT B true T) 0 37 none).getD 0 := by
  have hn := hB.1
  obtain ⟨v, hv⟩ := wg_some (B := B) hn true T G'
  rw [hv]
  show mxW B G T = v
  obtain ⟨-, s2, s3⟩ := wgL_spec true G' (mvT B true T) 37 0 none
  obtain ⟨m1, m2, m3⟩ := mxP_spec B G T (bN B) 0 (G T) (Nat.zero_add _)
  have e0 : mxW B G T = mxP B G T 0 (bN B) (G T) := rfl
  rw [e0]
  have hch : ∀ p q, p < q → q < bN B → hb2 B T p q → mvT B true T (6 * p + q) = some (chT (bN B) T p q) ∧ WT B (chT (bN B) T p q) := by
    intro p q h1 h2 h3
    have hm : mvT B true T (6 * p + q) = some (chT (bN B) T p q) := by
      show (if 6 * p + q = 36 then _ else if (6 * p + q) / 6 < (6 * p + q) % 6 ∧ (6 * p + q) % 6 < bN B ∧ (heldT (bN B) T (nI ((6 * p + q) / 6))).isSome = true ∧ (heldT (bN B) T (nI ((6 * p + q) % 6))).isSome = true then some (chT (bN B) T ((6 * p + q) / 6) ((6 * p + q) % 6)) else none) = _
      rw [if_neg (by omega), show (6 * p + q) / 6 = p by omega, show (6 * p + q) % 6 = q by omega, if_pos ⟨h1, h2, h3⟩]
    exact ⟨hm, wt_mv hB hT hm (by omega)⟩
  apply Nat.le_antisymm
  · rcases m3 with z | ⟨p, q, h1, h2, h3, z⟩
    · obtain ⟨v', hv', hle⟩ := s2 36 T (by decide) (by decide) rfl
      rw [hv] at hv'
      cases hv'
      rw [z, hG T hT]
      exact hle
    · obtain ⟨c1, c2⟩ := hch p q h1 h2 h3
      obtain ⟨v', hv', hle⟩ := s2 (6 * p + q) _ (Nat.zero_le _) (by omega) c1
      rw [hv] at hv'
      cases hv'
      rw [z, hG _ c2]
      exact hle
  · rcases s3 v hv with z | ⟨j, T', h1, h2, h3, z⟩
    · cases z
    · have hT' := wt_mv hB hT h3 (by omega)
      rw [z, ← hG T' hT']
      have h3' : (if j = 36 then some T else if j / 6 < j % 6 ∧ j % 6 < bN B ∧ (heldT (bN B) T (nI (j / 6))).isSome = true ∧ (heldT (bN B) T (nI (j % 6))).isSome = true then some (chT (bN B) T (j / 6) (j % 6)) else none) = some T' := h3
      split at h3'
      · cases h3'
        exact m1
      · split at h3'
        · rename_i hc
          cases h3'
          exact m2 (j / 6) (j % 6) (Nat.zero_le _) hc.1 hc.2.1 hc.2.2
        · cases h3'
theorem mn_eq {W W' : tT → Nat} (hB : wB B) (hT : WT B T) (hW : ∀ T', WT B T' → W T' = W' T') (h6 : ∀ T', W' T' ≤ 6) : (if madeT (bN B) T = 2 ^ bN B - 1 then W T else mnL B W T 0 (bN B) 7) = (wgL false W' (mvT B false T) 0 37 none).getD 0 := by
  have hn := hB.1
  obtain ⟨v, hv⟩ := wg_some (B := B) hn false T W'
  rw [hv]
  show _ = v
  obtain ⟨-, s2, s3⟩ := wgL_spec false W' (mvT B false T) 37 0 none
  have hmv : ∀ j, mvT B false T j = (if j = 6 then (if madeT (bN B) T = 2 ^ bN B - 1 then some T else none) else if j < bN B ∧ tH T j = -9 then some (makesT B T j (bE B)) else none) := fun j => rfl
  by_cases hf : madeT (bN B) T = 2 ^ bN B - 1
  · rw [if_pos hf, hW T hT]
    have h6' : mvT B false T 6 = some T := by rw [hmv, if_pos rfl, if_pos hf]
    rcases s3 v hv with z | ⟨j, T', h1, h2, h3, z⟩
    · cases z
    · rw [hmv] at h3
      split at h3
      · cases h3
        exact z.symm
      · split at h3
        · rename_i hc
          exact absurd hc.2 (full_made hf j hc.1)
        · cases h3
  · rw [if_neg hf]
    obtain ⟨m1, m2, m3⟩ := mnL_spec B W T (bN B) 0 7
    have hmk : ∀ j, j < bN B → tH T j = -9 → mvT B false T j = some (makesT B T j (bE B)) ∧ WT B (makesT B T j (bE B)) := by
      intro j h1 h2
      refine ⟨?_, wt_make hB hT h1 h2⟩
      rw [hmv, if_neg (by omega), if_pos ⟨h1, h2⟩]
    apply Nat.le_antisymm
    · rcases s3 v hv with z | ⟨j, T', h1, h2, h3, z⟩
      · cases z
      · rw [hmv] at h3
        split at h3
        · cases h3
        · split at h3
          · rename_i hc
            cases h3
            rw [z, ← hW _ (hmk j hc.1 hc.2).2]
            exact m2 j (Nat.zero_le j) (by omega) hc.2
          · cases h3
    · rcases m3 with z | ⟨j, h1, h2, h3, z⟩
      · rw [z]
        rcases s3 v hv with y | ⟨j, T', -, -, -, y⟩
        · cases y
        · rw [y]
          have := h6 T'
          omega
      · obtain ⟨c1, c2⟩ := hmk j (by omega) h3
        obtain ⟨v', hv', hle⟩ := s2 j _ (Nat.zero_le _) (by omega) c1
        rw [hv] at hv'
        cases hv'
        rw [z, hW _ c2]
        exact hle
theorem cl_eq (hB : wB B) : ∀ (t : Nat) (T : tT), WT B T → clB B t T = wgV B (2 * t) false T := by
  intro t
  induction t with
  | zero => intro T _; rfl
  | succ t ih =>
    intro T hT
    have hW : ∀ T', WT B T' → mxW B (clB B t) T' = wgV B (2 * t + 1) true T' := fun T' hT' => mx_eq hB hT' ih
    exact mn_eq hB hT hW (fun T' => wgV_le B _ _ _)
theorem cl_le (hB : wB B) (t : Nat) (hT : WT B T) : clB B t T ≤ 6 := by
  rw [cl_eq hB t T hT]
  exact wgV_le B _ _ _
theorem mxW_le (hB : wB B) (t : Nat) (hT : WT B T) : mxW B (clB B t) T ≤ 6 := by
  rw [mx_eq hB hT (fun T' hT' => cl_eq hB t T' hT')]
  exact wgV_le B (2 * t + 1) true T
theorem or_bit {a k : Nat} (h : a.testBit k = true) : a ||| 2 ^ k = a := by
  apply Nat.eq_of_testBit_eq
  intro i
  rw [Nat.testBit_or, Nat.testBit_two_pow]
  by_cases e : k = i
  · subst e; rw [h]; rfl
  · rw [decide_eq_false e, Bool.or_false]
theorem ch_ch (h : WT B T) {p q : Nat} (hp : p < bN B) (hq : q < bN B) (hpq : p ≠ q) (hs : hb2 B T p q) : chT (bN B) (chT (bN B) T p q) p q = T := by
  have hn := h.1
  have t1 := held_there h (show p < 6 by omega) hs.1
  have t2 := held_there h (show q < 6 by omega) hs.2
  obtain ⟨a, ha⟩ := Option.isSome_iff_exists.mp hs.1
  obtain ⟨b, hb⟩ := Option.isSome_iff_exists.mp hs.2
  have h1 := held_change h hp hq hpq t1.2.1 t2.2.1 (show p < 6 by omega)
  have h2 := held_change h hp hq hpq t1.2.1 t2.2.1 (show q < 6 by omega)
  rw [if_pos rfl, hb] at h1
  rw [if_neg (fun z => hpq z.symm), if_pos rfl, ha] at h2
  have ea := ((h.held (show p < 6 by omega)).mp ha).2
  have eb := ((h.held (show q < 6 by omega)).mp hb).2
  have hH : tH (chT (bN B) (chT (bN B) T p q) p q) = tH T := by
    funext j
    rw [chT_at, h1, h2, chT_at, ha, hb]
    by_cases c1 : some b = some j
    · rw [if_pos c1, ← Option.some.inj c1, eb]
    · rw [if_neg c1]
      by_cases c2 : some a = some j
      · rw [if_pos c2, ← Option.some.inj c2, ea]
      · rw [if_neg c2, if_neg c2, if_neg c1]
  have hD : tD (chT (bN B) (chT (bN B) T p q) p q) = tD T := by
    show ((((tD T ||| (if (heldT (bN B) T (nI p)).isSome then 2 ^ q else 0)) ||| (if (heldT (bN B) T (nI q)).isSome then 2 ^ p else 0)) ||| (if (heldT (bN B) (chT (bN B) T p q) (nI p)).isSome then 2 ^ q else 0)) ||| (if (heldT (bN B) (chT (bN B) T p q) (nI q)).isSome then 2 ^ p else 0)) = tD T
    rw [h1, h2, ha, hb]
    show (((tD T ||| 2 ^ q) ||| 2 ^ p) ||| 2 ^ q) ||| 2 ^ p = tD T
    rw [or_bit t2.2.2, or_bit t1.2.2, or_bit t2.2.2, or_bit t1.2.2]
  exact Prod.ext hH (Prod.ext rfl (Prod.ext hD rfl))
end GAME
