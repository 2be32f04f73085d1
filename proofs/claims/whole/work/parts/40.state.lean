/-! deeds -/
def chT (n : Nat) (T : tT) (p q : Nat) : tT :=
  (fun j => if heldT n T (nI p) = some j then nI q else if heldT n T (nI q) = some j then nI p else tH T j, tI T, (tD T ||| (if (heldT n T (nI p)).isSome then 2 ^ q else 0)) ||| (if (heldT n T (nI q)).isSome then 2 ^ p else 0), tL T)
def tsT (T : tT) (i : Nat) : tT := (fun j => if j = i then 7 else tH T j, tI T, tD T, tL T)
def stT (B : tB) (T : tT) (x : Nat × Nat × Nat) : tT := match x.1 with
  | 1 => makesT B T x.2.1 (bE B)
  | 2 => chT (bN B) T x.2.1 x.2.2
  | 3 => tsT T x.2.1
  | _ => T
def okDd (B : tB) (T : tT) (x : Nat × Nat × Nat) : Prop := match x.1 with
  | 0 => x.2.1 = 0 ∧ x.2.2 = 0
  | 1 => x.2.1 < bN B ∧ tH T x.2.1 = -9 ∧ x.2.2 = 0
  | 2 => x.2.1 < bN B ∧ x.2.2 < bN B ∧ x.2.1 ≠ x.2.2 ∧ bK B x.2.1 ≠ 3 ∧ bK B x.2.2 ≠ 3
  | 3 => x.2.1 < bN B ∧ tH T x.2.1 = 6 ∧ x.2.2 = 0
  | _ => False
theorem takes_le : ∀ k : Nat, k < 6 → ∀ s : Nat, s < 10 → ∀ m : Bool, takes k s m ≤ 18 := by decide +kernel
theorem wt_T0 {B : tB} (hn : bN B ≤ 6) : WT B T0 := by
  refine ⟨hn, fun i _ => Or.inl rfl, fun i j p _ _ hp e _ => ?_, Nat.two_pow_pos _, Nat.zero_le _, Or.inl rfl⟩
  exact absurd e.symm (b_p9 p hp).1
theorem who_some {B : tB} {had i e p : Nat} (h : who B had i e = some p) : p < bN B ∧ bK B p ≠ 3 ∧ had.testBit p = false ∧ alk (bA B p) (bW B i) e = true := by
  obtain ⟨-, h2, h3, -⟩ := firstN_some h
  unfold canT at h3
  rw [Bool.and_eq_true, Bool.and_eq_true] at h3
  obtain ⟨⟨g1, g2⟩, g3⟩ := h3
  exact ⟨by omega, of_decide_eq_true g1, by simpa using g2, g3⟩
theorem wt_make {B : tB} {T : tT} (hB : wB B) (h : WT B T) {i e : Nat} (hi : i < bN B) (h9 : tH T i = -9) : WT B (makesT B T i e) := by
  have hn := h.1
  obtain ⟨-, a1, a2, a3, a4, a5⟩ := h
  have hwt : WT B T := ⟨hn, a1, a2, a3, a4, a5⟩
  have hc : cntN (fun j => decide (tH (makesT B T i e) j ≠ -9)) 6 = cntN (fun j => decide (tH T j ≠ -9)) 6 + 1 := by
    refine cntN_set 6 i (by omega) (by simp [h9]) ?_ (fun j hj => ?_)
    · show decide ((if i = i then (match who B (tD T) i e with | none => 6 | some p => nI p) else tH T i) ≠ -9) = true
      rw [if_pos rfl]
      cases hw : who B (tD T) i e with
      | none => rfl
      | some p => exact decide_eq_true (b_p9 p (by have := (who_some hw).1; omega)).1
    · show decide ((if j = i then _ else tH T j) ≠ -9) = _
      rw [if_neg hj]
  have ht : takesO B T i ≤ 18 := takes_le _ (by have := (hB.2.2 i hi).1; omega) _ (by have := (hB.2.2 i hi).2.2.1; omega) _
  refine ⟨hn, fun j hj => ?_, fun j j' p hj hj' hp e1 e2 => ?_, ?_, ?_, Or.inr ⟨i, hi, rfl⟩⟩
  · show (if j = i then (match who B (tD T) i e with | none => 6 | some p => nI p) else tH T j) = -9 ∨ _
    by_cases hji : j = i
    · subst hji
      refine Or.inr ⟨hi, ?_⟩
      show (if j = j then (match who B (tD T) j e with | none => 6 | some p => nI p) else tH T j) = 6 ∨ _
      rw [if_pos rfl]
      cases hw : who B (tD T) j e with
      | none => exact Or.inl rfl
      | some p =>
        refine Or.inr (Or.inr ⟨p, (who_some hw).1, ?_, (who_some hw).2.1, ?_⟩)
        · show (if j = j then (match who B (tD T) j e with | none => 6 | some p => nI p) else tH T j) = nI p
          rw [if_pos rfl, hw]
        · show (match who B (tD T) j e with | none => tD T | some p => tD T ||| 2 ^ p).testBit p = true
          rw [hw]
          simp
    · rw [if_neg hji]
      rcases a1 j hj with z | ⟨z0, z⟩
      · exact Or.inl z
      · refine Or.inr ⟨z0, ?_⟩
        show (if j = i then (match who B (tD T) i e with | none => 6 | some p => nI p) else tH T j) = 6 ∨ _
        rw [if_neg hji]
        rcases z with z | z | ⟨p, g1, g2, g3, g4⟩
        · exact Or.inl z
        · refine Or.inr (Or.inl ?_)
          show (if j = i then _ else tH T j) = 7
          rw [if_neg hji]; exact z
        · refine Or.inr (Or.inr ⟨p, g1, ?_, g3, ?_⟩)
          · show (if j = i then _ else tH T j) = nI p
            rw [if_neg hji]; exact g2
          · show (match who B (tD T) i e with | none => tD T | some p => tD T ||| 2 ^ p).testBit p = true
            cases who B (tD T) i e with
            | none => exact g4
            | some p' => rw [Nat.testBit_or, g4]; rfl
  · have e1 : (if j = i then (match who B (tD T) i e with | none => 6 | some p => nI p) else tH T j) = nI p := e1
    have e2 : (if j' = i then (match who B (tD T) i e with | none => 6 | some p => nI p) else tH T j') = nI p := e2
    have key : ∀ x, x < 6 → x ≠ i → tH T x = nI p → (match who B (tD T) i e with | none => (6 : Int32) | some p => nI p) ≠ nI p := by
      intro x hx _ ex z
      have hb := (hwt.p hx hp ex).2.2.2
      cases hw : who B (tD T) i e with
      | none => rw [hw] at z; exact (b_p9 p hp).2.1 z.symm
      | some p' =>
        rw [hw] at z
        have hp' := (who_some hw).1
        have : p' = p := (nI_eq (by omega) (by omega)).mp z
        subst this
        rw [(who_some hw).2.2.1] at hb
        cases hb
    by_cases c1 : j = i
    · by_cases c2 : j' = i
      · rw [c1, c2]
      · rw [if_neg c2] at e2
        rw [if_pos c1] at e1
        exact absurd e1 (key j' hj' c2 e2)
    · rw [if_neg c1] at e1
      by_cases c2 : j' = i
      · rw [if_pos c2] at e2
        exact absurd e2 (key j hj c1 e1)
      · rw [if_neg c2] at e2
        exact a2 j j' p hj hj' hp e1 e2
  · show (match who B (tD T) i e with | none => tD T | some p => tD T ||| 2 ^ p) < 2 ^ bN B
    cases hw : who B (tD T) i e with
    | none => exact a3
    | some p => exact Nat.or_lt_two_pow a3 (Nat.pow_lt_pow_right (by decide) (who_some hw).1)
  · rw [hc]
    show tI T + takesO B T i ≤ _
    omega
theorem wt_toss {B : tB} {T : tT} (h : WT B T) {i : Nat} (hi : i < bN B) (h6 : tH T i = 6) : WT B (tsT T i) := by
  obtain ⟨hn, a1, a2, a3, a4, a5⟩ := h
  refine ⟨hn, fun j hj => ?_, fun j j' p hj hj' hp e1 e2 => ?_, a3, ?_, a5⟩
  · show (if j = i then (7 : Int32) else tH T j) = -9 ∨ _
    by_cases hji : j = i
    · refine Or.inr ⟨by omega, Or.inr (Or.inl ?_)⟩
      show (if j = i then (7 : Int32) else tH T j) = 7
      rw [if_pos hji]
    · rw [if_neg hji]
      rcases a1 j hj with z | ⟨z0, z⟩
      · exact Or.inl z
      · refine Or.inr ⟨z0, ?_⟩
        show (if j = i then (7 : Int32) else tH T j) = 6 ∨ (if j = i then (7 : Int32) else tH T j) = 7 ∨ ∃ p : Nat, p < bN B ∧ (if j = i then (7 : Int32) else tH T j) = nI p ∧ _
        rw [if_neg hji]
        exact z
  · have e1 : (if j = i then (7 : Int32) else tH T j) = nI p := e1
    have e2 : (if j' = i then (7 : Int32) else tH T j') = nI p := e2
    by_cases c1 : j = i
    · rw [if_pos c1] at e1
      exact absurd e1.symm (b_p9 p hp).2.2
    · by_cases c2 : j' = i
      · rw [if_pos c2] at e2
        exact absurd e2.symm (b_p9 p hp).2.2
      · rw [if_neg c1] at e1
        rw [if_neg c2] at e2
        exact a2 j j' p hj hj' hp e1 e2
  · show tI T ≤ _
    rw [cntN_congr 6 (f := fun j => decide (tH (tsT T i) j ≠ -9)) (g := fun j => decide (tH T j ≠ -9)) (fun j _ => ?_)]
    · exact a4
    · show decide ((if j = i then (7 : Int32) else tH T j) ≠ -9) = _
      by_cases c1 : j = i
      · rw [if_pos c1, c1, h6]; decide
      · rw [if_neg c1]
theorem chT_at {n : Nat} (T : tT) (p q j : Nat) : tH (chT n T p q) j = if heldT n T (nI p) = some j then nI q else if heldT n T (nI q) = some j then nI p else tH T j := rfl
theorem wt_change {B : tB} {T : tT} (h : WT B T) {p q : Nat} (hp : p < bN B) (hq : q < bN B) (hpq : p ≠ q) (k1 : bK B p ≠ 3) (k2 : bK B q ≠ 3) : WT B (chT (bN B) T p q) := by
  have hwt := h
  obtain ⟨hn, a1, a2, a3, a4, a5⟩ := h
  have p6 : p < 6 := by omega
  have q6 : q < 6 := by omega
  have hd : ∀ x, (tD T).testBit x = true → (tD (chT (bN B) T p q)).testBit x = true := by
    intro x hx
    show ((tD T ||| _) ||| _).testBit x = true
    rw [Nat.testBit_or, Nat.testBit_or, hx]
    rfl
  have hdq : ∀ j, heldT (bN B) T (nI p) = some j → (tD (chT (bN B) T p q)).testBit q = true := by
    intro j hj
    show ((tD T ||| (if (heldT (bN B) T (nI p)).isSome then 2 ^ q else 0)) ||| _).testBit q = true
    rw [hj, Nat.testBit_or, Nat.testBit_or]
    simp
  have hdp : ∀ j, heldT (bN B) T (nI q) = some j → (tD (chT (bN B) T p q)).testBit p = true := by
    intro j hj
    show (_ ||| (if (heldT (bN B) T (nI q)).isSome then 2 ^ p else 0)).testBit p = true
    rw [hj, Nat.testBit_or]
    simp
  refine ⟨hn, fun j hj => ?_, fun j j' r hj hj' hr e1 e2 => ?_, ?_, ?_, a5⟩
  · rw [chT_at]
    by_cases c1 : heldT (bN B) T (nI p) = some j
    · rw [if_pos c1]
      obtain ⟨g1, g2⟩ := (hwt.held p6).mp c1
      exact Or.inr ⟨(hwt.p hj p6 g2).1, Or.inr (Or.inr ⟨q, hq, rfl, k2, hdq j c1⟩)⟩
    · rw [if_neg c1]
      by_cases c2 : heldT (bN B) T (nI q) = some j
      · rw [if_pos c2]
        obtain ⟨g1, g2⟩ := (hwt.held q6).mp c2
        exact Or.inr ⟨(hwt.p hj q6 g2).1, Or.inr (Or.inr ⟨p, hp, rfl, k1, hdp j c2⟩)⟩
      · rw [if_neg c2]
        rcases a1 j hj with z | ⟨z0, z | z | ⟨x, g1, g2, g3, g4⟩⟩
        · exact Or.inl z
        · exact Or.inr ⟨z0, Or.inl z⟩
        · exact Or.inr ⟨z0, Or.inr (Or.inl z)⟩
        · exact Or.inr ⟨z0, Or.inr (Or.inr ⟨x, g1, g2, g3, hd x g4⟩)⟩
  · rw [chT_at] at e1 e2
    have np : ∀ x, x < 6 → tH T x = nI p → heldT (bN B) T (nI p) = some x := fun x hx e => (hwt.held p6).mpr ⟨hx, e⟩
    have nq : ∀ x, x < 6 → tH T x = nI q → heldT (bN B) T (nI q) = some x := fun x hx e => (hwt.held q6).mpr ⟨hx, e⟩
    by_cases c1 : heldT (bN B) T (nI p) = some j
    · rw [if_pos c1] at e1
      have hqr : q = r := (nI_eq (by omega) (by omega)).mp e1
      by_cases d1 : heldT (bN B) T (nI p) = some j'
      · rw [c1] at d1; exact Option.some.inj d1
      · rw [if_neg d1] at e2
        by_cases d2 : heldT (bN B) T (nI q) = some j'
        · rw [if_pos d2] at e2
          have hpr : p = r := (nI_eq (by omega) (by omega)).mp e2
          omega
        · rw [if_neg d2] at e2
          exact absurd (nq j' hj' (by rw [hqr]; exact e2)) d2
    · rw [if_neg c1] at e1
      by_cases c2 : heldT (bN B) T (nI q) = some j
      · rw [if_pos c2] at e1
        have hpr : p = r := (nI_eq (by omega) (by omega)).mp e1
        by_cases d1 : heldT (bN B) T (nI p) = some j'
        · rw [if_pos d1] at e2
          have hqr : q = r := (nI_eq (by omega) (by omega)).mp e2
          omega
        · rw [if_neg d1] at e2
          by_cases d2 : heldT (bN B) T (nI q) = some j'
          · rw [c2] at d2; exact Option.some.inj d2
          · rw [if_neg d2] at e2
            exact absurd (np j' hj' (by rw [hpr]; exact e2)) d1
      · rw [if_neg c2] at e1
        by_cases d1 : heldT (bN B) T (nI p) = some j'
        · rw [if_pos d1] at e2
          have hqr : q = r := (nI_eq (by omega) (by omega)).mp e2
          exact absurd (nq j hj (by rw [hqr]; exact e1)) c2
        · rw [if_neg d1] at e2
          by_cases d2 : heldT (bN B) T (nI q) = some j'
          · rw [if_pos d2] at e2
            have hpr : p = r := (nI_eq (by omega) (by omega)).mp e2
            exact absurd (np j hj (by rw [hpr]; exact e1)) c1
          · rw [if_neg d2] at e2
            exact a2 j j' r hj hj' hr e1 e2
  · refine Nat.or_lt_two_pow (Nat.or_lt_two_pow a3 ?_) ?_
    · split
      · exact Nat.pow_lt_pow_right (by decide) hq
      · exact Nat.two_pow_pos _
    · split
      · exact Nat.pow_lt_pow_right (by decide) hp
      · exact Nat.two_pow_pos _
  · show tI T ≤ _
    rw [cntN_congr 6 (f := fun j => decide (tH (chT (bN B) T p q) j ≠ -9)) (g := fun j => decide (tH T j ≠ -9)) (fun j hj => ?_)]
    · exact a4
    · show decide (tH (chT (bN B) T p q) j ≠ -9) = _
      rw [chT_at]
      by_cases c1 : heldT (bN B) T (nI p) = some j
      · rw [if_pos c1, ((hwt.held p6).mp c1).2, decide_eq_true (b_p9 q q6).1, decide_eq_true (b_p9 p p6).1]
      · rw [if_neg c1]
        by_cases c2 : heldT (bN B) T (nI q) = some j
        · rw [if_pos c2, ((hwt.held q6).mp c2).2, decide_eq_true (b_p9 q q6).1, decide_eq_true (b_p9 p p6).1]
        · rw [if_neg c2]
theorem wt_step {B : tB} {T : tT} (hB : wB B) (h : WT B T) {x : Nat × Nat × Nat} (hx : okDd B T x) : WT B (stT B T x) := by
  obtain ⟨x1, x2, x3⟩ := x
  unfold okDd at hx
  unfold stT
  dsimp only at hx ⊢
  split at hx
  · exact h
  · exact wt_make hB h hx.1 hx.2.1
  · exact wt_change h hx.1 hx.2.1 hx.2.2.1 hx.2.2.2.1 hx.2.2.2.2
  · exact wt_toss h hx.1 hx.2.1
  · exact hx.elim
/-- the deeds, one behind the other -/
def rp (B : tB) (D : Nat → Nat × Nat × Nat) : Nat → tT
  | 0 => T0
  | k + 1 => stT B (rp B D k) (D k)
def wD (B : tB) (D : Nat → Nat × Nat × Nat) (m : Nat) : Prop := m ≤ 40 ∧ ∀ k : Nat, k < m → okDd B (rp B D k) (D k)
theorem wt_rp {B : tB} {D : Nat → Nat × Nat × Nat} {m : Nat} (hB : wB B) (h : wD B D m) : ∀ k : Nat, k ≤ m → WT B (rp B D k) := by
  intro k
  induction k with
  | zero => intro _; exact wt_T0 hB.1
  | succ k ih => intro hk; exact wt_step hB (ih (by omega)) (h.2 k (by omega))
theorem rp_congr {B : tB} {D D' : Nat → Nat × Nat × Nat} (k : Nat) (h : ∀ j, j < k → D j = D' j) : rp B D k = rp B D' k := by
  induction k with
  | zero => rfl
  | succ k ih =>
    unfold rp
    rw [ih (fun j hj => h j (by omega)), h k (by omega)]
theorem wD_le {B : tB} {D : Nat → Nat × Nat × Nat} {m n : Nat} (h : wD B D m) (hn : n ≤ m) : wD B D n := ⟨by have := h.1; omega, fun k hk => h.2 k (by omega)⟩
/-! the bar's invariant -/
def DX (c : Nat) (D : Nat → Nat × Nat × Nat) (m : Nat) (mu : fMu) : Prop := mu 2 c 0 = nI m ∧ ∀ k : Nat, k < m → mu 18 c k = nI (D k).1 ∧ mu 19 c k = nI (D k).2.1 ∧ mu 20 c k = nI (D k).2.2
def MD (B : tB) (D : Nat → Nat × Nat × Nat) (m : Nat) (mu : fMu) : Prop := mu 7 0 13 = nI m ∧ ∀ k : Nat, k < m → MC 40 (9 * k) (rp B D k) mu
def KX (B : tB) (kk : Nat) (mu : fMu) : Prop := (mu 2 (kk + 1) 0 = -1 ∧ mu 42 0 kk = 0) ∨ ∃ (D : Nat → Nat × Nat × Nat) (m : Nat), wD B D m ∧ DX (kk + 1) D m mu ∧ mu 42 0 kk = 1 ∧ MC 41 (370 * kk) (rp B D m) mu ∧ (∀ k : Nat, k < m → MC 41 (370 * kk + 9 + 9 * k) (rp B D k) mu) ∧ mu 41 0 (370 * kk + 369) = nI m
def IBd (B : tB) (D : Nat → Nat × Nat × Nat) (m : Nat) (mu : fMu) : Prop := wB B ∧ wD B D m ∧ CB B mu ∧ CC B 0 (rp B D m) mu ∧ DX 0 D m mu ∧ MB B mu ∧ MC 38 0 (rp B D m) mu ∧ MD B D m mu ∧ ∀ kk : Nat, kk < 3 → KX B kk mu
def IB (mu : fMu) : Prop := ∃ (B : tB) (D : Nat → Nat × Nat × Nat) (m : Nat), IBd B D m mu
theorem Fr.le {S S' : Nat → Nat → Nat → Bool} {mu mu' : fMu} (h : Fr S mu mu') (hs : ∀ k i j, S' k i j = true → S k i j = true) : Fr S' mu mu' := fun k i j e => h k i j (hs k i j e)
theorem sB_CB : ∀ k i j, sCB k i j = true → sB k i j = true := by
  intro k i j h
  unfold sCB at h
  split at h <;> first | exact h | cases h
theorem sB_MB : ∀ k i j, sMB k i j = true → sB k i j = true := by
  intro k i j h
  unfold sMB at h
  split at h
  · split at h <;> first | rfl | cases h
  all_goals first | rfl | cases h
theorem sB_CC : ∀ k i j, sCC 0 k i j = true → sB k i j = true := by
  intro k i j h
  unfold sCC at h
  split at h <;> first | exact h | cases h
theorem sB_K {k0 : Nat} (h0 : ∀ i j, sB k0 i j = true) : ∀ k i j, sK k0 k i j = true → sB k i j = true := by
  intro k i j h
  unfold sK at h
  rw [beq_iff_eq] at h
  rw [h]
  exact h0 i j
theorem DX.fr {c : Nat} {D : Nat → Nat × Nat × Nat} {m : Nat} {mu mu' : fMu} (h : DX c D m mu) (f2 : Fr (sK 2) mu mu') (f18 : Fr (sK 18) mu mu') (f19 : Fr (sK 19) mu mu') (f20 : Fr (sK 20) mu mu') : DX c D m mu' := by
  obtain ⟨h1, h2⟩ := h
  exact ⟨(f2 2 c 0 rfl).trans h1, fun k hk => ⟨(f18 18 c k rfl).trans (h2 k hk).1, (f19 19 c k rfl).trans (h2 k hk).2.1, (f20 20 c k rfl).trans (h2 k hk).2.2⟩⟩
theorem KX.fr {B : tB} {kk : Nat} {mu mu' : fMu} (h : KX B kk mu) (f2 : Fr (sK 2) mu mu') (f18 : Fr (sK 18) mu mu') (f19 : Fr (sK 19) mu mu') (f20 : Fr (sK 20) mu mu') (f41 : Fr (sK 41) mu mu') (f42 : Fr (sK 42) mu mu') : KX B kk mu' := by
  rcases h with ⟨h1, h2⟩ | ⟨D, m, h1, h2, h3, h4, h5, h6⟩
  · exact Or.inl ⟨(f2 2 _ 0 rfl).trans h1, (f42 42 0 kk rfl).trans h2⟩
  · exact Or.inr ⟨D, m, h1, h2.fr f2 f18 f19 f20, (f42 42 0 kk rfl).trans h3, h4.fr f41, fun k hk => (h5 k hk).fr f41, (f41 41 0 _ rfl).trans h6⟩
theorem IBd.fr {B : tB} {D : Nat → Nat × Nat × Nat} {m : Nat} {mu mu' : fMu} (h : IBd B D m mu) (f : Fr sB mu mu') : IBd B D m mu' := by
  obtain ⟨h1, h2, h3, h4, h5, h6, h7, h8, h9⟩ := h
  have f2 : Fr (sK 2) mu mu' := f.le (sB_K (fun _ _ => rfl))
  have f18 : Fr (sK 18) mu mu' := f.le (sB_K (fun _ _ => rfl))
  have f19 : Fr (sK 19) mu mu' := f.le (sB_K (fun _ _ => rfl))
  have f20 : Fr (sK 20) mu mu' := f.le (sB_K (fun _ _ => rfl))
  have f38 : Fr (sK 38) mu mu' := f.le (sB_K (fun _ _ => rfl))
  have f40 : Fr (sK 40) mu mu' := f.le (sB_K (fun _ _ => rfl))
  have f41 : Fr (sK 41) mu mu' := f.le (sB_K (fun _ _ => rfl))
  have f42 : Fr (sK 42) mu mu' := f.le (sB_K (fun _ _ => rfl))
  exact ⟨h1, h2, h3.fr (f.le sB_CB), h4.fr (f.le sB_CC), h5.fr f2 f18 f19 f20, h6.fr (f.le sB_MB), h7.fr f38, ⟨(f 7 0 13 rfl).trans h8.1, fun k hk => (h8.2 k hk).fr f40⟩, fun kk hk => (h9 kk hk).fr f2 f18 f19 f20 f41 f42⟩
theorem ibf : IBf IB := fun _ _ f ⟨B, D, m, h⟩ => ⟨B, D, m, h.fr f⟩
theorem IBd.wt {B : tB} {D : Nat → Nat × Nat × Nat} {m : Nat} {mu : fMu} (h : IBd B D m mu) : WT B (rp B D m) := wt_rp h.1 h.2.1 m (Nat.le_refl m)
