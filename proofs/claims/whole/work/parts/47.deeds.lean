/-! one deed, on either side -/
def cCtr (c k i _ : Nat) : Bool := !((k == 0 || k == 8 || k == 9) && i == c)
def cK (k0 k _ _ : Nat) : Bool := !(k == k0)
theorem ctr_R {c : Nat} : ∀ k i j, sR k i j = true → cCtr c k i j = true := by
  intro k i j h; unfold sR at h; split at h <;> first | rfl | cases h
theorem ctr_T {c : Nat} : ∀ k i j, sT k i j = true → cCtr c k i j = true := by
  intro k i j h; unfold sT at h; split at h <;> first | rfl | cases h
theorem ctr_S {c : Nat} : ∀ k i j, sS k i j = true → cCtr c k i j = true := by
  intro k i j h; unfold sS at h; split at h <;> first | rfl | cases h
theorem ctr_CB {c : Nat} : ∀ k i j, sCB k i j = true → cCtr c k i j = true := by
  intro k i j h; unfold sCB at h; split at h <;> first | rfl | cases h
theorem ctr_MB {c : Nat} : ∀ k i j, sMB k i j = true → cCtr c k i j = true := by
  intro k i j h; unfold sMB at h; split at h <;> first | rfl | cases h
theorem ctr_K {c k0 : Nat} (h0 : (k0 == 0 || k0 == 8 || k0 == 9) = false) : ∀ k i j, sK k0 k i j = true → cCtr c k i j = true := by
  intro k i j h
  unfold sK at h
  rw [beq_iff_eq] at h
  subst h
  unfold cCtr
  rw [h0]
  rfl
theorem cK_K {k0 k1 : Nat} (h0 : (k1 == k0) = false) : ∀ k i j, sK k1 k i j = true → cK k0 k i j = true := by
  intro k i j h
  unfold sK at h
  rw [beq_iff_eq] at h
  subst h
  unfold cK
  rw [h0]
  rfl
theorem held_ext {B : tB} {T : tT} (h : WT B T) {p : Nat} (hp : p < 6) (r : Option Nat) (hr : ∀ j, r = some j ↔ j < 6 ∧ tH T j = nI p) : heldT (bN B) T (nI p) = r := by
  apply Option.ext
  intro j
  rw [hr j]
  exact h.held hp
theorem made_make {B : tB} {T : tT} {i e : Nat} (hi : i < bN B) (hn : bN B ≤ 6) : madeT (bN B) (makesT B T i e) = madeT (bN B) T ||| 2 ^ i := by
  apply Nat.eq_of_testBit_eq
  intro j
  unfold madeT
  rw [Nat.testBit_or, bitsOf_bit, bitsOf_bit, Nat.testBit_two_pow]
  show (decide (j < bN B) && decide ((if j = i then (match who B (tD T) i e with | none => 6 | some p => nI p) else tH T j) ≠ -9)) = _
  by_cases e1 : j = i
  · subst e1
    rw [if_pos rfl, decide_eq_true hi, decide_eq_true (p := j = j) rfl]
    cases hw : who B (tD T) j e with
    | none => rw [Bool.or_true]; rfl
    | some p =>
      rw [decide_eq_true (p := nI p ≠ -9) (b_p9 p (by have := (who_some hw).1; omega)).1]
      simp
  · rw [if_neg e1, decide_eq_false (p := i = j) (fun z => e1 z.symm), Bool.or_false]
theorem held_make {B : tB} {T : tT} {i e p : Nat} (hB : wB B) (h : WT B T) (hi : i < bN B) (h9 : tH T i = -9) (hp : p < 6) : heldT (bN B) (makesT B T i e) (nI p) = if who B (tD T) i e = some p then some i else heldT (bN B) T (nI p) := by
  have hn := h.1
  refine held_ext (wt_make hB h hi h9) hp _ (fun j => ?_)
  show _ ↔ j < 6 ∧ (if j = i then (match who B (tD T) i e with | none => 6 | some p => nI p) else tH T j) = nI p
  by_cases hw : who B (tD T) i e = some p
  · rw [if_pos hw, hw]
    have hno : ∀ x, x < 6 → tH T x ≠ nI p := by
      intro x hx z
      have := (h.p hx hp z).2.2.2
      rw [(who_some hw).2.2.1] at this
      cases this
    constructor
    · intro z
      have := Option.some.inj z
      subst this
      exact ⟨by omega, by rw [if_pos rfl]⟩
    · rintro ⟨z1, z2⟩
      by_cases e1 : j = i
      · rw [e1]
      · rw [if_neg e1] at z2
        exact absurd z2 (hno j z1)
  · rw [if_neg hw, h.held hp]
    constructor
    · rintro ⟨z1, z2⟩
      refine ⟨z1, ?_⟩
      have : j ≠ i := fun z => by rw [z, h9] at z2; exact (b_p9 p hp).1 z2.symm
      rw [if_neg this]
      exact z2
    · rintro ⟨z1, z2⟩
      refine ⟨z1, ?_⟩
      by_cases e1 : j = i
      · rw [if_pos e1] at z2
        cases hw2 : who B (tD T) i e with
        | none => rw [hw2] at z2; exact absurd z2.symm (b_p9 p hp).2.1
        | some p' =>
          rw [hw2] at z2
          have hp' := (who_some hw2).1
          have : p' = p := (nI_eq (by omega) (by omega)).mp z2
          rw [this] at hw2
          exact absurd hw2 hw
      · rw [if_neg e1] at z2
        exact z2
section DEED
variable {E : mEv} {d c : Nat} {mu : fMu} {la : fLa} {Q : fMu → fLa → Prop} {B : tB} {T : tT}
theorem s_openAnew (q : ∀ mu' : fMu, Fr (cCtr c) mu mu' → CC B c T0 mu' → Q mu' la) : FnV E (d + 1) mi_1 [.inr (.inr (some (0, c)))] mu la Q := by
  refine vc_X0_openAnew ?_
  rintro mu1 rfl
  rintro mu1 rfl
  rintro mu1 rfl
  rintro mu1 rfl
  refine s_fill (n := 6) (-9) rfl (by decide) (by decide) (s_fill (n := 6) (-9) rfl (by decide) (by decide) (q _ ?_ ?_))
  · have e : ∀ k, (k == 0 || k == 8 || k == 9) = true → ∀ j, cCtr c k c j = false := fun k h j => by unfold cCtr; rw [h, beq_self_eq_true]; rfl
    exact (((((Fr.rf.u3 (e 0 rfl _)).u3 (e 0 rfl _)).u3 (e 0 rfl _)).u3 (e 0 rfl _)).u2 (e 8 rfl)).u2 (e 9 rfl)
  · have hm : madeT (bN B) T0 = 0 := by
      apply Nat.eq_of_testBit_eq
      intro i
      unfold madeT
      rw [bitsOf_bit, Nat.zero_testBit]
      simp [T0, tH]
    have hh : ∀ p : Nat, p < 6 → heldT (bN B) T0 (nI p) = none := by
      intro p hp
      cases h : heldT (bN B) T0 (nI p) with
      | none => rfl
      | some j => exact absurd (of_decide_eq_true (firstN_some h).2.2.1).symm (b_p9 p hp).1
    refine ⟨?_, ?_, ?_, ?_, fun i hi => ?_, fun p hp => ?_⟩
    · unfold up2 up3; simp; rfl
    · unfold up2 up3; simp; rfl
    · rw [hm]; unfold up2 up3; simp; rfl
    · unfold up2 up3; simp; rfl
    · unfold up2 up3; simp [hi]; rfl
    · rw [hh p hp]; unfold up2 up3; simp [hp]; rfl
theorem s_serve (i : Nat) (hB : wB B) (hT : WT B T) (hi : i < bN B) (h9 : tH T i = -9) (hX : CB B mu) (hC : CC B c T mu) (q : ∀ mu' : fMu, Fr (cCtr c) mu mu' → CC B c (makesT B T i (bE B)) mu' → Q mu' la) : FnV E (d + 3) mi_4 [.inr (.inr (some (0, c))), .inl (nI i)] mu la Q := by
  have hn := hB.1
  have e : ∀ k, (k == 0 || k == 8 || k == 9) = true → ∀ j, cCtr c k c j = false := fun k h j => by unfold cCtr; rw [h, beq_self_eq_true]; rfl
  obtain ⟨c1, c2, c3, c4, c5, c6⟩ := hC
  refine vc_X0_serve _ ?_
  rw [c4]
  refine s_taker i _ hB hi hT.d64 (hX.2.2.2 i hi).2.2.2.2.2.1 ?_
  rw [c2, c1]
  refine s_timeBehind i hB hi hX hT.2.2.2.2.2 ?_
  rintro mu1 rfl
  rintro mu1 rfl
  rintro mu1 rfl
  have hF3 : ∀ v w, Fr (cCtr c) mu (up3 (up3 (up3 mu 0 c 1 v) 0 c 2 (nI i)) 0 c 3 w) := fun v w => ((Fr.rf.u3 (e 0 rfl _)).u3 (e 0 rfl _)).u3 (e 0 rfl _)
  refine s_cHasO (n := bN B) _ (fun p hw => (who_some hw).1) (by omega) (hX.fr ((hF3 _ _).le ctr_CB)).1 ?_
  have h1 : up3 (up3 mu 0 c 1 (nI (tI T) + nI (takesO B T i))) 0 c 2 (nI i) 0 c 3 = nI (madeT (bN B) T) := by rw [← c3]; unfold up3; simp
  rw [h1, b_sh i (by omega), b_or, nI_add, b_cl (by omega), ← made_make (e := bE B) hi hn]
  have hin : vp_in (nI i) 6 := b_in rfl (by omega) (by decide)
  cases hw : who B (tD T) i (bE B) with
  | none =>
    refine yes rfl ⟨hin, ?_⟩
    rintro mu1 rfl
    refine q _ ((hF3 _ _).u3 (e 8 rfl _)) ⟨?_, ?_, ?_, ?_, fun j hj => ?_, fun p hp => ?_⟩
    · unfold up3; simp; rfl
    · unfold up3; simp; rfl
    · unfold up3; simp
    · show _ = nI (match who B (tD T) i (bE B) with | none => tD T | some p => tD T ||| 2 ^ p)
      rw [hw, ← c4]; unfold up3; simp
    · show _ = if j = i then (match who B (tD T) i (bE B) with | none => 6 | some p => nI p) else tH T j
      rw [hw, ← c5 j hj]
      unfold up3
      by_cases ej : j = i
      · simp [ej]
      · simp [ej]
    · rw [held_make hB hT hi h9 hp, hw, if_neg (by simp), ← c6 p hp]
      unfold up3; simp
  | some p0 =>
    have hp0 := (who_some hw).1
    refine noo b_x10 ⟨hin, ?_⟩
    rintro mu1 rfl
    rw [show oI (some p0) = nI p0 from rfl, b_cl (by omega), b_sh p0 (by omega)]
    refine ⟨b_in rfl (by omega) (by decide), ?_⟩
    rintro mu1 rfl
    rintro mu1 rfl
    refine q _ ((((hF3 _ _).u3 (e 8 rfl _)).u3 (e 9 rfl _)).u3 (e 0 rfl _)) ⟨?_, ?_, ?_, ?_, fun j hj => ?_, fun p hp => ?_⟩
    · unfold up3; simp; rfl
    · unfold up3; simp; rfl
    · unfold up3; simp
    · show _ = nI (match who B (tD T) i (bE B) with | none => tD T | some p => tD T ||| 2 ^ p)
      rw [hw, up3_self]
      dsimp only
      rw [← b_or, ← c4]
      unfold up3; simp
    · show _ = if j = i then (match who B (tD T) i (bE B) with | none => 6 | some p => nI p) else tH T j
      rw [hw, ← c5 j hj]
      unfold up3
      by_cases ej : j = i
      · simp [ej]
      · simp [ej]
    · rw [held_make hB hT hi h9 hp, hw]
      by_cases ep : p0 = p
      · subst ep
        rw [if_pos rfl]
        unfold up3; simp; rfl
      · have ep2 : ¬ p = p0 := fun z => ep z.symm
        rw [if_neg (fun z => ep (Option.some.inj z)), ← c6 p hp]
        unfold up3; simp [ep2]
/-! change -/
theorem held_change {p q r : Nat} (h : WT B T) (hp : p < bN B) (hq : q < bN B) (hpq : p ≠ q) (k1 : bK B p ≠ 3) (k2 : bK B q ≠ 3) (hr : r < 6) : heldT (bN B) (chT (bN B) T p q) (nI r) = if r = p then heldT (bN B) T (nI q) else if r = q then heldT (bN B) T (nI p) else heldT (bN B) T (nI r) := by
  have hn := h.1
  have p6 : p < 6 := by omega
  have q6 : q < 6 := by omega
  refine held_ext (wt_change h hp hq hpq k1 k2) hr _ (fun j => ?_)
  rw [chT_at]
  have ne : ∀ {a b : Nat}, a < 6 → b < 6 → a ≠ b → nI a ≠ nI b := fun ha hb hab z => hab ((nI_eq (by omega) (by omega)).mp z)
  have ex : ∀ {a b : Nat}, a < 6 → b < 6 → a ≠ b → ∀ x, heldT (bN B) T (nI a) = some x → heldT (bN B) T (nI b) ≠ some x := by
    intro a b ha hb hab x h1 h2
    exact ne ha hb hab (((h.held ha).mp h1).2.symm.trans ((h.held hb).mp h2).2)
  by_cases e1 : r = p
  · subst e1
    rw [if_pos rfl]
    constructor
    · intro z
      refine ⟨((h.held q6).mp z).1, ?_⟩
      rw [if_neg (fun w => ex q6 p6 (fun z => hpq z.symm) j z w), if_pos z]
    · rintro ⟨z1, z2⟩
      by_cases c1 : heldT (bN B) T (nI r) = some j
      · rw [if_pos c1] at z2
        exact absurd z2 (ne q6 p6 (fun z => hpq z.symm))
      · rw [if_neg c1] at z2
        by_cases c2 : heldT (bN B) T (nI q) = some j
        · exact c2
        · rw [if_neg c2] at z2
          exact absurd ((h.held p6).mpr ⟨z1, z2⟩) c1
  · rw [if_neg e1]
    by_cases e2 : r = q
    · subst e2
      rw [if_pos rfl]
      constructor
      · intro z
        exact ⟨((h.held p6).mp z).1, by rw [if_pos z]⟩
      · rintro ⟨z1, z2⟩
        by_cases c1 : heldT (bN B) T (nI p) = some j
        · exact c1
        · rw [if_neg c1] at z2
          by_cases c2 : heldT (bN B) T (nI r) = some j
          · rw [if_pos c2] at z2
            exact absurd z2 (ne p6 q6 hpq)
          · rw [if_neg c2] at z2
            exact absurd ((h.held q6).mpr ⟨z1, z2⟩) c2
    · rw [if_neg e2, h.held hr]
      constructor
      · rintro ⟨z1, z2⟩
        refine ⟨z1, ?_⟩
        have z3 := (h.held hr).mpr ⟨z1, z2⟩
        rw [if_neg (ex hr p6 e1 j z3), if_neg (ex hr q6 e2 j z3)]
        exact z2
      · rintro ⟨z1, z2⟩
        refine ⟨z1, ?_⟩
        by_cases c1 : heldT (bN B) T (nI p) = some j
        · rw [if_pos c1] at z2
          exact absurd z2 (ne q6 hr (fun z => e2 z.symm))
        · rw [if_neg c1] at z2
          by_cases c2 : heldT (bN B) T (nI q) = some j
          · rw [if_pos c2] at z2
            exact absurd z2 (ne p6 hr (fun z => e1 z.symm))
          · rw [if_neg c2] at z2
            exact z2
theorem made_change {p q : Nat} (h : WT B T) (hp : p < bN B) (hq : q < bN B) : madeT (bN B) (chT (bN B) T p q) = madeT (bN B) T := by
  have hn := h.1
  unfold madeT
  refine bits_congr (fun j hj => ?_)
  show decide (tH (chT (bN B) T p q) j ≠ -9) = _
  rw [chT_at]
  by_cases c1 : heldT (bN B) T (nI p) = some j
  · rw [if_pos c1, ((h.held (by omega)).mp c1).2, decide_eq_true (b_p9 q (by omega)).1, decide_eq_true (b_p9 p (by omega)).1]
  · rw [if_neg c1]
    by_cases c2 : heldT (bN B) T (nI q) = some j
    · rw [if_pos c2, ((h.held (by omega)).mp c2).2, decide_eq_true (b_p9 q (by omega)).1, decide_eq_true (b_p9 p (by omega)).1]
    · rw [if_neg c2]
/-- receive, as it changes the tables -/
def rcv (mu : fMu) (c p : Nat) (r : Option Nat) : fMu := match r with
  | none => up3 mu 9 c p (-9)
  | some j => up3 (up3 (up3 mu 9 c p (nI j)) 8 c j (nI p)) 0 c 4 (up3 (up3 mu 9 c p (nI j)) 8 c j (nI p) 0 c 4 ||| nI (2 ^ p))
theorem s_receive (p : Nat) (r : Option Nat) (hp : p < 6) (hn : bN B ≤ 6) (hr : ∀ j, r = some j → j < bN B) (e0 : mu 1 0 0 = nI (bN B)) (q : Q (rcv mu c p r) la) : FnV E (d + 1) mi_7 [.inr (.inr (some (0, c))), .inl (nI p), .inl (oI r)] mu la Q := by
  refine vc_X0_receive _ _ ⟨b_in rfl hp (by decide), ?_⟩
  rintro mu1 rfl
  rw [b_cl (by omega)]
  refine s_cHasO (n := bN B) r hr (by omega) ?_ ?_
  · rw [← e0]; unfold up3; simp
  cases r with
  | none => exact yes rfl q
  | some j =>
    have hj := hr j rfl
    refine noo b_x10 ⟨b_in rfl (by omega) (by decide), ?_⟩
    rintro mu1 rfl
    rintro mu1 rfl
    rw [show oI (some j) = nI j from rfl, b_cl (by omega), b_sh p (by omega)]
    exact q
theorem s_swap (p q0 : Nat) (hT : WT B T) (hp : p < bN B) (hq : q0 < bN B) (hpq : p ≠ q0) (k1 : bK B p ≠ 3) (k2 : bK B q0 ≠ 3) (e0 : mu 1 0 0 = nI (bN B)) (hC : CC B c T mu) (q : ∀ mu' : fMu, Fr (cCtr c) mu mu' → CC B c (chT (bN B) T p q0) mu' → Q mu' la) : FnV E (d + 2) mi_6 [.inr (.inr (some (0, c))), .inl (nI p), .inl (nI q0)] mu la Q := by
  have hn := hT.1
  have e : ∀ k, (k == 0 || k == 8 || k == 9) = true → ∀ j, cCtr c k c j = false := fun k h j => by unfold cCtr; rw [h, beq_self_eq_true]; rfl
  have hC0 := hC
  obtain ⟨c1, c2, c3, c4, c5, c6⟩ := hC
  refine vc_X0_swap _ _ ⟨b_in rfl (by omega) (by decide), b_in rfl (by omega) (by decide), ?_⟩
  rw [b_cl (by omega), b_cl (by omega), c6 p (by omega), c6 q0 (by omega)]
  refine s_receive p _ (by omega) hn (fun j hj => (hT.p ((hT.held (by omega)).mp hj).1 (by omega) ((hT.held (by omega)).mp hj).2).1) e0 ?_
  have hfr : ∀ (m0 : fMu) (x : Nat) (r : Option Nat), Fr (cCtr c) mu m0 → Fr (cCtr c) mu (rcv m0 c x r) := by
    intro m0 x r h
    cases r with
    | none => exact h.u3 (e 9 rfl _)
    | some j => exact ((h.u3 (e 9 rfl _)).u3 (e 8 rfl _)).u3 (e 0 rfl _)
  have hF1 := hfr mu p (heldT (bN B) T (nI q0)) Fr.rf
  refine s_receive q0 _ (by omega) hn (fun j hj => (hT.p ((hT.held (by omega)).mp hj).1 (by omega) ((hT.held (by omega)).mp hj).2).1) ?_ ?_
  · rw [hF1 1 0 0 rfl]; exact e0
  refine q _ (hfr _ q0 _ hF1) ?_
  have hne : ∀ a b, heldT (bN B) T (nI p) = some a → heldT (bN B) T (nI q0) = some b → a ≠ b := by
    intro a b h1 h2 hab
    subst hab
    exact hpq ((nI_eq (by omega) (by omega)).mp (((hT.held (by omega)).mp h1).2.symm.trans ((hT.held (by omega)).mp h2).2))
  have hqp : q0 ≠ p := fun z => hpq z.symm
  have hD : tD (chT (bN B) T p q0) = (tD T ||| (if (heldT (bN B) T (nI p)).isSome then 2 ^ q0 else 0)) ||| (if (heldT (bN B) T (nI q0)).isSome then 2 ^ p else 0) := rfl
  refine ⟨?_, ?_, ?_, ?_, fun j hj => ?_, fun r hr => ?_⟩
  · show _ = nI (tI T)
    rw [← c1]
    cases heldT (bN B) T (nI p) <;> cases heldT (bN B) T (nI q0) <;> unfold rcv up3 <;> simp
  · show _ = tL T
    rw [← c2]
    cases heldT (bN B) T (nI p) <;> cases heldT (bN B) T (nI q0) <;> unfold rcv up3 <;> simp
  · rw [made_change hT hp hq, ← c3]
    cases heldT (bN B) T (nI p) <;> cases heldT (bN B) T (nI q0) <;> unfold rcv up3 <;> simp
  · rw [hD]
    cases heldT (bN B) T (nI p) <;> cases heldT (bN B) T (nI q0) <;> unfold rcv up3 <;> simp [c4, b_or]
    rw [Nat.or_assoc, Nat.or_assoc, Nat.or_comm (2 ^ p)]
  · rw [chT_at]
    cases ha : heldT (bN B) T (nI p) with
    | none =>
      cases hb : heldT (bN B) T (nI q0) with
      | none => unfold rcv up3; simp [c5 j hj]
      | some b =>
        by_cases ej : j = b
        · unfold rcv up3; simp [ej]
        · have : ¬ b = j := fun z => ej z.symm
          unfold rcv up3; simp [ej, this, c5 j hj]
    | some a =>
      cases hb : heldT (bN B) T (nI q0) with
      | none =>
        by_cases ej : j = a
        · unfold rcv up3; simp [ej]
        · have : ¬ a = j := fun z => ej z.symm
          unfold rcv up3; simp [ej, this, c5 j hj]
      | some b =>
        have hab := hne a b ha hb
        by_cases ej : j = a
        · unfold rcv up3; simp [ej]
        · have ej2 : ¬ a = j := fun z => ej z.symm
          by_cases ek : j = b
          · have ek2 : ¬ b = a := fun z => hab z.symm
            have ek3 : ¬ a = b := hab
            unfold rcv up3; simp [ek, ek2, ek3]
          · have ek2 : ¬ b = j := fun z => ek z.symm
            unfold rcv up3; simp [ej, ej2, ek, ek2, c5 j hj]
  · rw [held_change hT hp hq hpq k1 k2 hr]
    by_cases e1 : r = p
    · rw [if_pos e1]
      subst e1
      cases heldT (bN B) T (nI r) <;> cases heldT (bN B) T (nI q0) <;> unfold rcv up3 <;> simp [hpq] <;> rfl
    · rw [if_neg e1]
      by_cases e2 : r = q0
      · rw [if_pos e2]
        subst e2
        cases heldT (bN B) T (nI p) <;> cases heldT (bN B) T (nI r) <;> unfold rcv up3 <;> simp <;> rfl
      · rw [if_neg e2, ← c6 r hr]
        cases heldT (bN B) T (nI p) <;> cases heldT (bN B) T (nI q0) <;> unfold rcv up3 <;> simp [e1, e2]
end DEED
