/-! the class's turns -/
def lvB (d : Nat) : Nat → Nat
  | 0 => d + 5
  | t + 1 => lvB d t + 2
theorem lvB_ge (d t : Nat) : d + 5 ≤ lvB d t := by
  induction t with
  | zero => exact Nat.le_refl _
  | succ t ih =>
    show d + 5 ≤ lvB d t + 2
    omega
theorem min_nI {a b : Nat} (ha : a < 1000) (hb : b < 1000) : (if nI a < nI b then nI a else nI b) = nI (if a < b then a else b) := by
  by_cases h : a < b
  · rw [if_pos h, if_pos (nI_lt h (by omega))]
  · rw [if_neg h, if_neg (nI_nlt (by omega) (by omega))]
theorem max_nI {a b : Nat} (ha : a < 1000) (hb : b < 1000) : (if nI a < nI b then nI b else nI a) = nI (if a < b then b else a) := by
  by_cases h : a < b
  · rw [if_pos h, if_pos (nI_lt h (by omega))]
  · rw [if_neg h, if_neg (nI_nlt (by omega) (by omega))]
section TURNS
variable {E : mEv} {d c : Nat} {mu : fMu} {la : fLa} {B : tB} {T : tT}
theorem s_unserve {Q : fMu → fLa → Prop} (i : Nat) (hB : wB B) (hT : WT B T) (hi : i < bN B) (h9 : tH T i = -9) (e0 : mu 1 0 0 = nI (bN B)) (hC : CC B c (makesT B T i (bE B)) mu) (q : ∀ mu' : fMu, Fr (cCtr c) mu mu' → CC B c T mu' → Q mu' la) : FnV E (d + 1) mi_5 [.inr (.inr (some (0, c))), .inl (nI i), .inl (nI (tI T)), .inl (tL T), .inl (nI (tD T))] mu la Q := by
  have hn := hB.1
  have e : ∀ k, (k == 0 || k == 8 || k == 9) = true → ∀ j, cCtr c k c j = false := fun k h j => by unfold cCtr; rw [h, beq_self_eq_true]; rfl
  obtain ⟨c1, c2, c3, c4, c5, c6⟩ := hC
  have hin : vp_in (nI i) 6 := b_in rfl (by omega) (by decide)
  have hmd : nI (madeT (bN B) (makesT B T i (bE B))) &&& (((1 : Int32) <<< (nI i &&& 31)) ^^^ (-1)) = nI (madeT (bN B) T) := by
    have h64 : (2 : Nat) ^ i < 64 := (show (2 : Nat) ^ i < 2 ^ 6 from Nat.pow_lt_pow_right (by decide) (by omega))
    rw [b_sh i (by omega), (b_andN (madeT (bN B) (makesT B T i (bE B))) (bits64 _ hn) (2 ^ i) h64).1, made_make hi hn]
    congr 1
    apply Nat.eq_of_testBit_eq
    intro k
    rw [Nat.testBit_and, Nat.testBit_xor, Nat.testBit_or, Nat.testBit_two_pow]
    by_cases e1 : i = k
    · subst e1
      have h1 : (madeT (bN B) T).testBit i = false := by rw [made_bit hn hi]; simp [h9]
      have h6 : (63 : Nat).testBit i = true := by
        have : ∀ j : Nat, j < 6 → (63 : Nat).testBit j = true := by decide +kernel
        exact this i (by omega)
      rw [h1, h6]
      simp
    · rw [decide_eq_false e1, Bool.or_false]
      cases hk : (madeT (bN B) T).testBit k with
      | false => rfl
      | true =>
        have hk6 : k < 6 := by
          rcases Nat.lt_or_ge k 6 with z | z
          · exact z
          · rw [Nat.testBit_lt_two_pow (Nat.lt_of_lt_of_le (show madeT (bN B) T < 64 from bits64 _ hn) (Nat.pow_le_pow_right (n := 2) (i := 6) (by decide) z))] at hk
            cases hk
        have h6 : (63 : Nat).testBit k = true := by
          have : ∀ j : Nat, j < 6 → (63 : Nat).testBit j = true := by decide +kernel
          exact this k hk6
        rw [h6]
        rfl
  refine vc_X0_unserve _ _ _ _ ⟨hin, ?_⟩
  rw [b_cl (by omega), c5 i (by omega), make_at]
  cases hw : who B (tD T) i (bE B) with
  | none =>
    refine s_cHas _ (by omega) e0 (fun j hj ej => absurd ej.symm (b_p9 j (by omega)).2.1) (fun _ => yes rfl ⟨hin, ?_⟩)
    rintro mu1 rfl
    rintro mu1 rfl
    rintro mu1 rfl
    rintro mu1 rfl
    rintro mu1 rfl
    refine q _ (((((Fr.rf.u3 (e 8 rfl _)).u3 (e 0 rfl _)).u3 (e 0 rfl _)).u3 (e 0 rfl _)).u3 (e 0 rfl _)) ⟨?_, ?_, ?_, ?_, fun j hj => ?_, fun p hp => ?_⟩
    · unfold up3; simp
    · unfold up3; simp
    · rw [show up3 mu 8 c i (-9) 0 c 3 = nI (madeT (bN B) (makesT B T i (bE B))) from by rw [← c3]; unfold up3; simp, hmd]
      unfold up3; simp
    · unfold up3; simp
    · by_cases ej : j = i
      · subst ej
        rw [h9]
        unfold up3; simp
      · rw [← make_ne B T (bE B) ej, ← c5 j hj]
        unfold up3; simp [ej]
    · have h1 := c6 p hp
      rw [held_make hB hT hi h9 hp, hw, if_neg (by simp)] at h1
      rw [← h1]
      unfold up3; simp
  | some p0 =>
    obtain ⟨g1, g2, g3, g4⟩ := who_some hw
    refine s_cHas _ (by omega) e0 (fun j hj ej => noo b_x10 ⟨b_in rfl (show p0 < 6 by omega) (by decide), ?_⟩) (fun hno => absurd rfl (hno p0 g1))
    rw [b_cl (by omega)]
    rintro mu1 rfl
    refine ⟨hin, ?_⟩
    rintro mu1 rfl
    rintro mu1 rfl
    rintro mu1 rfl
    rintro mu1 rfl
    rintro mu1 rfl
    refine q _ ((((((Fr.rf.u3 (e 9 rfl _)).u3 (e 8 rfl _)).u3 (e 0 rfl _)).u3 (e 0 rfl _)).u3 (e 0 rfl _)).u3 (e 0 rfl _)) ⟨?_, ?_, ?_, ?_, fun j hj => ?_, fun p hp => ?_⟩
    · unfold up3; simp
    · unfold up3; simp
    · rw [show up3 (up3 mu 9 c p0 (-9)) 8 c i (-9) 0 c 3 = nI (madeT (bN B) (makesT B T i (bE B))) from by rw [← c3]; unfold up3; simp, hmd]
      unfold up3; simp
    · unfold up3; simp
    · by_cases ej : j = i
      · subst ej
        rw [h9]
        unfold up3; simp
      · rw [← make_ne B T (bE B) ej, ← c5 j hj]
        unfold up3; simp [ej]
    · have h1 := c6 p hp
      rw [held_make hB hT hi h9 hp, hw] at h1
      by_cases ep : p = p0
      · subst ep
        have hno : heldT (bN B) T (nI p) = none := by
          cases hh : heldT (bN B) T (nI p) with
          | none => rfl
          | some j =>
            obtain ⟨j1, j2⟩ := (hT.held hp).mp hh
            rw [(hT.p j1 hp j2).2.2.2] at g3
            cases g3
        rw [hno]
        unfold up3; simp; rfl
      · rw [if_neg (fun z => ep (Option.some.inj z).symm)] at h1
        rw [← h1]
        unfold up3; simp [ep]
theorem x_wag (t : Nat) (hB : wB B) (bar : ∀ (T : tT) (mu : fMu) (Q : Int32 → fMu → fLa → Prop), WT B T → CB B mu → CC B 1 T mu → (∀ mu' : fMu, Fr (cCtr 1) mu mu' → CC B 1 T mu' → Q (nI (clB B t T)) mu' la) → FnI E (lvB d t) mi_125 [.inr (.inr (some (0, 1))), .inl (nI t)] mu la Q) : ∀ (T : tT) (mu : fMu) (Q : Int32 → fMu → fLa → Prop), WT B T → CB B mu → CC B 1 T mu → (∀ mu' : fMu, Fr (cCtr 1) mu mu' → CC B 1 T mu' → Q (nI (mxW B (clB B t) T)) mu' la) → FnI E (lvB d t + 1) mi_126 [.inr (.inr (some (0, 1))), .inl (nI (t + 1))] mu la Q := by
  have hn := hB.1
  have hlv := lvB_ge d t
  intro T mu Q hT hX hC q
  refine vc_X6_wagTurn 1 _ ?_
  rw [nI_pred]
  refine bar T mu _ hT hX hC (fun mu1 f1 c1 => ?_)
  have inn : ∀ (p : Nat), p < bN B → ∀ (w q0 a : Nat) (mu2 : fMu), q0 + w = bN B → p < q0 → a ≤ 6 → Fr (cCtr 1) mu mu2 → CC B 1 T mu2 → (∀ mu' : fMu, Fr (cCtr 1) mu mu' → CC B 1 T mu' → Ev E (lvB d t + 1) mi_126 8 [some (.inr (.inr (some (0, 1)))), some (.inl (nI (t + 1))), some (.inl (nI (mxJ B (clB B t) T p q0 w a))), some (.inl (nI (p + 1))), none] [] (mem E mu' la) (qI E Q)) → Ev E (lvB d t + 1) mi_126 17 [some (.inr (.inr (some (0, 1)))), some (.inl (nI (t + 1))), some (.inl (nI a)), some (.inl (nI p)), some (.inl (nI q0))] [] (mem E mu2 la) (qI E Q) := by
    intro p hp w
    induction w with
    | zero =>
      intro q0 a mu2 hq0 hpq ha f2 c2 q
      refine vc_X6_wagTurn_17 1 _ _ _ _ ?_
      rw [f2 1 0 0 rfl, hX.1]
      refine yes (nI_le (by omega) (by omega)) ?_
      rw [← nI_succ]
      exact q mu2 f2 c2
    | succ w ih =>
      intro q0 a mu2 hq0 hpq ha f2 c2 q
      have hq6 : q0 < bN B := by omega
      refine vc_X6_wagTurn_17 1 _ _ _ _ ?_
      rw [f2 1 0 0 rfl, hX.1, b_cl (by omega), b_cl (by omega), c2.2.2.2.2.2 p (by omega), c2.2.2.2.2.2 q0 (by omega), nI_pred, ← nI_succ q0]
      refine noo (nI_ge (by omega) (by omega)) ⟨b_in rfl (by omega) (by decide), ?_⟩
      unfold mxJ at q
      cases h1 : heldT (bN B) T (nI p) with
      | none =>
        rw [h1, if_neg (fun z => by cases z.1)] at q
        exact yes rfl (ih (q0 + 1) a mu2 (by omega) (by omega) ha f2 c2 q)
      | some a1 =>
        have ha1 := ((hT.held (show p < 6 by omega)).mp h1).1
        refine noo (b_p9 a1 ha1).1 ⟨b_in rfl (by omega) (by decide), ?_⟩
        cases h2 : heldT (bN B) T (nI q0) with
        | none =>
          rw [h2, if_neg (fun z => by cases z.2)] at q
          exact yes rfl (ih (q0 + 1) a mu2 (by omega) (by omega) ha f2 c2 q)
        | some b1 =>
          have hb1 := ((hT.held (show q0 < 6 by omega)).mp h2).1
          have hs : hb2 B T p q0 := ⟨by rw [h1]; rfl, by rw [h2]; rfl⟩
          rw [if_pos hs] at q
          refine noo (b_p9 b1 hb1).1 ?_
          have t1 := held_there hT (show p < 6 by omega) hs.1
          have t2 := held_there hT (show q0 < 6 by omega) hs.2
          have hne : p ≠ q0 := by omega
          have hT' := wt_change hT hp hq6 hne t1.2.1 t2.2.1
          have hX2 := hX.fr (f2.le ctr_CB)
          refine FnV.deep (d := d + 2) (s_swap p q0 hT hp hq6 hne t1.2.1 t2.2.1 hX2.1 c2 (fun mu3 f3 c3 => ?_)) (by omega)
          have f13 := f2.tr f3
          have hX3 := hX.fr (f13.le ctr_CB)
          refine bar _ mu3 _ hT' hX3 c3 (fun mu4 f4 c4 => ?_)
          have f14 := f13.tr f4
          have hX4 := hX.fr (f14.le ctr_CB)
          refine FnV.deep (d := d + 2) (s_swap p q0 hT' hp hq6 hne t1.2.1 t2.2.1 hX4.1 c4 (fun mu5 f5 c5 => ?_)) (by omega)
          rw [ch_ch hT hp hq6 hne hs] at c5
          have hg := cl_le (T := chT (bN B) T p q0) hB t hT'
          rw [max_nI (by omega) (by omega)]
          refine ih (q0 + 1) _ mu5 (by omega) (by omega) ?_ (f14.tr f5) c5 q
          split <;> omega
  have out : ∀ (w p a : Nat) (mu2 : fMu), p + w = bN B → a ≤ 6 → Fr (cCtr 1) mu mu2 → CC B 1 T mu2 → (∀ mu' : fMu, Fr (cCtr 1) mu mu' → CC B 1 T mu' → Q (nI (mxP B (clB B t) T p w a)) mu' la) → Ev E (lvB d t + 1) mi_126 8 [some (.inr (.inr (some (0, 1)))), some (.inl (nI (t + 1))), some (.inl (nI a)), some (.inl (nI p)), none] [] (mem E mu2 la) (qI E Q) := by
    intro w
    induction w with
    | zero =>
      intro p a mu2 hp ha f2 c2 q
      refine vc_X6_wagTurn_8 1 _ _ _ ?_
      rw [f2 1 0 0 rfl, hX.1]
      exact yes (nI_le (by omega) (by omega)) (q mu2 f2 c2)
    | succ w ih =>
      intro p a mu2 hp ha f2 c2 q
      refine vc_X6_wagTurn_8 1 _ _ _ ?_
      rw [f2 1 0 0 rfl, hX.1, ← nI_succ]
      refine noo (nI_ge (by omega) (by omega)) (inn p (by omega) (bN B - (p + 1)) (p + 1) a mu2 (by omega) (by omega) ha f2 c2 (fun mu' f' c' => ih (p + 1) _ mu' (by omega) ?_ f' c' q))
      obtain ⟨-, -, s3⟩ := mxJ_spec B (clB B t) T p (bN B - (p + 1)) (p + 1) a
      rcases s3 with z | ⟨j, j1, j2, j3, z⟩
      · omega
      · have t1 := held_there hT (show p < 6 by omega) j3.1
        have t2 := held_there hT (show j < 6 by omega) j3.2
        rw [z]
        exact cl_le hB t (wt_change hT t1.1 t2.1 (by omega) t1.2.1 t2.2.1)
  exact out (bN B) 0 _ mu1 (by omega) (cl_le hB t hT) f1 c1 q
theorem x_bar (hB : wB B) : ∀ (t : Nat), t < 100 → ∀ (T : tT) (mu : fMu) (Q : Int32 → fMu → fLa → Prop), WT B T → CB B mu → CC B 1 T mu → (∀ mu' : fMu, Fr (cCtr 1) mu mu' → CC B 1 T mu' → Q (nI (clB B t T)) mu' la) → FnI E (lvB d t) mi_125 [.inr (.inr (some (0, 1))), .inl (nI t)] mu la Q := by
  have hn := hB.1
  have h2 := Nat.two_pow_pos (bN B)
  have h64 : 2 ^ bN B ≤ 64 := Nat.pow_le_pow_right (n := 2) (by decide) hn
  intro t
  induction t with
  | zero =>
    intro _ T mu Q hT hX hC q
    refine vc_X6_barTurn 1 _ (noo (by decide) ?_)
    exact s_howManyWrong hT hX.1 hC (q mu Fr.rf hC)
  | succ t iht =>
    intro ht100 T mu Q hT hX hC q
    have ih := iht (by omega)
    have hlv := lvB_ge d t
    have wag := x_wag (d := d) t hB ih
    show FnI E (lvB d t + 2) mi_125 [.inr (.inr (some (0, 1))), .inl (nI (t + 1))] mu la Q
    have hpos : (0 : Int32) < nI (t + 1) := nI_lt (a := 0) (b := t + 1) (by omega) (by omega)
    refine vc_X6_barTurn 1 _ (yes hpos (vc_X1_everyOne ?_))
    rw [hX.1, b_sh _ (by omega), show 2 ^ bN B = (2 ^ bN B - 1) + 1 by omega, nI_pred, hC.2.2.1]
    have hm64 : madeT (bN B) T < 64 := bits64 _ hn
    have q' : ∀ mu' : fMu, Fr (cCtr 1) mu mu' → CC B 1 T mu' → Q (nI (if madeT (bN B) T = 2 ^ bN B - 1 then mxW B (clB B t) T else mnL B (mxW B (clB B t)) T 0 (bN B) 7)) mu' la := q
    by_cases hf : madeT (bN B) T = 2 ^ bN B - 1
    · rw [if_pos hf] at q'
      exact noo (fun z => z (by rw [hf])) (wag T mu Q hT hX hC q')
    · rw [if_neg hf] at q'
      refine yes (fun z => hf ((nI_eq (by omega) (by omega)).mp z)) ?_
      have lp : ∀ (w i a : Nat) (mu2 : fMu), i + w = bN B → a ≤ 7 → Fr (cCtr 1) mu mu2 → CC B 1 T mu2 → (∀ mu' : fMu, Fr (cCtr 1) mu mu' → CC B 1 T mu' → Q (nI (mnL B (mxW B (clB B t)) T i w a)) mu' la) → Ev E (lvB d t + 2) mi_125 19 [some (.inr (.inr (some (0, 1)))), some (.inl (nI (t + 1))), some (.inl (nI a)), some (.inl (nI i)), none, none, none] [] (mem E mu2 la) (qI E Q) := by
        intro w
        induction w with
        | zero =>
          intro i a mu2 hi ha f2 c2 q
          refine vc_X6_barTurn_19 1 _ _ _ ?_
          rw [f2 1 0 0 rfl, hX.1]
          exact yes (nI_le (by omega) (by omega)) (q mu2 f2 c2)
        | succ w ihw =>
          intro i a mu2 hi ha f2 c2 q
          have hin : i < bN B := by omega
          have hX2 := hX.fr (f2.le ctr_CB)
          refine vc_X6_barTurn_19 1 _ _ _ ?_
          rw [hX2.1]
          unfold mnL at q
          refine noo (nI_ge (by omega) (by omega)) (s_cMade (T := T) i hn hin c2.2.2.1 (bnz (fun h9 => ?_) (fun h9 => ?_)))
          · rw [if_neg (of_decide_eq_true h9)] at q
            rw [← nI_succ]
            exact ihw (i + 1) a mu2 (by omega) ha f2 c2 q
          · have h9' : tH T i = -9 := by simpa using h9
            rw [if_pos h9'] at q
            have hT' := wt_make (e := bE B) hB hT hin h9'
            rw [c2.1, c2.2.1, c2.2.2.2.1]
            refine FnV.deep (d := d + 3) (s_serve i hB hT hin h9' hX2 c2 (fun mu3 f3 c3 => ?_)) (by omega)
            have f13 := f2.tr f3
            refine wag _ mu3 _ hT' (hX.fr (f13.le ctr_CB)) c3 (fun mu4 f4 c4 => ?_)
            have f14 := f13.tr f4
            refine FnV.deep (d := d + 1) (s_unserve i hB hT hin h9' (hX.fr (f14.le ctr_CB)).1 c4 (fun mu5 f5 c5 => ?_)) (by omega)
            have hg := mxW_le (T := makesT B T i (bE B)) hB t hT'
            rw [min_nI (by omega) (by omega), ← nI_succ]
            refine ihw (i + 1) _ mu5 (by omega) ?_ (f14.tr f5) c5 q
            split <;> omega
      exact lp (bN B) 0 7 mu (by omega) (by decide) Fr.rf hC q'
end TURNS
