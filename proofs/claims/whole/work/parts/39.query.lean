section QX
variable {E : mEv} {d : Nat} {mu : fMu} {la : fLa} {Q : Int32 → fMu → fLa → Prop} {B : tB} {T : tT}
/-! asking the class -/
theorem s_cHas {n : Nat} (a : Int32) (hn : n < 1000) (e0 : mu 1 0 0 = nI n) (h1 : ∀ j : Nat, j < n → a = nI j → Q 1 mu la) (h0 : (∀ j : Nat, j < n → a ≠ nI j) → Q 0 mu la) : FnI E d mi_14 [.inr (.inr (some (1, 0))), .inl a] mu la Q := by
  refine vc_X1_has a ?_
  rw [e0]
  rcases b_ix a n (by omega) with ⟨j, hj, e⟩ | ⟨h, hn⟩
  · subst e
    exact ⟨fun hc => absurd hc (nI_pos (by omega)), fun _ => ⟨fun hc => absurd hc (nI_ge hj (by omega)), fun _ => h1 j hj rfl⟩⟩
  · refine ⟨fun _ => h0 hn, fun hc => ⟨fun _ => h0 hn, fun hd => ?_⟩⟩
    rcases h with h | h
    · exact absurd h hc
    · exact absurd h hd
theorem s_cHasO {n : Nat} (r : Option Nat) (hr : ∀ p, r = some p → p < n) (hn : n < 1000) (e0 : mu 1 0 0 = nI n) (q : Q (bI r.isSome) mu la) : FnI E d mi_14 [.inr (.inr (some (1, 0))), .inl (oI r)] mu la Q := by
  refine s_cHas _ hn e0 (fun j hj e => ?_) (fun h => ?_)
  · cases r with
    | none =>
      exfalso
      have h1 : (0 : Int32) ≤ -9 := by
        have : oI none = nI j := e
        rw [show (-9 : Int32) = oI none from rfl, this]
        exact b_np j (by omega)
      exact absurd h1 (by decide)
    | some p => exact q
  · cases r with
    | none => exact q
    | some p => exact absurd rfl (h p (hr p rfl))
theorem s_cThere (p : Nat) (hn : bN B ≤ 6) (hp : p < bN B) (e0 : mu 1 0 2 = nI (thB B)) (q : Q (bI (decide (bK B p ≠ 3))) mu la) : FnI E d mi_15 [.inr (.inr (some (1, 0))), .inl (nI p)] mu la Q := by
  refine vc_X1_isThere _ ?_
  rw [e0]
  have h1 := b_bit (thB B) (bits64 _ hn) p (by omega)
  have h2 : (thB B).testBit p = decide (bK B p ≠ 3) := by
    unfold thB
    rw [bitsOf_bit, decide_eq_true hp, Bool.true_and]
  rw [h2] at h1
  cases hb : decide (bK B p ≠ 3)
  · rw [hb] at q
    exact yes (h1.mpr hb) q
  · rw [hb] at q
    exact noo (fun z => by rw [h1.mp z] at hb; cases hb) q
theorem s_cMade {c : Nat} (i : Nat) (hn : bN B ≤ 6) (hi : i < bN B) (e0 : mu 0 c 3 = nI (madeT (bN B) T)) (q : Q (bI (decide (tH T i ≠ -9))) mu la) : FnI E d mi_3 [.inr (.inr (some (0, c))), .inl (nI i)] mu la Q := by
  refine vc_X0_isMade _ ?_
  rw [e0]
  have h1 := b_bit (madeT (bN B) T) (bits64 _ hn) i (by omega)
  have h2 : (madeT (bN B) T).testBit i = decide (tH T i ≠ -9) := by
    unfold madeT
    rw [bitsOf_bit, decide_eq_true hi, Bool.true_and]
  rw [h2] at h1
  cases hb : decide (tH T i ≠ -9)
  · rw [hb] at q
    exact yes (h1.mpr hb) q
  · rw [hb] at q
    exact noo (fun z => by rw [h1.mp z] at hb; cases hb) q
theorem s_whoHears (w e : Nat) (hB : wB B) (hw : w ≤ 9) (he : e ≤ 9) (hC : CN B mu) (q : Q (nI (hrB B w e)) mu la) : FnI E (d + 1) mi_19 [.inr (.inr (some (1, 0))), .inl (nI w), .inl (nI e)] mu la Q := by
  have hn := hB.1
  obtain ⟨c1, c2, c3⟩ := hC
  refine vc_X1_whoHears _ _ ?_
  refine lpU (P := fun i => Ev E (d + 1) mi_19 4 [some (.inr (.inr (some (1, 0)))), some (.inl (nI w)), some (.inl (nI e)), some (.inl (nI (bitsOf (fun p => decide (bK B p ≠ 3) && alk (bA B p) w e) i))), some (.inl (nI i))] [] (mem E mu la) (qI E Q)) (n := bN B) ?_ ?_ 0 (Nat.zero_le _)
  · refine vc_X1_whoHears_4 0 _ _ _ _ ?_
    rw [c1]
    exact yes (nI_le (Nat.le_refl _) (by omega)) q
  · intro i hi ih
    refine vc_X1_whoHears_4 0 _ _ _ _ ?_
    rw [c1]
    unfold bitsOf at ih
    refine noo (nI_ge hi (by omega)) (s_cThere i hn hi c2 (bzz (fun h0 => ?_) (fun h1 => ?_)))
    · rw [← nI_succ]
      simp only [h0, Bool.false_and, Bool.false_eq_true, if_false, Nat.or_zero] at ih
      exact ih
    · refine ⟨b_in rfl (by omega) (by decide), ?_⟩
      rw [b_cl (by omega), c3 i hi]
      refine s_areAlike _ _ _ (hB.2.2 i hi).2.2.2.2.1 hw he (bzz (fun h0 => ?_) (fun h2 => ?_))
      · rw [← nI_succ]
        simp only [h1, h0, Bool.true_and, Bool.false_eq_true, if_false, Nat.or_zero] at ih
        exact ih
      · rw [← nI_succ, b_sh i (by omega), b_or]
        simp only [h1, h2, Bool.true_and] at ih
        exact ih
theorem s_taker (i had : Nat) (hB : wB B) (hi : i < bN B) (hh : had < 64) (e0 : mu 15 0 i = nI (hrB B (bW B i) (bE B))) (q : Q (oI (who B had i (bE B))) mu la) : FnI E (d + 2) mi_18 [.inr (.inr (some (1, 0))), .inl (nI i), .inl (nI had)] mu la Q := by
  have hn := hB.1
  refine vc_X1_taker _ _ ⟨b_in rfl (by omega) (by decide), ?_⟩
  rw [b_cl (by omega), e0]
  obtain ⟨e1, e2⟩ := b_andN (hrB B (bW B i) (bE B)) (bits64 _ hn) had hh
  rw [e1]
  refine s_firstOf _ e2 ?_
  unfold hrB
  rw [bits_andN _ hn, low_first _ _ hn]
  unfold who at q
  rw [first_congr (g := canT B had (bW B i) (bE B)) (fun p _ _ => ?_)]
  · exact q
  · unfold canT
    cases decide (bK B p ≠ 3) <;> cases alk (bA B p) (bW B i) (bE B) <;> cases had.testBit p <;> rfl
theorem s_timeBehind (i : Nat) (hB : wB B) (hi : i < bN B) (hC : CB B mu) (hL : tL T = -9 ∨ ∃ j : Nat, j < bN B ∧ tL T = nI j) (q : Q (nI (takesO B T i)) mu la) : FnI E (d + 1) mi_17 [.inr (.inr (some (1, 0))), .inl (nI i), .inl (tL T)] mu la Q := by
  have hn := hB.1
  obtain ⟨c1, c2, c3, c4⟩ := hC
  obtain ⟨g1, g2, g3, g4, g5, g6, g7, g8⟩ := c4 i hi
  refine vc_X1_timeBehind _ _ (s_cHas _ (by omega) c1 (fun j hj e => noo b_x10 ?_) (fun h => yes rfl (yes rfl ?_)))
  · have hj2 : ¬ tL T = -9 := by rw [e]; exact (b_p9 j (by omega)).1
    refine ⟨b_in e (by omega) (by decide), b_in rfl (by omega) (by decide), ?_⟩
    rw [e, b_cl (by omega), b_cl (by omega), (c4 j hj).2.2.1, g3]
    have hm := (hB.2.2 j hj).2.2.2.1
    have hm2 := (hB.2.2 i hi).2.2.2.1
    have em : milkA B (tL T) i = decide (bM B j = bM B i) := by
      unfold milkA
      rw [e, b_cl (by omega), decide_eq_true (by rw [← e]; exact hj2), Bool.true_and]
    unfold takesO at q
    rw [em] at q
    by_cases hmm : bM B j = bM B i
    · rw [decide_eq_true hmm] at q
      rw [hmm]
      refine noo (fun z => z rfl) (noo b_x10 ⟨b_in rfl (by omega) (by decide), ?_⟩)
      rw [g8]
      exact q
    · rw [decide_eq_false hmm] at q
      refine yes (fun z => hmm ((nI_eq (by omega) (by omega)).mp z)) (yes rfl ⟨b_in rfl (by omega) (by decide), ?_⟩)
      rw [g7]
      exact q
  · refine ⟨b_in rfl (by omega) (by decide), ?_⟩
    rw [b_cl (by omega), g7]
    have hz : tL T = -9 := by
      rcases hL with z | ⟨j, hj, z⟩
      · exact z
      · exact absurd z (h j hj)
    unfold takesO milkA at q
    rw [hz] at q
    exact q
theorem s_standingX (hn : bN B ≤ 6) (e0 : mu 1 0 0 = nI (bN B)) (hC : CC B 0 T mu) (q : Q (nI (bitsOf (fun i => decide (tH T i = 6)) (bN B))) mu la) : FnI E d mi_10 [.inr (.inr (some (0, 0)))] mu la Q := by
  refine vc_X0_standing ?_
  refine lpU (P := fun i => Ev E d mi_10 4 [some (.inr (.inr (some (0, 0)))), some (.inl (nI (bitsOf (fun i => decide (tH T i = 6)) i))), some (.inl (nI i))] [] (mem E mu la) (qI E Q)) (n := bN B) ?_ ?_ 0 (Nat.zero_le _)
  · refine vc_X0_standing_4 0 _ _ ?_
    rw [e0]
    exact yes (nI_le (Nat.le_refl _) (by omega)) q
  · intro i hi ih
    refine vc_X0_standing_4 0 _ _ ?_
    rw [e0]
    unfold bitsOf at ih
    refine noo (nI_ge hi (by omega)) ⟨b_in rfl (by omega) (by decide), ?_⟩
    rw [b_cl (by omega), hC.2.2.2.2.1 i (by omega), ← nI_succ, b_sh i (by omega), b_or, b_or0]
    by_cases h : tH T i = 6
    · simp only [h, decide_true, if_true] at ih
      exact noo (fun z => z h) ih
    · simp only [h, decide_false, Bool.false_eq_true, if_false, Nat.or_zero] at ih
      exact yes h ih
theorem s_wrongOnes {c : Nat} (hT : WT B T) (e0 : mu 1 0 0 = nI (bN B)) (hC : CC B c T mu) (q : Q (nI (wrongT T (bN B))) mu la) : FnI E d mi_11 [.inr (.inr (some (0, c)))] mu la Q := by
  have hn := hT.1
  rw [hT.wrong] at q
  refine vc_X0_wrongOnes ?_
  refine lpU (P := fun i => Ev E d mi_11 4 [some (.inr (.inr (some (0, c)))), some (.inl (nI (bitsOf (wrH (bN B) T) i))), some (.inl (nI i))] [] (mem E mu la) (qI E Q)) (n := bN B) ?_ ?_ 0 (Nat.zero_le _)
  · refine vc_X0_wrongOnes_4 c _ _ ?_
    rw [e0]
    exact yes (nI_le (Nat.le_refl _) (by omega)) q
  · intro i hi ih
    refine vc_X0_wrongOnes_4 c _ _ ?_
    rw [e0]
    unfold bitsOf at ih
    refine noo (nI_ge hi (by omega)) ⟨b_in rfl (by omega) (by decide), ?_⟩
    rw [b_cl (by omega), hC.2.2.2.2.2 i (by omega), ← nI_succ, b_sh i (by omega), b_or, b_or0]
    cases hh : heldT (bN B) T (nI i) with
    | none =>
      have hw : wrH (bN B) T i = false := by unfold wrH; rw [hh]
      simp only [hw, Bool.false_eq_true, if_false, Nat.or_zero] at ih
      exact yes rfl ih
    | some j =>
      obtain ⟨h1, h2⟩ := (hT.held (by omega)).mp hh
      have hw : wrH (bN B) T i = decide (j ≠ i) := by unfold wrH; rw [hh]
      refine noo (b_p9 j h1).1 ⟨b_in rfl (by omega) (by decide), ?_⟩
      by_cases hj : j = i
      · subst hj
        simp only [hw, ne_eq, not_true, decide_false, Bool.false_eq_true, if_false, Nat.or_zero] at ih
        exact yes rfl ih
      · simp only [hw, ne_eq, hj, not_false_eq_true, decide_true, if_true] at ih
        exact noo (fun z => hj ((nI_eq (by omega) (by omega)).mp z)) ih
theorem s_howManyWrong {c : Nat} (hT : WT B T) (e0 : mu 1 0 0 = nI (bN B)) (hC : CC B c T mu) (q : Q (nI (pop (wrongT T (bN B)))) mu la) : FnI E (d + 1) mi_12 [.inr (.inr (some (0, c)))] mu la Q :=
  vc_X0_howManyWrong (s_wrongOnes hT e0 hC (s_bitCount _ (wrongT_lt _) q))
/-! asking the model -/
theorem s_isCup (hn : bN B ≤ 6) (a : Int32) (e0 : mu 7 0 4 = nI (bN B)) (h1 : ∀ j : Nat, j < bN B → a = nI j → Q 1 mu la) (h0 : (∀ j : Nat, j < bN B → a ≠ nI j) → Q 0 mu la) : FnI E (d + 1) mi_155 [.inr (.inr (some (7, 0))), .inl a] mu la Q := by
  refine vc_X7_isCup a ?_
  rw [e0]
  exact s_inI a (bN B) (by omega) (fun j hj e => ⟨Or.inr rfl, h1 j hj e⟩) (fun h => ⟨Or.inl rfl, h0 h⟩)
theorem s_mThere (p : Nat) (hB : wB B) (hp : p < bN B) (hM : MB B mu) (q : Q (bI (decide (bK B p ≠ 3))) mu la) : FnI E d mi_156 [.inr (.inr (some (7, 0))), .inl (nI p)] mu la Q := by
  have hn := hB.1
  refine vc_X7_isThere _ ⟨b_in rfl (by omega) (by decide), ?_⟩
  rw [b_cl (by omega), (hM.2.2 p hp).1]
  have hk := (hB.2.2 p hp).1
  by_cases h : bK B p = 3
  · simp only [h, ne_eq, not_true, decide_false] at q
    exact yes (by rw [h]; rfl) q
  · simp only [h, ne_eq, not_false_eq_true, decide_true] at q
    exact noo (fun z => h ((nI_eq (b := 3) (by omega) (by decide)).mp z)) q
theorem s_takesOf {k0 : Nat} (hk0 : nth mKs k0 = some (.inr (.int, 9))) (hz0 : k0 ≠ 100) (i : Nat) (hB : wB B) (hi : i < bN B) (hM : MB B mu) (hL : tL T = -9 ∨ ∃ j : Nat, j < bN B ∧ tL T = nI j) (e8 : mu k0 0 8 = tL T) (q : Q (nI (takesO B T i)) mu la) : FnI E (d + 1) mi_158 [.inr (.inr (some (7, 0))), .inr (.inr (some (k0, 0))), .inl (nI i)] mu la Q := by
  have hn := hB.1
  obtain ⟨c1, c2, c4⟩ := hM
  obtain ⟨g1, g2, g3, g4, g5⟩ := c4 i hi
  obtain ⟨w1, w2, w3, w4, -⟩ := hB.2.2 i hi
  refine vc_X7_takesOf k0 9 0 hk0 hz0 _ ⟨b_in rfl (by omega) (by decide), b_in rfl (by omega) (by decide), b_in (j := 8) rfl (by decide) (by decide), ?_⟩
  rw [show (8 : Int32).toNatClampNeg = 8 from rfl, e8, b_cl (by omega), g1, g2]
  unfold takesO at q
  rcases hL with hz | ⟨j, hj, e⟩
  · rw [hz]
    have em : milkA B (tL T) i = false := by unfold milkA; rw [hz]; rfl
    rw [em] at q
    exact yes rfl (s_takesAs _ _ false (by omega) w2 (by omega) q)
  · have hj2 : ¬ nI j = -9 := (b_p9 j (by omega)).1
    rw [e]
    refine noo hj2 ⟨b_in (j := 8) rfl (by decide) (by decide), b_in rfl (by omega) (by decide), b_in rfl (by omega) (by decide), ?_⟩
    have hm := (hB.2.2 j hj).2.2.2.1
    have em : milkA B (tL T) i = decide (bM B j = bM B i) := by
      unfold milkA
      rw [e, b_cl (by omega), decide_eq_true hj2, Bool.true_and]
    rw [b_cl (by omega), (c4 j hj).2.2.1, g3]
    rw [em] at q
    by_cases hmm : bM B j = bM B i
    · rw [decide_eq_true hmm] at q
      exact noo (fun z => z (by rw [hmm])) (s_takesAs _ _ true (by omega) w2 (by omega) q)
    · rw [decide_eq_false hmm] at q
      exact yes (fun z => hmm ((nI_eq (by omega) (by omega)).mp z)) (s_takesAs _ _ false (by omega) w2 (by omega) q)
theorem s_whoTakes {k0 : Nat} (hk0 : nth mKs k0 = some (.inr (.int, 9))) (hz0 : k0 ≠ 100) (i e had : Nat) (hB : wB B) (hi : i < bN B) (he : e ≤ 9) (hh : had < 64) (hM : MB B mu) (e7 : mu k0 0 7 = nI had) (q : Q (oI (who B had i e)) mu la) : FnI E (d + 1) mi_160 [.inr (.inr (some (7, 0))), .inr (.inr (some (k0, 0))), .inl (nI i), .inl (nI e)] mu la Q := by
  have hn := hB.1
  obtain ⟨c1, c2, c4⟩ := hM
  have hwi := (hB.2.2 i hi).2.2.2.2.2
  refine vc_X7_whoTakes k0 9 0 hk0 hz0 _ _ ?_
  unfold who at q
  have key : ∀ z p : Nat, p + z = bN B → Q (oI (firstN (canT B had (bW B i) e) p z)) mu la → Ev E (d + 1) mi_160 2 [some (.inr (.inr (some (7, 0)))), some (.inr (.inr (some (k0, 0)))), some (.inl (nI i)), some (.inl (nI e)), some (.inl (nI p))] [] (mem E mu la) (qI E Q) := by
    intro z
    induction z with
    | zero =>
      intro p hp q
      refine vc_X7_whoTakes_2 k0 9 0 hk0 hz0 0 _ _ _ ?_
      rw [c1]
      exact yes (nI_le (by omega) (by omega)) q
    | succ z ih =>
      intro p hp q
      have hpn : p < bN B := by omega
      refine vc_X7_whoTakes_2 k0 9 0 hk0 hz0 0 _ _ _ ?_
      rw [c1]
      unfold firstN canT at q
      refine noo (nI_ge hpn (by omega)) (s_mThere p hB hpn ⟨c1, c2, c4⟩ (bzz (fun h0 => ?_) (fun h1 => ⟨b_in (j := 7) rfl (by decide) (by decide), ?_⟩)))
      · rw [← nI_succ]
        refine ih (p + 1) (by omega) ?_
        simp only [h0, Bool.false_and, Bool.false_eq_true, if_false] at q
        exact q
      · rw [show (7 : Int32).toNatClampNeg = 7 from rfl, e7]
        refine s_hasM had p hh (by omega) (bnz (fun h2 => ?_) (fun h2 => ⟨b_in rfl (by omega) (by decide), b_in rfl (by omega) (by decide), ?_⟩))
        · rw [← nI_succ]
          refine ih (p + 1) (by omega) ?_
          simp only [h1, h2, Bool.not_true, Bool.and_false, Bool.false_and, Bool.false_eq_true, if_false] at q
          exact q
        · rw [b_cl (by omega), b_cl (by omega), (c4 p hpn).2.2.2.1, (c4 i hi).2.2.2.2]
          refine s_abs _ (alkM _ _ _ (hB.2.2 p hpn).2.2.2.2.1 hwi he (fun h3 => ?_) (fun h3 => ?_))
          · rw [← nI_succ]
            refine ih (p + 1) (by omega) ?_
            simp only [h1, h2, h3, Bool.and_false, Bool.false_eq_true, if_false] at q
            exact q
          · simp only [h1, h2, h3, Bool.not_false, Bool.and_true, if_true] at q
            exact q
  exact key (bN B) 0 (by omega) q
theorem s_isMadeM {k0 : Nat} (hk0 : nth mKs k0 = some (.inr (.int, 9))) (hz0 : k0 ≠ 100) (i : Nat) (hi : i < 6) (e0 : mu k0 0 i = tH T i) (q : Q (bI (decide (tH T i ≠ -9))) mu la) : FnI E d mi_162 [.inr (.inr (some (k0, 0))), .inl (nI i)] mu la Q := by
  refine vc_X7_isMade k0 9 0 hk0 hz0 _ ?_
  rw [Int32.zero_add]
  refine ⟨b_in rfl (by omega) (by decide), ?_⟩
  rw [b_cl (by omega), e0]
  by_cases h : tH T i = -9
  · simp only [h, ne_eq, not_true, decide_false] at q
    exact yes h q
  · simp only [h, ne_eq, not_false_eq_true, decide_true] at q
    exact noo h q
theorem s_heldBy {k0 : Nat} (hk0 : nth mKs k0 = some (.inr (.int, 9))) (hz0 : k0 ≠ 100) (p : Int32) (hn : bN B ≤ 6) (e0 : mu 7 0 4 = nI (bN B)) (hw : ∀ i : Nat, i < 6 → mu k0 0 i = tH T i) (q : Q (oI (heldT (bN B) T p)) mu la) : FnI E d mi_164 [.inr (.inr (some (7, 0))), .inr (.inr (some (k0, 0))), .inl p] mu la Q := by
  refine vc_X7_heldBy k0 9 0 hk0 hz0 _ ?_
  unfold heldT at q
  have key : ∀ z i : Nat, i + z = bN B → Q (oI (firstN (fun i => decide (tH T i = p)) i z)) mu la → Ev E d mi_164 2 [some (.inr (.inr (some (7, 0)))), some (.inr (.inr (some (k0, 0)))), some (.inl p), some (.inl (nI i))] [] (mem E mu la) (qI E Q) := by
    intro z
    induction z with
    | zero =>
      intro i hi q
      refine vc_X7_heldBy_2 k0 9 0 hk0 hz0 0 _ _ ?_
      rw [e0]
      exact yes (nI_le (by omega) (by omega)) q
    | succ z ih =>
      intro i hi q
      refine vc_X7_heldBy_2 k0 9 0 hk0 hz0 0 _ _ ?_
      rw [e0, Int32.zero_add]
      refine noo (nI_ge (by omega) (by omega)) ⟨b_in rfl (by omega) (by decide), ?_⟩
      rw [b_cl (by omega), hw i (by omega), ← nI_succ]
      unfold firstN at q
      by_cases h : tH T i = p
      · simp only [h, decide_true, if_true] at q
        exact noo (fun z => z h) q
      · simp only [h, decide_false, Bool.false_eq_true, if_false] at q
        exact yes h (ih (i + 1) (by omega) q)
  exact key (bN B) 0 (by omega) q
theorem s_wrongOf {k0 : Nat} (hk0 : nth mKs k0 = some (.inr (.int, 9))) (hz0 : k0 ≠ 100) (hn : bN B ≤ 6) (e0 : mu 7 0 4 = nI (bN B)) (hw : ∀ i : Nat, i < 6 → mu k0 0 i = tH T i) (q : Q (nI (wrongT T (bN B))) mu la) : FnI E (d + 1) mi_163 [.inr (.inr (some (7, 0))), .inr (.inr (some (k0, 0)))] mu la Q := by
  refine vc_X7_wrongOf k0 9 0 hk0 hz0 ?_
  refine lpU (P := fun i => Ev E (d + 1) mi_163 4 [some (.inr (.inr (some (7, 0)))), some (.inr (.inr (some (k0, 0)))), some (.inl (nI (wrongT T i))), some (.inl (nI i))] [] (mem E mu la) (qI E Q)) (n := bN B) ?_ ?_ 0 (Nat.zero_le _)
  · refine vc_X7_wrongOf_4 k0 9 0 hk0 hz0 0 _ _ ?_
    rw [e0]
    exact yes (nI_le (Nat.le_refl _) (by omega)) q
  · intro i hi ih
    refine vc_X7_wrongOf_4 k0 9 0 hk0 hz0 0 _ _ ?_
    rw [e0, Int32.zero_add]
    unfold wrongT at ih
    refine noo (nI_ge hi (by omega)) ⟨b_in rfl (by omega) (by decide), ?_⟩
    rw [b_cl (by omega), hw i (by omega), ← nI_succ]
    refine s_in _ _ _ (fun hc => noo b_x10 ⟨b_in rfl (by omega) (by decide), ?_⟩) (fun hc => yes rfl ?_)
    · have e1 : (0 : Int32) ≤ tH T i := (b_w 0 _).mp hc.1
      have e2 : tH T i ≤ 5 := (b_w _ 5).mp hc.2
      rw [hw i (by omega)]
      by_cases h : tH T i = nI i
      · simp only [h, ne_eq, not_true, and_false, if_false, Nat.or_zero] at ih
        rw [b_or0]
        exact yes h ih
      · rw [if_pos ⟨⟨e1, e2⟩, h⟩] at ih
        refine noo h ⟨b_in rfl (by omega) (by decide), ?_⟩
        rcases b_ix (tH T i) 6 (by decide) with ⟨j, hj, e⟩ | ⟨z | z, -⟩
        · rw [e, b_cl (by omega)] at ih
          rw [e, b_sh j (by omega), b_or]
          exact ih
        · exact absurd e1 (Int32.not_le.mpr z)
        · exact absurd (Int32.le_trans z e2) (by decide)
    · rw [if_neg (fun z => hc ⟨(b_w 0 _).mpr z.1.1, (b_w _ 5).mpr z.1.2⟩), Nat.or_zero] at ih
      rw [b_or0]
      exact ih
theorem s_wrongBits {k0 : Nat} (hk0 : nth mKs k0 = some (.inr (.int, 9))) (hz0 : k0 ≠ 100) (hn : bN B ≤ 6) (e0 : mu 7 0 4 = nI (bN B)) (hw : ∀ i : Nat, i < 6 → mu k0 0 i = tH T i) (q : Q (nI (pop (wrongT T (bN B)))) mu la) : FnI E (d + 1) mi_163 [.inr (.inr (some (7, 0))), .inr (.inr (some (k0, 0)))] mu la (fun x a b => FnI E d mi_131 [.inl x] a b Q) :=
  s_wrongOf hk0 hz0 hn e0 hw (s_bits _ (wrongT_lt _) q)
theorem s_madeOf {k0 : Nat} (hk0 : nth mKs k0 = some (.inr (.int, 9))) (hz0 : k0 ≠ 100) (hn : bN B ≤ 6) (e0 : mu 7 0 4 = nI (bN B)) (hw : ∀ i : Nat, i < 6 → mu k0 0 i = tH T i) (q : Q (nI (madeT (bN B) T)) mu la) : FnI E (d + 1) mi_165 [.inr (.inr (some (7, 0))), .inr (.inr (some (k0, 0)))] mu la Q := by
  refine vc_X7_madeOf k0 9 0 hk0 hz0 ?_
  unfold madeT at q
  refine lpU (P := fun i => Ev E (d + 1) mi_165 4 [some (.inr (.inr (some (7, 0)))), some (.inr (.inr (some (k0, 0)))), some (.inl (nI (bitsOf (fun i => decide (tH T i ≠ -9)) i))), some (.inl (nI i))] [] (mem E mu la) (qI E Q)) (n := bN B) ?_ ?_ 0 (Nat.zero_le _)
  · refine vc_X7_madeOf_4 k0 9 0 hk0 hz0 0 _ _ ?_
    rw [e0]
    exact yes (nI_le (Nat.le_refl _) (by omega)) q
  · intro i hi ih
    refine vc_X7_madeOf_4 k0 9 0 hk0 hz0 0 _ _ ?_
    rw [e0]
    unfold bitsOf at ih
    refine noo (nI_ge hi (by omega)) (s_isMadeM hk0 hz0 i (by omega) (hw i (by omega)) (bzz (fun h => ?_) (fun h => ?_)))
    · simp only [h, Bool.false_eq_true, if_false, Nat.or_zero] at ih
      rw [b_or0, ← nI_succ]
      exact ih
    · simp only [h, if_true] at ih
      rw [← nI_succ, b_sh i (by omega), b_or]
      exact ih
theorem s_standingM (hn : bN B ≤ 6) (e0 : mu 7 0 4 = nI (bN B)) (hw : ∀ i : Nat, i < 6 → mu 38 0 i = tH T i) (q : Q (nI (bitsOf (fun i => decide (tH T i = 6)) (bN B))) mu la) : FnI E d mi_166 [.inr (.inr (some (7, 0)))] mu la Q := by
  refine vc_X7_standing ?_
  refine lpU (P := fun i => Ev E d mi_166 4 [some (.inr (.inr (some (7, 0)))), some (.inl (nI (bitsOf (fun i => decide (tH T i = 6)) i))), some (.inl (nI i))] [] (mem E mu la) (qI E Q)) (n := bN B) ?_ ?_ 0 (Nat.zero_le _)
  · refine vc_X7_standing_4 0 _ _ ?_
    rw [e0]
    exact yes (nI_le (Nat.le_refl _) (by omega)) q
  · intro i hi ih
    refine vc_X7_standing_4 0 _ _ ?_
    rw [e0, Int32.zero_add]
    unfold bitsOf at ih
    refine noo (nI_ge hi (by omega)) ⟨b_in rfl (by omega) (by decide), ?_⟩
    rw [b_cl (by omega), hw i (by omega), ← nI_succ, b_sh i (by omega), b_or, b_or0]
    by_cases h : tH T i = 6
    · simp only [h, decide_true, if_true] at ih
      exact noo (fun z => z h) ih
    · simp only [h, decide_false, Bool.false_eq_true, if_false, Nat.or_zero] at ih
      exact yes h ih
theorem s_whoseOf (i : Nat) (hB : wB B) (hi : i < bN B) (hM : MB B mu) (q : Q (nI (hrB B (bW B i) (bE B))) mu la) : FnI E (d + 1) mi_170 [.inr (.inr (some (7, 0))), .inl (nI i)] mu la Q := by
  have hn := hB.1
  obtain ⟨c1, c2, c4⟩ := hM
  have hwi := (hB.2.2 i hi).2.2.2.2.2
  refine vc_X7_whoseOf _ ?_
  unfold hrB at q
  refine lpU (P := fun p => Ev E (d + 1) mi_170 4 [some (.inr (.inr (some (7, 0)))), some (.inl (nI i)), some (.inl (nI (bitsOf (fun p => decide (bK B p ≠ 3) && alk (bA B p) (bW B i) (bE B)) p))), some (.inl (nI p))] [] (mem E mu la) (qI E Q)) (n := bN B) ?_ ?_ 0 (Nat.zero_le _)
  · refine vc_X7_whoseOf_4 0 _ _ _ ?_
    rw [c1]
    exact yes (nI_le (Nat.le_refl _) (by omega)) q
  · intro p hp ih
    refine vc_X7_whoseOf_4 0 _ _ _ ?_
    rw [c1]
    unfold bitsOf at ih
    refine noo (nI_ge hp (by omega)) (s_mThere p hB hp ⟨c1, c2, c4⟩ (bzz (fun h0 => ?_) (fun h1 => ⟨b_in rfl (by omega) (by decide), b_in rfl (by omega) (by decide), ?_⟩)))
    · simp only [h0, Bool.false_and, Bool.false_eq_true, if_false, Nat.or_zero] at ih
      rw [b_or0, ← nI_succ]
      exact ih
    · rw [b_cl (by omega), b_cl (by omega), (c4 p hp).2.2.2.1, (c4 i hi).2.2.2.2]
      refine s_abs _ ?_
      rw [c2]
      refine alkM _ _ _ (hB.2.2 p hp).2.2.2.2.1 hwi hB.2.1 (fun h3 => ?_) (fun h3 => ?_)
      · simp only [h3, Bool.and_false, Bool.false_eq_true, if_false, Nat.or_zero] at ih
        rw [b_or0, ← nI_succ]
        exact ih
      · simp only [h1, h3, Bool.and_true, if_true] at ih
        rw [← nI_succ, b_sh p (by omega), b_or]
        exact ih
end QX
