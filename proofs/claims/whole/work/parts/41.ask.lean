/-! calls that only ask -/
theorem up3_up3 (mu : fMu) (k i j : Nat) (v w : Int32) : up3 (up3 mu k i j v) k i j w = up3 mu k i j w := by
  funext a b c
  unfold up3
  split
  · rfl
  · rfl
theorem up3_self (mu : fMu) (k i j : Nat) (v : Int32) : up3 mu k i j v k i j = v := if_pos ⟨rfl, rfl, rfl⟩
theorem Inv.tell {J : fMu → Prop} (hJ : IBf J) {mu : fMu} {la : fLa} (h : Inv J mu la) (v : Int32) : Inv J (up3 (up3 mu 6 0 11 v) 7 0 17 v) la := by
  obtain ⟨h1, h2, ⟨e1, e2, e3, e4⟩, h4⟩ := h
  refine ⟨h1.fr ((Fr.rf.u3 rfl).u3 rfl), h2.fr ((Fr.rf.u3 rfl).u3 rfl), ⟨?_, ?_, fun w hw => ?_, e4⟩, hJ _ _ ((Fr.rf.u3 rfl).u3 rfl) h4⟩
  · unfold up3; simp
  · unfold up3; simpa using e2
  · unfold up3; simpa using e3 w hw
theorem s_answer {E : mEv} {d : Nat} {mu : fMu} {la : fLa} {Q : Int32 → fMu → fLa → Prop} (a v : Int32) (h : Q a (up3 mu 7 0 17 v) la) : FnI E d mi_134 [.inr (.inr (some (7, 0))), .inl a, .inl v] mu la Q := by
  refine vc_X7_answer a v ?_
  rintro mu1 rfl
  exact h
theorem pop_bits (f : Nat → Bool) (n : Nat) (hn : n ≤ 6) : pop (bitsOf f n) = cntN f n := by
  have hc : n = 0 ∨ n = 1 ∨ n = 2 ∨ n = 3 ∨ n = 4 ∨ n = 5 ∨ n = 6 := by omega
  rcases hc with rfl | rfl | rfl | rfl | rfl | rfl | rfl <;> simp only [pop, bitsOf_bit, cntN, Nat.reduceLT, decide_true, decide_false, Bool.true_and, Bool.false_and] <;> cases f 0 <;> simp <;> omega
section ASK
variable {E : mEv} {d : Nat} {mu : fMu} {la : fLa} {Q : Int32 → fMu → fLa → Prop} {B : tB} {D : Nat → Nat × Nat × Nat} {m : Nat}
theorem hk38 : nth mKs 38 = some (.inr (.int, 9)) := rfl
theorem hk39 : nth mKs 39 = some (.inr (.int, 9)) := rfl
theorem p_holds (h : Inv IB mu la) (a : Int32) : Pair IB E (d + 2) mi_62 mi_173 [.inl a] mu la := by
  have hi := h
  obtain ⟨-, -, -, B, D, m, hd⟩ := h
  have hn := hd.1.1
  have hwt := hd.wt
  obtain ⟨h1, h2, h3, h4, h5, h6, h7, h8, h9⟩ := hd
  refine vc_X6_holds a (s_cHas a (by omega) h3.1 (fun j hj e => noo b_x10 ⟨b_in e (by omega) (by decide), ?_⟩) (fun hno => yes rfl ?_))
  · subst e
    rw [b_cl (by omega), h4.2.2.2.2.2 j (by omega)]
    exact vc_X7_holds _ (s_isCup hn _ h6.1 (fun j' _ _ => noo b_x10 (s_heldBy hk38 (by decide) _ hn h6.1 (fun i h => h7.w h) ⟨rfl, hi⟩)) (fun hno => absurd rfl (hno j hj)))
  · exact vc_X7_holds _ (s_isCup hn _ h6.1 (fun j hj e => absurd e (hno j hj)) (fun _ => yes rfl ⟨rfl, hi⟩))
theorem p_wrong (h : Inv IB mu la) : Pair IB E (d + 2) mi_75 mi_196 [] mu la := by
  have hi := h
  obtain ⟨-, -, -, B, D, m, hd⟩ := h
  have hn := hd.1.1
  have hwt := hd.wt
  obtain ⟨h1, h2, h3, h4, h5, h6, h7, h8, h9⟩ := hd
  exact vc_X6_wrong (s_wrongOnes hwt h3.1 h4 (vc_X7_wrong (s_wrongOf hk38 (by decide) hn h6.1 (fun i h => h7.w h) ⟨rfl, hi⟩)))
theorem p_whose (h : Inv IB mu la) (a : Int32) : Pair IB E (d + 2) mi_78 mi_199 [.inl a] mu la := by
  have hi := h
  obtain ⟨-, -, -, B, D, m, hd⟩ := h
  have hn := hd.1.1
  obtain ⟨h1, h2, h3, h4, h5, h6, h7, h8, h9⟩ := hd
  refine vc_X6_whose a (s_cHas a (by omega) h3.1 (fun j hj e => noo b_x10 ⟨b_in e (by omega) (by decide), ?_⟩) (fun hno => yes rfl ?_))
  · subst e
    rw [b_cl (by omega), (h3.2.2.2 j hj).2.2.2.2.2.1]
    exact vc_X7_whose _ (s_isCup hn _ h6.1 (fun j' _ _ => noo b_x10 (s_whoseOf j h1 hj h6 ⟨rfl, hi⟩)) (fun hno => absurd rfl (hno j hj)))
  · exact vc_X7_whose _ (s_isCup hn _ h6.1 (fun j hj e => absurd e (hno j hj)) (fun _ => yes rfl ⟨rfl, hi⟩))
theorem p_reach (h : Inv IB mu la) (a : Int32) : Pair IB E (d + 3) mi_81 mi_202 [.inl a] mu la := by
  have hi := h
  obtain ⟨-, -, -, B, D, m, hd⟩ := h
  have hn := hd.1.1
  have hwt := hd.wt
  obtain ⟨h1, h2, h3, h4, h5, h6, h7, h8, h9⟩ := hd
  refine vc_X6_reach a (s_cHas a (by omega) h3.1 (fun j hj e => noo b_x10 ?_) (fun hno => yes rfl ?_))
  · subst e
    rw [h4.2.2.2.1]
    refine s_taker j _ h1 hj hwt.d64 (h3.2.2.2 j hj).2.2.2.2.2.1 ?_
    refine vc_X7_reach _ (s_isCup hn _ h6.1 (fun j' _ _ => noo b_x10 ?_) (fun hno => absurd rfl (hno j hj)))
    rw [h6.2.1]
    exact s_whoTakes hk38 (by decide) j _ _ h1 hj h1.2.1 hwt.d64 h6 h7.2.2.1 ⟨rfl, hi⟩
  · exact vc_X7_reach _ (s_isCup hn _ h6.1 (fun j hj e => absurd e (hno j hj)) (fun _ => yes rfl ⟨rfl, hi⟩))
/-! cup -/
def ofC (B : tB) (T : tT) (i : Nat) (w : Int32) : Int32 := if w = 0 then nI (bK B i) else if w = 1 then nI (takesO B T i) else if w = 2 then nI (bM B i) else if w = 3 then nI (bA B i) else if w = 4 then nI (bW B i) else tH T i
theorem s_ofCup (i : Nat) (w : Int32) (h : IBd B D m mu) (hi : i < bN B) (q : Q (ofC B (rp B D m) i w) mu la) : FnI E (d + 2) mi_112 [.inr (.inr (some (6, 0))), .inl (nI i), .inl w] mu la Q := by
  have hn := h.1.1
  have hwt := h.wt
  obtain ⟨h1, h2, h3, h4, h5, h6, h7, h8, h9⟩ := h
  obtain ⟨g1, g2, g3, g4, g5, g6, g7, g8⟩ := h3.2.2.2 i hi
  have hin : vp_in (nI i) 6 := b_in rfl (by omega) (by decide)
  refine vc_X6_ofCup _ _ ?_
  rw [b_cl (by omega), g1, g3, g4, g5, h4.2.2.2.2.1 i (by omega)]
  unfold ofC at q
  by_cases c0 : w = 0
  · rw [if_pos c0] at q; exact yes c0 ⟨hin, q⟩
  rw [if_neg c0] at q
  refine noo c0 ?_
  by_cases c1 : w = 1
  · rw [if_pos c1] at q
    refine yes c1 ?_
    rw [h4.2.1]
    exact s_timeBehind i h1 hi h3 hwt.2.2.2.2.2 q
  rw [if_neg c1] at q
  refine noo c1 ?_
  by_cases c2 : w = 2
  · rw [if_pos c2] at q; exact yes c2 ⟨hin, q⟩
  rw [if_neg c2] at q
  refine noo c2 ?_
  by_cases c3 : w = 3
  · rw [if_pos c3] at q; exact yes c3 ⟨hin, q⟩
  rw [if_neg c3] at q
  refine noo c3 ?_
  by_cases c4 : w = 4
  · rw [if_pos c4] at q; exact yes c4 ⟨hin, q⟩
  rw [if_neg c4] at q
  exact noo c4 ⟨hin, q⟩
theorem s_told (i : Nat) (w : Int32) (h : IBd B D m mu) (hi : i < bN B) (q : Q (ofC B (rp B D m) i w) mu la) : FnI E (d + 2) mi_167 [.inr (.inr (some (7, 0))), .inl (nI i), .inl w] mu la Q := by
  have hn := h.1.1
  have hwt := h.wt
  obtain ⟨h1, h2, h3, h4, h5, h6, h7, h8, h9⟩ := h
  obtain ⟨g1, g2, g3, g4, g5⟩ := h6.2.2 i hi
  have hin : vp_in (nI i) 6 := b_in rfl (by omega) (by decide)
  refine vc_X7_told _ _ ?_
  rw [Int32.zero_add, b_cl (by omega), g1, g3, g4, g5, h7.w (i := i) (by omega)]
  unfold ofC at q
  by_cases c0 : w = 0
  · rw [if_pos c0] at q; exact yes c0 ⟨hin, q⟩
  rw [if_neg c0] at q
  refine noo c0 ?_
  by_cases c1 : w = 1
  · rw [if_pos c1] at q
    exact yes c1 (s_takesOf hk38 (by decide) i h1 hi h6 hwt.2.2.2.2.2 h7.2.2.2 q)
  rw [if_neg c1] at q
  refine noo c1 ?_
  by_cases c2 : w = 2
  · rw [if_pos c2] at q; exact yes c2 ⟨hin, q⟩
  rw [if_neg c2] at q
  refine noo c2 ?_
  by_cases c3 : w = 3
  · rw [if_pos c3] at q; exact yes c3 ⟨hin, q⟩
  rw [if_neg c3] at q
  refine noo c3 ?_
  by_cases c4 : w = 4
  · rw [if_pos c4] at q; exact yes c4 ⟨hin, q⟩
  rw [if_neg c4] at q
  exact noo c4 ⟨b_in rfl (by omega) (by decide), q⟩
theorem p_cup (h : Inv IB mu la) (a w : Int32) : Pair IB E (d + 3) mi_60 mi_168 [.inl a, .inl w] mu la := by
  have hi := h
  obtain ⟨-, -, -, B, D, m, hd⟩ := h
  have hn := hd.1.1
  have hbad : (∀ j : Nat, j < bN B → a ≠ nI j) ∨ ¬ (0 ≤ w ∧ w ≤ 5) → FnI E (d + 3) mi_168 [.inr (.inr (some (7, 0))), .inl a, .inl w] mu la (fun r2 mu2 la2 => (-1 : Int32) = r2 ∧ Inv IB mu2 la2) := by
    intro hc
    refine vc_X7_cup _ _ (s_isCup hn _ hd.2.2.2.2.2.1.1 (fun j hj e => noo b_x10 (s_in _ _ _ (fun hz => ?_) (fun _ => yes rfl ⟨rfl, hi⟩))) (fun _ => yes rfl ⟨rfl, hi⟩))
    rcases hc with hc | hc
    · exact absurd e (hc j hj)
    · exact absurd ⟨(b_w 0 _).mp hz.1, (b_w _ 5).mp hz.2⟩ hc
  refine vc_X6_cup a w (s_cHas a (by omega) hd.2.2.1.1 (fun j hj e => noo b_x10 ⟨fun hw => hbad (Or.inr (fun z => absurd z.1 (Int32.not_le.mpr hw))), fun hw => ⟨fun hw6 => ?_, fun hw6 => hbad (Or.inr (fun z => hw6 (Int32.lt_of_le_of_lt z.2 (by decide))))⟩⟩) (fun hno => yes rfl (hbad (Or.inl hno))))
  subst e
  refine s_ofCup j w hd hj ?_
  rintro mu1 rfl
  have hd' : IBd B D m (up3 mu 6 0 11 (ofC B (rp B D m) j w)) := hd.fr (Fr.rf.u3 rfl)
  refine vc_X7_cup _ _ (s_isCup hn _ hd'.2.2.2.2.2.1.1 (fun j' _ _ => noo b_x10 (s_in _ _ _ (fun _ => noo b_x10 (s_told j w hd' hj (s_tell _ ⟨rfl, hi.tell ibf _⟩))) (fun hz => ?_))) (fun hno => absurd rfl (hno j hj)))
  exfalso
  refine hz ⟨(b_w 0 _).mpr (Int32.not_lt.mp hw), (b_w _ 5).mpr ?_⟩
  have := Int32.lt_iff_toInt_lt.mp hw6
  rw [Int32.le_iff_toInt_le]
  rw [show (6 : Int32).toInt = 6 from rfl] at this
  rw [show (5 : Int32).toInt = 5 from rfl]
  omega
/-! mark -/
def othM (B : tB) (T : tT) (i j : Nat) : Bool := decide (j ≠ i) && decide (tH T j = -9) && decide (bM B j = bM B i)
def othT (B : tB) (T : tT) (i j : Nat) : Bool := decide (j ≠ i) && decide (tH T j = -9) && decide (takesO B T i < takesO B T j)
theorem tO_le {T : tT} (hB : wB B) {i : Nat} (hi : i < bN B) : takesO B T i ≤ 18 := takes_le _ (by have := (hB.2.2 i hi).1; omega) _ (by have := (hB.2.2 i hi).2.2.1; omega) _
theorem b_a0 (x : Int32) : x + 0 = x := Int32.add_zero x
theorem s_othersMilkX (i : Nat) (h : IBd B D m mu) (hi : i < bN B) (q : Q (nI (cntN (othM B (rp B D m) i) (bN B))) mu la) : FnI E (d + 1) mi_117 [.inr (.inr (some (6, 0))), .inl (nI i)] mu la Q := by
  have hn := h.1.1
  obtain ⟨h1, h2, h3, h4, h5, h6, h7, h8, h9⟩ := h
  refine vc_X6_othersOfItsMilk _ ?_
  refine lpU (P := fun j => Ev E (d + 1) mi_117 4 [some (.inr (.inr (some (6, 0)))), some (.inl (nI i)), some (.inl (nI (cntN (othM B (rp B D m) i) j))), some (.inl (nI j))] [] (mem E mu la) (qI E Q)) (n := bN B) ?_ ?_ 0 (Nat.zero_le _)
  · refine vc_X6_othersOfItsMilk_4 0 _ _ _ ?_
    rw [h3.1]
    exact yes (nI_le (Nat.le_refl _) (by omega)) q
  · intro j hj ih
    refine vc_X6_othersOfItsMilk_4 0 _ _ _ ?_
    rw [h3.1, b_a0, ← nI_succ, ← nI_succ]
    unfold cntN othM at ih
    refine noo (nI_ge hj (by omega)) (pk_eq j i (fun e => ?_) (fun e => s_cMade j hn hj h4.2.2.1 (bnz (fun hm => ?_) (fun hm => ⟨b_in rfl (by omega) (by decide), b_in rfl (by omega) (by decide), ?_⟩))))
    · simp only [e, ne_eq, not_true, decide_false, Bool.false_and, Bool.false_eq_true, if_false, Nat.add_zero] at ih ⊢
      exact ih
    · have hm2 : ¬ tH (rp B D m) j = -9 := of_decide_eq_true hm
      simp only [hm2, decide_false, Bool.and_false, Bool.false_and, Bool.false_eq_true, if_false, Nat.add_zero] at ih
      exact ih
    · have hm2 : tH (rp B D m) j = -9 := by simpa using hm
      rw [b_cl (by omega), b_cl (by omega), (h3.2.2.2 j hj).2.2.1, (h3.2.2.2 i hi).2.2.1]
      have w1 := (h1.2.2 i hi).2.2.2.1
      have w2 := (h1.2.2 j hj).2.2.2.1
      by_cases hmm : bM B j = bM B i
      · simp only [hm2, hmm, e, ne_eq, not_false_eq_true, decide_true, Bool.true_and, if_true] at ih
        exact noo (fun z => z (by rw [hmm])) ih
      · simp only [hmm, decide_false, Bool.and_false, Bool.false_eq_true, if_false, Nat.add_zero] at ih
        exact yes (fun z => hmm ((nI_eq (by omega) (by omega)).mp z)) ih
theorem s_othersLongX (i : Nat) (h : IBd B D m mu) (hi : i < bN B) (q : Q (nI (cntN (othT B (rp B D m) i) (bN B))) mu la) : FnI E (d + 2) mi_118 [.inr (.inr (some (6, 0))), .inl (nI i)] mu la Q := by
  have hn := h.1.1
  have hwt := h.wt
  obtain ⟨h1, h2, h3, h4, h5, h6, h7, h8, h9⟩ := h
  refine vc_X6_othersThatTakeLonger _ ?_
  rw [h4.2.1]
  refine s_timeBehind i h1 hi h3 hwt.2.2.2.2.2 ?_
  refine lpU (P := fun j => Ev E (d + 2) mi_118 12 [some (.inr (.inr (some (6, 0)))), some (.inl (nI i)), some (.inl (nI (takesO B (rp B D m) i))), some (.inl (nI (cntN (othT B (rp B D m) i) j))), some (.inl (nI j))] [] (mem E mu la) (qI E Q)) (n := bN B) ?_ ?_ 0 (Nat.zero_le _)
  · refine vc_X6_othersThatTakeLonger_12 0 _ _ _ _ ?_
    rw [h3.1]
    exact yes (nI_le (Nat.le_refl _) (by omega)) q
  · intro j hj ih
    refine vc_X6_othersThatTakeLonger_12 0 _ _ _ _ ?_
    rw [h3.1, b_a0, ← nI_succ, ← nI_succ]
    unfold cntN othT at ih
    refine noo (nI_ge hj (by omega)) (pk_eq j i (fun e => ?_) (fun e => s_cMade j hn hj h4.2.2.1 (bnz (fun hm => ?_) (fun hm => ?_))))
    · simp only [e, ne_eq, not_true, decide_false, Bool.false_and, Bool.false_eq_true, if_false, Nat.add_zero] at ih ⊢
      exact ih
    · have hm2 : ¬ tH (rp B D m) j = -9 := of_decide_eq_true hm
      simp only [hm2, decide_false, Bool.and_false, Bool.false_and, Bool.false_eq_true, if_false, Nat.add_zero] at ih
      exact ih
    · have hm2 : tH (rp B D m) j = -9 := by simpa using hm
      rw [h4.2.1]
      refine s_timeBehind j h1 hj h3 hwt.2.2.2.2.2 ?_
      have w1 := tO_le (T := rp B D m) h1 hi
      have w2 := tO_le (T := rp B D m) h1 hj
      refine pk_le (takesO B (rp B D m) j) (takesO B (rp B D m) i) (fun hl => ?_) (fun hl => ?_)
      · simp only [show ¬ takesO B (rp B D m) i < takesO B (rp B D m) j by omega, decide_false, Bool.and_false, Bool.false_eq_true, if_false, Nat.add_zero] at ih
        exact ih
      · simp only [hm2, hl, e, ne_eq, not_false_eq_true, decide_true, Bool.true_and, if_true] at ih
        exact ih
theorem s_othersM (i : Nat) (b : Bool) (h : IBd B D m mu) (hi : i < bN B) (q : Q (nI (cntN (if b then othM B (rp B D m) i else othT B (rp B D m) i) (bN B))) mu la) : FnI E (d + 2) mi_171 [.inr (.inr (some (7, 0))), .inl (nI i), .inl (bI b)] mu la Q := by
  have hn := h.1.1
  have hwt := h.wt
  obtain ⟨h1, h2, h3, h4, h5, h6, h7, h8, h9⟩ := h
  refine vc_X7_others _ _ ?_
  refine lpU (P := fun j => Ev E (d + 2) mi_171 4 [some (.inr (.inr (some (7, 0)))), some (.inl (nI i)), some (.inl (bI b)), some (.inl (nI (cntN (if b then othM B (rp B D m) i else othT B (rp B D m) i) j))), some (.inl (nI j)), none] [] (mem E mu la) (qI E Q)) (n := bN B) ?_ ?_ 0 (Nat.zero_le _)
  · refine vc_X7_others_4 0 _ _ _ _ ?_
    rw [h6.1]
    exact yes (nI_le (Nat.le_refl _) (by omega)) q
  · intro j hj ih
    refine vc_X7_others_4 0 _ _ _ _ ?_
    rw [h6.1, b_a0, ← nI_succ, ← nI_succ]
    unfold cntN at ih
    have w1 := tO_le (T := rp B D m) h1 hi
    have w2 := tO_le (T := rp B D m) h1 hj
    have v1 := (h1.2.2 i hi).2.2.2.1
    have v2 := (h1.2.2 j hj).2.2.2.1
    refine noo (nI_ge hj (by omega)) (bzz (fun hb => ?_) (fun hb => ⟨b_in rfl (by omega) (by decide), b_in rfl (by omega) (by decide), ?_⟩))
    · subst hb
      simp only [Bool.false_eq_true, if_false, othT] at ih
      refine s_takesOf hk38 (by decide) j h1 hj h6 hwt.2.2.2.2.2 h7.2.2.2 (s_takesOf hk38 (by decide) i h1 hi h6 hwt.2.2.2.2.2 h7.2.2.2 ?_)
      refine pk_le (takesO B (rp B D m) j) (takesO B (rp B D m) i) (fun hl => ?_) (fun hl => ?_)
      · simp only [show ¬ takesO B (rp B D m) i < takesO B (rp B D m) j by omega, decide_false, Bool.and_false, Bool.false_eq_true, if_false, Nat.add_zero] at ih
        exact ⟨fun _ => ih, fun _ => s_isMadeM hk38 (by decide) j (by omega) (h7.w (by omega)) (bnz (fun _ => ih) (fun _ => yes rfl ih))⟩
      · refine pk_eq j i (fun e => ?_) (fun e => s_isMadeM hk38 (by decide) j (by omega) (h7.w (by omega)) (bnz (fun hm => ?_) (fun hm => noo b_x10 ?_)))
        · simp only [e, ne_eq, not_true, decide_false, Bool.false_and, Bool.false_eq_true, if_false, Nat.add_zero] at ih ⊢
          exact ih
        · have hm2 : ¬ tH (rp B D m) j = -9 := of_decide_eq_true hm
          simp only [hm2, decide_false, Bool.and_false, Bool.false_and, Bool.false_eq_true, if_false, Nat.add_zero] at ih
          exact ih
        · have hm2 : tH (rp B D m) j = -9 := by simpa using hm
          simp only [hm2, hl, e, ne_eq, not_false_eq_true, decide_true, Bool.true_and, if_true] at ih
          exact ih
    · subst hb
      simp only [if_true, othM] at ih
      rw [b_cl (by omega), b_cl (by omega), (h6.2.2 j hj).2.2.1, (h6.2.2 i hi).2.2.1]
      by_cases hmm : bM B j = bM B i
      · refine noo (fun z => z (by rw [hmm])) (pk_eq j i (fun e => ?_) (fun e => s_isMadeM hk38 (by decide) j (by omega) (h7.w (by omega)) (bnz (fun hm => ?_) (fun hm => noo b_x10 ?_))))
        · simp only [e, ne_eq, not_true, decide_false, Bool.false_and, Bool.false_eq_true, if_false, Nat.add_zero] at ih ⊢
          exact ih
        · have hm2 : ¬ tH (rp B D m) j = -9 := of_decide_eq_true hm
          simp only [hm2, decide_false, Bool.and_false, Bool.false_and, Bool.false_eq_true, if_false, Nat.add_zero] at ih
          exact ih
        · have hm2 : tH (rp B D m) j = -9 := by simpa using hm
          simp only [hm2, hmm, e, ne_eq, not_false_eq_true, decide_true, Bool.true_and, if_true] at ih
          exact ih
      · simp only [hmm, decide_false, Bool.and_false, Bool.false_eq_true, if_false, Nat.add_zero] at ih
        exact yes (fun z => hmm ((nI_eq (by omega) (by omega)).mp z)) ⟨fun _ => ih, fun _ => s_isMadeM hk38 (by decide) j (by omega) (h7.w (by omega)) (bnz (fun _ => ih) (fun _ => yes rfl ih))⟩
end ASK
