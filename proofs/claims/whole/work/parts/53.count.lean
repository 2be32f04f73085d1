/-! counting -/
def ofB (mu : fMu) (B : tB) (T : tT) (m : Nat) (w : Int32) : Int32 := if w = 0 then nI (bN B) else if w = 1 then nI (tI T) else if w = 2 then nI m else if w = 3 then nI (madeT (bN B) T) else if w = 4 then nI (bitsOf (fun i => decide (tH T i = 6)) (bN B)) else if w = 5 then nI (bE B) else if w = 6 then nI (cntN (fun i => ofK (bK B i) 1) (bN B)) else if w = 7 then nI (cntN (fun i => ofK (bK B i) 2) (bN B)) else if w = 8 then nI (tD T) else if w = 9 then nI (cntN (fun r => decide (0 ≤ mu 3 r 0)) 6) else if w = 10 then nI (cntN (fun r => decide (0 ≤ mu 5 r 0)) 4) else if w = 11 then nI (cntN (fun k => decide (0 ≤ mu 2 (k + 1) 0)) 3) else -1
section CNT
variable {E : mEv} {d : Nat} {mu : fMu} {la : fLa} {Q : Int32 → fMu → fLa → Prop} {B : tB} {D : Nat → Nat × Nat × Nat} {m : Nat}
theorem s_rowsThere (q : Q (nI (cntN (fun r => decide (0 ≤ mu 3 r 0)) 6)) mu la) : FnI E d mi_114 [.inr (.inr (some (6, 0)))] mu la Q := by
  refine vc_X6_rowsThere ?_
  refine lpU (P := fun i => Ev E d mi_114 4 [some (.inr (.inr (some (6, 0)))), some (.inl (nI (cntN (fun r => decide (0 ≤ mu 3 r 0)) i))), some (.inl (nI i))] [] (mem E mu la) (qI E Q)) (n := 6) ?_ ?_ 0 (Nat.zero_le _)
  · exact vc_X6_rowsThere_4 0 _ _ (yes (nI_le (a := 6) (b := 6) (Nat.le_refl _) (by decide)) q)
  · intro i hi ih
    refine vc_X6_rowsThere_4 0 _ _ (noo (nI_ge (b := 6) hi (by decide)) ⟨b_in rfl hi (by decide), ?_⟩)
    rw [b_cl (by omega), b_a0, ← nI_succ, ← nI_succ]
    unfold cntN at ih
    by_cases h : 0 ≤ mu 3 i 0
    · simp only [h, decide_true, if_true] at ih
      exact yes h ih
    · simp only [h, decide_false, Bool.false_eq_true, if_false, Nat.add_zero] at ih
      exact noo h ih
theorem s_textsThere (q : Q (nI (cntN (fun r => decide (0 ≤ mu 5 r 0)) 4)) mu la) : FnI E d mi_115 [.inr (.inr (some (6, 0)))] mu la Q := by
  refine vc_X6_textsThere ?_
  refine lpU (P := fun i => Ev E d mi_115 4 [some (.inr (.inr (some (6, 0)))), some (.inl (nI (cntN (fun r => decide (0 ≤ mu 5 r 0)) i))), some (.inl (nI i))] [] (mem E mu la) (qI E Q)) (n := 4) ?_ ?_ 0 (Nat.zero_le _)
  · exact vc_X6_textsThere_4 0 _ _ (yes (nI_le (a := 4) (b := 4) (Nat.le_refl _) (by decide)) q)
  · intro i hi ih
    refine vc_X6_textsThere_4 0 _ _ (noo (nI_ge (b := 4) hi (by decide)) ⟨b_in rfl hi (by decide), ?_⟩)
    rw [b_cl (by omega), b_a0, ← nI_succ, ← nI_succ]
    unfold cntN at ih
    by_cases h : 0 ≤ mu 5 i 0
    · simp only [h, decide_true, if_true] at ih
      exact yes h ih
    · simp only [h, decide_false, Bool.false_eq_true, if_false, Nat.add_zero] at ih
      exact noo h ih
theorem s_barsKept (q : Q (nI (cntN (fun k => decide (0 ≤ mu 2 (k + 1) 0)) 3)) mu la) : FnI E d mi_116 [.inr (.inr (some (6, 0)))] mu la Q := by
  refine vc_X6_barsKept ?_
  refine lpU (P := fun i => Ev E d mi_116 4 [some (.inr (.inr (some (6, 0)))), some (.inl (nI (cntN (fun k => decide (0 ≤ mu 2 (k + 1) 0)) i))), some (.inl (nI i))] [] (mem E mu la) (qI E Q)) (n := 3) ?_ ?_ 0 (Nat.zero_le _)
  · exact vc_X6_barsKept_4 0 _ _ (yes (nI_le (a := 3) (b := 3) (Nat.le_refl _) (by decide)) q)
  · intro i hi ih
    refine vc_X6_barsKept_4 0 _ _ (noo (nI_ge (b := 3) hi (by decide)) ⟨b_in rfl hi (by decide), ?_⟩)
    rw [b_cl (by omega), b_a0, ← nI_succ, ← nI_succ]
    unfold cntN at ih
    by_cases h : 0 ≤ mu 2 (i + 1) 0
    · simp only [h, decide_true, if_true] at ih
      exact yes h ih
    · simp only [h, decide_false, Bool.false_eq_true, if_false, Nat.add_zero] at ih
      exact noo h ih
theorem s_howManyOf (w : Nat) (h1 : 1 ≤ w) (hw : w < 6) (hB : wB B) (hX : CB B mu) (q : Q (nI (cntN (fun i => ofK (bK B i) w) (bN B))) mu la) : FnI E (d + 1) mi_20 [.inr (.inr (some (1, 0))), .inl (nI w)] mu la Q := by
  have hn := hB.1
  refine vc_X1_howManyOf _ ?_
  refine lpU (P := fun i => Ev E (d + 1) mi_20 4 [some (.inr (.inr (some (1, 0)))), some (.inl (nI w)), some (.inl (nI (cntN (fun i => ofK (bK B i) w) i))), some (.inl (nI i))] [] (mem E mu la) (qI E Q)) (n := bN B) ?_ ?_ 0 (Nat.zero_le _)
  · refine vc_X1_howManyOf_4 0 _ _ _ ?_
    rw [hX.1]
    exact yes (nI_le (Nat.le_refl _) (by omega)) q
  · intro i hi ih
    refine vc_X1_howManyOf_4 0 _ _ _ ?_
    rw [hX.1]
    refine noo (nI_ge hi (by omega)) ⟨b_in rfl (by omega) (by decide), ?_⟩
    rw [b_cl (by omega), (hX.2.2.2 i hi).1]
    unfold cntN at ih
    refine s_isOfX _ _ (by have := (hB.2.2 i hi).1; omega) h1 hw (bzz (fun h => ?_) (fun h => ?_))
    · rw [b_a0, ← nI_succ]
      simp only [h, Bool.false_eq_true, if_false, Nat.add_zero] at ih
      exact ih
    · rw [← nI_succ, ← nI_succ]
      simp only [h, if_true] at ih
      exact ih
theorem s_kindsOf (w : Nat) (h1 : 1 ≤ w) (hw : w < 6) (hB : wB B) (hM : MB B mu) (q : Q (nI (cntN (fun i => ofK (bK B i) w) (bN B))) mu la) : FnI E (d + 1) mi_221 [.inr (.inr (some (7, 0))), .inl (nI w)] mu la Q := by
  have hn := hB.1
  refine vc_X7_kindsOf _ ?_
  refine lpU (P := fun i => Ev E (d + 1) mi_221 4 [some (.inr (.inr (some (7, 0)))), some (.inl (nI w)), some (.inl (nI (cntN (fun i => ofK (bK B i) w) i))), some (.inl (nI i))] [] (mem E mu la) (qI E Q)) (n := bN B) ?_ ?_ 0 (Nat.zero_le _)
  · refine vc_X7_kindsOf_4 0 _ _ _ ?_
    rw [hM.1]
    exact yes (nI_le (Nat.le_refl _) (by omega)) q
  · intro i hi ih
    refine vc_X7_kindsOf_4 0 _ _ _ ?_
    rw [hM.1]
    refine noo (nI_ge hi (by omega)) ⟨b_in rfl (by omega) (by decide), ?_⟩
    rw [b_cl (by omega), (hM.2.2 i hi).1]
    unfold cntN at ih
    refine s_isOfM _ _ (by have := (hB.2.2 i hi).1; omega) h1 hw (bzz (fun h => ?_) (fun h => ?_))
    · rw [b_a0, ← nI_succ]
      simp only [h, Bool.false_eq_true, if_false, Nat.add_zero] at ih
      exact ih
    · rw [← nI_succ, ← nI_succ]
      simp only [h, if_true] at ih
      exact ih
theorem s_ofBar (w : Int32) (h : IBd B D m mu) (q : Q (ofB mu B (rp B D m) m w) mu la) : FnI E (d + 2) mi_113 [.inr (.inr (some (6, 0))), .inl w] mu la Q := by
  have hn := h.1.1
  have hwt := h.wt
  obtain ⟨h1, h2, h3, h4, h5, h6, h7, h8, h9⟩ := h
  refine vc_X6_ofBar _ ?_
  unfold ofB at q
  rw [h3.1, h4.1, h5.1, h4.2.2.1, h3.2.1, h4.2.2.2.1]
  by_cases c0 : w = 0
  · rw [if_pos c0] at q; exact yes c0 q
  rw [if_neg c0] at q
  refine noo c0 ?_
  by_cases c1 : w = 1
  · rw [if_pos c1] at q; exact yes c1 q
  rw [if_neg c1] at q
  refine noo c1 ?_
  by_cases c2 : w = 2
  · rw [if_pos c2] at q; exact yes c2 q
  rw [if_neg c2] at q
  refine noo c2 ?_
  by_cases c3 : w = 3
  · rw [if_pos c3] at q; exact yes c3 q
  rw [if_neg c3] at q
  refine noo c3 ?_
  by_cases c4 : w = 4
  · rw [if_pos c4] at q; exact yes c4 (s_standingX hn h3.1 h4 q)
  rw [if_neg c4] at q
  refine noo c4 ?_
  by_cases c5 : w = 5
  · rw [if_pos c5] at q; exact yes c5 q
  rw [if_neg c5] at q
  refine noo c5 ?_
  by_cases c6 : w = 6
  · rw [if_pos c6] at q; exact yes c6 (s_howManyOf 1 (by decide) (by decide) h1 h3 q)
  rw [if_neg c6] at q
  refine noo c6 ?_
  by_cases c7 : w = 7
  · rw [if_pos c7] at q; exact yes c7 (s_howManyOf 2 (by decide) (by decide) h1 h3 q)
  rw [if_neg c7] at q
  refine noo c7 ?_
  by_cases c8 : w = 8
  · rw [if_pos c8] at q; exact yes c8 q
  rw [if_neg c8] at q
  refine noo c8 ?_
  by_cases c9 : w = 9
  · rw [if_pos c9] at q; exact yes c9 (s_rowsThere q)
  rw [if_neg c9] at q
  refine noo c9 ?_
  by_cases ca : w = 10
  · rw [if_pos ca] at q; exact yes ca (s_textsThere q)
  rw [if_neg ca] at q
  refine noo ca ?_
  by_cases cb : w = 11
  · rw [if_pos cb] at q; exact yes cb (s_barsKept q)
  rw [if_neg cb] at q
  exact noo cb q
theorem kx_cases {kk : Nat} (h : KX B kk mu) : (mu 2 (kk + 1) 0 = -1 ∧ mu 42 0 kk = 0) ∨ ∃ x : Nat, x ≤ 40 ∧ mu 2 (kk + 1) 0 = nI x ∧ mu 42 0 kk = 1 ∧ mu 41 0 (370 * kk + 369) = nI x := by
  rcases h with h | ⟨D, m, h1, h2, h3, h4, h5, h6⟩
  · exact Or.inl h
  · exact Or.inr ⟨m, h1.1, h2.1, h3, h6⟩
theorem m_counted_s (w v2 : Int32) (h : IBd B D m mu) (q : Q (if w = 0 ∨ w = 1 ∨ w = 2 ∨ w = 3 ∨ w = 4 ∨ w = 5 ∨ w = 6 ∨ w = 7 ∨ w = 8 then ofB mu B (rp B D m) m w else v2) mu la) : (w = 0 → (Q (mu 7 0 4) mu la)) ∧ (¬ w = 0 → ((w = 1 → (vp_in (6 : Int32) 9 ∧ (Q (mu 38 0 (6 : Int32).toNatClampNeg) mu la))) ∧ (¬ w = 1 → ((w = 2 → (Q (mu 7 0 13) mu la)) ∧ (¬ w = 2 → ((w = 3 → (FnI E (d + 1) mi_165 [.inr (.inr (some (7, 0))), .inr (.inr (some (38, 0)))] mu la Q)) ∧ (¬ w = 3 → ((w = 4 → (FnI E (d + 1) mi_166 [.inr (.inr (some (7, 0)))] mu la Q)) ∧ (¬ w = 4 → ((w = 5 → (Q (mu 7 0 5) mu la)) ∧ (¬ w = 5 → ((w = 6 → (FnI E (d + 1) mi_221 [.inr (.inr (some (7, 0))), .inl (1 : Int32)] mu la Q)) ∧ (¬ w = 6 → ((w = 7 → (FnI E (d + 1) mi_221 [.inr (.inr (some (7, 0))), .inl (2 : Int32)] mu la Q)) ∧ (¬ w = 7 → ((w = 8 → (vp_in (7 : Int32) 9 ∧ (Q (mu 38 0 (7 : Int32).toNatClampNeg) mu la))) ∧ (¬ w = 8 → (Q v2 mu la)))))))))))))))))) := by
  have hn := h.1.1
  have hwt := h.wt
  obtain ⟨h1, h2, h3, h4, h5, h6, h7, h8, h9⟩ := h
  rw [show (6 : Int32).toNatClampNeg = 6 from rfl, show (7 : Int32).toNatClampNeg = 7 from rfl, h6.1, h6.2.1, h8.1, show mu 38 0 6 = nI (tI (rp B D m)) from h7.2.1, show mu 38 0 7 = nI (tD (rp B D m)) from h7.2.2.1]
  unfold ofB at q
  by_cases c0 : w = 0
  · rw [if_pos (by simp [c0]), if_pos c0] at q; exact yes c0 q
  refine noo c0 ?_
  by_cases c1 : w = 1
  · rw [if_pos (by simp [c1]), if_neg c0, if_pos c1] at q; exact yes c1 ⟨b_in (j := 6) rfl (by decide) (by decide), q⟩
  refine noo c1 ?_
  by_cases c2 : w = 2
  · rw [if_pos (by simp [c2]), if_neg c0, if_neg c1, if_pos c2] at q; exact yes c2 q
  refine noo c2 ?_
  by_cases c3 : w = 3
  · rw [if_pos (by simp [c3]), if_neg c0, if_neg c1, if_neg c2, if_pos c3] at q; exact yes c3 (s_madeOf hk38 (by decide) hn h6.1 (fun i h => h7.w h) q)
  refine noo c3 ?_
  by_cases c4 : w = 4
  · rw [if_pos (by simp [c4]), if_neg c0, if_neg c1, if_neg c2, if_neg c3, if_pos c4] at q; exact yes c4 (s_standingM hn h6.1 (fun i h => h7.w h) q)
  refine noo c4 ?_
  by_cases c5 : w = 5
  · rw [if_pos (by simp [c5]), if_neg c0, if_neg c1, if_neg c2, if_neg c3, if_neg c4, if_pos c5] at q; exact yes c5 q
  refine noo c5 ?_
  by_cases c6 : w = 6
  · rw [if_pos (by simp [c6]), if_neg c0, if_neg c1, if_neg c2, if_neg c3, if_neg c4, if_neg c5, if_pos c6] at q; exact yes c6 (s_kindsOf 1 (by decide) (by decide) h1 h6 q)
  refine noo c6 ?_
  by_cases c7 : w = 7
  · rw [if_pos (by simp [c7]), if_neg c0, if_neg c1, if_neg c2, if_neg c3, if_neg c4, if_neg c5, if_neg c6, if_pos c7] at q; exact yes c7 (s_kindsOf 2 (by decide) (by decide) h1 h6 q)
  refine noo c7 ?_
  by_cases c8 : w = 8
  · rw [if_pos (by simp [c8]), if_neg c0, if_neg c1, if_neg c2, if_neg c3, if_neg c4, if_neg c5, if_neg c6, if_neg c7, if_pos c8] at q; exact yes c8 ⟨b_in (j := 7) rfl (by decide) (by decide), q⟩
  refine noo c8 ?_
  rw [if_neg (by simp [c0, c1, c2, c3, c4, c5, c6, c7, c8])] at q
  exact q
abbrev sml (w : Int32) : Prop := w = 0 ∨ w = 1 ∨ w = 2 ∨ w = 3 ∨ w = 4 ∨ w = 5 ∨ w = 6 ∨ w = 7 ∨ w = 8
theorem m_c46 (w v2 : Int32) (hw : ¬ w = 11) (h : IBd B D m mu) (q : Q (if sml w then ofB mu B (rp B D m) m w else v2) mu la) : Ev E (d + 2) mi_222 46 [some (.inr (.inr (some (7, 0)))), some (.inl w), some (.inl v2), some (.inl (0 : Int32))] [] (mem E mu la) (qI E Q) :=
  vc_X7_counted_46 0 w v2 0 (noo (by decide) (yes hw (m_counted_s w v2 h q)))
theorem m_c25 (w v2 : Int32) (hw : ¬ w = 10) (k : Ev E (d + 2) mi_222 46 [some (.inr (.inr (some (7, 0)))), some (.inl w), some (.inl v2), some (.inl (0 : Int32))] [] (mem E mu la) (qI E Q)) : Ev E (d + 2) mi_222 25 [some (.inr (.inr (some (7, 0)))), some (.inl w), some (.inl v2), some (.inl (0 : Int32))] [] (mem E mu la) (qI E Q) :=
  vc_X7_counted_25 0 w v2 0 (noo (by decide) (yes hw k))
theorem m_c4 (w v2 : Int32) (hw : ¬ w = 9) (k : Ev E (d + 2) mi_222 25 [some (.inr (.inr (some (7, 0)))), some (.inl w), some (.inl v2), some (.inl (0 : Int32))] [] (mem E mu la) (qI E Q)) : Ev E (d + 2) mi_222 4 [some (.inr (.inr (some (7, 0)))), some (.inl w), some (.inl v2), some (.inl (0 : Int32))] [] (mem E mu la) (qI E Q) :=
  vc_X7_counted_4 0 w v2 0 (noo (by decide) (yes hw k))
theorem b_sml1 : ∀ j : Nat, j < 9 → (¬ nI j = 9 ∧ ¬ nI j = 10 ∧ ¬ nI j = 11) := by decide +kernel
theorem b_sml (j : Nat) (h : j < 9) : sml (nI j) ∧ ¬ nI j = 9 ∧ ¬ nI j = 10 ∧ ¬ nI j = 11 := by
  refine ⟨?_, b_sml1 j h⟩
  have hc : j = 0 ∨ j = 1 ∨ j = 2 ∨ j = 3 ∨ j = 4 ∨ j = 5 ∨ j = 6 ∨ j = 7 ∨ j = 8 := by omega
  unfold sml
  rcases hc with rfl | rfl | rfl | rfl | rfl | rfl | rfl | rfl | rfl
  · exact Or.inl rfl
  · exact Or.inr (Or.inl rfl)
  · exact Or.inr (Or.inr (Or.inl rfl))
  · exact Or.inr (Or.inr (Or.inr (Or.inl rfl)))
  · exact Or.inr (Or.inr (Or.inr (Or.inr (Or.inl rfl))))
  · exact Or.inr (Or.inr (Or.inr (Or.inr (Or.inr (Or.inl rfl)))))
  · exact Or.inr (Or.inr (Or.inr (Or.inr (Or.inr (Or.inr (Or.inl rfl))))))
  · exact Or.inr (Or.inr (Or.inr (Or.inr (Or.inr (Or.inr (Or.inr (Or.inl rfl)))))))
  · exact Or.inr (Or.inr (Or.inr (Or.inr (Or.inr (Or.inr (Or.inr (Or.inr rfl)))))))
theorem s_counted (j : Nat) (hj : j < 12) (hi : Inv IB mu la) (h : IBd B D m mu) (q : Q (ofB mu B (rp B D m) m (nI j)) mu la) : FnI E (d + 2) mi_222 [.inr (.inr (some (7, 0))), .inl (nI j)] mu la Q := by
  refine vc_X7_counted _ ?_
  by_cases c9 : j = 9
  · subst c9
    refine lpU (P := fun i => Ev E (d + 2) mi_222 4 [some (.inr (.inr (some (7, 0)))), some (.inl (nI 9)), some (.inl (nI (cntN (fun r => decide (0 ≤ mu 3 r 0)) i))), some (.inl (nI i))] [] (mem E mu la) (qI E Q)) (n := 6) ?_ ?_ 0 (Nat.zero_le _)
    · exact vc_X7_counted_4 0 _ _ _ (yes (nI_le (a := 6) (b := 6) (Nat.le_refl _) (by decide)) (m_c25 _ _ (by decide) (m_c46 _ _ (by decide) h q)))
    · intro i hi6 ih
      refine vc_X7_counted_4 0 _ _ _ (noo (nI_ge (b := 6) hi6 (by decide)) (noo (fun z => z rfl) ⟨b_in rfl hi6 (by decide), ?_⟩))
      rw [b_cl (by omega), b_a0, ← nI_succ, ← nI_succ, (hi.1 i hi6).1]
      unfold cntN at ih
      by_cases hc : 0 ≤ mu 3 i 0
      · simp only [hc, decide_true, if_true] at ih
        exact yes hc ih
      · simp only [hc, decide_false, Bool.false_eq_true, if_false, Nat.add_zero] at ih
        exact noo hc ih
  by_cases ca : j = 10
  · subst ca
    refine m_c4 _ _ (by decide) ?_
    refine lpU (P := fun i => Ev E (d + 2) mi_222 25 [some (.inr (.inr (some (7, 0)))), some (.inl (nI 10)), some (.inl (nI (cntN (fun r => decide (0 ≤ mu 5 r 0)) i))), some (.inl (nI i))] [] (mem E mu la) (qI E Q)) (n := 4) ?_ ?_ 0 (Nat.zero_le _)
    · exact vc_X7_counted_25 0 _ _ _ (yes (nI_le (a := 4) (b := 4) (Nat.le_refl _) (by decide)) (m_c46 _ _ (by decide) h q))
    · intro i hi6 ih
      refine vc_X7_counted_25 0 _ _ _ (noo (nI_ge (b := 4) hi6 (by decide)) (noo (fun z => z rfl) ⟨b_in rfl hi6 (by decide), ?_⟩))
      rw [b_cl (by omega), b_a0, ← nI_succ, ← nI_succ, (hi.2.1 i hi6).1]
      unfold cntN at ih
      by_cases hc : 0 ≤ mu 5 i 0
      · simp only [hc, decide_true, if_true] at ih
        exact yes hc ih
      · simp only [hc, decide_false, Bool.false_eq_true, if_false, Nat.add_zero] at ih
        exact noo hc ih
  by_cases cb : j = 11
  · subst cb
    refine m_c4 _ _ (by decide) (m_c25 _ _ (by decide) ?_)
    refine lpU (P := fun i => Ev E (d + 2) mi_222 46 [some (.inr (.inr (some (7, 0)))), some (.inl (nI 11)), some (.inl (nI (cntN (fun k => decide (0 ≤ mu 2 (k + 1) 0)) i))), some (.inl (nI i))] [] (mem E mu la) (qI E Q)) (n := 3) ?_ ?_ 0 (Nat.zero_le _)
    · exact vc_X7_counted_46 0 _ _ _ (yes (nI_le (a := 3) (b := 3) (Nat.le_refl _) (by decide)) (m_counted_s _ _ h q))
    · intro i hi6 ih
      refine vc_X7_counted_46 0 _ _ _ (noo (nI_ge (b := 3) hi6 (by decide)) (noo (fun z => z rfl) ⟨b_in rfl hi6 (by decide), ?_⟩))
      rw [b_cl (by omega), b_a0, ← nI_succ, ← nI_succ]
      unfold cntN at ih
      rcases kx_cases (h.2.2.2.2.2.2.2.2 i hi6) with ⟨e1, e2⟩ | ⟨x, hx, e1, e2, -⟩
      · rw [e1] at ih
        rw [e2]
        simp only [b_n1, decide_false, Bool.false_eq_true, if_false, Nat.add_zero] at ih
        exact yes rfl ih
      · rw [e1] at ih
        rw [e2]
        simp only [b_np x (by omega), decide_true, if_true] at ih
        exact noo b_x10 ih
  obtain ⟨g1, g2, g3, g4⟩ := b_sml j (by omega)
  exact m_c4 _ _ g2 (m_c25 _ _ g3 (m_c46 _ _ g4 h (by rw [if_pos g1]; exact q)))
theorem ofB_out (mu : fMu) (T : tT) (w : Int32) (h : ∀ j : Nat, 0 ≤ j → j ≤ 11 → w ≠ nI j) : ofB mu B T m w = -1 := by
  unfold ofB
  rw [if_neg (show ¬ w = 0 from h 0 (by decide) (by decide)), if_neg (show ¬ w = 1 from h 1 (by decide) (by decide)), if_neg (show ¬ w = 2 from h 2 (by decide) (by decide)), if_neg (show ¬ w = 3 from h 3 (by decide) (by decide)), if_neg (show ¬ w = 4 from h 4 (by decide) (by decide)), if_neg (show ¬ w = 5 from h 5 (by decide) (by decide)), if_neg (show ¬ w = 6 from h 6 (by decide) (by decide)), if_neg (show ¬ w = 7 from h 7 (by decide) (by decide)), if_neg (show ¬ w = 8 from h 8 (by decide) (by decide)), if_neg (show ¬ w = 9 from h 9 (by decide) (by decide)), if_neg (show ¬ w = 10 from h 10 (by decide) (by decide)), if_neg (show ¬ w = 11 from h 11 (by decide) (by decide))]
theorem p_count (h : Inv IB mu la) (a : Int32) : Pair IB E (d + 3) mi_91 mi_223 [.inl a] mu la := by
  have hi := h
  obtain ⟨-, -, -, B, D, m, hd⟩ := h
  refine vc_X6_count a (s_ofBar a hd ?_)
  refine vc_X7_count a (s_inS a 0 11 (by decide) (by decide) (fun j _ hj e => noo b_x10 ?_) (fun hno => yes rfl ⟨ofB_out _ _ _ hno, hi⟩))
  subst e
  exact s_counted j (by omega) hi hd ⟨rfl, hi⟩
end CNT
/-! the digest -/
def mxI (g : Nat → Int32) : Nat → Nat → Int64 → Int64
  | _, 0, h => h
  | i, z + 1, h => mxI g (i + 1) z (31 * h + (g i).toInt64)
def mxO (g : Nat → Int64 → Int64) : Nat → Nat → Int64 → Int64
  | _, 0, h => h
  | i, z + 1, h => mxO g (i + 1) z (g i h)
theorem mxI_congr {g g' : Nat → Int32} (z : Nat) : ∀ (i : Nat) (h : Int64), (∀ j, i ≤ j → j < i + z → g j = g' j) → mxI g i z h = mxI g' i z h := by
  induction z with
  | zero => intro i h _; rfl
  | succ z ih =>
    intro i h hg
    unfold mxI
    rw [hg i (Nat.le_refl i) (by omega), ih (i + 1) _ (fun j h1 h2 => hg j (by omega) (by omega))]
theorem mxO_congr {g g' : Nat → Int64 → Int64} (z : Nat) : ∀ (i : Nat) (h : Int64), (∀ j, i ≤ j → j < i + z → ∀ x, g j x = g' j x) → mxO g i z h = mxO g' i z h := by
  induction z with
  | zero => intro i h _; rfl
  | succ z ih =>
    intro i h hg
    unfold mxO
    rw [hg i (Nat.le_refl i) (by omega), ih (i + 1) _ (fun j h1 h2 => hg j (by omega) (by omega))]
/-- a size (-1: missing) and its places -/
def szN (x : Int32) : Nat := if x < 0 then 0 else x.toNatClampNeg
def mxR (s : Int32) (g : Nat → Int32) (h : Int64) : Int64 := mxI g 0 (szN s) (31 * h + s.toInt64)
section DIG
variable {E : mEv} {d : Nat} {mu : fMu} {la : fLa} {Q : Int64 → fMu → fLa → Prop} {B : tB} {D : Nat → Nat × Nat × Nat} {m : Nat}
theorem szN_nI {s : Nat} (h : s < 1000) : szN (nI s) = s := by
  unfold szN
  rw [if_neg (nI_pos (by omega)), b_cl (by omega)]
theorem s_mixR (r : Nat) (v : Int64) (hz : mu 3 r 0 = -1 ∨ ∃ s : Nat, s ≤ 40 ∧ mu 3 r 0 = nI s) (q : Q (mxR (mu 3 r 0) (mu 21 r) v) mu la) : FnL E d mi_30 [.inr (.inr (some (3, r))), .inr (.inl v)] mu la Q := by
  refine vc_X3_mixedInto v ?_
  unfold mxR at q
  rcases hz with e | ⟨s, hs, e⟩
  · refine vc_X3_mixedInto_10 r _ _ (yes ?_ ?_)
    · rw [e]; decide
    · rw [e] at q ⊢
      exact q
  · rw [e, szN_nI (by omega)] at q
    rw [e]
    have key : ∀ (z i : Nat) (h : Int64), i + z = s → Q (mxI (mu 21 r) i z h) mu la → Ev E d mi_30 10 [some (.inr (.inr (some (3, r)))), none, none, some (.inr (.inl h)), none, some (.inl (nI i))] [] (mem E mu la) (qL E Q) := by
      intro z
      induction z with
      | zero =>
        intro i h hi q
        refine vc_X3_mixedInto_10 r _ _ ?_
        rw [e]
        exact yes (nI_le (by omega) (by omega)) q
      | succ z ih =>
        intro i h hi q
        refine vc_X3_mixedInto_10 r _ _ ?_
        rw [e]
        refine noo (nI_ge (by omega) (by omega)) ⟨b_in rfl (by omega) (by decide), ?_⟩
        rw [b_cl (by omega), ← nI_succ]
        exact ih (i + 1) _ (by omega) q
    exact key s 0 _ (by omega) q
theorem s_mixT (r : Nat) (v : Int64) (hz : mu 5 r 0 = -1 ∨ ∃ s : Nat, s ≤ 60 ∧ mu 5 r 0 = nI s) (q : Q (mxR (mu 5 r 0) (mu 24 r) v) mu la) : FnL E d mi_48 [.inr (.inr (some (5, r))), .inr (.inl v)] mu la Q := by
  refine vc_X5_mixedInto v ?_
  unfold mxR at q
  rcases hz with e | ⟨s, hs, e⟩
  · refine vc_X5_mixedInto_10 r _ _ (yes ?_ ?_)
    · rw [e]; decide
    · rw [e] at q ⊢
      exact q
  · rw [e, szN_nI (by omega)] at q
    rw [e]
    have key : ∀ (z i : Nat) (h : Int64), i + z = s → Q (mxI (mu 24 r) i z h) mu la → Ev E d mi_48 10 [some (.inr (.inr (some (5, r)))), none, none, some (.inr (.inl h)), none, some (.inl (nI i))] [] (mem E mu la) (qL E Q) := by
      intro z
      induction z with
      | zero =>
        intro i h hi q
        refine vc_X5_mixedInto_10 r _ _ ?_
        rw [e]
        exact yes (nI_le (by omega) (by omega)) q
      | succ z ih =>
        intro i h hi q
        refine vc_X5_mixedInto_10 r _ _ ?_
        rw [e]
        refine noo (nI_ge (by omega) (by omega)) ⟨b_in rfl (by omega) (by decide), ?_⟩
        rw [b_cl (by omega), ← nI_succ]
        exact ih (i + 1) _ (by omega) q
    exact key s 0 _ (by omega) q
/-- the digest, as both go through it -/
def dgA (mu : fMu) (B : tB) (T : tT) (m : Nat) (h : Int64) : Int64 := mxI (fun j => ofB mu B T m (nI j)) 0 12 h
def dgB (B : tB) (T : tT) (h : Int64) : Int64 := mxO (fun i x => mxI (fun w => ofC B T i (nI w)) 0 6 x) 0 (bN B) h
def dgC (B : tB) (T : tT) (h : Int64) : Int64 := mxI (fun p => oI (heldT (bN B) T (nI p))) 0 (bN B) h
def dgD (mu : fMu) (h : Int64) : Int64 := mxI (fun k => mu 2 (k + 1) 0) 0 3 h
def dgE (mu : fMu) (h : Int64) : Int64 := mxO (fun r x => mxR (mu 3 r 0) (mu 21 r) x) 0 6 h
def dgF (mu : fMu) (h : Int64) : Int64 := mxO (fun r x => mxR (mu 5 r 0) (mu 24 r) x) 0 4 h
theorem x_digest (hi : Inv IB mu la) (hd : IBd B D m mu) (q : Q (dgF mu (dgE mu (dgD mu (dgC B (rp B D m) (dgB B (rp B D m) (dgA mu B (rp B D m) m 17)))))) mu la) : FnL E (d + 3) mi_94 [.inr (.inr (some (6, 0)))] mu la Q := by
  have hn := hd.1.1
  have kF : ∀ (z i : Nat) (h : Int64), i + z = 4 → Q (mxO (fun r x => mxR (mu 5 r 0) (mu 24 r) x) i z h) mu la → Ev E (d + 3) mi_94 98 [some (.inr (.inr (some (6, 0)))), some (.inr (.inl h)), none, some (.inl (nI i)), none] [] (mem E mu la) (qL E Q) := by
    intro z
    induction z with
    | zero => intro i h hi q; exact vc_X6_digest_98 0 _ _ (yes (nI_le (a := 4) (by omega) (by omega)) q)
    | succ z ih =>
      intro i h hi2 q
      refine vc_X6_digest_98 0 _ _ (noo (nI_ge (b := 4) (by omega) (by decide)) ⟨b_in rfl (by omega) (by decide), ?_⟩)
      rw [b_cl (by omega), ← nI_succ]
      refine s_mixT i _ ?_ (ih (i + 1) _ (by omega) q)
      rcases it_cases hi.2.1 (j := i) (by omega) with ⟨-, e⟩ | ⟨s, hs, -, e, -⟩
      · exact Or.inl e
      · exact Or.inr ⟨s, hs, e⟩
  have kE : ∀ (z i : Nat) (h : Int64), i + z = 6 → Q (dgF mu (mxO (fun r x => mxR (mu 3 r 0) (mu 21 r) x) i z h)) mu la → Ev E (d + 3) mi_94 84 [some (.inr (.inr (some (6, 0)))), some (.inr (.inl h)), none, some (.inl (nI i)), none] [] (mem E mu la) (qL E Q) := by
    intro z
    induction z with
    | zero => intro i h hi q; exact vc_X6_digest_84 0 _ _ (yes (nI_le (a := 6) (by omega) (by omega)) (kF 4 0 _ rfl q))
    | succ z ih =>
      intro i h hi2 q
      refine vc_X6_digest_84 0 _ _ (noo (nI_ge (b := 6) (by omega) (by decide)) ⟨b_in rfl (by omega) (by decide), ?_⟩)
      rw [b_cl (by omega), ← nI_succ]
      refine s_mixR i _ ?_ (ih (i + 1) _ (by omega) q)
      rcases ir_cases hi.1 (j := i) (by omega) with ⟨-, e⟩ | ⟨s, hs, -, e, -⟩
      · exact Or.inl e
      · exact Or.inr ⟨s, hs, e⟩
  have kD : ∀ (z i : Nat) (h : Int64), i + z = 3 → Q (dgF mu (dgE mu (mxI (fun k => mu 2 (k + 1) 0) i z h))) mu la → Ev E (d + 3) mi_94 66 [some (.inr (.inr (some (6, 0)))), some (.inr (.inl h)), none, some (.inl (nI i)), none] [] (mem E mu la) (qL E Q) := by
    intro z
    induction z with
    | zero => intro i h hi q; exact vc_X6_digest_66 0 _ _ (yes (nI_le (a := 3) (by omega) (by omega)) (kE 6 0 _ rfl q))
    | succ z ih =>
      intro i h hi2 q
      refine vc_X6_digest_66 0 _ _ (noo (nI_ge (b := 3) (by omega) (by decide)) ⟨b_in rfl (by omega) (by decide), ?_⟩)
      rw [b_cl (by omega), ← nI_succ]
      exact ih (i + 1) _ (by omega) q
  have kC : ∀ (z i : Nat) (h : Int64), i + z = bN B → Q (dgF mu (dgE mu (dgD mu (mxI (fun p => oI (heldT (bN B) (rp B D m) (nI p))) i z h)))) mu la → Ev E (d + 3) mi_94 46 [some (.inr (.inr (some (6, 0)))), some (.inr (.inl h)), none, some (.inl (nI i)), none] [] (mem E mu la) (qL E Q) := by
    intro z
    induction z with
    | zero =>
      intro i h hi q
      refine vc_X6_digest_46 0 _ _ ?_
      rw [hd.2.2.1.1]
      exact yes (nI_le (by omega) (by omega)) (kD 3 0 _ rfl q)
    | succ z ih =>
      intro i h hi2 q
      refine vc_X6_digest_46 0 _ _ ?_
      rw [hd.2.2.1.1]
      refine noo (nI_ge (by omega) (by omega)) ⟨b_in rfl (by omega) (by decide), ?_⟩
      rw [b_cl (by omega), ← nI_succ, hd.2.2.2.1.2.2.2.2.2 i (by omega)]
      exact ih (i + 1) _ (by omega) q
  have kI : ∀ (i : Nat), i < bN B → ∀ (z w : Nat) (h : Int64), w + z = 6 → Ev E (d + 3) mi_94 20 [some (.inr (.inr (some (6, 0)))), some (.inr (.inl (mxI (fun w => ofC B (rp B D m) i (nI w)) w z h))), none, some (.inl (nI (i + 1))), none] [] (mem E mu la) (qL E Q) → Ev E (d + 3) mi_94 27 [some (.inr (.inr (some (6, 0)))), some (.inr (.inl h)), none, some (.inl (nI i)), some (.inl (nI w))] [] (mem E mu la) (qL E Q) := by
    intro i hib z
    induction z with
    | zero =>
      intro w h hw q
      refine vc_X6_digest_27 0 _ _ _ (yes (nI_le (a := 6) (by omega) (by omega)) ?_)
      rw [← nI_succ]
      exact q
    | succ z ih =>
      intro w h hw q
      refine vc_X6_digest_27 0 _ _ _ (noo (nI_ge (b := 6) (by omega) (by decide)) ?_)
      refine s_ofCup i (nI w) hd hib ?_
      rw [← nI_succ]
      exact ih (w + 1) _ (by omega) q
  have kB : ∀ (z i : Nat) (h : Int64), i + z = bN B → Q (dgF mu (dgE mu (dgD mu (dgC B (rp B D m) (mxO (fun i x => mxI (fun w => ofC B (rp B D m) i (nI w)) 0 6 x) i z h))))) mu la → Ev E (d + 3) mi_94 20 [some (.inr (.inr (some (6, 0)))), some (.inr (.inl h)), none, some (.inl (nI i)), none] [] (mem E mu la) (qL E Q) := by
    intro z
    induction z with
    | zero =>
      intro i h hi q
      refine vc_X6_digest_20 0 _ _ ?_
      rw [hd.2.2.1.1]
      exact yes (nI_le (by omega) (by omega)) (kC _ 0 _ (Nat.zero_add _) q)
    | succ z ih =>
      intro i h hi2 q
      refine vc_X6_digest_20 0 _ _ ?_
      rw [hd.2.2.1.1]
      refine noo (nI_ge (by omega) (by omega)) (kI i (by omega) 6 0 h rfl (ih (i + 1) _ (by omega) q))
  have kA : ∀ (z i : Nat) (h : Int64), i + z = 12 → Q (dgF mu (dgE mu (dgD mu (dgC B (rp B D m) (dgB B (rp B D m) (mxI (fun j => ofB mu B (rp B D m) m (nI j)) i z h)))))) mu la → Ev E (d + 3) mi_94 4 [some (.inr (.inr (some (6, 0)))), some (.inr (.inl h)), none, some (.inl (nI i)), none] [] (mem E mu la) (qL E Q) := by
    intro z
    induction z with
    | zero => intro i h hi q; exact vc_X6_digest_4 0 _ _ (yes (nI_le (a := 12) (by omega) (by omega)) (kB _ 0 _ (Nat.zero_add _) q))
    | succ z ih =>
      intro i h hi2 q
      refine vc_X6_digest_4 0 _ _ (noo (nI_ge (b := 12) (by omega) (by decide)) (s_ofBar _ hd ?_))
      rw [← nI_succ]
      exact ih (i + 1) _ (by omega) q
  exact vc_X6_digest (kA 12 0 _ rfl q)
theorem m_digest (hi : Inv IB mu la) (hd : IBd B D m mu) (q : Q (dgF mu (dgE mu (dgD mu (dgC B (rp B D m) (dgB B (rp B D m) (dgA mu B (rp B D m) m 17)))))) mu la) : FnL E (d + 3) mi_226 [.inr (.inr (some (7, 0)))] mu la Q := by
  have hn := hd.1.1
  have hM := hd.2.2.2.2.2.1
  have hT := hd.2.2.2.2.2.2.1
  have kG : ∀ (t : Nat), t < 4 → ∀ (s : Nat), s ≤ 60 → mu 31 0 t = nI s → (∀ x : Nat, x < s → mu 32 0 (60 * t + x) = mu 24 t x) → ∀ (z i : Nat) (h : Int64), i + z = s → Ev E (d + 3) mi_226 133 [some (.inr (.inr (some (7, 0)))), some (.inr (.inl (mxI (mu 24 t) i z h))), none, some (.inl (nI (t + 1))), none] [] (mem E mu la) (qL E Q) → Ev E (d + 3) mi_226 148 [some (.inr (.inr (some (7, 0)))), some (.inr (.inl h)), none, some (.inl (nI t)), some (.inl (nI i))] [] (mem E mu la) (qL E Q) := by
    intro t ht s hs e hv z
    induction z with
    | zero =>
      intro i h hi q
      refine vc_X7_digest_148 0 _ _ _ ⟨b_in rfl ht (by decide), ?_⟩
      rw [b_cl (by omega), e]
      refine yes (nI_le (by omega) (by omega)) ?_
      rw [← nI_succ]
      exact q
    | succ z ih =>
      intro i h hi2 q
      refine vc_X7_digest_148 0 _ _ _ ⟨b_in rfl ht (by decide), ?_⟩
      rw [b_cl (by omega), e]
      refine noo (nI_ge (by omega) (by omega)) ?_
      rw [b_60, b_cl (by omega), hv i (by omega), ← nI_succ]
      exact ⟨b_in rfl (by omega) (by decide), ih (i + 1) _ (by omega) q⟩
  have kF : ∀ (z i : Nat) (h : Int64), i + z = 4 → Q (mxO (fun r x => mxR (mu 5 r 0) (mu 24 r) x) i z h) mu la → Ev E (d + 3) mi_226 133 [some (.inr (.inr (some (7, 0)))), some (.inr (.inl h)), none, some (.inl (nI i)), none] [] (mem E mu la) (qL E Q) := by
    intro z
    induction z with
    | zero => intro i h hi q; exact vc_X7_digest_133 0 _ _ (yes (nI_le (a := 4) (by omega) (by omega)) q)
    | succ z ih =>
      intro i h hi2 q
      refine vc_X7_digest_133 0 _ _ (noo (nI_ge (b := 4) (by omega) (by decide)) ⟨b_in rfl (by omega) (by decide), ?_⟩)
      rw [b_cl (by omega)]
      unfold mxO mxR at q
      rcases it_cases hi.2.1 (j := i) (by omega) with ⟨e1, e⟩ | ⟨s, hs, e1, e, hv⟩
      · rw [e] at q
        refine vc_X7_digest_148 0 _ _ _ ⟨b_in rfl (by omega) (by decide), ?_⟩
        rw [b_cl (by omega), e1]
        refine yes (by decide) ?_
        rw [← nI_succ]
        exact ih (i + 1) _ (by omega) q
      · rw [e, szN_nI (by omega)] at q
        rw [e1]
        exact kG i (by omega) s hs e1 hv s 0 _ (by omega) (ih (i + 1) _ (by omega) q)
  have kH : ∀ (t : Nat), t < 6 → ∀ (s : Nat), s ≤ 40 → mu 29 0 t = nI s → (∀ x : Nat, x < s → mu 30 0 (40 * t + x) = mu 21 t x) → ∀ (z i : Nat) (h : Int64), i + z = s → Ev E (d + 3) mi_226 92 [some (.inr (.inr (some (7, 0)))), some (.inr (.inl (mxI (mu 21 t) i z h))), none, some (.inl (nI (t + 1))), none] [] (mem E mu la) (qL E Q) → Ev E (d + 3) mi_226 107 [some (.inr (.inr (some (7, 0)))), some (.inr (.inl h)), none, some (.inl (nI t)), some (.inl (nI i))] [] (mem E mu la) (qL E Q) := by
    intro t ht s hs e hv z
    induction z with
    | zero =>
      intro i h hi q
      refine vc_X7_digest_107 0 _ _ _ ⟨b_in rfl ht (by decide), ?_⟩
      rw [b_cl (by omega), e]
      refine yes (nI_le (by omega) (by omega)) ?_
      rw [← nI_succ]
      exact q
    | succ z ih =>
      intro i h hi2 q
      refine vc_X7_digest_107 0 _ _ _ ⟨b_in rfl ht (by decide), ?_⟩
      rw [b_cl (by omega), e]
      refine noo (nI_ge (by omega) (by omega)) ?_
      rw [b_40, b_cl (by omega), hv i (by omega), ← nI_succ]
      exact ⟨b_in rfl (by omega) (by decide), ih (i + 1) _ (by omega) q⟩
  have kE : ∀ (z i : Nat) (h : Int64), i + z = 6 → Q (dgF mu (mxO (fun r x => mxR (mu 3 r 0) (mu 21 r) x) i z h)) mu la → Ev E (d + 3) mi_226 92 [some (.inr (.inr (some (7, 0)))), some (.inr (.inl h)), none, some (.inl (nI i)), none] [] (mem E mu la) (qL E Q) := by
    intro z
    induction z with
    | zero => intro i h hi q; exact vc_X7_digest_92 0 _ _ (yes (nI_le (a := 6) (by omega) (by omega)) (kF 4 0 _ rfl q))
    | succ z ih =>
      intro i h hi2 q
      refine vc_X7_digest_92 0 _ _ (noo (nI_ge (b := 6) (by omega) (by decide)) ⟨b_in rfl (by omega) (by decide), ?_⟩)
      rw [b_cl (by omega)]
      unfold mxO mxR at q
      rcases ir_cases hi.1 (j := i) (by omega) with ⟨e1, e⟩ | ⟨s, hs, e1, e, hv⟩
      · rw [e] at q
        refine vc_X7_digest_107 0 _ _ _ ⟨b_in rfl (by omega) (by decide), ?_⟩
        rw [b_cl (by omega), e1]
        refine yes (by decide) ?_
        rw [← nI_succ]
        exact ih (i + 1) _ (by omega) q
      · rw [e, szN_nI (by omega)] at q
        rw [e1]
        exact kH i (by omega) s hs e1 hv s 0 _ (by omega) (ih (i + 1) _ (by omega) q)
  have kD : ∀ (z i : Nat) (h : Int64), i + z = 3 → Q (dgF mu (dgE mu (mxI (fun k => mu 2 (k + 1) 0) i z h))) mu la → Ev E (d + 3) mi_226 64 [some (.inr (.inr (some (7, 0)))), some (.inr (.inl h)), none, some (.inl (nI i)), none] [] (mem E mu la) (qL E Q) := by
    intro z
    induction z with
    | zero => intro i h hi q; exact vc_X7_digest_64 0 _ _ (yes (nI_le (a := 3) (by omega) (by omega)) (kE 6 0 _ rfl q))
    | succ z ih =>
      intro i h hi2 q
      refine vc_X7_digest_64 0 _ _ (noo (nI_ge (b := 3) (by omega) (by decide)) ⟨b_in rfl (by omega) (by decide), ?_⟩)
      unfold mxI at q
      rw [b_cl (by omega), ← nI_succ, show (369 : Int32) = nI 369 from rfl, b_370, b_cl (by omega)]
      rcases kx_cases (hd.2.2.2.2.2.2.2.2 i (by omega)) with ⟨e1, e2⟩ | ⟨x, hx, e1, e2, e3⟩
      · rw [e1] at q
        exact yes e2 (ih (i + 1) _ (by omega) q)
      · rw [e1] at q
        rw [e2, e3]
        exact noo b_x10 ⟨b_in rfl (by omega) (by decide), ih (i + 1) _ (by omega) q⟩
  have kC : ∀ (z i : Nat) (h : Int64), i + z = bN B → Q (dgF mu (dgE mu (dgD mu (mxI (fun p => oI (heldT (bN B) (rp B D m) (nI p))) i z h)))) mu la → Ev E (d + 3) mi_226 45 [some (.inr (.inr (some (7, 0)))), some (.inr (.inl h)), none, some (.inl (nI i)), none] [] (mem E mu la) (qL E Q) := by
    intro z
    induction z with
    | zero =>
      intro i h hi q
      refine vc_X7_digest_45 0 _ _ ?_
      rw [hM.1]
      exact yes (nI_le (by omega) (by omega)) (kD 3 0 _ rfl q)
    | succ z ih =>
      intro i h hi2 q
      refine vc_X7_digest_45 0 _ _ ?_
      rw [hM.1]
      refine noo (nI_ge (by omega) (by omega)) (s_heldBy hk38 (by decide) _ hn hM.1 (fun i h => hT.w h) ?_)
      rw [← nI_succ]
      exact ih (i + 1) _ (by omega) q
  have kI : ∀ (i : Nat), i < bN B → ∀ (z w : Nat) (h : Int64), w + z = 6 → Ev E (d + 3) mi_226 20 [some (.inr (.inr (some (7, 0)))), some (.inr (.inl (mxI (fun w => ofC B (rp B D m) i (nI w)) w z h))), none, some (.inl (nI (i + 1))), none] [] (mem E mu la) (qL E Q) → Ev E (d + 3) mi_226 26 [some (.inr (.inr (some (7, 0)))), some (.inr (.inl h)), none, some (.inl (nI i)), some (.inl (nI w))] [] (mem E mu la) (qL E Q) := by
    intro i hib z
    induction z with
    | zero =>
      intro w h hw q
      refine vc_X7_digest_26 0 _ _ _ (yes (nI_le (a := 6) (by omega) (by omega)) ?_)
      rw [← nI_succ]
      exact q
    | succ z ih =>
      intro w h hw q
      refine vc_X7_digest_26 0 _ _ _ (noo (nI_ge (b := 6) (by omega) (by decide)) ?_)
      refine s_told i (nI w) hd hib ?_
      rw [← nI_succ]
      exact ih (w + 1) _ (by omega) q
  have kB : ∀ (z i : Nat) (h : Int64), i + z = bN B → Q (dgF mu (dgE mu (dgD mu (dgC B (rp B D m) (mxO (fun i x => mxI (fun w => ofC B (rp B D m) i (nI w)) 0 6 x) i z h))))) mu la → Ev E (d + 3) mi_226 20 [some (.inr (.inr (some (7, 0)))), some (.inr (.inl h)), none, some (.inl (nI i)), none] [] (mem E mu la) (qL E Q) := by
    intro z
    induction z with
    | zero =>
      intro i h hi q
      refine vc_X7_digest_20 0 _ _ ?_
      rw [hM.1]
      exact yes (nI_le (by omega) (by omega)) (kC _ 0 _ (Nat.zero_add _) q)
    | succ z ih =>
      intro i h hi2 q
      refine vc_X7_digest_20 0 _ _ ?_
      rw [hM.1]
      refine noo (nI_ge (by omega) (by omega)) (kI i (by omega) 6 0 h rfl (ih (i + 1) _ (by omega) q))
  have kA : ∀ (z i : Nat) (h : Int64), i + z = 12 → Q (dgF mu (dgE mu (dgD mu (dgC B (rp B D m) (dgB B (rp B D m) (mxI (fun j => ofB mu B (rp B D m) m (nI j)) i z h)))))) mu la → Ev E (d + 3) mi_226 4 [some (.inr (.inr (some (7, 0)))), some (.inr (.inl h)), none, some (.inl (nI i)), none] [] (mem E mu la) (qL E Q) := by
    intro z
    induction z with
    | zero => intro i h hi q; exact vc_X7_digest_4 0 _ _ (yes (nI_le (a := 12) (by omega) (by omega)) (kB _ 0 _ (Nat.zero_add _) q))
    | succ z ih =>
      intro i h hi2 q
      refine vc_X7_digest_4 0 _ _ (noo (nI_ge (b := 12) (by omega) (by decide)) (s_counted i (by omega) hi hd ?_))
      rw [← nI_succ]
      exact ih (i + 1) _ (by omega) q
  exact vc_X7_digest (kA 12 0 _ rfl q)
theorem p_digest (h : Inv IB mu la) : PairL IB E (d + 3) mi_94 mi_226 [] mu la := by
  have hi := h
  obtain ⟨-, -, -, B, D, m, hd⟩ := h
  exact x_digest hi hd (m_digest hi hd ⟨rfl, hi⟩)
end DIG
