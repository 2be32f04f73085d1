section ASKB
variable {E : mEv} {d : Nat} {mu : fMu} {la : fLa} {Q : Int32 → fMu → fLa → Prop} {B : tB} {D : Nat → Nat × Nat × Nat} {m : Nat}
/-- an int in a small span, by the model's in() -/
theorem s_inS (a : Int32) (lo hi : Nat) (hl : lo < 1000) (hh : hi < 1000) (h1 : ∀ j : Nat, lo ≤ j → j ≤ hi → a = nI j → Q 1 mu la) (h0 : (∀ j : Nat, lo ≤ j → j ≤ hi → a ≠ nI j) → Q 0 mu la) : FnI E d mi_129 [.inr (.inl a.toInt64), .inr (.inl ((nI lo).toInt64)), .inr (.inl ((nI hi).toInt64))] mu la Q := by
  refine s_in _ _ _ (fun hc => ?_) (fun hc => h0 (fun j h2 h3 e => hc ?_))
  · have e1 : nI lo ≤ a := (b_w _ _).mp hc.1
    have e2 : a ≤ nI hi := (b_w _ _).mp hc.2
    rcases b_ix a (hi + 1) (by omega) with ⟨j, hj, e⟩ | ⟨z | z, -⟩
    · refine h1 j ?_ (by omega) e
      rw [e, nI_leI (by omega) (by omega)] at e1
      exact e1
    · exact absurd (Int32.le_trans (b_np lo (by omega)) e1) (Int32.not_le.mpr z)
    · have z2 := Int32.le_trans z e2
      rw [nI_leI (by omega) (by omega)] at z2
      omega
  · subst e
    exact ⟨(b_w _ _).mpr (nI_le h2 (by omega)), (b_w _ _).mpr (nI_le h3 (by omega))⟩
/-- the class's two comparisons -/
theorem b_span {A C : Prop} (a : Int32) (lo hi : Nat) (hl : lo < 1000) (hh : hi < 1000) (h1 : ∀ j : Nat, lo ≤ j → j ≤ hi → a = nI j → A) (h0 : (∀ j : Nat, lo ≤ j → j ≤ hi → a ≠ nI j) → C) : (a < nI lo → C) ∧ (¬ (a < nI lo) → ((a ≤ nI hi → A) ∧ (¬ (a ≤ nI hi) → C))) := by
  refine ⟨fun hc => h0 (fun j h2 h3 e => ?_), fun hc => ⟨fun hd => ?_, fun hd => h0 (fun j h2 h3 e => ?_)⟩⟩
  · rw [e] at hc
    exact nI_nlt h2 (by omega) hc
  · have e1 : nI lo ≤ a := Int32.not_lt.mp hc
    rcases b_ix a (hi + 1) (by omega) with ⟨j, hj, e⟩ | ⟨z | z, -⟩
    · refine h1 j ?_ (by omega) e
      rw [e, nI_leI (by omega) (by omega)] at e1
      exact e1
    · exact absurd (Int32.le_trans (b_np lo (by omega)) e1) (Int32.not_le.mpr z)
    · have z2 := Int32.le_trans z hd
      rw [nI_leI (by omega) (by omega)] at z2
      omega
  · rw [e] at hd
    exact hd (nI_le h3 (by omega))
theorem b_spanG {A C : Prop} (a : Int32) (lo hi : Nat) (hl : lo < 1000) (hh : hi < 1000) (h1 : ∀ j : Nat, lo ≤ j → j ≤ hi → a = nI j → A) (h0 : (∀ j : Nat, lo ≤ j → j ≤ hi → a ≠ nI j) → C) : (a < nI lo → C) ∧ (¬ (a < nI lo) → ((nI hi < a → C) ∧ (¬ (nI hi < a) → A))) := by
  obtain ⟨g1, g2⟩ := b_span a lo hi hl hh h1 h0
  exact ⟨g1, fun h => ⟨fun z => (g2 h).2 (Int32.not_le.mpr z), fun z => (g2 h).1 (Int32.not_lt.mp z)⟩⟩
theorem m_mark_bad (a w : Int32) (hi : Inv IB mu la) (hd : IBd B D m mu) (h : (∀ j : Nat, j < bN B → a ≠ nI j) ∨ ∀ j : Nat, 1 ≤ j → j ≤ 5 → w ≠ nI j) : FnI E (d + 3) mi_172 [.inr (.inr (some (7, 0))), .inl a, .inl w] mu la (fun r2 mu2 la2 => (-1 : Int32) = r2 ∧ Inv IB mu2 la2) := by
  refine vc_X7_mark _ _ (s_isCup hd.1.1 _ hd.2.2.2.2.2.1.1 (fun j hj e => noo b_x10 (s_inS w 1 5 (by decide) (by decide) (fun x h1 h2 ex => ?_) (fun _ => noo (fun z => z rfl) ⟨rfl, hi⟩))) (fun _ => yes rfl ⟨rfl, hi⟩))
  rcases h with h | h
  · exact absurd e (h j hj)
  · exact absurd ex (h x h1 h2)
theorem b_lit {w : Nat} (hw : w < 1000) (n : Nat) (hn : n < 1000) : nI w = nI n ↔ w = n := nI_eq (by omega) (by omega)
theorem p_mark (h : Inv IB mu la) (a w : Int32) : Pair IB E (d + 3) mi_61 mi_172 [.inl a, .inl w] mu la := by
  have hi := h
  obtain ⟨-, -, -, B, D, m, hd⟩ := h
  have hn := hd.1.1
  have hb := hd.1
  have hX := hd.2.2.1
  have hM := hd.2.2.2.2.2.1
  refine vc_X6_mark a w (s_cHas a (by omega) hX.1 (fun j hj e => noo b_x10 (b_span w 1 5 (by decide) (by decide) (fun x x1 x5 ex => ?_) (fun hno => m_mark_bad a w hi hd (Or.inr hno)))) (fun hno => yes rfl (m_mark_bad a w hi hd (Or.inl hno))))
  subst e
  subst ex
  have hk := (hb.2.2 j hj).1
  have hs1 := (hb.2.2 j hj).2.1
  have hs2 := (hb.2.2 j hj).2.2.1
  obtain ⟨g1, g2, g3, g4, g5, g6, g7, g8⟩ := hX.2.2.2 j hj
  obtain ⟨f1, f2, f3, f4, f5⟩ := hM.2.2 j hj
  have hin : vp_in (nI j) 6 := b_in rfl (by omega) (by decide)
  refine ⟨hin, ?_⟩
  rw [b_cl (by omega), g1]
  have start : ∀ {Q : Int32 → fMu → fLa → Prop} (mu' : fMu), IBd B D m mu' → (ofK (bK B j) x = true → ((nI x = 1 → (FnI E (d + 2) mi_171 [.inr (.inr (some (7, 0))), .inl (nI j), .inl (1 : Int32)] mu' la Q)) ∧ (¬ nI x = 1 → ((nI x = 2 → (FnI E (d + 2) mi_171 [.inr (.inr (some (7, 0))), .inl (nI j), .inl (0 : Int32)] mu' la Q)) ∧ (¬ nI x = 2 → ((nI x = 3 → (FnI E (d + 2) mi_170 [.inr (.inr (some (7, 0))), .inl (nI j)] mu' la (fun x16 mu17 la18 => FnI E (d + 2) mi_131 [.inl x16] mu17 la18 Q))) ∧ (¬ nI x = 3 → ((nI x = 4 → (FnI E (d + 2) mi_157 [.inl (4 : Int32), .inl (nI (bS B j)), .inl (1 : Int32)] mu' la Q)) ∧ (¬ nI x = 4 → (FnI E (d + 2) mi_157 [.inl (2 : Int32), .inl (nI (bS B j)), .inl (0 : Int32)] mu' la Q)))))))))) → (ofK (bK B j) x = false → FnI E (d + 2) mi_132 [.inr (.inr (some (7, 0))), .inl (3 : Int32)] mu' la Q) → FnI E (d + 3) mi_172 [.inr (.inr (some (7, 0))), .inl (nI j), .inl (nI x)] mu' la Q := by
    intro Q mu' hd' q1 q0
    have hM' := hd'.2.2.2.2.2.1
    obtain ⟨f1, f2, f3, f4, f5⟩ := hM'.2.2 j hj
    refine vc_X7_mark _ _ (s_isCup hn _ hM'.1 (fun _ _ _ => noo b_x10 (s_inS (nI x) 1 5 (by decide) (by decide) (fun _ _ _ _ => yes b_x10 ⟨hin, ?_⟩) (fun hno => absurd rfl (hno x x1 x5)))) (fun hno => absurd rfl (hno j hj)))
    rw [b_cl (by omega), f1]
    refine s_isOfM _ _ (by omega) x1 (by omega) (bnz (fun ho => ?_) (fun ho => q0 ho))
    obtain ⟨r1, r2⟩ := q1 ho
    refine ⟨r1, fun n1 => ⟨(r2 n1).1, fun n2 => ⟨((r2 n1).2 n2).1, fun n3 => ⟨fun n4 => ⟨hin, ?_⟩, fun n4 => ⟨hin, ?_⟩⟩⟩⟩⟩
    · rw [f2]; exact (((r2 n1).2 n2).2 n3).1 n4
    · rw [f2]; exact (((r2 n1).2 n2).2 n3).2 n4
  refine s_isOfX _ _ (by omega) x1 (by omega) (bnz (fun ho => ?_) (fun ho => s_foundX 3 (by decide) (start _ (hd.fr ((Fr.rf.u3 rfl).u3 rfl)) (fun z => by rw [ho] at z; cases z) (fun _ => s_foundM 3 (by decide) ⟨rfl, hi.fd ibf (by decide)⟩))))
  have hx : x = 1 ∨ x = 2 ∨ x = 3 ∨ x = 4 ∨ x = 5 := by omega
  rcases hx with rfl | rfl | rfl | rfl | rfl
  · refine yes rfl (s_othersMilkX j hd hj (start mu hd (fun _ => yes rfl (s_othersM j true hd hj ⟨rfl, hi⟩)) (fun z => by rw [ho] at z; cases z)))
  · refine noo (by decide) (yes rfl (s_othersLongX j hd hj (start mu hd (fun _ => noo (by decide) (yes rfl (s_othersM j false hd hj ⟨rfl, hi⟩))) (fun z => by rw [ho] at z; cases z))))
  · refine noo (by decide) (noo (by decide) (yes rfl ⟨hin, ?_⟩))
    rw [g6]
    exact s_bitCount _ (bits64 _ hn) (start mu hd (fun _ => noo (by decide) (noo (by decide) (yes rfl (s_whoseOf j hb hj hM (s_bits _ (bits64 _ hn) ⟨rfl, hi⟩))))) (fun z => by rw [ho] at z; cases z))
  · refine noo (by decide) (noo (by decide) (noo (by decide) (yes rfl ⟨hin, ?_⟩)))
    have hk4 : bK B j = 4 := by simpa [ofK] using ho
    rw [g8, hk4]
    exact start mu hd (fun _ => noo (by decide) (noo (by decide) (noo (by decide) (yes rfl (s_takesAs 4 _ true (by decide) hs1 (by omega) ⟨rfl, hi⟩))))) (fun z => by rw [ho] at z; cases z)
  · refine noo (by decide) (noo (by decide) (noo (by decide) (noo (by decide) ⟨hin, ?_⟩)))
    rw [g2]
    exact s_teaTime _ hs1 (by omega) (start mu hd (fun _ => noo (by decide) (noo (by decide) (noo (by decide) (noo (by decide) (s_takesAs 2 _ false (by decide) hs1 (by omega) ⟨rfl, hi⟩))))) (fun z => by rw [ho] at z; cases z))
/-! kinds -/
theorem p_kinds (h : Inv IB mu la) (a w z : Int32) : Pair IB E (d + 3) mi_83 mi_205 [.inl a, .inl w, .inl z] mu la := by
  have hi := h
  obtain ⟨-, -, -, B, D, m, hd⟩ := h
  have hn := hd.1.1
  have hb := hd.1
  have hX := hd.2.2.1
  have hM := hd.2.2.2.2.2.1
  have hbad : (∀ j : Nat, j < bN B → a ≠ nI j) ∨ (∀ j : Nat, 0 ≤ j → j ≤ 99 → w ≠ nI j) ∨ (∀ j : Nat, 0 ≤ j → j ≤ 1 → z ≠ nI j) → FnI E (d + 3) mi_205 [.inr (.inr (some (7, 0))), .inl a, .inl w, .inl z] mu la (fun r2 mu2 la2 => (-1 : Int32) = r2 ∧ Inv IB mu2 la2) := by
    intro hc
    refine vc_X7_kinds _ _ _ (s_isCup hn _ hM.1 (fun j hj e => noo b_x10 (s_inS w 0 99 (by decide) (by decide) (fun x h1 h2 ex => noo b_x10 (s_inS z 0 1 (by decide) (by decide) (fun y y1 y2 ey => ?_) (fun _ => noo (fun q => q rfl) ⟨rfl, hi⟩))) (fun _ => yes rfl ⟨rfl, hi⟩))) (fun _ => yes rfl ⟨rfl, hi⟩))
    rcases hc with hc | hc | hc
    · exact absurd e (hc j hj)
    · exact absurd ex (hc x h1 h2)
    · exact absurd ey (hc y y1 y2)
  refine vc_X6_kinds a w z (s_cHas a (by omega) hX.1 (fun j hj e => noo b_x10 (b_spanG w 0 99 (by decide) (by decide) (fun x x1 x9 ex => b_span z 0 1 (by decide) (by decide) (fun y y1 y2 ey => ?_) (fun hno => hbad (Or.inr (Or.inr hno)))) (fun hno => hbad (Or.inr (Or.inl hno))))) (fun hno => yes rfl (hbad (Or.inl hno))))
  subst e
  subst ex
  have hs1 := (hb.2.2 j hj).2.1
  have hs2 := (hb.2.2 j hj).2.2.1
  obtain ⟨g1, g2, g3, g4, g5, g6, g7, g8⟩ := hX.2.2.2 j hj
  obtain ⟨f1, f2, f3, f4, f5⟩ := hM.2.2 j hj
  have hin : vp_in (nI j) 6 := b_in rfl (by omega) (by decide)
  obtain ⟨bm, hbm⟩ : ∃ b : Bool, z = bI b := by
    have : y = 0 ∨ y = 1 := by omega
    rcases this with rfl | rfl
    · exact ⟨false, ey⟩
    · exact ⟨true, ey⟩
  subst hbm
  have tk : ∀ k, k < 6 → takes k (bS B j) bm < 1000 := fun k hk => by have := takes_le k hk (bS B j) (by omega) bm; omega
  refine lpU (P := fun k => Ev E (d + 3) mi_83 21 [some (.inr (.inr (some (6, 0)))), some (.inl (nI j)), some (.inl (nI x)), some (.inl (bI bm)), some (.inl (nI (bitsOf (fun k => decide (takes k (bS B j) bm = x)) k))), some (.inl (nI k))] [] (mem E mu la) (qI E _)) (n := 6) ?_ ?_ 0 (Nat.zero_le _)
  · refine vc_X6_kinds_21 0 _ _ _ _ _ (yes (by decide) ?_)
    refine vc_X7_kinds _ _ _ (s_isCup hn _ hM.1 (fun _ _ _ => noo b_x10 (s_inS (nI x) 0 99 (by decide) (by decide) (fun _ _ _ _ => noo b_x10 (s_inS (bI bm) 0 1 (by decide) (by decide) (fun _ _ _ _ => yes b_x10 ?_) (fun hno => ?_))) (fun hno => absurd rfl (hno x x1 x9)))) (fun hno => absurd rfl (hno j hj)))
    · refine lpU (P := fun k => Ev E (d + 3) mi_205 22 [some (.inr (.inr (some (7, 0)))), some (.inl (nI j)), some (.inl (nI x)), some (.inl (bI bm)), some (.inl (nI (bitsOf (fun k => decide (takes k (bS B j) bm = x)) k))), some (.inl (nI k))] [] (mem E mu la) (qI E _)) (n := 6) ?_ ?_ 0 (Nat.zero_le _)
      · exact vc_X7_kinds_22 0 _ _ _ _ _ (yes (by decide) ⟨rfl, hi⟩)
      · intro k hk ih
        refine vc_X7_kinds_22 0 _ _ _ _ _ (noo (nI_ge (b := 6) hk (by decide)) ⟨hin, ?_⟩)
        rw [b_cl (by omega), f2, b_or0, ← nI_succ, b_sh k (by omega), b_or]
        unfold bitsOf at ih
        have fin : ∀ {A C : Prop}, (takes k (bS B j) bm ≠ x → A) → (takes k (bS B j) bm = x → C) → (¬ nI (takes k (bS B j) bm) = nI x → A) ∧ (¬ (¬ nI (takes k (bS B j) bm) = nI x) → C) := by
          intro A C p1 p2
          by_cases hc : takes k (bS B j) bm = x
          · exact noo (fun q => q (by rw [hc])) (p2 hc)
          · exact yes (fun q => hc ((b_lit (tk k hk) x (by omega)).mp q)) (p1 hc)
        cases bm
        · refine yes (by decide) (s_takesAs k _ false (by omega) hs1 (by omega) (fin (fun hc => ?_) (fun hc => ?_)))
          · simp only [hc, decide_false, Bool.false_eq_true, if_false, Nat.or_zero] at ih
            exact ih
          · simp only [hc, decide_true, if_true] at ih
            exact ih
        · refine noo (fun q => q rfl) (s_takesAs k _ true (by omega) hs1 (by omega) (fin (fun hc => ?_) (fun hc => ?_)))
          · simp only [hc, decide_false, Bool.false_eq_true, if_false, Nat.or_zero] at ih
            exact ih
          · simp only [hc, decide_true, if_true] at ih
            exact ih
    · cases bm
      · exact absurd rfl (hno 0 (by decide) (by decide))
      · exact absurd rfl (hno 1 (by decide) (by decide))
  · intro k hk ih
    refine vc_X6_kinds_21 0 _ _ _ _ _ (noo (nI_nlt (a := 5) (b := k) (by omega) (by decide)) ⟨hin, ?_⟩)
    rw [b_cl (by omega), g2, ← nI_succ, b_sh k (by omega), b_or]
    unfold bitsOf at ih
    have fin : ∀ {A C : Prop}, (takes k (bS B j) bm ≠ x → A) → (takes k (bS B j) bm = x → C) → (¬ nI (takes k (bS B j) bm) = nI x → A) ∧ (¬ (¬ nI (takes k (bS B j) bm) = nI x) → C) := by
      intro A C p1 p2
      by_cases hc : takes k (bS B j) bm = x
      · exact noo (fun q => q (by rw [hc])) (p2 hc)
      · exact yes (fun q => hc ((b_lit (tk k hk) x (by omega)).mp q)) (p1 hc)
    cases bm
    · refine yes (by decide) (s_timeOf k _ false (by omega) hs1 (by omega) (fin (fun hc => ?_) (fun hc => ?_)))
      · simp only [hc, decide_false, Bool.false_eq_true, if_false, Nat.or_zero] at ih
        exact ih
      · simp only [hc, decide_true, if_true] at ih
        exact ih
    · refine noo (fun q => q rfl) (s_timeOf k _ true (by omega) hs1 (by omega) (fin (fun hc => ?_) (fun hc => ?_)))
      · simp only [hc, decide_false, Bool.false_eq_true, if_false, Nat.or_zero] at ih
        exact ih
      · simp only [hc, decide_true, if_true] at ih
        exact ih
end ASKB
