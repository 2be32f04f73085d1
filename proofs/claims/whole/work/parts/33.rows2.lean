section ROWT
variable {IB : fMu → Prop} {E : mEv} {d : Nat} {mu : fMu} {la : fLa} {Q : Int32 → fMu → fLa → Prop}
/-- a row's size on either side -/
theorem ir_cases (h : IR mu) {j : Nat} (hj : j < 6) : (mu 29 0 j = -1 ∧ mu 3 j 0 = -1) ∨ ∃ s : Nat, s ≤ 40 ∧ mu 29 0 j = nI s ∧ mu 3 j 0 = nI s ∧ ∀ x : Nat, x < s → mu 30 0 (40 * j + x) = mu 21 j x := by
  obtain ⟨g1, g2⟩ := h j hj
  rcases g2 with g2 | ⟨s, hs, e, g2⟩
  · exact Or.inl ⟨g1.trans g2, g2⟩
  · exact Or.inr ⟨s, hs, g1.trans e, e, g2⟩
theorem m_tear_bad (a : Int32) (h : ∀ j : Nat, j < 6 → a ≠ nI j) (q : Q (-1) mu la) : FnI E (d + 2) mi_140 [.inr (.inr (some (7, 0))), .inl a] mu la Q :=
  vc_X7_tear a (s_isRow a (fun j hj e => absurd e (h j hj)) (fun _ => ⟨fun z => absurd rfl z, fun _ => q⟩))
theorem m_tear_no (j : Nat) (hj : j < 6) (e : mu 29 0 j = -1) (q : Q (-3) (fdM mu 1) la) : FnI E (d + 2) mi_140 [.inr (.inr (some (7, 0))), .inl (nI j)] mu la Q := by
  refine vc_X7_tear (nI j) (s_isRow (nI j) (fun _ _ _ => ⟨fun _ => ⟨b_in rfl hj (by decide), ?_⟩, fun z => absurd b_x10 z⟩) (fun hn => absurd rfl (hn j hj)))
  rw [b_cl (by omega), e]
  exact ⟨fun z => absurd z b_n1, fun _ => s_foundM 1 (by decide) q⟩
theorem m_tear_ok (j : Nat) (hj : j < 6) (s : Nat) (hs : s ≤ 40) (e : mu 29 0 j = nI s) (q : Q 1 (up3 mu 29 0 j (-1)) la) : FnI E (d + 2) mi_140 [.inr (.inr (some (7, 0))), .inl (nI j)] mu la Q := by
  refine vc_X7_tear (nI j) (s_isRow (nI j) (fun _ _ _ => ⟨fun _ => ⟨b_in rfl hj (by decide), ?_⟩, fun z => absurd b_x10 z⟩) (fun hn => absurd rfl (hn j hj)))
  rw [b_cl (by omega), e]
  refine ⟨fun _ => ⟨b_in rfl hj (by decide), ?_⟩, fun z => absurd (b_np s (by omega)) z⟩
  rintro mu1 rfl
  exact q
theorem p_tear (hB : IBf IB) (h : Inv IB mu la) (a : Int32) : Pair IB E (d + 2) mi_53 mi_140 [.inl a] mu la := by
  refine vc_X6_tear a (s_rowOf a (fun j hj e => ?_) (fun hn => m_tear_bad a hn ⟨rfl, h⟩))
  subst e
  rcases ir_cases h.1 hj with ⟨e1, e2⟩ | ⟨s, hs, e1, e2, hv⟩
  · rw [e2]
    refine ⟨fun z => absurd z b_n1, fun _ => s_foundX 1 (by decide) (m_tear_no j hj ?_ ⟨rfl, h.fd hB (by decide)⟩)⟩
    exact e1
  · rw [e2]
    refine ⟨fun _ => ?_, fun z => absurd (b_np s (by omega)) z⟩
    rintro mu1 rfl
    refine m_tear_ok j hj s hs e1 ⟨rfl, ?_⟩
    obtain ⟨h1, h2, h3, h4⟩ := h
    refine ⟨fun r hr => ?_, h2.fr ((Fr.rf.u3 rfl).u3 rfl), h3.fr ((Fr.rf.u3 rfl).u3 rfl), hB _ _ ((Fr.rf.u3 rfl).u3 rfl) h4⟩
    obtain ⟨g1, g2⟩ := h1 r hr
    unfold up3
    by_cases hrj : r = j
    · subst hrj
      simp
    · simp only [hrj, true_and, and_true, if_true, reduceIte, Nat.reduceEqDiff, false_and, and_false]
      exact ⟨g1, g2⟩
theorem m_at_bad (a i : Int32) (h : ∀ j : Nat, j < 6 → a ≠ nI j) (q : Q (-1) mu la) : FnI E (d + 2) mi_139 [.inr (.inr (some (7, 0))), .inl a, .inl i] mu la Q :=
  vc_X7_at a i (s_isRow a (fun j hj e => absurd e (h j hj)) (fun _ => ⟨fun z => absurd rfl z, fun _ => q⟩))
theorem m_at_no (j : Nat) (hj : j < 6) (i : Int32) (e : mu 29 0 j = -1) (q : Q (-3) (fdM mu 1) la) : FnI E (d + 2) mi_139 [.inr (.inr (some (7, 0))), .inl (nI j), .inl i] mu la Q := by
  refine vc_X7_at (nI j) i (s_isRow (nI j) (fun _ _ _ => ⟨fun _ => ⟨b_in rfl hj (by decide), ?_⟩, fun z => absurd b_x10 z⟩) (fun hn => absurd rfl (hn j hj)))
  rw [b_cl (by omega), e]
  exact ⟨fun z => absurd z b_n1, fun _ => s_foundM 1 (by decide) q⟩
theorem m_at_out (j : Nat) (hj : j < 6) (i : Int32) (s : Nat) (hs : s ≤ 40) (e : mu 29 0 j = nI s) (hn : ∀ x : Nat, x < s → i ≠ nI x) (q : Q (-3) (fdM mu 2) la) : FnI E (d + 2) mi_139 [.inr (.inr (some (7, 0))), .inl (nI j), .inl i] mu la Q := by
  refine vc_X7_at (nI j) i (s_isRow (nI j) (fun _ _ _ => ⟨fun _ => ⟨b_in rfl hj (by decide), ?_⟩, fun z => absurd b_x10 z⟩) (fun hn => absurd rfl (hn j hj)))
  rw [b_cl (by omega), e]
  exact ⟨fun _ => ⟨b_in rfl hj (by decide), s_inI i s (by omega) (fun x hx ex => absurd ex (hn x hx)) (fun _ => ⟨fun _ => s_foundM 2 (by decide) q, fun z => absurd rfl z⟩)⟩, fun z => absurd (b_np s (by omega)) z⟩
theorem m_at_ok (j : Nat) (hj : j < 6) (x s : Nat) (hs : s ≤ 40) (hx : x < s) (e : mu 29 0 j = nI s) (q : Q 1 (up3 mu 7 0 17 (mu 30 0 (40 * j + x))) la) : FnI E (d + 2) mi_139 [.inr (.inr (some (7, 0))), .inl (nI j), .inl (nI x)] mu la Q := by
  refine vc_X7_at (nI j) (nI x) (s_isRow (nI j) (fun _ _ _ => ⟨fun _ => ⟨b_in rfl hj (by decide), ?_⟩, fun z => absurd b_x10 z⟩) (fun hn => absurd rfl (hn j hj)))
  rw [b_cl (by omega), e]
  refine ⟨fun _ => ⟨b_in rfl hj (by decide), s_inI (nI x) s (by omega) (fun x' hx' ex => ⟨fun z => absurd z b_x10, fun _ => ?_⟩) (fun hn => absurd rfl (hn x hx))⟩, fun z => absurd (b_np s (by omega)) z⟩
  rw [b_40, b_cl (by omega)]
  exact ⟨b_in rfl (by omega) (by decide), s_tell _ q⟩
theorem p_at (hB : IBf IB) (h : Inv IB mu la) (a i : Int32) : Pair IB E (d + 2) mi_52 mi_139 [.inl a, .inl i] mu la := by
  refine vc_X6_at a i (s_rowOf a (fun j hj e => ?_) (fun hn => m_at_bad a i hn ⟨rfl, h⟩))
  subst e
  rcases ir_cases h.1 hj with ⟨e1, e2⟩ | ⟨s, hs, e1, e2, hv⟩
  · rw [e2]
    exact ⟨fun z => absurd z b_n1, fun _ => s_foundX 1 (by decide) (m_at_no j hj i e1 ⟨rfl, h.fd hB (by decide)⟩)⟩
  · refine ⟨fun _ => s_hasPlace i s (by omega) e2 (fun x hx ex => ⟨fun _ => ⟨b_in ex (by omega) (by decide), ?_⟩, fun z => absurd b_x10 z⟩) (fun hn => ⟨fun z => absurd rfl z, fun _ => s_foundX 2 (by decide) (m_at_out j hj i s hs e1 hn ⟨rfl, h.fd hB (by decide)⟩)⟩), fun z => absurd (by rw [e2]; exact b_np s (by omega)) z⟩
    subst ex
    rw [b_cl (by omega)]
    rintro mu1 rfl
    refine m_at_ok j hj x s hs hx e1 ⟨rfl, ?_⟩
    obtain ⟨h1, h2, h3, h4⟩ := h
    refine ⟨h1.fr ((Fr.rf.u3 rfl).u3 rfl), h2.fr ((Fr.rf.u3 rfl).u3 rfl), ?_, hB _ _ ((Fr.rf.u3 rfl).u3 rfl) h4⟩
    obtain ⟨g1, g2, g3, g4⟩ := h3
    refine ⟨?_, ?_, fun w hw => ?_, g4⟩
    · unfold up3
      simp [hv x hx]
    · unfold up3
      simpa using g2
    · unfold up3
      simpa using g3 w hw
theorem m_lay_bad (a i v : Int32) (h : ∀ j : Nat, j < 6 → a ≠ nI j) (q : Q (-1) mu la) : FnI E (d + 2) mi_138 [.inr (.inr (some (7, 0))), .inl a, .inl i, .inl v] mu la Q :=
  vc_X7_lay a i v (s_isRow a (fun j hj e => absurd e (h j hj)) (fun _ => ⟨fun z => absurd rfl z, fun _ => q⟩))
theorem m_lay_no (j : Nat) (hj : j < 6) (i v : Int32) (e : mu 29 0 j = -1) (q : Q (-3) (fdM mu 1) la) : FnI E (d + 2) mi_138 [.inr (.inr (some (7, 0))), .inl (nI j), .inl i, .inl v] mu la Q := by
  refine vc_X7_lay (nI j) i v (s_isRow (nI j) (fun _ _ _ => ⟨fun _ => ⟨b_in rfl hj (by decide), ?_⟩, fun z => absurd b_x10 z⟩) (fun hn => absurd rfl (hn j hj)))
  rw [b_cl (by omega), e]
  exact ⟨fun z => absurd z b_n1, fun _ => s_foundM 1 (by decide) q⟩
theorem m_lay_out (j : Nat) (hj : j < 6) (i v : Int32) (s : Nat) (hs : s ≤ 40) (e : mu 29 0 j = nI s) (hn : ∀ x : Nat, x < s → i ≠ nI x) (q : Q (-3) (fdM mu 2) la) : FnI E (d + 2) mi_138 [.inr (.inr (some (7, 0))), .inl (nI j), .inl i, .inl v] mu la Q := by
  refine vc_X7_lay (nI j) i v (s_isRow (nI j) (fun _ _ _ => ⟨fun _ => ⟨b_in rfl hj (by decide), ?_⟩, fun z => absurd b_x10 z⟩) (fun hn => absurd rfl (hn j hj)))
  rw [b_cl (by omega), e]
  exact ⟨fun _ => ⟨b_in rfl hj (by decide), s_inI i s (by omega) (fun x hx ex => absurd ex (hn x hx)) (fun _ => ⟨fun z => absurd rfl z, fun _ => s_foundM 2 (by decide) q⟩)⟩, fun z => absurd (b_np s (by omega)) z⟩
theorem m_lay_ok (j : Nat) (hj : j < 6) (v : Int32) (x s : Nat) (hs : s ≤ 40) (hx : x < s) (e : mu 29 0 j = nI s) (q : Q 1 (up3 (up3 mu 30 0 (40 * j + x) v) 7 0 17 (mu 30 0 (40 * j + x))) la) : FnI E (d + 2) mi_138 [.inr (.inr (some (7, 0))), .inl (nI j), .inl (nI x), .inl v] mu la Q := by
  refine vc_X7_lay (nI j) (nI x) v (s_isRow (nI j) (fun _ _ _ => ⟨fun _ => ⟨b_in rfl hj (by decide), ?_⟩, fun z => absurd b_x10 z⟩) (fun hn => absurd rfl (hn j hj)))
  rw [b_cl (by omega), e]
  refine ⟨fun _ => ⟨b_in rfl hj (by decide), s_inI (nI x) s (by omega) (fun x' hx' ex => ⟨fun _ => ?_, fun z => absurd b_x10 z⟩) (fun hn => absurd rfl (hn x hx))⟩, fun z => absurd (b_np s (by omega)) z⟩
  rw [b_40, b_cl (by omega)]
  refine ⟨b_in rfl (by omega) (by decide), b_in rfl (by omega) (by decide), ?_⟩
  rintro mu1 rfl
  exact s_tell _ q
theorem p_lay (hB : IBf IB) (h : Inv IB mu la) (a i v : Int32) : Pair IB E (d + 2) mi_51 mi_138 [.inl a, .inl i, .inl v] mu la := by
  refine vc_X6_lay a i v (s_rowOf a (fun j hj e => ?_) (fun hn => m_lay_bad a i v hn ⟨rfl, h⟩))
  subst e
  rcases ir_cases h.1 hj with ⟨e1, e2⟩ | ⟨s, hs, e1, e2, hv⟩
  · rw [e2]
    exact ⟨fun z => absurd z b_n1, fun _ => s_foundX 1 (by decide) (m_lay_no j hj i v e1 ⟨rfl, h.fd hB (by decide)⟩)⟩
  · refine ⟨fun _ => s_hasPlace i s (by omega) e2 (fun x hx ex => ⟨fun _ => ⟨b_in ex (by omega) (by decide), ?_⟩, fun z => absurd b_x10 z⟩) (fun hn => ⟨fun z => absurd rfl z, fun _ => s_foundX 2 (by decide) (m_lay_out j hj i v s hs e1 hn ⟨rfl, h.fd hB (by decide)⟩)⟩), fun z => absurd (by rw [e2]; exact b_np s (by omega)) z⟩
    subst ex
    rw [b_cl (by omega)]
    rintro mu1 rfl
    refine ⟨b_in rfl (by omega) (by decide), ?_⟩
    rintro mu2 rfl
    refine m_lay_ok j hj v x s hs hx e1 ⟨rfl, ?_⟩
    obtain ⟨h1, h2, h3, h4⟩ := h
    refine ⟨fun r hr => ?_, h2.fr ((((Fr.rf.u3 rfl).u3 rfl).u3 rfl).u3 rfl), ?_, hB _ _ ((((Fr.rf.u3 rfl).u3 rfl).u3 rfl).u3 rfl) h4⟩
    · obtain ⟨g1, g2⟩ := h1 r hr
      unfold up3
      by_cases hrj : r = j
      · subst hrj
        simp only [true_and, and_true, if_true, reduceIte, Nat.reduceEqDiff, false_and, and_false]
        refine ⟨g1, Or.inr ⟨s, hs, e2, fun y hy => ?_⟩⟩
        by_cases hxy : y = x
        · subst hxy
          rw [if_pos rfl, if_pos rfl]
        · rw [if_neg (by omega), if_neg hxy]
          exact hv y hy
      · simp only [hrj, true_and, and_true, if_true, reduceIte, Nat.reduceEqDiff, false_and, and_false]
        refine ⟨g1, ?_⟩
        rcases g2 with g2 | ⟨s', hs', e', g2⟩
        · exact Or.inl g2
        · refine Or.inr ⟨s', hs', e', fun y hy => ?_⟩
          rw [if_neg (by omega)]
          exact g2 y hy
    · obtain ⟨g1, g2, g3, g4⟩ := h3
      refine ⟨?_, ?_, fun w hw => ?_, g4⟩
      · unfold up3
        simp [hv x hx]
      · unfold up3
        simpa using g2
      · unfold up3
        simpa using g3 w hw
end ROWT
