section TEXTS
variable {IB : fMu → Prop} {E : mEv} {d : Nat} {mu : fMu} {la : fLa} {Q : Int32 → fMu → fLa → Prop}
theorem it_cases (h : IT mu) {j : Nat} (hj : j < 4) : (mu 31 0 j = -1 ∧ mu 5 j 0 = -1) ∨ ∃ s : Nat, s ≤ 60 ∧ mu 31 0 j = nI s ∧ mu 5 j 0 = nI s ∧ ∀ x : Nat, x < s → mu 32 0 (60 * j + x) = mu 24 j x := by
  obtain ⟨g1, g2⟩ := h j hj
  rcases g2 with g2 | ⟨s, hs, e, g2⟩
  · exact Or.inl ⟨g1.trans g2, g2⟩
  · exact Or.inr ⟨s, hs, g1.trans e, e, g2⟩
theorem s_hasByte {c : Nat} (a : Int32) (s : Nat) (hs : s < 1000) (e0 : mu 5 c 0 = nI s) (h1 : ∀ j : Nat, j < s → a = nI j → Q 1 mu la) (h0 : (∀ j : Nat, j < s → a ≠ nI j) → Q 0 mu la) : FnI E d mi_44 [.inr (.inr (some (5, c))), .inl a] mu la Q := by
  refine vc_X5_hasByte a ?_
  rw [e0]
  rcases b_ix a s (by omega) with ⟨j, hj, e⟩ | ⟨h, hn⟩
  · subst e
    exact ⟨fun hc => absurd hc (nI_pos (by omega)), fun _ => ⟨fun hc => absurd hc (nI_ge hj (by omega)), fun _ => h1 j hj rfl⟩⟩
  · refine ⟨fun _ => h0 hn, fun hc => ⟨fun _ => h0 hn, fun hd => ?_⟩⟩
    rcases h with h | h
    · exact absurd h hc
    · exact absurd h hd
theorem m_text_bad (a n : Int32) (h : (∀ j : Nat, j < 4 → a ≠ nI j) ∨ ¬ n ≤ 60) (q : Q (-1) mu la) : FnI E (d + 2) mi_143 [.inr (.inr (some (7, 0))), .inl a, .inl n] mu la Q := by
  refine vc_X7_text a n (s_isText a (fun j hj e => ⟨fun z => absurd z b_x10, fun _ => ⟨fun z => ?_, fun _ => q⟩⟩) (fun _ => ⟨fun _ => q, fun z => absurd rfl z⟩))
  rcases h with h | h
  · exact absurd e (h j hj)
  · exact absurd z h
theorem m_text_neg (j : Nat) (hj : j < 4) (n : Int32) (h : ¬ 0 ≤ n) (q : Q (-3) (fdM mu 5) la) : FnI E (d + 2) mi_143 [.inr (.inr (some (7, 0))), .inl (nI j), .inl n] mu la Q := by
  have h40 : n ≤ 60 := by
    rcases Int32.lt_or_le 60 n with z | z
    · exact absurd (Int32.le_of_lt (Int32.lt_trans (show (0 : Int32) < 60 by decide) z)) h
    · exact z
  exact vc_X7_text (nI j) n (s_isText (nI j) (fun _ _ _ => ⟨fun z => absurd z b_x10, fun _ => ⟨fun _ => ⟨fun z => absurd z h, fun _ => s_foundM 5 (by decide) q⟩, fun z => absurd h40 z⟩⟩) (fun hn => absurd rfl (hn j hj)))
def txM (mu : fMu) (j s : Nat) : fMu := up2 (up3 mu 31 0 j (nI s)) 32 0 (fun x => if 60 * j ≤ x ∧ x < 60 * j + 60 then 32 else mu 32 0 x)
theorem m_text_ok (j : Nat) (hj : j < 4) (s : Nat) (hs : s ≤ 60) (q : Q (nI s) (txM mu j s) la) : FnI E (d + 2) mi_143 [.inr (.inr (some (7, 0))), .inl (nI j), .inl (nI s)] mu la Q := by
  refine vc_X7_text (nI j) (nI s) (s_isText (nI j) (fun _ _ _ => ⟨fun z => absurd z b_x10, fun _ => ⟨fun _ => ⟨fun _ => ⟨b_in rfl hj (by decide), ?_⟩, fun z => absurd (b_np s (by omega)) z⟩, fun z => absurd (nI_le (a := s) (b := 60) hs (by decide)) z⟩⟩) (fun hn => absurd rfl (hn j hj)))
  rw [b_cl (by omega)]
  rintro mu1 rfl
  have key : ∀ (z i : Nat), i + z = 60 → Ev E (d + 2) mi_143 21 [some (.inr (.inr (some (7, 0)))), some (.inl (nI j)), some (.inl (nI s)), some (.inl (nI i))] [] (mem E (up2 (up3 mu 31 0 j (nI s)) 32 0 (fun x => if 60 * j ≤ x ∧ x < 60 * j + i then 32 else mu 32 0 x)) la) (qI E Q) := by
    intro z
    induction z with
    | zero =>
      intro i hi
      refine vc_X7_text_21 0 (nI j) (nI s) (nI i) ⟨fun _ => ?_, fun hc => absurd (nI_le (a := 60) (b := i) (by omega) (by omega)) hc⟩
      rw [show i = 60 by omega]
      exact q
    | succ z ih =>
      intro i hi
      refine vc_X7_text_21 0 (nI j) (nI s) (nI i) ⟨fun hc => absurd hc (nI_ge (a := i) (b := 60) (by omega) (by decide)), fun _ => ?_⟩
      rw [b_60]
      refine ⟨b_in rfl (by omega) (by decide), ?_⟩
      rintro mu1 rfl
      rw [b_cl (by omega), up3_up2, ← nI_succ]
      have h1 := ih (i + 1) (by omega)
      rw [up2_congr (g := fun j' => if j' = 60 * j + i then 32 else if 60 * j ≤ j' ∧ j' < 60 * j + i then 32 else mu 32 0 j') _ 32 0 ?_] at h1
      · exact h1
      · intro x
        by_cases h1 : x = 60 * j + i
        · rw [if_pos (by omega), if_pos h1]
        · by_cases h2 : 60 * j ≤ x ∧ x < 60 * j + i
          · rw [if_pos (by omega), if_neg h1, if_pos h2]
          · rw [if_neg (by omega), if_neg h1, if_neg h2]
  have h0 := key 60 0 (by omega)
  rw [up2_id _ 32 0 _ (fun x => (if_neg (by omega)).trans (if_neg (fun z => absurd z.1 (by decide))).symm)] at h0
  exact h0
theorem p_text (hB : IBf IB) (h : Inv IB mu la) (a n : Int32) : Pair IB E (d + 2) mi_56 mi_143 [.inl a, .inl n] mu la := by
  refine vc_X6_text a n (s_textOf a (fun j hj e => ⟨fun h40 => ⟨fun h0 => ?_, fun h0 => ?_⟩, fun h40 => ?_⟩) (fun hn => ?_))
  · subst e
    obtain ⟨s, hs, e⟩ : ∃ s : Nat, s ≤ 60 ∧ n = nI s := by
      rcases b_ix n 61 (by decide) with ⟨s, hs, e⟩ | ⟨z | z, -⟩
      · exact ⟨s, by omega, e⟩
      · exact absurd h0 (Int32.not_le.mpr z)
      · exact absurd (Int32.le_trans z h40) (by decide)
    subst e
    rintro mu1 rfl
    refine s_bfill (n := 60) 32 rfl (by decide) (by decide) (m_text_ok j hj s hs ⟨rfl, ?_⟩)
    obtain ⟨h1, h2, h3, h4⟩ := h
    refine ⟨h1.fr ((((Fr.rf.u3 rfl).u2 (fun _ => rfl)).u3 rfl).u2 (fun _ => rfl)), fun r hr => ?_, h3.fr ((((Fr.rf.u3 rfl).u2 (fun _ => rfl)).u3 rfl).u2 (fun _ => rfl)), hB _ _ ((((Fr.rf.u3 rfl).u2 (fun _ => rfl)).u3 rfl).u2 (fun _ => rfl)) h4⟩
    obtain ⟨g1, g2⟩ := h2 r hr
    unfold txM up2 up3
    by_cases hrj : r = j
    · subst hrj
      simp only [true_and, and_true, if_true, reduceIte, Nat.reduceEqDiff, false_and, and_false]
      refine Or.inr ⟨s, hs, rfl, fun x hx => ?_⟩
      rw [if_pos (by omega), if_pos (by omega)]
      decide
    · simp only [hrj, true_and, and_true, if_true, reduceIte, Nat.reduceEqDiff, false_and, and_false]
      refine ⟨g1, ?_⟩
      rcases g2 with g2 | ⟨s', hs', e', g2⟩
      · exact Or.inl g2
      · refine Or.inr ⟨s', hs', e', fun x hx => ?_⟩
        rw [if_neg (by omega)]
        exact g2 x hx
  · subst e
    exact s_foundX 5 (by decide) (m_text_neg j hj n h0 ⟨rfl, h.fd hB (by decide)⟩)
  · exact m_text_bad a n (Or.inr h40) ⟨rfl, h⟩
  · exact m_text_bad a n (Or.inl hn) ⟨rfl, h⟩
theorem m_put_bad (a i v : Int32) (h : ∀ j : Nat, j < 4 → a ≠ nI j) (q : Q (-1) mu la) : FnI E (d + 2) mi_144 [.inr (.inr (some (7, 0))), .inl a, .inl i, .inl v] mu la Q :=
  vc_X7_put a i v (s_isText a (fun j hj e => absurd e (h j hj)) (fun _ => ⟨fun z => absurd rfl z, fun _ => q⟩))
theorem m_put_no (j : Nat) (hj : j < 4) (i v : Int32) (e : mu 31 0 j = -1) (q : Q (-3) (fdM mu 1) la) : FnI E (d + 2) mi_144 [.inr (.inr (some (7, 0))), .inl (nI j), .inl i, .inl v] mu la Q := by
  refine vc_X7_put (nI j) i v (s_isText (nI j) (fun _ _ _ => ⟨fun _ => ⟨b_in rfl hj (by decide), ?_⟩, fun z => absurd b_x10 z⟩) (fun hn => absurd rfl (hn j hj)))
  rw [b_cl (by omega), e]
  exact ⟨fun z => absurd z b_n1, fun _ => s_foundM 1 (by decide) q⟩
theorem m_put_out (j : Nat) (hj : j < 4) (i v : Int32) (s : Nat) (hs : s ≤ 60) (e : mu 31 0 j = nI s) (hn : ∀ x : Nat, x < s → i ≠ nI x) (q : Q (-3) (fdM mu 2) la) : FnI E (d + 2) mi_144 [.inr (.inr (some (7, 0))), .inl (nI j), .inl i, .inl v] mu la Q := by
  refine vc_X7_put (nI j) i v (s_isText (nI j) (fun _ _ _ => ⟨fun _ => ⟨b_in rfl hj (by decide), ?_⟩, fun z => absurd b_x10 z⟩) (fun hn => absurd rfl (hn j hj)))
  rw [b_cl (by omega), e]
  exact ⟨fun _ => ⟨b_in rfl hj (by decide), s_inI i s (by omega) (fun x hx ex => absurd ex (hn x hx)) (fun _ => ⟨fun z => absurd rfl z, fun _ => s_foundM 2 (by decide) q⟩)⟩, fun z => absurd (b_np s (by omega)) z⟩
theorem m_put_ok (j : Nat) (hj : j < 4) (v : Int32) (x s : Nat) (hs : s ≤ 60) (hx : x < s) (e : mu 31 0 j = nI s) (q : Q (mu 32 0 (60 * j + x) + 1000) (up3 mu 32 0 (60 * j + x) v.toInt8.toInt32) la) : FnI E (d + 2) mi_144 [.inr (.inr (some (7, 0))), .inl (nI j), .inl (nI x), .inl v] mu la Q := by
  refine vc_X7_put (nI j) (nI x) v (s_isText (nI j) (fun _ _ _ => ⟨fun _ => ⟨b_in rfl hj (by decide), ?_⟩, fun z => absurd b_x10 z⟩) (fun hn => absurd rfl (hn j hj)))
  rw [b_cl (by omega), e]
  refine ⟨fun _ => ⟨b_in rfl hj (by decide), s_inI (nI x) s (by omega) (fun x' hx' ex => ⟨fun _ => ?_, fun z => absurd b_x10 z⟩) (fun hn => absurd rfl (hn x hx))⟩, fun z => absurd (b_np s (by omega)) z⟩
  rw [b_60, b_cl (by omega)]
  refine ⟨b_in rfl (by omega) (by decide), b_in rfl (by omega) (by decide), ?_⟩
  rintro mu1 rfl
  exact q
theorem p_put (hB : IBf IB) (h : Inv IB mu la) (a i v : Int32) : Pair IB E (d + 2) mi_57 mi_144 [.inl a, .inl i, .inl v] mu la := by
  refine vc_X6_put a i v (s_textOf a (fun j hj e => ?_) (fun hn => m_put_bad a i v hn ⟨rfl, h⟩))
  subst e
  rcases it_cases h.2.1 hj with ⟨e1, e2⟩ | ⟨s, hs, e1, e2, hv⟩
  · rw [e2]
    exact ⟨fun z => absurd z b_n1, fun _ => s_foundX 1 (by decide) (m_put_no j hj i v e1 ⟨rfl, h.fd hB (by decide)⟩)⟩
  · refine ⟨fun _ => s_hasByte i s (by omega) e2 (fun x hx ex => ⟨fun _ => ⟨b_in ex (by omega) (by decide), b_in ex (by omega) (by decide), ?_⟩, fun z => absurd b_x10 z⟩) (fun hn => ⟨fun z => absurd rfl z, fun _ => s_foundX 2 (by decide) (m_put_out j hj i v s hs e1 hn ⟨rfl, h.fd hB (by decide)⟩)⟩), fun z => absurd (by rw [e2]; exact b_np s (by omega)) z⟩
    subst ex
    rw [b_cl (by omega), show v.toInt8.toInt32.toInt8.toInt32 = v.toInt8.toInt32 by simp]
    rintro mu1 rfl
    have hf : Fr sS mu (up3 mu 24 j x v.toInt8.toInt32) := Fr.rf.u3 rfl
    refine m_put_ok j hj v x s hs hx e1 ⟨?_, ?_⟩
    · rw [← hv x hx]
      exact congrArg (· + 1000) (if_neg (fun z => absurd z.1 (by decide))).symm
    · obtain ⟨h1, h2, h3, h4⟩ := h
      refine ⟨h1.fr ((Fr.rf.u3 rfl).u3 rfl), fun r hr => ?_, h3.fr ((Fr.rf.u3 rfl).u3 rfl), hB _ _ ((Fr.rf.u3 rfl).u3 rfl) h4⟩
      obtain ⟨g1, g2⟩ := h2 r hr
      unfold up3
      by_cases hrj : r = j
      · subst hrj
        simp only [true_and, and_true, if_true, reduceIte, Nat.reduceEqDiff, false_and, and_false]
        refine ⟨g1, Or.inr ⟨s, hs, e2, fun y hy => ?_⟩⟩
        by_cases hxy : y = x
        · subst hxy
          rw [if_pos rfl, if_pos rfl]
        · rw [if_neg (by omega), if_neg hxy]
          exact hv y hy
      · simp only [hrj, true_and, and_true, if_true, reduceIte, Nat.reduceEqDiff, false_and, and_false]
        refine ⟨g1, ?_⟩
        rcases g2 with g2 | ⟨s', hs', e', g2⟩
        · exact Or.inl g2
        · refine Or.inr ⟨s', hs', e', fun y hy => ?_⟩
          rw [if_neg (by omega)]
          exact g2 y hy
/-! mean -/
def sm (f : Nat → Int32) : Nat → Int64
  | 0 => 0
  | n + 1 => sm f n + (f n).toInt64
theorem sm_congr {f g : Nat → Int32} (n : Nat) (h : ∀ j, j < n → f j = g j) : sm f n = sm g n := by
  induction n with
  | zero => rfl
  | succ n ih =>
    unfold sm
    rw [ih (fun j hj => h j (by omega)), h n (by omega)]
theorem b_l0 {s : Nat} (hs : s < 1000) (h : ¬ s = 0) : ¬ (nI s).toInt64 = 0 := by
  rw [nI_l (by omega)]
  intro e
  have := (lN_eq (a := s) (b := 0) (by omega) (by omega)).mp e
  exact h this
theorem m_mean_bad (a : Int32) (h : ∀ j : Nat, j < 6 → a ≠ nI j) (q : Q (-1) mu la) : FnI E (d + 2) mi_142 [.inr (.inr (some (7, 0))), .inl a] mu la Q :=
  vc_X7_mean a (s_isRow a (fun j hj e => absurd e (h j hj)) (fun _ => ⟨fun z => absurd rfl z, fun _ => q⟩))
theorem m_mean_no (j : Nat) (hj : j < 6) (e : mu 29 0 j = -1) (q : Q (-3) (fdM mu 1) la) : FnI E (d + 2) mi_142 [.inr (.inr (some (7, 0))), .inl (nI j)] mu la Q := by
  refine vc_X7_mean (nI j) (s_isRow (nI j) (fun _ _ _ => ⟨fun _ => ⟨b_in rfl hj (by decide), ?_⟩, fun z => absurd b_x10 z⟩) (fun hn => absurd rfl (hn j hj)))
  rw [b_cl (by omega), e]
  exact ⟨fun z => absurd z b_n1, fun _ => s_foundM 1 (by decide) q⟩
theorem m_mean_0 (j : Nat) (hj : j < 6) (e : mu 29 0 j = nI 0) (q : Q (-3) (fdM mu 4) la) : FnI E (d + 2) mi_142 [.inr (.inr (some (7, 0))), .inl (nI j)] mu la Q := by
  refine vc_X7_mean (nI j) (s_isRow (nI j) (fun _ _ _ => ⟨fun _ => ⟨b_in rfl hj (by decide), ?_⟩, fun z => absurd b_x10 z⟩) (fun hn => absurd rfl (hn j hj)))
  rw [b_cl (by omega), e]
  exact ⟨fun _ => ⟨b_in rfl hj (by decide), fun z => absurd rfl z, fun _ => s_foundM 4 (by decide) q⟩, fun z => absurd (b_np 0 (by omega)) z⟩
theorem m_mean_ok (j : Nat) (hj : j < 6) (s : Nat) (hs : s ≤ 40) (h0 : ¬ s = 0) (e : mu 29 0 j = nI s) (q : Q 1 (up3 mu 7 0 17 (sm (fun x => mu 30 0 (40 * j + x)) s / (nI s).toInt64).toInt32) la) : FnI E (d + 2) mi_142 [.inr (.inr (some (7, 0))), .inl (nI j)] mu la Q := by
  have key : ∀ (z i : Nat), i + z = s → Ev E (d + 2) mi_142 27 [some (.inr (.inr (some (7, 0)))), some (.inl (nI j)), some (.inr (.inl (sm (fun x => mu 30 0 (40 * j + x)) i))), none, some (.inl (nI i))] [] (mem E mu la) (qI E Q) := by
    intro z
    induction z with
    | zero =>
      intro i hi
      refine vc_X7_mean_27 0 (nI j) _ (nI i) ⟨b_in rfl hj (by decide), ?_⟩
      rw [b_cl (by omega), e]
      refine ⟨fun _ => ⟨b_in rfl hj (by decide), b_l0 (by omega) h0, ?_⟩, fun hc => absurd (nI_le (by omega) (by omega)) hc⟩
      rw [show i = s by omega]
      exact s_tell _ q
    | succ z ih =>
      intro i hi
      refine vc_X7_mean_27 0 (nI j) _ (nI i) ⟨b_in rfl hj (by decide), ?_⟩
      rw [b_cl (by omega), e]
      refine ⟨fun hc => absurd hc (nI_ge (by omega) (by omega)), fun _ => ?_⟩
      rw [b_40, b_cl (by omega), ← nI_succ]
      exact ⟨b_in rfl (by omega) (by decide), ih (i + 1) (by omega)⟩
  refine vc_X7_mean (nI j) (s_isRow (nI j) (fun _ _ _ => ⟨fun _ => ⟨b_in rfl hj (by decide), ?_⟩, fun z => absurd b_x10 z⟩) (fun hn => absurd rfl (hn j hj)))
  rw [b_cl (by omega), e]
  exact ⟨fun _ => ⟨b_in rfl hj (by decide), fun _ => key s 0 (by omega), fun z => absurd (fun y => nI_ne0 (by omega) (by omega) y) z⟩, fun z => absurd (b_np s (by omega)) z⟩
theorem p_mean (hB : IBf IB) (h : Inv IB mu la) (a : Int32) : Pair IB E (d + 2) mi_55 mi_142 [.inl a] mu la := by
  refine vc_X6_mean a (s_rowOf a (fun j hj e => ?_) (fun hn => m_mean_bad a hn ⟨rfl, h⟩))
  subst e
  rcases ir_cases h.1 hj with ⟨e1, e2⟩ | ⟨s, hs, e1, e2, hv⟩
  · rw [e2]
    exact ⟨fun z => absurd z b_n1, fun _ => s_foundX 1 (by decide) (m_mean_no j hj e1 ⟨rfl, h.fd hB (by decide)⟩)⟩
  · rw [e2]
    refine ⟨fun _ => ⟨fun hne => ?_, fun hz => ?_⟩, fun z => absurd (b_np s (by omega)) z⟩
    · have h0 : ¬ s = 0 := fun z => hne (by rw [z]; rfl)
      have key : ∀ (z i : Nat), i + z = s → Ev E (d + 2) mi_55 26 [some (.inr (.inr (some (6, 0)))), none, some (.inr (.inr (some (3, j)))), some (.inr (.inl (sm (mu 21 j) i))), none, some (.inl (nI i))] [] (mem E mu la) (qI E (fun r1 mu1 la1 => FnI E (d + 2) mi_142 [.inr (.inr (some (7, 0))), .inl (nI j)] mu1 la1 (fun r2 mu2 la2 => r1 = r2 ∧ Inv IB mu2 la2))) := by
        intro z
        induction z with
        | zero =>
          intro i hi
          refine vc_X6_mean_26 0 j _ (nI i) ?_
          rw [e2]
          refine ⟨fun _ => ⟨b_l0 (by omega) h0, ?_⟩, fun hc => absurd (nI_le (by omega) (by omega)) hc⟩
          rintro mu1 rfl
          rw [show i = s by omega]
          refine m_mean_ok j hj s hs h0 e1 ⟨rfl, ?_⟩
          obtain ⟨h1, h2, h3, h4⟩ := h
          refine ⟨h1.fr ((Fr.rf.u3 rfl).u3 rfl), h2.fr ((Fr.rf.u3 rfl).u3 rfl), ?_, hB _ _ ((Fr.rf.u3 rfl).u3 rfl) h4⟩
          obtain ⟨g1, g2, g3, g4⟩ := h3
          refine ⟨?_, ?_, fun w hw => ?_, g4⟩
          · have e3 : sm (fun x => up3 mu 6 0 11 (sm (mu 21 j) s / (nI s).toInt64).toInt32 30 0 (40 * j + x)) s = sm (mu 21 j) s := sm_congr s (fun x hx => (if_neg (fun z => absurd z.1 (by decide))).trans (hv x hx))
            rw [e3]
            unfold up3
            simp
          · unfold up3
            simpa using g2
          · unfold up3
            simpa using g3 w hw
        | succ z ih =>
          intro i hi
          refine vc_X6_mean_26 0 j _ (nI i) ?_
          rw [e2]
          refine ⟨fun hc => absurd hc (nI_ge (by omega) (by omega)), fun _ => ⟨b_in rfl (by omega) (by decide), ?_⟩⟩
          rw [b_cl (by omega), ← nI_succ]
          exact ih (i + 1) (by omega)
      exact key s 0 (by omega)
    · have h0 : s = 0 := by
        rcases Nat.eq_zero_or_pos s with z | z
        · exact z
        · exact absurd (fun y => nI_ne0 z (by omega) y) hz
      subst h0
      exact s_foundX 4 (by decide) (m_mean_0 j hj e1 ⟨rfl, h.fd hB (by decide)⟩)
end TEXTS
