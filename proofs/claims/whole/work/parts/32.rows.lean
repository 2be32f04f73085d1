/-! rows -/
theorem b_40 (r j : Nat) : ((40 : Int32) * nI r) + nI j = nI (40 * r + j) := by rw [show (40 : Int32) = nI 40 from rfl, pk_mul, nI_add]
theorem b_60 (r j : Nat) : ((60 : Int32) * nI r) + nI j = nI (60 * r + j) := by rw [show (60 : Int32) = nI 60 from rfl, pk_mul, nI_add]
theorem b_np (s : Nat) (h : s < 2147483648) : (0 : Int32) ≤ nI s := nI_pos' (by omega)
theorem b_n1 : ¬ (0 : Int32) ≤ -1 := by decide
theorem b_x10 : ¬ (1 : Int32) = 0 := by decide
theorem s_inI {E : mEv} {d : Nat} {mu : fMu} {la : fLa} {Q : Int32 → fMu → fLa → Prop} (a : Int32) (s : Nat) (hs : s < 1000) (h1 : ∀ j : Nat, j < s → a = nI j → Q 1 mu la) (h0 : (∀ j : Nat, j < s → a ≠ nI j) → Q 0 mu la) : FnI E d mi_129 [.inr (.inl a.toInt64), .inr (.inl (0 : Int64)), .inr (.inl ((nI s - (1 : Int32)).toInt64))] mu la Q := by
  have hm : (nI s - (1 : Int32)).toInt = (s : Int) - 1 := pk_sub_toInt (a := s) (b := 1) (by omega) (by omega)
  refine s_in _ _ _ (fun hc => ?_) (fun hc => h0 (fun j hj e => hc ?_))
  · have e1 : (0 : Int32) ≤ a := (b_w 0 a).mp hc.1
    have e2 : a ≤ nI s - 1 := (b_w _ _).mp hc.2
    rcases b_ix a s (by omega) with ⟨j, hj, e⟩ | ⟨h | h, -⟩
    · exact h1 j hj e
    · exact absurd e1 (Int32.not_le.mpr h)
    · have h3 := Int32.le_iff_toInt_le.mp (Int32.le_trans h e2)
      rw [hm, nI_toInt (by omega)] at h3
      omega
  · subst e
    refine ⟨(b_w 0 (nI j)).mpr (nI_pos' (by omega)), (b_w _ _).mpr (Int32.le_iff_toInt_le.mpr ?_)⟩
    rw [hm, nI_toInt (by omega)]
    omega
theorem s_hasPlace {E : mEv} {d c : Nat} {mu : fMu} {la : fLa} {Q : Int32 → fMu → fLa → Prop} (a : Int32) (s : Nat) (hs : s < 1000) (e0 : mu 3 c 0 = nI s) (h1 : ∀ j : Nat, j < s → a = nI j → Q 1 mu la) (h0 : (∀ j : Nat, j < s → a ≠ nI j) → Q 0 mu la) : FnI E d mi_28 [.inr (.inr (some (3, c))), .inl a] mu la Q := by
  refine vc_X3_hasPlace a ?_
  rw [e0]
  rcases b_ix a s (by omega) with ⟨j, hj, e⟩ | ⟨h, hn⟩
  · subst e
    exact ⟨fun hc => absurd hc (nI_pos (by omega)), fun _ => ⟨fun hc => absurd hc (nI_ge hj (by omega)), fun _ => h1 j hj rfl⟩⟩
  · refine ⟨fun _ => h0 hn, fun hc => ⟨fun _ => h0 hn, fun hd => ?_⟩⟩
    rcases h with h | h
    · exact absurd h hc
    · exact absurd h hd
theorem s_layAnew {E : mEv} {d c : Nat} {mu : fMu} {la : fLa} {Q : fMu → fLa → Prop} (v : Int32) (h : Q (up2 (up3 mu 3 c 0 v) 21 c (fun j => if j < 40 then 0 else mu 21 c j)) la) : FnV E (d + 1) mi_27 [.inr (.inr (some (3, c))), .inl v] mu la Q := by
  refine vc_X3_layAnew v ?_
  rintro mu1 rfl
  refine s_fill (n := 40) 0 rfl (by decide) (by decide) ?_
  have e : ∀ j, up3 mu 3 c 0 v 21 c j = mu 21 c j := fun j => if_neg (fun q => absurd q.1 (by decide))
  rw [up2_congr _ 21 c (g := fun j => if j < 40 then 0 else mu 21 c j) (fun j => by rw [e j])]
  exact h
theorem s_tell {E : mEv} {d : Nat} {mu : fMu} {la : fLa} {Q : Int32 → fMu → fLa → Prop} (v : Int32) (h : Q 1 (up3 mu 7 0 17 v) la) : FnI E d mi_133 [.inr (.inr (some (7, 0))), .inl v] mu la Q := by
  refine vc_X7_tell v ?_
  rintro mu1 rfl
  exact h
theorem p_findings {IB : fMu → Prop} {E : mEv} {d : Nat} {mu : fMu} {la : fLa} (h : Inv IB mu la) (a : Int32) : Pair IB E (d + 1) mi_93 mi_225 [.inl a] mu la := by
  have key : ∀ x : Int32, (∀ w : Nat, w < 6 → 1 ≤ w → a = nI w → x = mu 28 0 w) → ((∀ w : Nat, w < 6 → 1 ≤ w → a ≠ nI w) → x = -1) → FnI E (d + 1) mi_225 [.inr (.inr (some (7, 0))), .inl a] mu la (fun r2 mu2 la2 => x = r2 ∧ Inv IB mu2 la2) := by
    intro x hx1 hx0
    refine vc_X7_findings a (s_in _ _ _ (fun hc => ⟨fun q => absurd q b_x10, fun _ => ?_⟩) (fun hc => ⟨fun _ => ⟨hx0 (fun w hw h1 e => hc ?_), h⟩, fun q => absurd rfl q⟩))
    · have e1 : (1 : Int32) ≤ a := (b_w 1 a).mp hc.1
      have e2 : a ≤ 5 := (b_w a 5).mp hc.2
      rcases b_ix a 6 (by decide) with ⟨w, hw, e⟩ | ⟨q | q, -⟩
      · have h1 : 1 ≤ w := by
          rcases Nat.eq_zero_or_pos w with z | z
          · subst z; rw [e] at e1; exact absurd e1 (by decide)
          · exact z
        refine ⟨b_in e hw (by decide), ?_, h⟩
        rw [hx1 w hw h1 e, e, b_cl (by omega)]
        exact h.2.2.1.2.2.1 w hw
      · exact absurd (Int32.lt_of_lt_of_le q (show (0 : Int32) ≤ 1 by decide)) (Int32.not_lt.mpr e1)
      · exact absurd (Int32.le_trans q e2) (by decide)
    · subst e
      exact ⟨(b_w 1 (nI w)).mpr (nI_le (a := 1) h1 (by omega)), (b_w (nI w) 5).mpr (nI_le (b := 5) (by omega) (by decide))⟩
  refine vc_X6_findings a ⟨fun hc => key _ (fun w hw h1 e => ?_) (fun _ => rfl), fun hc => ⟨fun hd => ?_, fun hd => key _ (fun w hw h1 e => ?_) (fun _ => rfl)⟩⟩
  · rw [e] at hc
    exact absurd hc (nI_nlt (b := 1) h1 (by omega))
  · rcases b_ix a 6 (by decide) with ⟨w, hw, e⟩ | ⟨q | q, -⟩
    · refine ⟨b_in e hw (by decide), key _ (fun w' hw' h1' e' => ?_) (fun hn => ?_)⟩
      · rw [e', b_cl (by omega)]
      · exfalso
        refine hn w hw ?_ e
        rcases Nat.eq_zero_or_pos w with z | z
        · subst z; rw [e] at hc; exact absurd (show nI 0 < 1 by decide) hc
        · exact z
    · exact absurd (Int32.lt_of_lt_of_le q (show (0 : Int32) ≤ 1 by decide)) hc
    · exact absurd (Int32.le_trans q hd) (by decide)
  · rw [e] at hd
    exact absurd (nI_le (b := 5) (by omega) (by decide)) hd
section ROWS
variable {IB : fMu → Prop} {E : mEv} {d : Nat} {mu : fMu} {la : fLa} {Q : Int32 → fMu → fLa → Prop}
/-- the model's row(), by cases -/
theorem m_row_bad (a n : Int32) (h : (∀ j : Nat, j < 6 → a ≠ nI j) ∨ ¬ n ≤ 40) (q : Q (-1) mu la) : FnI E (d + 2) mi_137 [.inr (.inr (some (7, 0))), .inl a, .inl n] mu la Q := by
  refine vc_X7_row a n (s_isRow a (fun j hj e => ⟨fun z => absurd z b_x10, fun _ => ⟨fun z => ?_, fun _ => q⟩⟩) (fun _ => ⟨fun _ => q, fun z => absurd rfl z⟩))
  rcases h with h | h
  · exact absurd e (h j hj)
  · exact absurd z h
theorem m_row_neg (j : Nat) (hj : j < 6) (n : Int32) (h : ¬ 0 ≤ n) (q : Q (-3) (fdM mu 5) la) : FnI E (d + 2) mi_137 [.inr (.inr (some (7, 0))), .inl (nI j), .inl n] mu la Q := by
  have h40 : n ≤ 40 := by
    rcases Int32.lt_or_le 40 n with z | z
    · exact absurd (Int32.le_of_lt (Int32.lt_trans (show (0 : Int32) < 40 by decide) z)) h
    · exact z
  exact vc_X7_row (nI j) n (s_isRow (nI j) (fun _ _ _ => ⟨fun z => absurd z b_x10, fun _ => ⟨fun _ => ⟨fun z => absurd z h, fun _ => s_foundM 5 (by decide) q⟩, fun z => absurd h40 z⟩⟩) (fun hn => absurd rfl (hn j hj)))
def rwM (mu : fMu) (j s : Nat) : fMu := up2 (up3 mu 29 0 j (nI s)) 30 0 (fun x => if 40 * j ≤ x ∧ x < 40 * j + 40 then 0 else mu 30 0 x)
theorem m_row_ok (j : Nat) (hj : j < 6) (s : Nat) (hs : s ≤ 40) (q : Q (nI s) (rwM mu j s) la) : FnI E (d + 2) mi_137 [.inr (.inr (some (7, 0))), .inl (nI j), .inl (nI s)] mu la Q := by
  refine vc_X7_row (nI j) (nI s) (s_isRow (nI j) (fun _ _ _ => ⟨fun z => absurd z b_x10, fun _ => ⟨fun _ => ⟨fun _ => ⟨b_in rfl hj (by decide), ?_⟩, fun z => absurd (b_np s (by omega)) z⟩, fun z => absurd (nI_le (a := s) (b := 40) hs (by decide)) z⟩⟩) (fun hn => absurd rfl (hn j hj)))
  rw [b_cl (by omega)]
  rintro mu1 rfl
  have key : ∀ (z i : Nat), i + z = 40 → Ev E (d + 2) mi_137 21 [some (.inr (.inr (some (7, 0)))), some (.inl (nI j)), some (.inl (nI s)), some (.inl (nI i))] [] (mem E (up2 (up3 mu 29 0 j (nI s)) 30 0 (fun x => if 40 * j ≤ x ∧ x < 40 * j + i then 0 else mu 30 0 x)) la) (qI E Q) := by
    intro z
    induction z with
    | zero =>
      intro i hi
      refine vc_X7_row_21 0 (nI j) (nI s) (nI i) ⟨fun _ => ?_, fun hc => absurd (nI_le (a := 40) (b := i) (by omega) (by omega)) hc⟩
      rw [show i = 40 by omega]
      exact q
    | succ z ih =>
      intro i hi
      refine vc_X7_row_21 0 (nI j) (nI s) (nI i) ⟨fun hc => absurd hc (nI_ge (a := i) (b := 40) (by omega) (by decide)), fun _ => ?_⟩
      rw [b_40]
      refine ⟨b_in rfl (by omega) (by decide), ?_⟩
      rintro mu1 rfl
      rw [b_cl (by omega), up3_up2, ← nI_succ]
      have h1 := ih (i + 1) (by omega)
      rw [up2_congr (g := fun j' => if j' = 40 * j + i then 0 else if 40 * j ≤ j' ∧ j' < 40 * j + i then 0 else mu 30 0 j') _ 30 0 ?_] at h1
      · exact h1
      · intro x
        by_cases h1 : x = 40 * j + i
        · rw [if_pos (by omega), if_pos h1]
        · by_cases h2 : 40 * j ≤ x ∧ x < 40 * j + i
          · rw [if_pos (by omega), if_neg h1, if_pos h2]
          · rw [if_neg (by omega), if_neg h1, if_neg h2]
  have h0 := key 40 0 (by omega)
  rw [up2_id _ 30 0 _ (fun x => (if_neg (by omega)).trans (if_neg (fun z => absurd z.1 (by decide))).symm)] at h0
  exact h0
theorem p_row (hB : IBf IB) (h : Inv IB mu la) (a n : Int32) : Pair IB E (d + 2) mi_50 mi_137 [.inl a, .inl n] mu la := by
  refine vc_X6_row a n (s_rowOf a (fun j hj e => ⟨fun h40 => ⟨fun h0 => ?_, fun h0 => ?_⟩, fun h40 => ?_⟩) (fun hn => ?_))
  · subst e
    obtain ⟨s, hs, e⟩ : ∃ s : Nat, s ≤ 40 ∧ n = nI s := by
      rcases b_ix n 41 (by decide) with ⟨s, hs, e⟩ | ⟨z | z, -⟩
      · exact ⟨s, by omega, e⟩
      · exact absurd h0 (Int32.not_le.mpr z)
      · exact absurd (Int32.le_trans z h40) (by decide)
    subst e
    refine s_layAnew (nI s) (m_row_ok j hj s hs ⟨rfl, ?_⟩)
    obtain ⟨h1, h2, h3, h4⟩ := h
    refine ⟨fun r hr => ?_, h2.fr ((((Fr.rf.u3 rfl).u2 (fun _ => rfl)).u3 rfl).u2 (fun _ => rfl)), h3.fr ((((Fr.rf.u3 rfl).u2 (fun _ => rfl)).u3 rfl).u2 (fun _ => rfl)), hB _ _ ((((Fr.rf.u3 rfl).u2 (fun _ => rfl)).u3 rfl).u2 (fun _ => rfl)) h4⟩
    obtain ⟨g1, g2⟩ := h1 r hr
    unfold rwM up2 up3
    by_cases hrj : r = j
    · subst hrj
      simp only [true_and, and_true, if_true, reduceIte, Nat.reduceEqDiff, false_and, and_false]
      refine Or.inr ⟨s, hs, rfl, fun x hx => ?_⟩
      rw [if_pos (by omega), if_pos (by omega)]
    · simp only [hrj, true_and, and_true, if_true, reduceIte, Nat.reduceEqDiff, false_and, and_false]
      refine ⟨g1, ?_⟩
      rcases g2 with g2 | ⟨s', hs', e', g2⟩
      · exact Or.inl g2
      · refine Or.inr ⟨s', hs', e', fun x hx => ?_⟩
        rw [if_neg (by omega)]
        exact g2 x hx
  · subst e
    exact s_foundX 5 (by decide) (m_row_neg j hj n h0 ⟨rfl, h.fd hB (by decide)⟩)
  · exact m_row_bad a n (Or.inr h40) ⟨rfl, h⟩
  · exact m_row_bad a n (Or.inl hn) ⟨rfl, h⟩
end ROWS
