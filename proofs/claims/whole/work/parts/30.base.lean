/-! numbers, tables, the library's loops -/
theorem b_in {j n : Nat} {x : Int32} (e : x = nI j) (h : j < n) (hn : n < 2147483648) : vp_in x n := by
  rw [e]; exact vp_in_nI h (by omega)
theorem b_cl {j : Nat} (h : j < 2147483648) : (nI j).toNatClampNeg = j := nI_clamp (by omega)
theorem b_w (a b : Int32) : a.toInt64 ≤ b.toInt64 ↔ a ≤ b := by
  rw [Int64.le_iff_toInt_le, Int32.le_iff_toInt_le, Int32.toInt_toInt64, Int32.toInt_toInt64]
/-- a number is one of 0 .. n - 1, or it is not -/
theorem b_ix (x : Int32) (n : Nat) (hn : n < 2147483648) : (∃ j : Nat, j < n ∧ x = nI j) ∨ ((x < 0 ∨ nI n ≤ x) ∧ ∀ j : Nat, j < n → x ≠ nI j) := by
  rcases pk_ix x (n := n) (by omega) with h | h | h
  · refine Or.inr ⟨Or.inl h, fun j hj e => ?_⟩
    rw [e] at h
    exact nI_pos (by omega) h
  · refine Or.inr ⟨Or.inr h, fun j hj e => ?_⟩
    rw [e] at h
    exact nI_ge hj (by omega) h
  · exact Or.inl h
theorem up3_up2 {α : Type} (mu : Nat → Nat → Nat → α) (k a j : Nat) (f : Nat → α) (v : α) : up3 (up2 mu k a f) k a j v = up2 mu k a (fun j' => if j' = j then v else f j') := by
  funext k' i' j'
  unfold up3 up2
  by_cases h1 : k' = k ∧ i' = a
  · obtain ⟨rfl, rfl⟩ := h1
    by_cases h2 : j' = j
    · rw [if_pos ⟨rfl, rfl, h2⟩, if_pos ⟨rfl, rfl⟩]
      exact (if_pos h2).symm
    · rw [if_neg (fun q => h2 q.2.2), if_pos ⟨rfl, rfl⟩, if_pos ⟨rfl, rfl⟩]
      exact (if_neg h2).symm
  · rw [if_neg (fun q => h1 ⟨q.1, q.2.1⟩), if_neg h1, if_neg h1]
theorem up2_id {α : Type} (mu : Nat → Nat → Nat → α) (k a : Nat) (f : Nat → α) (h : ∀ j, f j = mu k a j) : up2 mu k a f = mu := by
  funext k' i' j'
  unfold up2
  split
  · rename_i hc
    obtain ⟨rfl, rfl⟩ := hc
    exact h j'
  · rfl
theorem up2_congr {α : Type} (mu : Nat → Nat → Nat → α) (k a : Nat) {f g : Nat → α} (h : ∀ j, f j = g j) : up2 mu k a f = up2 mu k a g := by
  rw [show f = g from funext h]
theorem s_fill {E : mEv} {d k n a : Nat} {mu : fMu} {la : fLa} {Q : fMu → fLa → Prop} (v : Int32) (hk : nth mKs k = some (.inr (.int, n))) (hz : k ≠ 100) (hn : n < 2147483648) (h : Q (up2 mu k a (fun j => if j < n then v else mu k a j)) la) : FnV E d mi_228 [.inr (.inr (some (k, a))), .inl v] mu la Q := by
  refine vc_J7_fill_53178 k n a hk hz v ?_
  have key : ∀ (z i : Nat), i + z = n → Ev E d mi_228 5 [some (.inr (.inr (some (k, a)))), some (.inl v), some (.inl (nI i)), some (.inl (Int32.ofNat n))] [] (mem E (up2 mu k a (fun j => if j < i then v else mu k a j)) la) (qV E Q) := by
    intro z
    induction z with
    | zero =>
      intro i hi
      refine vc_J7_fill_53178_5 k n a hk hz v (nI i) (Int32.ofNat n) ⟨fun _ => ?_, fun hc => absurd (nI_le (by omega) (by omega)) hc⟩
      rw [show i = n by omega]
      exact h
    | succ z ih =>
      intro i hi
      refine vc_J7_fill_53178_5 k n a hk hz v (nI i) (Int32.ofNat n) ⟨fun hc => absurd hc (nI_ge (by omega) (by omega)), fun _ => ⟨b_in rfl (by omega) hn, ?_⟩⟩
      rintro mu1 rfl
      rw [b_cl (by omega), up3_up2, ← nI_succ]
      have h1 := ih (i + 1) (by omega)
      rw [up2_congr (g := fun j' => if j' = i then v else if j' < i then v else mu k a j') mu k a ?_] at h1
      · exact h1
      · intro j
        by_cases h1 : j = i
        · rw [if_pos (by omega), if_pos h1]
        · by_cases h2 : j < i
          · rw [if_pos (by omega), if_neg h1, if_pos h2]
          · rw [if_neg (by omega), if_neg h1, if_neg h2]
  have h0 := key n 0 (by omega)
  rw [up2_id mu k a _ (fun j => if_neg (by omega))] at h0
  exact h0
theorem s_bfill {E : mEv} {d k n a : Nat} {mu : fMu} {la : fLa} {Q : fMu → fLa → Prop} (v : Int32) (hk : nth mKs k = some (.inr (.byte, n))) (hz : k ≠ 100) (hn : n < 2147483648) (h : Q (up2 mu k a (fun j => if j < n then v.toInt8.toInt32 else mu k a j)) la) : FnV E d mi_229 [.inr (.inr (some (k, a))), .inl v] mu la Q := by
  refine vc_J7_fill_031fb k n a hk hz v ?_
  have key : ∀ (z i : Nat), i + z = n → Ev E d mi_229 5 [some (.inr (.inr (some (k, a)))), some (.inl v), some (.inl (nI i)), some (.inl (Int32.ofNat n))] [] (mem E (up2 mu k a (fun j => if j < i then v.toInt8.toInt32 else mu k a j)) la) (qV E Q) := by
    intro z
    induction z with
    | zero =>
      intro i hi
      refine vc_J7_fill_031fb_5 k n a hk hz v (nI i) (Int32.ofNat n) ⟨fun _ => ?_, fun hc => absurd (nI_le (by omega) (by omega)) hc⟩
      rw [show i = n by omega]
      exact h
    | succ z ih =>
      intro i hi
      refine vc_J7_fill_031fb_5 k n a hk hz v (nI i) (Int32.ofNat n) ⟨fun hc => absurd hc (nI_ge (by omega) (by omega)), fun _ => ⟨b_in rfl (by omega) hn, ?_⟩⟩
      rintro mu1 rfl
      rw [b_cl (by omega), up3_up2, ← nI_succ]
      have h1 := ih (i + 1) (by omega)
      rw [up2_congr (g := fun j' => if j' = i then v.toInt8.toInt32 else if j' < i then v.toInt8.toInt32 else mu k a j') mu k a ?_] at h1
      · exact h1
      · intro j
        by_cases h1 : j = i
        · rw [if_pos (by omega), if_pos h1]
        · by_cases h2 : j < i
          · rw [if_pos (by omega), if_neg h1, if_pos h2]
          · rw [if_neg (by omega), if_neg h1, if_neg h2]
  have h0 := key n 0 (by omega)
  rw [up2_id mu k a _ (fun j => if_neg (by omega))] at h0
  exact h0
/-! small ones of the model -/
theorem s_in {E : mEv} {d : Nat} {mu : fMu} {la : fLa} {Q : Int32 → fMu → fLa → Prop} (v a b : Int64) (h1 : a ≤ v ∧ v ≤ b → Q 1 mu la) (h0 : ¬ (a ≤ v ∧ v ≤ b) → Q 0 mu la) : FnI E d mi_129 [.inr (.inl v), .inr (.inl a), .inr (.inl b)] mu la Q := by
  refine vc_X7_in v a b ⟨fun hc => h0 ?_, fun hc => ⟨fun hd => h0 ?_, fun hd => h1 ?_⟩⟩
  · rw [lg_cmp_lt] at hc
    exact fun q => Int64.not_le.mpr hc q.1
  · rw [lg_cmp_gt] at hd
    exact fun q => Int64.not_le.mpr hd q.2
  · rw [lg_cmp_lt] at hc
    rw [lg_cmp_gt] at hd
    exact ⟨Int64.not_lt.mp hc, Int64.not_lt.mp hd⟩
theorem s_isRow {E : mEv} {d : Nat} {mu : fMu} {la : fLa} {Q : Int32 → fMu → fLa → Prop} (a : Int32) (h1 : ∀ j : Nat, j < 6 → a = nI j → Q 1 mu la) (h0 : (∀ j : Nat, j < 6 → a ≠ nI j) → Q 0 mu la) : FnI E (d + 1) mi_135 [.inl a] mu la Q := by
  refine vc_X7_isRow a (s_in _ _ _ (fun hc => ⟨Or.inr rfl, ?_⟩) (fun hc => ⟨Or.inl rfl, ?_⟩))
  · have e1 : (0 : Int32) ≤ a := (b_w 0 a).mp hc.1
    have e2 : a ≤ 5 := (b_w a 5).mp hc.2
    rcases b_ix a 6 (by decide) with ⟨j, hj, e⟩ | ⟨h | h, -⟩
    · exact h1 j hj e
    · exact absurd e1 (Int32.not_le.mpr h)
    · exact absurd (Int32.le_trans h e2) (by decide)
  · refine h0 (fun j hj e => hc ?_)
    subst e
    refine ⟨(b_w 0 (nI j)).mpr (nI_pos' (by omega)), (b_w (nI j) 5).mpr (nI_le (a := j) (b := 5) (by omega) (by decide))⟩
theorem s_isText {E : mEv} {d : Nat} {mu : fMu} {la : fLa} {Q : Int32 → fMu → fLa → Prop} (a : Int32) (h1 : ∀ j : Nat, j < 4 → a = nI j → Q 1 mu la) (h0 : (∀ j : Nat, j < 4 → a ≠ nI j) → Q 0 mu la) : FnI E (d + 1) mi_136 [.inl a] mu la Q := by
  refine vc_X7_isText a (s_in _ _ _ (fun hc => ⟨Or.inr rfl, ?_⟩) (fun hc => ⟨Or.inl rfl, ?_⟩))
  · have e1 : (0 : Int32) ≤ a := (b_w 0 a).mp hc.1
    have e2 : a ≤ 3 := (b_w a 3).mp hc.2
    rcases b_ix a 4 (by decide) with ⟨j, hj, e⟩ | ⟨h | h, -⟩
    · exact h1 j hj e
    · exact absurd e1 (Int32.not_le.mpr h)
    · exact absurd (Int32.le_trans h e2) (by decide)
  · refine h0 (fun j hj e => hc ?_)
    subst e
    refine ⟨(b_w 0 (nI j)).mpr (nI_pos' (by omega)), (b_w (nI j) 3).mpr (nI_le (a := j) (b := 3) (by omega) (by decide))⟩
theorem s_rowOf {E : mEv} {d c : Nat} {mu : fMu} {la : fLa} {Qn : fMu → fLa → Prop} {Qs : Nat → fMu → fLa → Prop} (a : Int32) (h1 : ∀ j : Nat, j < 6 → a = nI j → Qs j mu la) (h0 : (∀ j : Nat, j < 6 → a ≠ nI j) → Qn mu la) : FnR E d mi_96 [.inr (.inr (some (6, c))), .inl a] mu la 3 Qn Qs := by
  refine vc_X6_rowOf a ⟨fun hc => h0 (fun j hj e => ?_), fun hc => ⟨fun hd => ?_, fun hd => h0 (fun j hj e => ?_)⟩⟩
  · rw [e] at hc
    exact nI_pos (by omega) hc
  · rcases b_ix a 6 (by decide) with ⟨j, hj, e⟩ | ⟨h | h, -⟩
    · refine ⟨b_in e hj (by decide), ?_⟩
      have h2 := h1 j hj e
      rw [e, b_cl (by omega)]
      exact h2
    · exact absurd h hc
    · exact absurd hd (Int32.not_lt.mpr h)
  · rw [e] at hd
    exact hd (nI_lt (a := j) (b := 6) hj (by decide))
theorem s_textOf {E : mEv} {d c : Nat} {mu : fMu} {la : fLa} {Qn : fMu → fLa → Prop} {Qs : Nat → fMu → fLa → Prop} (a : Int32) (h1 : ∀ j : Nat, j < 4 → a = nI j → Qs j mu la) (h0 : (∀ j : Nat, j < 4 → a ≠ nI j) → Qn mu la) : FnR E d mi_97 [.inr (.inr (some (6, c))), .inl a] mu la 5 Qn Qs := by
  refine vc_X6_textOf a ⟨fun hc => h0 (fun j hj e => ?_), fun hc => ⟨fun hd => ?_, fun hd => h0 (fun j hj e => ?_)⟩⟩
  · rw [e] at hc
    exact nI_pos (by omega) hc
  · rcases b_ix a 4 (by decide) with ⟨j, hj, e⟩ | ⟨h | h, -⟩
    · refine ⟨b_in e hj (by decide), ?_⟩
      have h2 := h1 j hj e
      rw [e, b_cl (by omega)]
      exact h2
    · exact absurd h hc
    · exact absurd hd (Int32.not_lt.mpr h)
  · rw [e] at hd
    exact hd (nI_lt (a := j) (b := 4) hj (by decide))
theorem s_keptAt {E : mEv} {d c : Nat} {mu : fMu} {la : fLa} {Qn : fMu → fLa → Prop} {Qs : Nat → fMu → fLa → Prop} (a : Int32) (h1 : ∀ j : Nat, j < 3 → a = nI j → Qs (j + 1) mu la) (h0 : (∀ j : Nat, j < 3 → a ≠ nI j) → Qn mu la) : FnR E d mi_98 [.inr (.inr (some (6, c))), .inl a] mu la 2 Qn Qs := by
  refine vc_X6_keptAt a ⟨fun hc => h0 (fun j hj e => ?_), fun hc => ⟨fun hd => ?_, fun hd => h0 (fun j hj e => ?_)⟩⟩
  · rw [e] at hc
    exact nI_pos (by omega) hc
  · rcases b_ix a 3 (by decide) with ⟨j, hj, e⟩ | ⟨h | h, -⟩
    · refine ⟨b_in e hj (by decide), ?_⟩
      have h2 := h1 j hj e
      rw [e, b_cl (by omega)]
      exact h2
    · exact absurd h hc
    · exact absurd hd (Int32.not_lt.mpr h)
  · rw [e] at hd
    exact hd (nI_lt (a := j) (b := 3) hj (by decide))
/-- what a finding changes, on either side -/
def fdX (mu : fMu) (w : Nat) : fMu := up3 (up3 mu 6 0 10 (nI w)) 28 0 w (mu 28 0 w + 1)
def fdM (mu : fMu) (w : Nat) : fMu := up3 (up3 mu 7 0 20 (nI w)) 43 0 w (mu 43 0 w + 1)
theorem s_foundX {E : mEv} {d : Nat} {mu : fMu} {la : fLa} {Q : Int32 → fMu → fLa → Prop} (w : Nat) (hw : w < 6) (h : Q (-3) (fdX mu w) la) : FnI E d mi_95 [.inr (.inr (some (6, 0))), .inl (nI w)] mu la Q := by
  refine vc_X6_found (nI w) ?_
  rintro mu1 rfl
  refine ⟨b_in rfl hw (by decide), b_in rfl hw (by decide), ?_⟩
  rintro mu2 rfl
  rw [b_cl (by omega)]
  exact h
theorem s_foundM {E : mEv} {d : Nat} {mu : fMu} {la : fLa} {Q : Int32 → fMu → fLa → Prop} (w : Nat) (hw : w < 6) (h : Q (-3) (fdM mu w) la) : FnI E d mi_132 [.inr (.inr (some (7, 0))), .inl (nI w)] mu la Q := by
  refine vc_X7_found (nI w) ?_
  rintro mu1 rfl
  refine ⟨b_in rfl hw (by decide), b_in rfl hw (by decide), ?_⟩
  rintro mu2 rfl
  rw [b_cl (by omega)]
  exact h
