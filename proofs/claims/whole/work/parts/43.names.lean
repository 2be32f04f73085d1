section NAMES
variable {E : mEv} {d : Nat} {mu : fMu} {la : fLa} {Q : Int32 → fMu → fLa → Prop} {B : tB} {D : Nat → Nat × Nat × Nat} {m : Nat}
/-! alike -/
def alP (B : tB) (p q : Nat) : Bool := decide (bK B p ≠ 3) && decide (bK B q ≠ 3) && alk (bA B p) (bA B q) (bE B)
def alI (B : tB) (p : Nat) : Nat → Nat → Nat × Nat → Nat × Nat
  | _, 0, s => s
  | q, z + 1, s => alI B p (q + 1) z (if alP B p q then (s.1 + 1, if s.1 = 0 then 6 * p + q else s.2) else s)
def alO (B : tB) : Nat → Nat → Nat × Nat → Nat × Nat
  | _, 0, s => s
  | p, z + 1, s => alO B (p + 1) z (alI B p (p + 1) z s)
def alT (s : Nat × Nat) : Int32 := if s.1 = 0 then -9 else nI s.2
theorem alI_le (B : tB) (p z : Nat) : ∀ (q : Nat) (s : Nat × Nat), (alI B p q z s).1 ≤ s.1 + z := by
  induction z with
  | zero => intro q s; exact Nat.le_refl _
  | succ z ih =>
    intro q s
    unfold alI
    refine Nat.le_trans (ih _ _) ?_
    split
    · show s.1 + 1 + z ≤ _; omega
    · omega
theorem alT_step (s : Nat × Nat) (v : Nat) : alT (s.1 + 1, if s.1 = 0 then v else s.2) = if s.1 = 0 then nI v else nI s.2 := by
  unfold alT
  rw [if_neg (by show ¬ s.1 + 1 = 0; omega)]
  by_cases h : s.1 = 0
  · simp [h]
  · simp [h]
theorem x_alike_in (p : Nat) (hd : IBd B D m mu) (hp : p < bN B) : ∀ (z q : Nat) (s : Nat × Nat), q + z = bN B → s.1 + z ≤ 100 → Ev E (d + 1) mi_79 7 [some (.inr (.inr (some (6, 0)))), some (.inl (nI (alI B p q z s).1)), some (.inl (nI (p + 1))), none] [] (mem E (up3 mu 6 0 11 (alT (alI B p q z s))) la) (qI E Q) → Ev E (d + 1) mi_79 16 [some (.inr (.inr (some (6, 0)))), some (.inl (nI s.1)), some (.inl (nI p)), some (.inl (nI q))] [] (mem E (up3 mu 6 0 11 (alT s)) la) (qI E Q) := by
  have hn := hd.1.1
  have hb := hd.1
  intro z
  induction z with
  | zero =>
    intro q s hq hs k
    have hX : CB B (up3 mu 6 0 11 (alT s)) := hd.2.2.1.fr (Fr.rf.u3 rfl)
    refine vc_X6_alike_16 0 _ _ _ ?_
    rw [hX.1, ← nI_succ]
    exact yes (nI_le (by omega) (by omega)) k
  | succ z ih =>
    intro q s hq hs k
    have hX : CB B (up3 mu 6 0 11 (alT s)) := hd.2.2.1.fr (Fr.rf.u3 rfl)
    have hqn : q < bN B := by omega
    unfold alI at k
    have skip : alP B p q = false → Ev E (d + 1) mi_79 16 [some (.inr (.inr (some (6, 0)))), some (.inl (nI s.1)), some (.inl (nI p)), some (.inl (nI (q + 1)))] [] (mem E (up3 mu 6 0 11 (alT s)) la) (qI E Q) := by
      intro hc
      rw [hc] at k
      exact ih (q + 1) s (by omega) (by omega) k
    refine vc_X6_alike_16 0 _ _ _ ?_
    rw [hX.1, ← nI_succ, ← nI_succ, ← nI_succ]
    refine noo (nI_ge hqn (by omega)) (s_cThere p hn hp hX.2.2.1 (bzz (fun h0 => skip (by unfold alP; rw [h0]; rfl)) (fun t1 => s_cThere q hn hqn hX.2.2.1 (bzz (fun h0 => skip (by unfold alP; rw [h0, Bool.and_false]; rfl)) (fun t2 => ⟨b_in rfl (by omega) (by decide), b_in rfl (by omega) (by decide), ?_⟩)))))
    rw [b_cl (by omega), b_cl (by omega), (hX.2.2.2 p hp).2.2.2.1, (hX.2.2.2 q hqn).2.2.2.1, hX.2.1]
    refine s_areAlike _ _ _ (hb.2.2 p hp).2.2.2.2.1 (hb.2.2 q hqn).2.2.2.2.1 hb.2.1 (bzz (fun h0 => skip (by unfold alP; rw [h0, Bool.and_false])) (fun t3 => ?_))
    have hal : alP B p q = true := by unfold alP; rw [t1, t2, t3]; rfl
    rw [hal, if_pos rfl] at k
    have k2 := ih (q + 1) (s.1 + 1, if s.1 = 0 then 6 * p + q else s.2) (by omega) (by show s.1 + 1 + z ≤ 100; omega) k
    rw [alT_step] at k2
    have e0 : ¬ nI s.1 = 0 ↔ s.1 ≠ 0 := by rw [show (0 : Int32) = nI 0 from rfl, nI_eq (by omega) (by omega)]
    by_cases hz : s.1 = 0
    · refine noo (fun w => e0.mp w hz) ?_
      rintro mu1 rfl
      rw [up3_up3, show (6 : Int32) = nI 6 from rfl, pk_mul, nI_add]
      rw [if_pos hz, if_pos hz] at k2
      exact k2
    · refine yes (e0.mpr hz) ?_
      rintro mu1 rfl
      rw [up3_self, up3_up3]
      rw [if_neg hz, if_neg hz] at k2
      have e3 : alT s = nI s.2 := if_neg hz
      rw [e3]
      exact k2
theorem x_alike_out (hd : IBd B D m mu) : ∀ (z p : Nat) (s : Nat × Nat), p + z = bN B → s.1 + 6 * z ≤ 40 → Q (nI (alO B p z s).1) (up3 mu 6 0 11 (alT (alO B p z s))) la → Ev E (d + 1) mi_79 7 [some (.inr (.inr (some (6, 0)))), some (.inl (nI s.1)), some (.inl (nI p)), none] [] (mem E (up3 mu 6 0 11 (alT s)) la) (qI E Q) := by
  have hn := hd.1.1
  intro z
  induction z with
  | zero =>
    intro p s hp hs q
    have hX : CB B (up3 mu 6 0 11 (alT s)) := hd.2.2.1.fr (Fr.rf.u3 rfl)
    refine vc_X6_alike_7 0 _ _ ?_
    rw [hX.1]
    exact yes (nI_le (by omega) (by omega)) q
  | succ z ih =>
    intro p s hp hs q
    have hX : CB B (up3 mu 6 0 11 (alT s)) := hd.2.2.1.fr (Fr.rf.u3 rfl)
    refine vc_X6_alike_7 0 _ _ ?_
    rw [hX.1, ← nI_succ]
    have := alI_le B p z (p + 1) s
    exact noo (nI_ge (by omega) (by omega)) (x_alike_in p hd (by omega) z (p + 1) s (by omega) (by omega) (ih (p + 1) _ (by omega) (by omega) q))
theorem m_alike_in (p : Nat) (hd : IBd B D m mu) (hp : p < bN B) : ∀ (z q : Nat) (s : Nat × Nat), q + z = bN B → s.1 + z ≤ 100 → s.2 < 100 → ((alI B p q z s).2 < 100 → Ev E (d + 1) mi_200 6 [some (.inr (.inr (some (7, 0)))), some (.inl (nI (alI B p q z s).1)), some (.inl (alT (alI B p q z s))), some (.inl (nI (p + 1))), none, none] [] (mem E mu la) (qI E Q)) → Ev E (d + 1) mi_200 14 [some (.inr (.inr (some (7, 0)))), some (.inl (nI s.1)), some (.inl (alT s)), some (.inl (nI p)), some (.inl (nI q)), none] [] (mem E mu la) (qI E Q) := by
  have hn := hd.1.1
  have hb := hd.1
  have hM := hd.2.2.2.2.2.1
  intro z
  induction z with
  | zero =>
    intro q s hq hs hs2 k
    refine vc_X7_alike_14 0 _ _ _ _ ?_
    rw [hM.1, ← nI_succ]
    exact yes (nI_le (by omega) (by omega)) (k hs2)
  | succ z ih =>
    intro q s hq hs hs2 k
    have hqn : q < bN B := by omega
    unfold alI at k
    have skip : alP B p q = false → Ev E (d + 1) mi_200 14 [some (.inr (.inr (some (7, 0)))), some (.inl (nI s.1)), some (.inl (alT s)), some (.inl (nI p)), some (.inl (nI (q + 1))), none] [] (mem E mu la) (qI E Q) := by
      intro hc
      rw [hc] at k
      exact ih (q + 1) s (by omega) (by omega) hs2 k
    refine vc_X7_alike_14 0 _ _ _ _ ?_
    rw [hM.1, b_a0, ← nI_succ, ← nI_succ, ← nI_succ]
    refine noo (nI_ge hqn (by omega)) (s_mThere p hb hp hM (bzz (fun h0 => yes rfl (yes rfl (skip (by unfold alP; rw [h0]; rfl)))) (fun t1 => s_mThere q hb hqn hM (bzz (fun h0 => yes rfl (yes rfl (skip (by unfold alP; rw [h0, Bool.and_false]; rfl)))) (fun t2 => ⟨b_in rfl (by omega) (by decide), b_in rfl (by omega) (by decide), ?_⟩)))))
    rw [b_cl (by omega), b_cl (by omega), (hM.2.2 p hp).2.2.2.1, (hM.2.2 q hqn).2.2.2.1]
    refine s_abs _ ?_
    rw [hM.2.1]
    refine alkM _ _ _ (hb.2.2 p hp).2.2.2.2.1 (hb.2.2 q hqn).2.2.2.2.1 hb.2.1 (fun h0 => yes rfl (yes rfl (skip (by unfold alP; rw [h0, Bool.and_false])))) (fun t3 => noo b_x10 (noo b_x10 ?_))
    have hal : alP B p q = true := by unfold alP; rw [t1, t2, t3]; rfl
    rw [hal, if_pos rfl] at k
    have k2 := ih (q + 1) (s.1 + 1, if s.1 = 0 then 6 * p + q else s.2) (by omega) (by show s.1 + 1 + z ≤ 100; omega) (by show (if s.1 = 0 then 6 * p + q else s.2) < 100; split <;> omega) k
    rw [alT_step] at k2
    rw [show (6 : Int32) = nI 6 from rfl, pk_mul, nI_add]
    by_cases hz : s.1 = 0
    · rw [if_pos hz, if_pos hz] at k2
      exact noo (fun w => w (if_pos hz)) k2
    · rw [if_neg hz, if_neg hz] at k2
      have e3 : alT s = nI s.2 := if_neg hz
      have : ∀ x : Nat, x < 100 → nI x ≠ -9 := by decide +kernel
      refine yes (by rw [e3]; exact this _ hs2) ?_
      rw [e3]
      exact k2
theorem m_alike_out (hd : IBd B D m mu) : ∀ (z p : Nat) (s : Nat × Nat), p + z = bN B → s.1 + 6 * z ≤ 40 → s.2 < 100 → Q (nI (alO B p z s).1) (up3 mu 7 0 17 (alT (alO B p z s))) la → Ev E (d + 1) mi_200 6 [some (.inr (.inr (some (7, 0)))), some (.inl (nI s.1)), some (.inl (alT s)), some (.inl (nI p)), none, none] [] (mem E mu la) (qI E Q) := by
  have hn := hd.1.1
  have hM := hd.2.2.2.2.2.1
  intro z
  induction z with
  | zero =>
    intro p s hp hs hs2 q
    refine vc_X7_alike_6 0 _ _ _ ?_
    rw [hM.1]
    exact yes (nI_le (by omega) (by omega)) (s_answer _ _ q)
  | succ z ih =>
    intro p s hp hs hs2 q
    refine vc_X7_alike_6 0 _ _ _ ?_
    rw [hM.1, ← nI_succ]
    have := alI_le B p z (p + 1) s
    exact noo (nI_ge (by omega) (by omega)) (m_alike_in p hd (by omega) z (p + 1) s (by omega) (by omega) hs2 (fun h3 => ih (p + 1) _ (by omega) (by omega) h3 q))
theorem p_alike (h : Inv IB mu la) : Pair IB E (d + 2) mi_79 mi_200 [] mu la := by
  have hi := h
  obtain ⟨-, -, -, B, D, m, hd⟩ := h
  have hn := hd.1.1
  refine vc_X6_alike ?_
  rintro mu1 rfl
  refine x_alike_out hd (bN B) 0 (0, 0) (by omega) (by show 0 + 6 * bN B ≤ 40; omega) ?_
  refine vc_X7_alike (m_alike_out (hd.fr (Fr.rf.u3 rfl)) (bN B) 0 (0, 0) (by omega) (by show 0 + 6 * bN B ≤ 40; omega) (by show (0 : Nat) < 100; omega) ⟨rfl, hi.tell ibf _⟩)
/-! give -/
def gvN (B : tB) : Nat → Nat → Nat × Nat → Nat × Nat
  | _, 0, s => s
  | x, z + 1, s => gvN B (x + 1) z (if pop (hrB B x (bE B)) < s.2 then (x, pop (hrB B x (bE B))) else s)
theorem x_give (hd : IBd B D m mu) : ∀ (z x : Nat) (s : Nat × Nat), x + z = 10 → s.2 < 1000 → Q (nI (gvN B x z s).1) (up3 mu 6 0 11 (nI (gvN B x z s).2)) la → Ev E (d + 2) mi_80 12 [some (.inr (.inr (some (6, 0)))), some (.inl (nI s.1)), some (.inl (nI s.2)), some (.inl (nI x)), none] [] (mem E mu la) (qI E Q) := by
  have hn := hd.1.1
  have hb := hd.1
  have hX := hd.2.2.1
  intro z
  induction z with
  | zero =>
    intro x s hx hs q
    refine vc_X6_give_12 0 _ _ _ (yes ?_ ?_)
    · rw [show x = 10 by omega]; decide
    · rintro mu1 rfl
      exact q
  | succ z ih =>
    intro x s hx hs q
    have h64 : hrB B x (bE B) < 64 := bits64 _ hn
    have hp6 := pop_le _ h64
    refine vc_X6_give_12 0 _ _ _ (noo (nI_nlt (a := 9) (b := x) (by omega) (by decide)) ?_)
    rw [hX.2.1, ← nI_succ]
    refine s_whoHears x _ hb (by omega) hb.2.1 hX.cn (s_bitCount _ h64 (pk_le s.2 (pop (hrB B x (bE B))) (fun hl => ?_) (fun hl => ?_)))
    · unfold gvN at q
      rw [if_neg (by omega)] at q
      exact ih (x + 1) s (by omega) hs q
    · unfold gvN at q
      rw [if_pos hl] at q
      exact ih (x + 1) (x, pop (hrB B x (bE B))) (by omega) (by show pop _ < 1000; omega) q
theorem m_give_in (hd : IBd B D m mu) (x : Nat) (hx : x < 10) (v1 v2 : Int32) (k : Ev E (d + 2) mi_201 18 [some (.inr (.inr (some (7, 0)))), some (.inl v1), some (.inl v2), some (.inl (nI x)), some (.inl (nI (pop (hrB B x (bE B))))), some (.inl (nI (bN B)))] [] (mem E mu la) (qI E Q)) : Ev E (d + 2) mi_201 18 [some (.inr (.inr (some (7, 0)))), some (.inl v1), some (.inl v2), some (.inl (nI x)), some (.inl (0 : Int32)), some (.inl (0 : Int32))] [] (mem E mu la) (qI E Q) := by
  have hn := hd.1.1
  have hb := hd.1
  have hM := hd.2.2.2.2.2.1
  unfold hrB at k
  rw [pop_bits _ _ hn] at k
  refine lpU (P := fun p => Ev E (d + 2) mi_201 18 [some (.inr (.inr (some (7, 0)))), some (.inl v1), some (.inl v2), some (.inl (nI x)), some (.inl (nI (cntN (fun p => decide (bK B p ≠ 3) && alk (bA B p) x (bE B)) p))), some (.inl (nI p))] [] (mem E mu la) (qI E Q)) (n := bN B) k ?_ 0 (Nat.zero_le _)
  intro p hp ih
  refine vc_X7_give_18 0 _ _ _ _ _ ?_
  rw [hM.1, b_a0, ← nI_succ, ← nI_succ, ← nI_succ]
  unfold cntN at ih
  refine noo (nI_ge hp (by omega)) (s_mThere p hb hp hM (bzz (fun h0 => ?_) (fun h1 => ⟨b_in rfl (by omega) (by decide), ?_⟩)))
  · simp only [h0, Bool.false_and, Bool.false_eq_true, if_false, Nat.add_zero] at ih
    exact ih
  · rw [b_cl (by omega), (hM.2.2 p hp).2.2.2.1]
    refine s_abs _ ?_
    rw [hM.2.1]
    refine alkM _ _ _ (hb.2.2 p hp).2.2.2.2.1 (by omega) hb.2.1 (fun h0 => ?_) (fun h0 => ?_)
    · simp only [h0, Bool.and_false, Bool.false_eq_true, if_false, Nat.add_zero] at ih
      exact ih
    · simp only [h1, h0, Bool.and_true, if_true] at ih
      exact ih
theorem m_give (hd : IBd B D m mu) : ∀ (z x : Nat) (s : Nat × Nat), x + z = 10 → s.2 < 10000000 → Q (nI (gvN B x z s).1) (up3 mu 7 0 17 (nI (gvN B x z s).2)) la → Ev E (d + 2) mi_201 11 [some (.inr (.inr (some (7, 0)))), some (.inl (nI s.1)), some (.inl (nI s.2)), some (.inl (nI x)), none, none] [] (mem E mu la) (qI E Q) := by
  have hn := hd.1.1
  have hM := hd.2.2.2.2.2.1
  intro z
  induction z with
  | zero =>
    intro x s hx hs q
    refine vc_X7_give_11 0 _ _ _ (yes ?_ (s_answer _ _ q))
    rw [show x = 10 by omega]; decide
  | succ z ih =>
    intro x s hx hs q
    have h64 : hrB B x (bE B) < 64 := bits64 _ hn
    have hp6 := pop_le _ h64
    refine vc_X7_give_11 0 _ _ _ (noo (nI_ge (a := x) (b := 10) (by omega) (by decide)) (m_give_in hd x (by omega) _ _ ?_))
    refine vc_X7_give_18 0 _ _ _ _ _ ?_
    rw [hM.1, ← nI_succ]
    refine yes (nI_le (Nat.le_refl _) (by omega)) (pk_le s.2 (pop (hrB B x (bE B))) (fun hl => ?_) (fun hl => ?_))
    · unfold gvN at q
      rw [if_neg (by omega)] at q
      exact yes (nI_le hl (by omega)) (ih (x + 1) s (by omega) hs q)
    · unfold gvN at q
      rw [if_pos hl] at q
      exact noo (nI_ge hl (by omega)) (ih (x + 1) (x, pop (hrB B x (bE B))) (by omega) (by show pop _ < 10000000; omega) q)
theorem p_give (h : Inv IB mu la) : Pair IB E (d + 2) mi_80 mi_201 [] mu la := by
  have hi := h
  obtain ⟨-, -, -, B, D, m, hd⟩ := h
  have hn := hd.1.1
  have hX := hd.2.2.1
  have hM := hd.2.2.2.2.2.1
  refine vc_X6_give ?_
  rw [hX.1]
  have e0 : nI (bN B) = 0 ↔ bN B = 0 := by rw [show (0 : Int32) = nI 0 from rfl, nI_eq (by omega) (by omega)]
  by_cases hz : bN B = 0
  · refine noo (fun w => w (e0.mpr hz)) (vc_X7_give ?_)
    rw [hM.1]
    exact noo (fun w => w (e0.mpr hz)) ⟨rfl, hi⟩
  · have hp6 := pop_le (hrB B 0 (bE B)) (bits64 _ hn)
    have e1 : gvN B 0 10 (0, 7) = gvN B 0 10 (0, 1000000) := by
      unfold gvN
      rw [if_pos (by show pop _ < 7; omega), if_pos (by show pop _ < 1000000; omega)]
    refine yes (fun w => hz (e0.mp w)) (x_give hd 10 0 (0, 7) (by omega) (by show (7 : Nat) < 1000; omega) (vc_X7_give ?_))
    have hd' : IBd B D m (up3 mu 6 0 11 (nI (gvN B 0 10 (0, 7)).2)) := hd.fr (Fr.rf.u3 rfl)
    rw [hd'.2.2.2.2.2.1.1]
    refine yes (fun w => hz (e0.mp w)) (m_give hd' 10 0 (0, 1000000) (by omega) (by show (1000000 : Nat) < 10000000; omega) ?_)
    rw [e1]
    exact ⟨rfl, hi.tell ibf _⟩
end NAMES
