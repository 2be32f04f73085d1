/-! from the law's entry to its loop -/
theorem all_range {n : Nat} {p : Nat → Bool} (h : (List.range n).all p = true) : ∀ j, j < n → p j = true := fun j hj => List.all_eq_true.mp h j (List.mem_range.mpr hj)
theorem inv_of {mu : fMu} {la : fLa} (h : chI mu la = true) : Inv IB mu la := by
  unfold chI at h
  simp only [Bool.and_eq_true, decide_eq_true_eq] at h
  obtain ⟨⟨⟨⟨⟨⟨⟨a1, a2⟩, ⟨⟨⟨⟨b1, b2⟩, b3⟩, b4⟩, b5⟩⟩, ⟨⟨c1, c2⟩, c3⟩⟩, ⟨⟨⟨⟨d1, d2⟩, d3⟩, d4⟩, d5⟩⟩, ⟨⟨⟨e1, e2⟩, e3⟩, e4⟩⟩, ⟨⟨⟨f1, f2⟩, f3⟩, f4⟩⟩, g1⟩ := h
  have r1 : ∀ r : Nat, r < 6 → mu 29 0 r = -1 ∧ mu 3 r 0 = -1 := fun r hr => by
    have := all_range a1 r hr
    simpa using this
  have r2 : ∀ r : Nat, r < 4 → mu 31 0 r = -1 ∧ mu 5 r 0 = -1 := fun r hr => by
    have := all_range a2 r hr
    simpa using this
  have r3 : ∀ w : Nat, w < 6 → mu 28 0 w = mu 43 0 w := fun r hr => by
    have := all_range b3 r hr
    simpa using this
  have r4 : ∀ i : Nat, i < 6 → mu 8 0 i = -9 ∧ mu 9 0 i = -9 := fun r hr => by
    have := all_range d5 r hr
    simpa using this
  have r5 : ∀ i : Nat, i < 6 → mu 38 0 i = -9 := fun r hr => by
    have := all_range f1 r hr
    simpa using this
  have r6 : ∀ k : Nat, k < 3 → mu 2 (k + 1) 0 = -1 ∧ mu 42 0 k = 0 := fun r hr => by
    have := all_range g1 r hr
    simpa using this
  refine ⟨fun r hr => ⟨by rw [(r1 r hr).1, (r1 r hr).2], Or.inl (r1 r hr).2⟩, fun r hr => ⟨by rw [(r2 r hr).1, (r2 r hr).2], Or.inl (r2 r hr).2⟩, ⟨b1, b2, r3, b4, b5⟩, ?_⟩
  refine ⟨bZ 0, fun _ => (0, 0, 0), 0, ⟨by decide, by decide, fun i hi => absurd hi (Nat.not_lt_zero i)⟩, ⟨by decide, fun k hk => absurd hk (Nat.not_lt_zero k)⟩, ⟨c1, c2, c3, fun i hi => absurd hi (Nat.not_lt_zero i)⟩, ⟨d1, d2, d3, d4, fun i hi => (r4 i hi).1, fun p hp => (r4 p hp).2⟩, ⟨e1, fun k hk => absurd hk (Nat.not_lt_zero k)⟩, ⟨e2, e3, fun i hi => absurd hi (Nat.not_lt_zero i)⟩, MC.of r5 f2 f3 f4, ⟨e4, fun k hk => absurd hk (Nat.not_lt_zero k)⟩, fun kk hk => Or.inl (r6 kk hk)⟩
theorem any_mem {cs : List (Nat × Nat)} {r : Nat × Nat} (h : cs.any (fun c' => Nat.beq c'.1 r.1 && Nat.beq c'.2 r.2) = true) : r ∈ cs := by
  obtain ⟨c, hc, e⟩ := List.any_eq_true.mp h
  rw [Bool.and_eq_true] at e
  have e1 := Nat.eq_of_beq_eq_true e.1
  have e2 := Nat.eq_of_beq_eq_true e.2
  have : c = r := Prod.ext e1 e2
  rw [← this]
  exact hc
theorem rel_of {cs : List (Nat × Nat)} {ra rc : fRh} {mu : fMu} {la : fLa} {G : gS} (h : chR (cs, rc, mu, la) = true) (hR : RelR G ra rc) (hM : ∀ c ∈ cs, G c.1 c.2) : RelR (fun k i => (k, i) ∈ cs ∨ (k = 100 ∧ i = 0) ∨ (k = 101 ∧ i = 0)) ra rhF := by
  intro k i hg j hj
  rcases hg with hg | ⟨rfl, rfl⟩ | ⟨rfl, rfl⟩
  · unfold chR at h
    have h1 := List.all_eq_true.mp h (k, i) hg
    have h2 := all_range h1 j hj
    rw [Bool.and_eq_true, decide_eq_true_eq] at h2
    obtain ⟨e1, e2⟩ := h2
    refine ⟨((hR k i (hM _ hg) j hj).1).trans e1, ?_⟩
    dsimp only at e2
    cases hr : rhF k i j with
    | none => trivial
    | some r =>
      rw [hr] at e2
      exact Or.inl (any_mem e2)
  · exact absurd hj (by rw [show bnd 100 = 0 from rfl]; exact Nat.not_lt_zero j)
  · exact absurd hj (by rw [show bnd 101 = 0 from rfl]; exact Nat.not_lt_zero j)
set_option maxHeartbeats 4000000 in
theorem law_run (L : Nat) (xs : Nat → Int32) (hL : L ≤ 3072) : ∃ (n : Nat) (M' : mM), mrun L xs n 101 mi_230 0 [some (vR 100 0), none, none, none] [] m00 = some (some (vI 1), M') ∧ M'.1.length ≤ 600000 ∧ mSl M'.1 ≤ 7302250 := by
  have hc := ctor_ok
  cases z1 : mrun 0 (fun _ => 0) 3000 30 mi_49 0 (mPad 2 (mEnt [vR 6 0])) [] (mNew 6 m00) with
  | none => rw [z1] at hc; cases hc
  | some y1 =>
    obtain ⟨r1, M1⟩ := y1
    rw [z1] at hc
    cases r1 with
    | some w => cases hc
    | none =>
      dsimp only at hc
      rw [Bool.and_eq_true, Bool.and_eq_true] at hc
      obtain ⟨⟨k1, k2⟩, hc⟩ := hc
      have hcnt := Nat.eq_of_beq_eq_true k1
      have hhas : mHas M1.1 7 0 = false := by simpa using k2
      cases z2 : mrun 0 (fun _ => 0) 3000 30 mi_128 0 (mPad 2 (mEnt [vR 7 0])) [] (mNew 7 M1) with
      | none => rw [z2] at hc; cases hc
      | some y2 =>
        obtain ⟨r2, M2⟩ := y2
        rw [z2] at hc
        cases r2 with
        | some w => cases hc
        | none =>
          dsimp only at hc
          rw [Bool.and_eq_true, Bool.and_eq_true, Bool.and_eq_true, Bool.and_eq_true] at hc
          obtain ⟨⟨⟨⟨q1, q2⟩, q3⟩, q4⟩, q5⟩ := hc
          have s1 := sim_run (L := 0) (L' := L) (xs := fun _ => 0) (xs' := xs) 3000 30 mi_49 0 (mPad 2 (mEnt [vR 6 0])) [] (mNew 6 m00).1 (mNew 6 m00).2.1 (mNew 6 m00).2.1 (mNew 6 m00).2.2.1 (mNew 6 m00).2.2.2 none M1 (fun k i => (k = 6 ∧ i = 0) ∨ (k = 101 ∧ i = 0)) ok_49 (Or.inr (fun i hi => by omega)) (Or.inr ⟨rfl, rfl⟩) (fun k i _ j _ => ⟨rfl, by
            have : (mNew 6 m00).2.1 k i j = none := by
              show up2 (fun _ _ _ => none) 6 0 (fun _ => none) k i j = none
              unfold up2
              split <;> rfl
            rw [this]
            trivial⟩) (fun c hcm => by
            have : c = (6, 0) := by simpa [mNew, m00, mCnt] using hcm
            rw [this]
            exact Or.inl ⟨rfl, rfl⟩) (gL_pad _ (gL_ent ⟨Or.inl ⟨rfl, rfl⟩, trivial⟩)) trivial z1
          obtain ⟨G1, ra1, cs1, rc1, mu1, la1, rfl, e1, g1, n1, R1, m1, -⟩ := s1
          have hcnt' : mCnt cs1 7 = 0 := hcnt
          have hhas' : mHas cs1 7 0 = false := hhas
          have z2' : mrun 0 (fun _ => 0) 3000 30 mi_128 0 (mPad 2 (mEnt [vR 7 0])) [] (cs1 ++ [(7, mCnt cs1 7)], up2 rc1 7 (mCnt cs1 7) (fun _ => none), up2 mu1 7 (mCnt cs1 7) (fun _ => 0), up2 la1 7 (mCnt cs1 7) (fun _ => 0)) = some (none, M2) := z2
          rw [hcnt'] at z2'
          have no1 : ∀ i, ¬ G1 100 i := n1 (fun i hi => by omega)
          have s2 := sim_run (L := 0) (L' := L) (xs := fun _ => 0) (xs' := xs) 3000 30 mi_128 0 (mPad 2 (mEnt [vR 7 0])) [] _ _ (up2 ra1 7 0 (fun _ => none)) _ _ none M2 (fun k i => G1 k i ∨ (k = 7 ∧ i = 0)) ok_128 (Or.inr (fun i hi => hi.elim (no1 i) (fun z => by omega))) (Or.inl (g1 _ _ (Or.inr ⟨rfl, rfl⟩))) R1.new (fun c hcm => by
            rcases List.mem_append.mp hcm with hcm | hcm
            · exact Or.inl (m1 c hcm)
            · have : c = (7, 0) := by simpa using hcm
              rw [this]
              exact Or.inr ⟨rfl, rfl⟩) (gL_pad _ (gL_ent ⟨Or.inr ⟨rfl, rfl⟩, trivial⟩)) trivial z2'
          obtain ⟨G2, ra2, cs2, rc2, mu2, la2, rfl, e2, g2, n2, R2, m2, -⟩ := s2
          have hinv : Inv IB mu2 la2 := inv_of q2
          have hrel := rel_of q1 R2 m2
          unfold chK at q3
          rw [Bool.and_eq_true] at q3
          have in6 : ((6, 0) : Nat × Nat) ∈ cs2 := any_mem q3.1
          have in7 : ((7, 0) : Nat × Nat) ∈ cs2 := any_mem q3.2
          obtain ⟨n3, r3, M3, w1, x3, mu3, la3, w2, w3, w4⟩ := law_loop (E := (L, xs, cs2)) hL (L + 1) 0 mu2 la2 (by show L < 0 + (L + 1); omega) (Nat.zero_le _) hinv
          subst w4
          subst w2
          have s3 := sim_run (L := L) (L' := L) (xs := xs) (xs' := xs) n3 (100 + 1) mi_230 10 _ [] cs2 rhF ra2 mu2 la2 _ M3 _ ok_230 (Or.inl ⟨rfl, rfl⟩) (Or.inr (Or.inr ⟨rfl, rfl⟩)) hrel (fun c hcm => Or.inl hcm) (gL_cons (fun v e => by cases e; exact Or.inr (Or.inl ⟨rfl, rfl⟩)) (gL_cons (fun v e => by cases e; exact Or.inl in6) (gL_cons (fun v e => by cases e; exact Or.inl in7) (gL_cons (fun v e => by cases e; trivial) gL_nil)))) trivial w1
          obtain ⟨G3, ra3, cs3, rc3, mu3', la3', w5, e3, -, -, -, -, -⟩ := s3
          have hcs : cs3 = cs2 := by
            have h1 : M3.1 = cs2 := by rw [w3]
            rw [w5] at h1
            exact h1
          have go : Ev (L, xs, cs2) (100 + 1) mi_230 0 [some (vR 100 0), none, none, none] [] m00 (fun r M => r = some (vI 1) ∧ M.1 = cs2) := by
            refine Ev.steps 2 (ip' := 2) (ls' := [some (vR 100 0), none, none, none]) (st' := [vR 6 0, vR 6 0]) (M' := mNew 6 m00) rfl ?_
            refine Ev.call (J := mi_49) (as := [vR 6 0]) (rest := [vR 6 0]) rfl rfl rfl (Nat.le_of_ble_eq_true rfl) ⟨3000, none, (cs1, ra1, mu1, la1), mrun_more 3000 3000 30 100 _ _ _ _ _ _ e1 (Nat.le_refl _) (by decide), ?_⟩
            refine Ev.steps 1 (ip' := 4) (ls' := [some (vR 100 0), some (vR 6 0), none, none]) (st' := []) (M' := (cs1, ra1, mu1, la1)) rfl ?_
            refine Ev.one (s' := (5, [some (vR 100 0), some (vR 6 0), none, none], [vR 7 0], (cs1 ++ [(7, 0)], up2 ra1 7 0 (fun _ => none), up2 mu1 7 0 (fun _ => 0), up2 la1 7 0 (fun _ => 0)))) rfl rfl rfl ?_ ?_
            · show (if mHas cs1 7 (mCnt cs1 7) = true then none else some (4 + 1, [some (vR 100 0), some (vR 6 0), none, none], [vR 7 (mCnt cs1 7)], (cs1 ++ [(7, mCnt cs1 7)], up2 ra1 7 (mCnt cs1 7) (fun _ => none), up2 mu1 7 (mCnt cs1 7) (fun _ => 0), up2 la1 7 (mCnt cs1 7) (fun _ => 0)))) = _
              rw [hcnt', hhas', if_neg (by decide)]
            · refine Ev.steps 1 (ip' := 6) (ls' := [some (vR 100 0), some (vR 6 0), none, none]) (st' := [vR 7 0, vR 7 0]) (M' := (cs1 ++ [(7, 0)], up2 ra1 7 0 (fun _ => none), up2 mu1 7 0 (fun _ => 0), up2 la1 7 0 (fun _ => 0))) rfl ?_
              refine Ev.call (J := mi_128) (as := [vR 7 0]) (rest := [vR 7 0]) rfl rfl rfl (Nat.le_of_ble_eq_true rfl) ⟨3000, none, (cs2, ra2, mu2, la2), mrun_more 3000 3000 30 100 _ _ _ _ _ _ e2 (Nat.le_refl _) (by decide), ?_⟩
              refine Ev.steps 3 (ip' := 10) (ls' := [some (vR 100 0), some (vR 6 0), some (vR 7 0), some (vI 0)]) (st' := []) (M' := (cs2, ra2, mu2, la2)) rfl ?_
              exact ⟨n3, _, _, e3, rfl, hcs⟩
          obtain ⟨n4, r4, M4, w6, w7, w8⟩ := go
          refine ⟨n4, M4, ?_, ?_, ?_⟩
          · rw [← w7]
            exact w6
          · rw [w8]
            exact Nat.le_of_ble_eq_true q4
          · rw [w8]
            exact Nat.le_of_ble_eq_true q5
