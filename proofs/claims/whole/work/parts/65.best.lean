/-! the best order, on both sides -/
def cR (r k i _ : Nat) : Bool := !((k == 3 || k == 21) && i == r)
def cZ (k _ j : Nat) : Bool := !(k == 4 || k == 22 || k == 23 || k == 3 || k == 21 || k == 39 || k == 45 || k == 46 || k == 47 || k == 48 || k == 30 || k == 29 || (k == 7 && j == 29))
theorem cZ_T : ∀ k i j, sT k i j = true → cZ k i j = true := by
  intro k i j h
  unfold sT at h
  split at h <;> first | rfl | cases h
theorem cZ_S : ∀ k i j, sS k i j = true → cZ k i j = true := by
  intro k i j h
  unfold sS at h
  split at h
  · rfl
  · split at h <;> first | rfl | cases h
  · rfl
  · rfl
  · cases h
theorem cZ_B : ∀ k i j, sB k i j = true → cZ k i j = true := by
  intro k i j h
  unfold sB at h
  split at h <;> first | rfl | cases h | (split at h <;> first | rfl | cases h)
theorem cZ_S' : ∀ k i j, cZ k i j = true → cS k i j = true := by
  intro k i j h
  unfold cZ at h
  unfold cS
  revert h
  cases k == 4 <;> cases k == 22 <;> cases k == 23 <;> simp
theorem cZ_W : ∀ k i j, cZ k i j = true → cW k i j = true := by
  intro k i j h
  unfold cZ at h
  unfold cW
  revert h
  cases k == 39 <;> cases k == 45 <;> cases k == 46 <;> cases k == 7 <;> cases j == 29 <;> simp
theorem cZ_R {r : Nat} : ∀ k i j, cZ k i j = true → cR r k i j = true := by
  intro k i j h
  unfold cZ at h
  unfold cR
  revert h
  cases k == 3 <;> cases k == 21 <;> cases i == r <;> simp
theorem cS_R : ∀ k i j, sR k i j = true → cS k i j = true := fun k i j h => cS_I k i j (sI_R k i j h)
section BEST
variable {E : mEv} {d : Nat} {mu : fMu} {la : fLa} {B : tB} {T : tT} {D : Nat → Nat × Nat × Nat} {m : Nat}
theorem s_layBest {Q : fMu → fLa → Prop} (r : Nat) (l : List Nat) (hl : l.length ≤ 6) (e3 : mu 4 0 3 = nI l.length) (hb : ∀ j : Nat, j < l.length → mu 23 0 j = nI (gtD l j)) (q : ∀ mu' : fMu, Fr (cR r) mu mu' → mu' 3 r 0 = nI l.length → (∀ j : Nat, j < l.length → mu' 21 r j = nI (gtD l j)) → Q mu' la) : FnV E (d + 2) mi_35 [.inr (.inr (some (4, 0))), .inr (.inr (some (3, r)))] mu la Q := by
  have e : ∀ k, (k == 3 || k == 21) = true → ∀ j, cR r k r j = false := fun k h j => by unfold cR; rw [h, beq_self_eq_true]; rfl
  refine vc_X4_layBest r ?_
  rw [e3]
  refine vc_X3_layAnew _ ?_
  rintro mu1 rfl
  refine s_fill (n := 40) 0 rfl (by decide) (by decide) ?_
  have key : ∀ (z i : Nat) (mu' : fMu), i + z = l.length → Fr (cR r) mu mu' → mu' 3 r 0 = nI l.length → (∀ j : Nat, j < i → mu' 21 r j = nI (gtD l j)) → Ev E (d + 2) mi_35 6 [some (.inr (.inr (some (4, 0)))), some (.inr (.inr (some (3, r)))), some (.inl (nI i))] [] (mem E mu' la) (qV E Q) := by
    intro z
    induction z with
    | zero =>
      intro i mu' hi f e0 hk
      refine vc_X4_layBest_6 0 r _ ?_
      rw [f 4 0 3 rfl, e3]
      exact yes (nI_le (by omega) (by omega)) (q mu' f e0 (fun j hj => hk j (by omega)))
    | succ z ih =>
      intro i mu' hi f e0 hk
      refine vc_X4_layBest_6 0 r _ ?_
      rw [f 4 0 3 rfl, e3, b_cl (by omega), nI_1, f 23 0 i rfl, hb i (by omega)]
      refine noo (nI_ge (by omega) (by omega)) ⟨b_in rfl (by omega) (by decide), b_in rfl (by omega) (by decide), ?_⟩
      rintro mu2 rfl
      refine ih (i + 1) _ (by omega) (f.u3 (e 21 rfl _)) (by rw [← e0]; unfold up3; simp) (fun j hj => ?_)
      by_cases ej : j = i
      · subst ej
        exact up3_self _ _ _ _ _
      · rw [← hk j (by omega)]
        unfold up3; simp [ej]
  refine key l.length 0 _ (by omega) ((Fr.rf.u3 (e 3 rfl _)).u2 (e 21 rfl)) ?_ (fun j hj => by omega)
  unfold up2
  rw [if_neg (fun z => absurd z.1 (by decide)), up3_self]
/-- a row laid anew by both -/
theorem ir_lay {mu mu1 mu2 mu3 : fMu} {r : Nat} {l : List Nat} (hR : IR mu) (hr : r < 6) (hl : l.length ≤ 6) (f1 : ∀ k i j, sR k i j = true → (k = 3 ∨ k = 21 → i ≠ r) → mu1 k i j = mu k i j) (e3 : mu1 3 r 0 = nI l.length) (e21 : ∀ j : Nat, j < l.length → mu1 21 r j = nI (gtD l j)) (f2 : Fr sR mu1 mu2) (e46 : ∀ j : Nat, j < l.length → mu2 46 0 j = nI (gtD l j)) (e : mu3 = up3 (cpR mu2 46 0 30 (40 * r) l.length) 29 0 r (nI l.length)) : IR mu3 := by
  subst e
  have g3 : ∀ i j, up3 (cpR mu2 46 0 30 (40 * r) l.length) 29 0 r (nI l.length) 3 i j = mu1 3 i j := by
    intro i j
    rw [← f2 3 i j rfl]
    unfold up3 cpR up2
    simp
  have g21 : ∀ i j, up3 (cpR mu2 46 0 30 (40 * r) l.length) 29 0 r (nI l.length) 21 i j = mu1 21 i j := by
    intro i j
    rw [← f2 21 i j rfl]
    unfold up3 cpR up2
    simp
  have g30 : ∀ j, up3 (cpR mu2 46 0 30 (40 * r) l.length) 29 0 r (nI l.length) 30 0 j = cpR mu2 46 0 30 (40 * r) l.length 30 0 j := by
    intro j
    unfold up3
    simp
  intro r' hr'
  rw [g3]
  by_cases e : r' = r
  · subst e
    rw [up3_self, e3]
    refine ⟨rfl, Or.inr ⟨l.length, by omega, rfl, fun j hj => ?_⟩⟩
    have h1 := cpR_in mu2 (k0 := 46) (o1 := 0) (k2 := 30) (o2 := 40 * r') (n := l.length) hj
    rw [g30, g21, h1, Nat.zero_add, e46 j hj, e21 j hj]
  · have h29 : up3 (cpR mu2 46 0 30 (40 * r) l.length) 29 0 r (nI l.length) 29 0 r' = mu 29 0 r' := by
      rw [← f1 29 0 r' rfl (fun z => by omega), ← f2 29 0 r' rfl]
      unfold up3 cpR up2
      simp [e]
    rw [h29, f1 3 r' 0 rfl (fun _ => e)]
    obtain ⟨a1, a2⟩ := hR r' hr'
    refine ⟨a1, ?_⟩
    rcases a2 with a2 | ⟨s, hs, a2, a3⟩
    · exact Or.inl a2
    · refine Or.inr ⟨s, hs, a2, fun j hj => ?_⟩
      rw [g30, g21, f1 21 r' j rfl (fun _ => e), ← a3 j hj, ← f1 30 0 _ rfl (fun z => by omega), ← f2 30 0 _ rfl]
      refine cpR_out mu2 ?_
      rcases Nat.lt_trichotomy r' r with z | z | z
      · left; omega
      · exact absurd z e
      · right; omega
def valW (w : Nat) (B : tB) (T : tT) : List Nat → Nat := if w = 0 then vlG B (stpT B true) T 0 else if w = 1 then vlG B (stpT B false) T (tI T) else vlG B (stpW B) T (pop (wrongT T (bN B)))
theorem s_findBest {Q : fMu → fLa → Prop} (w : Nat) (hw : w ≤ 2) (hB : wB B) (hT : WT B T) (hX : CB B mu) (hC : CC B 0 T mu) (q : ∀ mu' : fMu, Fr cS mu mu' → okA (fldA (valW w B T) [] (lpO (bN B) 6 (madeT (bN B) T)) none) → SR (fldA (valW w B T) [] (lpO (bN B) 6 (madeT (bN B) T)) none) mu' → Q mu' la) : FnV E (d + 12) mi_32 [.inr (.inr (some (4, 0))), .inr (.inr (some (0, 0))), .inl (nI w)] mu la Q := by
  have hn := hB.1
  have h108 := hT.i108
  have okn : okA none := fun x hx => by cases hx
  refine vc_X4_findBest 0 _ ?_
  rintro mu1 rfl
  rintro mu1 rfl
  rintro mu1 rfl
  have hc : w = 0 ∨ w = 1 ∨ w = 2 := by omega
  rcases hc with rfl | rfl | rfl
  · refine noo (fun z => z rfl) ?_
    rintro mu1 rfl
    refine yes (by decide) (noo (by rw [up3_self]; decide) ?_)
    have f1 : Fr cS mu (up3 (up3 (up3 (up3 mu 4 0 3 0) 4 0 4 0) 4 0 6 1000000) 4 0 5 1) := (((Fr.rf.u3 rfl).u3 rfl).u3 rfl).u3 rfl
    rw [f1 0 0 3 rfl, f1 0 0 1 rfl, f1 0 0 2 rfl, hC.2.2.1, hC.1, hC.2.1]
    refine x_tryTime (d := d) true mu hB hX 6 [] T 0 none _ _ rfl hT (by decide) (fun z => by cases z) okn f1 (up3_self _ _ _ _ _) ⟨by unfold up3; simp; rfl, fun x hx => by cases hx⟩ (fun j hj => by cases hj) (fun mu' f' _ ha' hS' _ => q mu' f' ha' hS')
  · refine yes (by decide) ?_
    rintro mu1 rfl
    refine yes (by decide) (yes (by rw [up3_self]) ?_)
    have f1 : Fr cS mu (up3 (up3 (up3 (up3 mu 4 0 3 0) 4 0 4 0) 4 0 6 1000000) 4 0 5 0) := (((Fr.rf.u3 rfl).u3 rfl).u3 rfl).u3 rfl
    rw [f1 0 0 3 rfl, f1 0 0 1 rfl, f1 0 0 2 rfl, hC.2.2.1, hC.1, hC.2.1]
    refine x_tryTime (d := d) false mu hB hX 6 [] T (tI T) none _ _ rfl hT (by omega) (fun _ => Nat.le_refl _) okn f1 (up3_self _ _ _ _ _) ⟨by unfold up3; simp; rfl, fun x hx => by cases hx⟩ (fun j hj => by cases hj) (fun mu' f' _ ha' hS' _ => q mu' f' ha' hS')
  · refine yes (by decide) ?_
    rintro mu1 rfl
    refine noo (fun z => z rfl) ?_
    have f1 : Fr cS mu (up3 (up3 (up3 (up3 mu 4 0 3 0) 4 0 4 0) 4 0 6 1000000) 4 0 5 0) := (((Fr.rf.u3 rfl).u3 rfl).u3 rfl).u3 rfl
    have hC1 : CC B 0 T (up3 (up3 (up3 (up3 mu 4 0 3 0) 4 0 4 0) 4 0 6 1000000) 4 0 5 0) := hC.fr ((((Fr.rf.u3 rfl).u3 rfl).u3 rfl).u3 rfl)
    refine s_howManyWrong hT (by rw [f1 1 0 0 rfl]; exact hX.1) hC1 ?_
    rw [hC1.2.2.1, hC1.2.2.2.1]
    have hpw := pop_le (wrongT T (bN B)) (wrongT_lt _)
    refine x_tryWrong (d := d) mu hB hX 6 [] T _ none _ _ rfl hT (by omega) okn f1 ⟨by unfold up3; simp; rfl, fun x hx => by cases hx⟩ (fun j hj => by cases hj) (fun mu' f' ha' hS' _ => q mu' f' ha' hS')
theorem fld_some {val : List Nat → Nat} {pre : List Nat} (ls : List (List Nat)) : ∀ x, ∃ y, fldA val pre ls (some x) = some y := by
  induction ls with
  | nil => intro x; exact ⟨x, rfl⟩
  | cons l ls ih =>
    intro x
    unfold fldA updA
    dsimp only
    split
    · exact ih _
    · exact ih _
theorem fld_len {val : List Nat → Nat} {m : Nat} (ls : List (List Nat)) : ∀ a, (∀ x, a = some x → x.2.length = m) → (∀ l ∈ ls, l.length = m) → ∀ x, fldA val [] ls a = some x → x.2.length = m := by
  induction ls with
  | nil => intro a h _ x hx; exact h x hx
  | cons l ls ih =>
    intro a h hl x hx
    unfold fldA at hx
    refine ih _ (fun y hy => ?_) (fun l' hl' => hl l' (List.mem_cons_of_mem _ hl')) x hx
    unfold updA at hy
    rw [List.nil_append] at hy
    cases a with
    | none =>
      cases hy
      exact hl l List.mem_cons_self
    | some z =>
      dsimp only at hy
      split at hy
      · cases hy
        exact hl l List.mem_cons_self
      · exact h y hy
theorem p_best (w : Nat) (hw : w ≤ 2) (h : Inv IB mu la) (a : Int32) : FnI E (d + 13) mi_121 [.inr (.inr (some (6, 0))), .inl a, .inl (nI w)] mu la (fun r1 mu1 la1 => FnI E (d + 13) mi_188 [.inr (.inr (some (7, 0))), .inl a, .inl (nI w)] mu1 la1 (fun r2 mu2 la2 => r1 = r2 ∧ Inv IB mu2 la2)) := by
  have hi := h
  obtain ⟨hR, hTx, hSx, B, D, m, hd⟩ := h
  have hB := hd.1
  have hn := hd.1.1
  have hwt := hd.wt
  have hX := hd.2.2.1
  have hC := hd.2.2.2.1
  have hM := hd.2.2.2.2.2.1
  have hT := hd.2.2.2.2.2.2.1
  refine vc_X6_bestOrder a _ (s_rowOf a (fun r hr e => ?_) (fun hno => ?_))
  · subst e
    rw [hX.1]
    refine sz_c (by omega) (fun hz => ?_) (fun hz => ?_)
    · obtain ⟨rest, hlp, hl6, hch, hall⟩ := ch_use (n := bN B) (mq := madeT (bN B) (rp B D m)) hn (bitsOf_lt _ _)
      have hval : fldA (valW w B (rp B D m)) [] (lpO (bN B) 6 (madeT (bN B) (rp B D m))) none = fldA (worthN w B (rp B D m)) [] (lpO (bN B) 6 (madeT (bN B) (rp B D m))) none := by
        refine fldA_congr _ _ _ (fun l hl => ?_)
        unfold valW worthN
        by_cases c0 : w = 0
        · rw [if_pos c0, if_pos c0]
        · rw [if_neg c0, if_neg c0]
          by_cases c1 : w = 1
          · rw [if_pos c1, if_pos c1]
          · rw [if_neg c1, if_neg c1]
            exact wr_eq hB 6 _ l hwt hl
      refine s_findBest (d := d) w hw hB hwt hX hC (fun mu1 f1 ha1 hS1 => ?_)
      rw [hval] at ha1 hS1
      obtain ⟨x, hx⟩ : ∃ x, fldA (worthN w B (rp B D m)) [] (lpO (bN B) 6 (madeT (bN B) (rp B D m))) none = some x := by
        rw [hlp]
        exact fld_some rest _
      have hxl : x.2.length = (foL (madeT (bN B) (rp B D m)) 0 (bN B)).length := by
        refine fld_len _ none (fun y hy => by cases hy) (fun l hl => ?_) x hx
        rw [hlp] at hl
        exact (hall l hl).1
      rw [hx] at hS1
      obtain ⟨s1, s2⟩ := hS1
      obtain ⟨g3, g4, g23⟩ := s2 x rfl
      refine s_layBest r x.2 (by omega) g3 g23 (fun mu2 f2 e3 e21 => ?_)
      rw [f2 4 0 4 rfl, g4]
      have f12 : ∀ k i j, sR k i j = true → (k = 3 ∨ k = 21 → i ≠ r) → mu2 k i j = mu k i j := by
        intro k i j hs hk
        rw [← f1 k i j (cS_R k i j hs)]
        refine f2 k i j ?_
        unfold cR
        cases h3 : (k == 3 || k == 21) with
        | false => rfl
        | true =>
          rw [Bool.or_eq_true, beq_iff_eq, beq_iff_eq] at h3
          have : (i == r) = false := by simpa using hk h3
          rw [this]
          rfl
      have fz : Fr cZ mu mu2 := (f1.le cZ_S').tr (f2.le cZ_R)
      have hM2 : MB B mu2 := hM.fr (fz.le (fun k i j hs => cZ_B k i j (sB_MB k i j hs)))
      have hT2 : MC 38 0 (rp B D m) mu2 := hT.fr (fz.le (fun k i j hs => cZ_B k i j (sB_K (fun _ _ => rfl) k i j hs)))
      refine vc_X7_bestBy _ _ (s_isRow _ (fun _ _ _ => yes b_x10 ?_) (fun hno => absurd rfl (hno r hr)))
      rw [hM2.1]
      refine sz_c (by omega) (fun _ => ?_) (fun z => by omega)
      refine s_firstOrder (T := rp B D m) hB hM2 hT2 (fun mu3 f3 o3 => ?_)
      refine m_best (d := d + 9) mu2 r w _ hw hr hB hwt hl6 hM2 hT2 rest _ none mu3 hch hall (fun y hy => by cases hy) f3 o3 trivial (fun y mu4 hy hyl f4 e29 e46 => ?_)
      rw [hlp] at hx
      rw [hx] at hy
      cases hy
      refine ⟨rfl, ?_⟩
      have hfr : Fr cZ mu (up3 (cpR mu4 46 0 30 (40 * r) (foL (madeT (bN B) (rp B D m)) 0 (bN B)).length) 29 0 r (nI (foL (madeT (bN B) (rp B D m)) 0 (bN B)).length)) := ((fz.tr (f4.le cZ_W)).u2 (fun _ => rfl)).u3 rfl
      refine ⟨?_, hTx.fr (hfr.le cZ_T), hSx.fr (hfr.le cZ_S), ibf _ _ (hfr.le cZ_B) ⟨B, D, m, hd⟩⟩
      refine ir_lay (mu1 := mu2) (mu2 := mu4) hR hr (l := x.2) (by omega) f12 e3 e21 (f4.le (fun k i j hs => cW_I k i j (sI_R k i j hs))) (fun j hj => e46 j (by omega)) (by rw [hxl])
    · refine vc_X7_bestBy _ _ (s_isRow _ (fun _ _ _ => yes b_x10 ?_) (fun hno => absurd rfl (hno r hr)))
      rw [hM.1]
      exact sz_c (by omega) (fun z => by omega) (fun _ => ⟨rfl, hi⟩)
  · exact vc_X7_bestBy _ _ (s_isRow _ (fun j hj e => absurd e (hno j hj)) (fun _ => noo (fun z => z rfl) ⟨rfl, hi⟩))
theorem p_least (h : Inv IB mu la) (a : Int32) : Pair IB E (d + 14) mi_69 mi_189 [.inl a] mu la := vc_X6_least a (FnI.mono (p_best (d := d) 0 (by decide) h a) (fun x m1 l1 hq => vc_X7_least a hq))
theorem p_latest (h : Inv IB mu la) (a : Int32) : Pair IB E (d + 14) mi_70 mi_190 [.inl a] mu la := vc_X6_latest a (FnI.mono (p_best (d := d) 1 (by decide) h a) (fun x m1 l1 hq => vc_X7_latest a hq))
theorem p_fewest (h : Inv IB mu la) (a : Int32) : Pair IB E (d + 14) mi_71 mi_191 [.inl a] mu la := vc_X6_fewest a (FnI.mono (p_best (d := d) 2 (by decide) h a) (fun x m1 l1 hq => vc_X7_fewest a hq))
theorem cntL_le (p : List Nat → Bool) (ls : List (List Nat)) : cntL p ls ≤ ls.length := by
  induction ls with
  | nil => exact Nat.le_refl 0
  | cons l ls ih =>
    show cntL p ls + (if p l then 1 else 0) ≤ ls.length + 1
    split <;> omega
theorem lpL_len {F : Nat → List (List Nat)} {M : Nat} (hF : ∀ x, (F x).length ≤ M) (mq w : Nat) : ∀ i, (lpL F mq i w).length ≤ w * M := by
  induction w with
  | zero => intro i; exact Nat.zero_le _
  | succ w ih =>
    intro i
    unfold lpL
    rw [List.length_append]
    have h1 := ih (i + 1)
    have h2 : (if mq.testBit i then [] else (F (mq ||| 2 ^ i)).map (fun l => i :: l)).length ≤ M := by
      split
      · exact Nat.zero_le _
      · rw [List.length_map]; exact hF _
    rw [Nat.add_mul, Nat.one_mul]
    omega
theorem lpO_len {n : Nat} (hn : n ≤ 6) (z : Nat) : ∀ mq, (lpO n z mq).length ≤ 6 ^ z := by
  induction z with
  | zero => intro mq; exact Nat.le_refl 1
  | succ z ih =>
    intro mq
    unfold lpO
    split
    · exact Nat.pow_pos (by decide)
    · have h1 := lpL_len ih mq n 0
      have h2 : n * 6 ^ z ≤ 6 * 6 ^ z := Nat.mul_le_mul_right _ hn
      rw [Nat.pow_succ]
      omega
theorem p_orders (h : Inv IB mu la) (a : Int32) : Pair IB E (d + 13) mi_72 mi_193 [.inl a] mu la := by
  have hi := h
  obtain ⟨hR, hTx, hSx, B, D, m, hd⟩ := h
  have hB := hd.1
  have hn := hd.1.1
  have hwt := hd.wt
  have hX := hd.2.2.1
  have hC := hd.2.2.2.1
  have hM := hd.2.2.2.2.2.1
  have hT := hd.2.2.2.2.2.2.1
  refine vc_X6_orders a (b_span a 0 6 (by decide) (by decide) (fun t _ ht e => ?_) (fun hno => vc_X7_orders _ (s_inS _ 0 6 (by decide) (by decide) (fun j h1 h2 e => absurd e (hno j h1 h2)) (fun _ => noo (fun z => z rfl) ⟨rfl, hi⟩))))
  subst e
  rw [hX.1]
  refine sz_c (by omega) (fun hz => ?_) (fun hz => ?_)
  · obtain ⟨rest, hlp, hl6, hch, hall⟩ := ch_use (n := bN B) (mq := madeT (bN B) (rp B D m)) hn (bitsOf_lt _ _)
    have hval : cntL (fun l => decide (vlG B (stpW B) (rp B D m) (pop (wrongT (rp B D m) (bN B))) l = t)) (lpO (bN B) 6 (madeT (bN B) (rp B D m))) = cntL (fun l => decide (worthN 2 B (rp B D m) l = t)) (lpO (bN B) 6 (madeT (bN B) (rp B D m))) := by
      refine cntL_congr _ (fun l hl => ?_)
      rw [wr_eq hB 6 _ l hwt hl]
      rfl
    have hcl : cntL (fun l => decide (worthN 2 B (rp B D m) l = t)) (lpO (bN B) 6 (madeT (bN B) (rp B D m))) ≤ 46656 := Nat.le_trans (cntL_le _ _) (lpO_len hn 6 _)
    refine vc_X4_howManyWith 0 _ ?_
    rintro mu1 rfl
    have f1 : Fr cS mu (up3 mu 4 0 7 0) := Fr.rf.u3 rfl
    have hX1 : CB B (up3 mu 4 0 7 0) := hX.fr (Fr.rf.u3 rfl)
    have hC1 : CC B 0 (rp B D m) (up3 mu 4 0 7 0) := hC.fr (Fr.rf.u3 rfl)
    refine s_howManyWrong hwt hX1.1 hC1 ?_
    rw [hC1.2.2.1, hC1.2.2.2.1]
    have hpw := pop_le (wrongT (rp B D m) (bN B)) (wrongT_lt _)
    refine x_count (d := d) t ht mu hB hX 6 0 (rp B D m) (pop (wrongT (rp B D m) (bN B))) _ 0 _ _ rfl hwt ?_ f1 (up3_self _ _ _ _ _) (fun mu2 f2 e7 => ?_)
    · by_cases hle : pop (wrongT (rp B D m) (bN B)) ≤ t
      · exact Or.inl ⟨hle, pk_sub hle⟩
      · refine Or.inr ⟨by omega, ?_⟩
        have h1 := pk_sub_toInt (a := t) (b := pop (wrongT (rp B D m) (bN B))) (by omega) (by omega)
        rw [Int32.lt_iff_toInt_lt, h1]
        show _ < (0 : Int)
        omega
    · rw [e7, Nat.zero_add, hval, nI_l (by omega), show (1 : Int64) = lN 1 from rfl]
      refine s_tellParts _ 1 (by decide) (by omega) (by decide) ?_
      have hM2 : MB B mu2 := hM.fr (f2.le (fun k i j hs => cS_I k i j (sI_B k i j (sB_MB k i j hs))))
      have hT2 : MC 38 0 (rp B D m) mu2 := hT.fr (f2.le (fun k i j hs => cS_I k i j (sI_B k i j (sB_K (fun _ _ => rfl) k i j hs))))
      refine vc_X7_orders _ (s_inS _ 0 6 (by decide) (by decide) (fun j _ _ _ => yes b_x10 ?_) (fun hno => absurd rfl (hno t (Nat.zero_le t) ht)))
      rw [hM2.1]
      refine sz_c (by omega) (fun _ => ?_) (fun z => by omega)
      refine s_firstOrder (T := rp B D m) hB hM2 hT2 (fun mu3 f3 o3 => ?_)
      refine m_orders (d := d + 9) mu2 t _ ht hB hwt hl6 hM2 hT2 rest _ 0 mu3 hch hall f3 o3 (fun mu4 f4 => ?_)
      rw [Nat.zero_add, ← hlp, nI_l (by omega), show (1 : Int64) = lN 1 from rfl]
      exact s_fraction _ 1 (by decide) (by omega) (by decide) ⟨rfl, ((hi.frI (f2.le cS_I)).frI (f4.le cW_I)).parts _ _⟩
  · refine vc_X7_orders _ (s_inS _ 0 6 (by decide) (by decide) (fun j _ _ _ => yes b_x10 ?_) (fun hno => absurd rfl (hno t (Nat.zero_le t) ht)))
    rw [hM.1]
    exact sz_c (by omega) (fun z => by omega) (fun _ => ⟨rfl, hi⟩)
end BEST
