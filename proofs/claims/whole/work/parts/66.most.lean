/-! the most that can be done by a time -/
def dnL (B : tB) (lim : Nat) (F : tT → List Nat → List Nat → List Nat) (T : tT) (pre : List Nat) : Nat → Nat → List Nat → List Nat
  | _, 0, acc => acc
  | i, w + 1, acc => dnL B lim F T pre (i + 1) w (if tH T i = -9 then (if tI (makesT B T i (bE B)) ≤ lim then F (makesT B T i (bE B)) (pre ++ [i]) (if acc.length < pre.length + 1 then pre ++ [i] else acc) else acc) else acc)
def dnO (B : tB) (lim : Nat) : Nat → tT → List Nat → List Nat → List Nat
  | 0, _, _, acc => acc
  | z + 1, T, pre, acc => dnL B lim (dnO B lim z) T pre 0 (bN B) acc
theorem dnL_made {B : tB} {lim : Nat} {F : tT → List Nat → List Nat → List Nat} {T : tT} {pre : List Nat} (w : Nat) : ∀ (i : Nat) (acc : List Nat), (∀ j, i ≤ j → j < i + w → ¬ tH T j = -9) → dnL B lim F T pre i w acc = acc := by
  induction w with
  | zero => intro i acc _; rfl
  | succ w ih =>
    intro i acc h
    unfold dnL
    rw [if_neg (h i (Nat.le_refl i) (by omega))]
    exact ih (i + 1) acc (fun j h1 h2 => h j (by omega) (by omega))
def BX (l : List Nat) (mu : fMu) : Prop := l.length ≤ 6 ∧ mu 4 0 3 = nI l.length ∧ ∀ j : Nat, j < l.length → mu 23 0 j = nI (gtD l j)
def BY (l : List Nat) (mu : fMu) : Prop := l.length ≤ 6 ∧ ∀ j : Nat, j < l.length → mu 46 0 j = nI (gtD l j)
def cY (k _ _ : Nat) : Bool := !(k == 39 || k == 46 || k == 47 || k == 48)
theorem cY_I : ∀ k i j, sI k i j = true → cY k i j = true := by
  refine sI_or ?_ ?_ ?_ ?_
  · intro k i j h
    unfold sR at h
    split at h <;> first | rfl | cases h
  · intro k i j h
    unfold sT at h
    split at h <;> first | rfl | cases h
  · intro k i j h
    unfold sS at h
    split at h <;> first | rfl | cases h
  · intro k i j h
    unfold sB at h
    split at h <;> first | rfl | cases h
theorem cY_MB : ∀ k i j, sMB k i j = true → cY k i j = true := fun k i j h => cY_I k i j (sI_B k i j (sB_MB k i j h))
theorem cZ_Y : ∀ k i j, cZ k i j = true → cY k i j = true := by
  intro k i j h
  unfold cZ at h
  unfold cY
  revert h
  cases k == 39 <;> cases k == 46 <;> cases k == 47 <;> cases k == 48 <;> simp
theorem cnt_all {f : Nat → Bool} (n : Nat) (h : n ≤ cntN f n) : ∀ i, i < n → f i = true := by
  induction n with
  | zero => intro i hi; omega
  | succ n ih =>
    intro i hi
    unfold cntN at h
    have h1 := cntN_le f n
    cases hf : f n with
    | false =>
      rw [hf, if_neg (by decide)] at h
      omega
    | true =>
      rw [hf, if_pos rfl] at h
      by_cases e : i = n
      · rw [e]; exact hf
      · exact ih (by omega) i (by omega)
theorem kI_1 (i : Nat) : kI i + 1 = nI i := by
  cases i with
  | zero => rfl
  | succ i => rw [kI_s, nI_1]
section MOST
variable {E : mEv} {d : Nat} {mu : fMu} {la : fLa} {B : tB} {T : tT} {D : Nat → Nat × Nat × Nat} {m : Nat}
theorem x_most (lim : Nat) (hlim : lim < 1000) (mu0 : fMu) (hB : wB B) (hX : CB B mu0) : ∀ (z : Nat) (pre : List Nat) (T : tT) (acc : List Nat) (mu : fMu) (Q : fMu → fLa → Prop), pre.length + z = 6 → WT B T → Fr cS mu0 mu → mu 4 0 6 = nI lim → BX acc mu → PT pre mu → (∀ mu' : fMu, Fr cS mu0 mu' → mu' 4 0 6 = nI lim → BX (if tI T ≤ lim then dnO B lim z T pre (if acc.length < pre.length then pre else acc) else acc) mu' → PT pre mu' → Q mu' la) → FnV E (d + 5 + z) mi_42 [.inr (.inr (some (4, 0))), .inl (nI pre.length), .inl (nI (madeT (bN B) T)), .inl (nI (tI T)), .inl (tL T)] mu la Q := by
  have hn := hB.1
  intro z
  induction z with
  | zero =>
    intro pre T acc mu Q hlen hT f e6 hb hP q
    have h108 := hT.i108
    have ha6 := hb.1
    refine vc_X4_tryForMost 0 _ _ _ _ ?_
    rw [e6, hb.2.1]
    refine pk_le (tI T) lim (fun hle => ?_) (fun hlt => ?_)
    · rw [if_pos hle] at q
      refine pk_le pre.length acc.length (fun h1 => ?_) (fun h1 => ?_)
      · rw [if_neg (by omega)] at q
        refine s_isWhole _ _ hn (by omega) (bits64 _ hn) (by rw [f 1 0 0 rfl]; exact hX.1) ?_
        rw [decide_eq_true (show pre.length = 6 by omega), Bool.true_or]
        exact noo b_x10 (q mu f e6 hb hP)
      · rw [if_pos h1] at q
        refine s_remPath pre (by omega) hP (fun mu' f' _ e6' _ e3' p' b' => ?_)
        refine s_isWhole _ _ hn (by omega) (bits64 _ hn) (by rw [f' 1 0 0 rfl, f 1 0 0 rfl]; exact hX.1) ?_
        rw [decide_eq_true (show pre.length = 6 by omega), Bool.true_or]
        exact noo b_x10 (q mu' (f.tr f') (e6'.trans e6) (show BX pre mu' from ⟨by omega, e3', b'⟩) p')
    · rw [if_neg (by omega)] at q
      exact q mu f e6 hb hP
  | succ z ih =>
    intro pre T acc mu Q hlen hT f e6 hb hP q
    have h108 := hT.i108
    have ha6 := hb.1
    have go : ∀ (acc : List Nat) (mu : fMu), Fr cS mu0 mu → mu 4 0 6 = nI lim → BX acc mu → PT pre mu → (∀ mu' : fMu, Fr cS mu0 mu' → mu' 4 0 6 = nI lim → BX (dnO B lim (z + 1) T pre acc) mu' → PT pre mu' → Q mu' la) → FnI E (d + 5 + z) mi_36 [.inr (.inr (some (4, 0))), .inl (nI pre.length), .inl (nI (madeT (bN B) T))] mu la (fun x1 mu2 la3 => (x1 = 0 → (Ev E (d + 5 + z + 1) mi_42 20 [some (.inr (.inr (some (4, 0)))), some (.inl (nI pre.length)), some (.inl (nI (madeT (bN B) T))), some (.inl (nI (tI T))), some (.inl (tL T)), some (.inl (0 : Int32))] [] (mem E mu2 la3) (qV E Q))) ∧ (¬ (x1 = 0) → (Q mu2 la3))) := by
      intro acc mu f e6 hb hP q
      refine FnI.deep (d := d + 1) (s_isWhole _ _ hn (by omega) (bits64 _ hn) (by rw [f 1 0 0 rfl]; exact hX.1) ?_) (show d + 1 ≤ d + 5 + z by omega)
      rw [decide_eq_false (show ¬ pre.length = 6 by omega), Bool.false_or]
      unfold dnO at q
      by_cases hw : madeT (bN B) T = 2 ^ bN B - 1
      · rw [decide_eq_true hw]
        rw [dnL_made _ _ _ (fun j _ hj h9 => ?_)] at q
        · exact noo b_x10 (q mu f e6 hb hP)
        · have h1 := made_bit (T := T) hn (show j < bN B by omega)
          rw [hw, Nat.testBit_two_pow_sub_one, decide_eq_true (show j < bN B by omega)] at h1
          simp [h9] at h1
      · rw [decide_eq_false hw]
        refine yes rfl ?_
        have key : ∀ (w i : Nat) (acc : List Nat) (mu : fMu), i + w = bN B → Fr cS mu0 mu → mu 4 0 6 = nI lim → BX acc mu → PT pre mu → (∀ mu' : fMu, Fr cS mu0 mu' → mu' 4 0 6 = nI lim → BX (dnL B lim (dnO B lim z) T pre i w acc) mu' → PT pre mu' → Q mu' la) → Ev E (d + 5 + z + 1) mi_42 20 [some (.inr (.inr (some (4, 0)))), some (.inl (nI pre.length)), some (.inl (nI (madeT (bN B) T))), some (.inl (nI (tI T))), some (.inl (tL T)), some (.inl (nI i))] [] (mem E mu la) (qV E Q) := by
          intro w
          induction w with
          | zero =>
            intro i acc mu hi f e6 hb hP q
            refine vc_X4_tryForMost_20 0 _ _ _ _ _ ?_
            rw [f 1 0 0 rfl, hX.1]
            exact yes (nI_le (by omega) (by omega)) (q mu f e6 hb hP)
          | succ w ihw =>
            intro i acc mu hi f e6 hb hP q
            have hin : i < bN B := by omega
            have hX1 := hX.fr (f.le cS_CB)
            refine vc_X4_tryForMost_20 0 _ _ _ _ _ ?_
            rw [hX1.1, ← nI_succ]
            have hbt := b_bit (madeT (bN B) T) (bits64 _ hn) i (by omega)
            rw [made_bit hn hin] at hbt
            unfold dnL at q
            refine noo (nI_ge (by omega) (by omega)) ?_
            by_cases h9 : tH T i = -9
            · rw [if_pos h9] at q
              refine noo (fun y => y (hbt.mpr (by simp [h9]))) ⟨b_in rfl (by omega) (by decide), ?_⟩
              rw [b_cl (by omega), b_sh i (by omega), b_or, ← made_make (e := bE B) hin hn, nI_1 pre.length]
              rintro mu1 rfl
              have hX2 : CB B (up3 mu 22 0 pre.length (nI i)) := hX1.fr (Fr.rf.u3 rfl)
              refine FnI.deep (d := d + 1) (s_timeBehind i hB hin hX2 hT.2.2.2.2.2 ?_) (show d + 1 ≤ d + 5 + z by omega)
              rw [nI_add]
              have hT' := wt_make (e := bE B) hB hT hin h9
              have h1 := ih (pre ++ [i]) (makesT B T i (bE B)) acc (up3 mu 22 0 pre.length (nI i)) (fun mu15 la16 => Ev E (d + 5 + z + 1) mi_42 20 [some (.inr (.inr (some (4, 0)))), some (.inl (nI pre.length)), some (.inl (nI (madeT (bN B) T))), some (.inl (nI (tI T))), some (.inl (tL T)), some (.inl (nI (i + 1)))] [] (mem E mu15 la16) (qV E Q)) (by rw [List.length_append]; show pre.length + 1 + z = 6; omega) hT' (f.u3 rfl) (by rw [← e6]; unfold up3; simp) ⟨hb.1, by rw [← hb.2.1]; unfold up3; simp, fun j hj => by rw [← hb.2.2 j hj]; unfold up3; simp⟩ hP.app (fun mu' f' e6' hb' hP' => ?_)
              · rw [List.length_append] at h1
                exact h1
              · rw [List.length_append] at hb'
                exact ihw (i + 1) _ mu' (by omega) f' e6' hb' hP'.pre q
            · rw [if_neg h9] at q
              refine yes (fun y => by have := hbt.mp y; simp [h9] at this) (ihw (i + 1) acc mu (by omega) f e6 hb hP q)
        exact key (bN B) 0 acc mu (by omega) f e6 hb hP q
    refine vc_X4_tryForMost 0 _ _ _ _ ?_
    rw [e6, hb.2.1]
    refine pk_le (tI T) lim (fun hle => ?_) (fun hlt => ?_)
    · rw [if_pos hle] at q
      refine pk_le pre.length acc.length (fun h1 => ?_) (fun h1 => ?_)
      · rw [if_neg (by omega)] at q
        exact go acc mu f e6 hb hP q
      · rw [if_pos h1] at q
        exact s_remPath pre (by omega) hP (fun mu' f' _ e6' _ e3' p' b' => go pre mu' (f.tr f') (e6'.trans e6) ⟨by omega, e3', b'⟩ p' q)
    · rw [if_neg (by omega)] at q
      exact q mu f e6 hb hP
theorem m_most {Q : Int32 → fMu → fLa → Prop} (r lim : Nat) (hlim : lim < 1000) (mu0 : fMu) (hB : wB B) (hM : MB B mu0) : ∀ (z : Nat) (pre : List Nat) (T : tT), pre.length + z = 6 → WT B T → pre.length ≤ cntN (fun i => decide (tH T i ≠ -9)) (bN B) → ∀ (w i : Nat) (acc : List Nat) (mu : fMu), i + w = bN B → Fr cY mu0 mu → MC 47 (9 * pre.length) T mu → mu 48 0 pre.length = kI i → (∀ j : Nat, j < pre.length → mu 48 0 j = nI (gtD pre j)) → BY acc mu → (∀ mu' : fMu, Fr cY mu0 mu' → (∀ j : Nat, j < 9 * pre.length + 9 → mu' 47 0 j = mu 47 0 j) → (∀ j : Nat, j < pre.length → mu' 48 0 j = mu 48 0 j) → BY (dnL B lim (dnO B lim (z - 1)) T pre i w acc) mu' → Ev E (d + 3) mi_195 41 [some (.inr (.inr (some (7, 0)))), some (.inl (nI lim)), some (.inl (nI r)), some (.inl (nI (dnL B lim (dnO B lim (z - 1)) T pre i w acc).length)), some (.inl (kI pre.length)), none, none] [] (mem E mu' la) (qI E Q)) → Ev E (d + 3) mi_195 41 [some (.inr (.inr (some (7, 0)))), some (.inl (nI lim)), some (.inl (nI r)), some (.inl (nI acc.length)), some (.inl (nI pre.length)), none, none] [] (mem E mu la) (qI E Q) := by
  have hn := hB.1
  have e6 : (6 : Int32).toNatClampNeg = 6 := rfl
  have hin6 : vp_in (6 : Int32) 9 := b_in (j := 6) rfl (by decide) (by decide)
  intro z
  induction z with
  | zero =>
    intro pre T hlen hT hcnt w
    have hall := cnt_all (f := fun i => decide (tH T i ≠ -9)) (bN B) (by omega)
    induction w with
    | zero =>
      intro i acc mu hi f hC h48 hpre hb q
      have hin7 : vp_in (nI pre.length) 7 := b_in rfl (by omega) (by decide)
      refine vc_X7_done_41 0 _ _ _ _ (noo (nI_pos (by omega)) ⟨hin7, hin7, ?_⟩)
      rw [b_cl (by omega), h48, kI_1]
      rintro mu1 rfl
      refine ⟨hin7, ?_⟩
      rw [up3_self, show up3 mu 48 0 pre.length (nI i) 7 0 4 = nI (bN B) from by rw [← hM.1, ← f 7 0 4 rfl]; unfold up3; simp, kI_m]
      refine noo (nI_nlt (by omega) (by omega)) (q _ (f.u3 rfl) (fun j _ => by unfold up3; simp) (fun j hj => ?_) (show BY acc (up3 mu 48 0 pre.length (nI i)) from ⟨hb.1, fun j hj => by rw [← hb.2 j hj]; unfold up3; simp⟩))
      unfold up3
      rw [if_neg (fun z => by omega)]
    | succ w ihw =>
      intro i acc mu hi f hC h48 hpre hb q
      have hin7 : vp_in (nI pre.length) 7 := b_in rfl (by omega) (by decide)
      have h9 : ¬ tH T i = -9 := of_decide_eq_true (hall i (by omega))
      refine vc_X7_done_41 0 _ _ _ _ (noo (nI_pos (by omega)) ⟨hin7, hin7, ?_⟩)
      rw [b_cl (by omega), h48, kI_1]
      rintro mu1 rfl
      refine ⟨hin7, ?_⟩
      rw [up3_self, show up3 mu 48 0 pre.length (nI i) 7 0 4 = nI (bN B) from by rw [← hM.1, ← f 7 0 4 rfl]; unfold up3; simp, show (9 : Int32) * nI pre.length = nI (9 * pre.length) from by rw [show (9 : Int32) = nI 9 from rfl, pk_mul]]
      refine yes (nI_lt (by omega) (by omega)) ?_
      have hC1 : MC 47 (9 * pre.length) T (up3 mu 48 0 pre.length (nI i)) := hC.fr (Fr.rf.u3 rfl)
      refine s_copies 47 63 (9 * pre.length) 39 9 0 9 rfl (by decide) rfl (by decide) (by decide) (by omega) (by decide) (by decide) (by decide) ?_
      have hC2 : MC 39 (0 + 0) T (cpR (up3 mu 48 0 pre.length (nI i)) 47 (9 * pre.length) 39 0 9) := MC.cp (x := 0) hC1 (by decide)
      refine s_isMadeM hk39 (by decide) i (by omega) (hC2.w (by omega)) ?_
      rw [decide_eq_true h9]
      refine yes b_x10 (yes rfl (yes rfl ?_))
      unfold dnL at q
      rw [if_neg h9] at q
      refine ihw (i + 1) acc _ (by omega) (cpR_fr (f.u3 rfl) (fun _ => rfl)) (hC1.fr (cpR_fr Fr.rf (fun _ => rfl))) ?_ (fun j hj => ?_) ⟨hb.1, fun j hj => ?_⟩ (fun mu' f' g47 g48 b' => q mu' f' (fun j hj => ?_) (fun j hj => ?_) b')
      · rw [cpR_fr (S := cK 39) Fr.rf (fun _ => rfl) 48 0 _ rfl, up3_self, kI_s]
      · rw [cpR_fr (S := cK 39) Fr.rf (fun _ => rfl) 48 0 _ rfl, ← hpre j hj]
        unfold up3
        rw [if_neg (fun z => by omega)]
      · rw [cpR_fr (S := cK 39) Fr.rf (fun _ => rfl) 46 0 _ rfl, ← hb.2 j hj]
        unfold up3; simp
      · rw [g47 j hj, cpR_fr (S := cK 39) Fr.rf (fun _ => rfl) 47 0 _ rfl]
        unfold up3; simp
      · rw [g48 j hj, cpR_fr (S := cK 39) Fr.rf (fun _ => rfl) 48 0 _ rfl]
        unfold up3
        rw [if_neg (fun z => by omega)]
  | succ z ih =>
    intro pre T hlen hT hcnt w
    induction w with
    | zero =>
      intro i acc mu hi f hC h48 hpre hb q
      have hin7 : vp_in (nI pre.length) 7 := b_in rfl (by omega) (by decide)
      refine vc_X7_done_41 0 _ _ _ _ (noo (nI_pos (by omega)) ⟨hin7, hin7, ?_⟩)
      rw [b_cl (by omega), h48, kI_1]
      rintro mu1 rfl
      refine ⟨hin7, ?_⟩
      rw [up3_self, show up3 mu 48 0 pre.length (nI i) 7 0 4 = nI (bN B) from by rw [← hM.1, ← f 7 0 4 rfl]; unfold up3; simp, kI_m]
      refine noo (nI_nlt (by omega) (by omega)) (q _ (f.u3 rfl) (fun j _ => by unfold up3; simp) (fun j hj => ?_) (show BY acc (up3 mu 48 0 pre.length (nI i)) from ⟨hb.1, fun j hj => by rw [← hb.2 j hj]; unfold up3; simp⟩))
      unfold up3
      rw [if_neg (fun z => by omega)]
    | succ w ihw =>
      intro i acc mu hi f hC h48 hpre hb q
      have hin : i < bN B := by omega
      have hin7 : vp_in (nI pre.length) 7 := b_in rfl (by omega) (by decide)
      have ha6 := hb.1
      refine vc_X7_done_41 0 _ _ _ _ (noo (nI_pos (by omega)) ⟨hin7, hin7, ?_⟩)
      rw [b_cl (by omega), h48, kI_1]
      rintro mu1 rfl
      refine ⟨hin7, ?_⟩
      rw [up3_self, show up3 mu 48 0 pre.length (nI i) 7 0 4 = nI (bN B) from by rw [← hM.1, ← f 7 0 4 rfl]; unfold up3; simp, show (9 : Int32) * nI pre.length = nI (9 * pre.length) from by rw [show (9 : Int32) = nI 9 from rfl, pk_mul]]
      refine yes (nI_lt (by omega) (by omega)) ?_
      have hC1 : MC 47 (9 * pre.length) T (up3 mu 48 0 pre.length (nI i)) := hC.fr (Fr.rf.u3 rfl)
      refine s_copies 47 63 (9 * pre.length) 39 9 0 9 rfl (by decide) rfl (by decide) (by decide) (by omega) (by decide) (by decide) (by decide) ?_
      have hC2 : MC 39 (0 + 0) T (cpR (up3 mu 48 0 pre.length (nI i)) 47 (9 * pre.length) 39 0 9) := MC.cp (x := 0) hC1 (by decide)
      have f2 : Fr cY mu0 (cpR (up3 mu 48 0 pre.length (nI i)) 47 (9 * pre.length) 39 0 9) := cpR_fr (f.u3 rfl) (fun _ => rfl)
      have fk : Fr (cK 39) (up3 mu 48 0 pre.length (nI i)) (cpR (up3 mu 48 0 pre.length (nI i)) 47 (9 * pre.length) 39 0 9) := cpR_fr Fr.rf (fun _ => rfl)
      unfold dnL at q
      have nxt : ∀ (acc' : List Nat) (mu2 : fMu), Fr cY mu0 mu2 → (∀ j : Nat, j < 9 * pre.length + 9 → mu2 47 0 j = mu 47 0 j) → mu2 48 0 pre.length = nI i → (∀ j : Nat, j < pre.length → mu2 48 0 j = mu 48 0 j) → BY acc' mu2 → (∀ mu' : fMu, Fr cY mu0 mu' → (∀ j : Nat, j < 9 * pre.length + 9 → mu' 47 0 j = mu 47 0 j) → (∀ j : Nat, j < pre.length → mu' 48 0 j = mu 48 0 j) → BY (dnL B lim (dnO B lim z) T pre (i + 1) w acc') mu' → Ev E (d + 3) mi_195 41 [some (.inr (.inr (some (7, 0)))), some (.inl (nI lim)), some (.inl (nI r)), some (.inl (nI (dnL B lim (dnO B lim z) T pre (i + 1) w acc').length)), some (.inl (kI pre.length)), none, none] [] (mem E mu' la) (qI E Q)) → Ev E (d + 3) mi_195 41 [some (.inr (.inr (some (7, 0)))), some (.inl (nI lim)), some (.inl (nI r)), some (.inl (nI acc'.length)), some (.inl (nI pre.length)), none, none] [] (mem E mu2 la) (qI E Q) := by
        intro acc' mu2 g2 a47 a48 b48 hb2 q
        refine ihw (i + 1) acc' mu2 (by omega) g2 ⟨fun j hj => (a47 _ (by omega)).trans (hC.1 j hj), (a47 _ (by omega)).trans hC.2.1, (a47 _ (by omega)).trans hC.2.2.1, (a47 _ (by omega)).trans hC.2.2.2⟩ (by rw [a48, kI_s]) (fun j hj => (b48 j hj).trans (hpre j hj)) hb2 (fun mu' f' g47 g48 b' => q mu' f' (fun j hj => (g47 j hj).trans (a47 j hj)) (fun j hj => (g48 j hj).trans (b48 j hj)) b')
      have a47 : ∀ j : Nat, up3 mu 48 0 pre.length (nI i) 47 0 j = mu 47 0 j := fun j => by unfold up3; simp
      have b48 : ∀ j : Nat, j < pre.length → up3 mu 48 0 pre.length (nI i) 48 0 j = mu 48 0 j := fun j hj => by unfold up3; rw [if_neg (fun z => by omega)]
      have c46 : ∀ j : Nat, up3 mu 48 0 pre.length (nI i) 46 0 j = mu 46 0 j := fun j => by unfold up3; simp
      refine s_isMadeM hk39 (by decide) i (by omega) (hC2.w (by omega)) ?_
      by_cases h9 : tH T i = -9
      · rw [if_pos h9] at q
        rw [decide_eq_false (show ¬ tH T i ≠ -9 by simp [h9])]
        refine noo (fun y => y rfl) (noo b_x10 ?_)
        have hM2 := hM.fr (f2.le cY_MB)
        rw [hM2.2.1, e6]
        refine s_makesOn (Or.inr rfl) i (bE B) hB hin hB.2.1 hT.d64 hT.2.2.2.2.2 hM2 hC2 (fun mu3 f3 c3 => noo b_x10 ⟨hin6, ?_⟩)
        have hT' := wt_make (e := bE B) hB hT hin h9
        have h108 := hT'.i108
        have g3 : Fr (cK 39) (up3 mu 48 0 pre.length (nI i)) mu3 := fk.tr f3
        have h3 : Fr cY mu0 mu3 := f2.tr (f3.le (fun k i j hs => by
          unfold cY at hs
          unfold cK
          cases hk : k == 39 with
          | false => rfl
          | true => rw [hk] at hs; simp at hs))
        rw [show mu3 39 0 6 = nI (tI (makesT B T i (bE B))) from c3.2.1, nI_1, show (9 : Int32) * nI (pre.length + 1) = nI (9 * (pre.length + 1)) from by rw [show (9 : Int32) = nI 9 from rfl, pk_mul]]
        refine pk_lt lim (tI (makesT B T i (bE B))) (fun hlt => ?_) (fun hle => ?_)
        · rw [if_neg (by omega)] at q
          exact nxt acc mu3 h3 (fun j _ => (g3 47 0 j rfl).trans (a47 j)) ((g3 48 0 _ rfl).trans (up3_self _ _ _ _ _)) (fun j hj => (g3 48 0 j rfl).trans (b48 j hj)) ⟨hb.1, fun j hj => (g3 46 0 j rfl).trans ((c46 j).trans (hb.2 j hj))⟩ q
        · rw [if_pos hle] at q
          refine s_copies 39 9 0 47 63 (9 * (pre.length + 1)) 9 rfl (by decide) rfl (by decide) (by decide) (by decide) (by omega) (by decide) (by decide) ⟨b_in rfl (by omega) (by decide), ?_⟩
          rw [b_cl (by omega)]
          rintro mu4 rfl
          have c4 : MC 47 (9 * (pre.length + 1) + 0) (makesT B T i (bE B)) (cpR mu3 39 0 47 (9 * (pre.length + 1)) 9) := MC.cp (o1 := 0) (x := 0) c3 (by decide)
          have k4 : Fr (cK 47) mu3 (cpR mu3 39 0 47 (9 * (pre.length + 1)) 9) := cpR_fr Fr.rf (fun _ => rfl)
          have h4 : Fr cY mu0 (up3 (cpR mu3 39 0 47 (9 * (pre.length + 1)) 9) 48 0 (pre.length + 1) (-1)) := (cpR_fr h3 (fun _ => rfl)).u3 rfl
          have hlen1 : (pre ++ [i]).length = pre.length + 1 := by rw [List.length_append]; rfl
          have t48 : ∀ j : Nat, j < pre.length + 1 → up3 (cpR mu3 39 0 47 (9 * (pre.length + 1)) 9) 48 0 (pre.length + 1) (-1) 48 0 j = nI (gtD (pre ++ [i]) j) := by
            intro j hj
            have e1 : up3 (cpR mu3 39 0 47 (9 * (pre.length + 1)) 9) 48 0 (pre.length + 1) (-1) 48 0 j = up3 mu 48 0 pre.length (nI i) 48 0 j := by
              rw [← g3 48 0 j rfl, ← k4 48 0 j rfl]
              show (if _ then _ else _) = _
              rw [if_neg (fun z => by omega)]
            rw [e1]
            by_cases ej : j = pre.length
            · subst ej
              rw [up3_self, gtD_app2]
            · rw [b48 j (by omega), hpre j (by omega), gtD_app1 (by omega)]
          have s47 : ∀ j : Nat, j < 9 * pre.length + 9 → up3 (cpR mu3 39 0 47 (9 * (pre.length + 1)) 9) 48 0 (pre.length + 1) (-1) 47 0 j = mu 47 0 j := by
            intro j hj
            have e1 : up3 (cpR mu3 39 0 47 (9 * (pre.length + 1)) 9) 48 0 (pre.length + 1) (-1) 47 0 j = cpR mu3 39 0 47 (9 * (pre.length + 1)) 9 47 0 j := by unfold up3; simp
            rw [e1, cpR_out mu3 (Or.inl (by omega)), g3 47 0 j rfl, a47]
          have s46 : ∀ j : Nat, up3 (cpR mu3 39 0 47 (9 * (pre.length + 1)) 9) 48 0 (pre.length + 1) (-1) 46 0 j = mu 46 0 j := by
            intro j
            rw [← c46 j, ← g3 46 0 j rfl, ← k4 46 0 j rfl]
            unfold up3; simp
          have hcnt' : (pre ++ [i]).length ≤ cntN (fun j => decide (tH (makesT B T i (bE B)) j ≠ -9)) (bN B) := by
            rw [hlen1, cntN_set (f := fun j => decide (tH T j ≠ -9)) (bN B) i hin (by simp [h9]) ?_ (fun j hj => ?_)]
            · omega
            · show decide (tH (makesT B T i (bE B)) i ≠ -9) = true
              rw [make_at]
              cases hw : who B (tD T) i (bE B) with
              | none => rfl
              | some p => exact decide_eq_true (b_p9 p (by have := (who_some hw).1; omega)).1
            · show decide (tH (makesT B T i (bE B)) j ≠ -9) = _
              rw [make_ne B T _ hj]
          have down : ∀ (acc' : List Nat) (mu5 : fMu), Fr cY mu0 mu5 → (∀ j : Nat, mu5 47 0 j = up3 (cpR mu3 39 0 47 (9 * (pre.length + 1)) 9) 48 0 (pre.length + 1) (-1) 47 0 j) → (∀ j : Nat, mu5 48 0 j = up3 (cpR mu3 39 0 47 (9 * (pre.length + 1)) 9) 48 0 (pre.length + 1) (-1) 48 0 j) → BY acc' mu5 → (∀ mu' : fMu, Fr cY mu0 mu' → (∀ j : Nat, j < 9 * pre.length + 9 → mu' 47 0 j = mu 47 0 j) → (∀ j : Nat, j < pre.length → mu' 48 0 j = mu 48 0 j) → BY (dnL B lim (dnO B lim z) T pre (i + 1) w (dnO B lim z (makesT B T i (bE B)) (pre ++ [i]) acc')) mu' → Ev E (d + 3) mi_195 41 [some (.inr (.inr (some (7, 0)))), some (.inl (nI lim)), some (.inl (nI r)), some (.inl (nI (dnL B lim (dnO B lim z) T pre (i + 1) w (dnO B lim z (makesT B T i (bE B)) (pre ++ [i]) acc')).length)), some (.inl (kI pre.length)), none, none] [] (mem E mu' la) (qI E Q)) → Ev E (d + 3) mi_195 41 [some (.inr (.inr (some (7, 0)))), some (.inl (nI lim)), some (.inl (nI r)), some (.inl (nI acc'.length)), some (.inl (nI (pre.length + 1))), none, none] [] (mem E mu5 la) (qI E Q) := by
            intro acc' mu5 g5 u47 u48 hb5 q
            have hz : dnO B lim z (makesT B T i (bE B)) (pre ++ [i]) acc' = dnL B lim (dnO B lim (z - 1)) (makesT B T i (bE B)) (pre ++ [i]) 0 (bN B) acc' := by
              cases z with
              | zero =>
                rw [dnL_made _ _ _ (fun j _ hj => of_decide_eq_true (cnt_all (f := fun j => decide (tH (makesT B T i (bE B)) j ≠ -9)) (bN B) (by omega) j (by omega)))]
                rfl
              | succ z => rfl
            rw [hz] at q
            have h1 := ih (pre ++ [i]) (makesT B T i (bE B)) (by omega) hT' hcnt' (bN B) 0 acc' mu5 (by omega) g5 ?_ ?_ (fun j hj => ?_) hb5 (fun mu' f' g47 g48 b' => ?_)
            · rw [hlen1] at h1
              exact h1
            · rw [hlen1]
              exact ⟨fun j hj => (u47 _).trans ((show up3 (cpR mu3 39 0 47 (9 * (pre.length + 1)) 9) 48 0 (pre.length + 1) (-1) 47 0 (9 * (pre.length + 1) + j) = cpR mu3 39 0 47 (9 * (pre.length + 1)) 9 47 0 (9 * (pre.length + 1) + j) from by unfold up3; simp).trans (c4.1 j hj)), (u47 _).trans ((show up3 (cpR mu3 39 0 47 (9 * (pre.length + 1)) 9) 48 0 (pre.length + 1) (-1) 47 0 (9 * (pre.length + 1) + 6) = cpR mu3 39 0 47 (9 * (pre.length + 1)) 9 47 0 (9 * (pre.length + 1) + 6) from by unfold up3; simp).trans c4.2.1), (u47 _).trans ((show up3 (cpR mu3 39 0 47 (9 * (pre.length + 1)) 9) 48 0 (pre.length + 1) (-1) 47 0 (9 * (pre.length + 1) + 7) = cpR mu3 39 0 47 (9 * (pre.length + 1)) 9 47 0 (9 * (pre.length + 1) + 7) from by unfold up3; simp).trans c4.2.2.1), (u47 _).trans ((show up3 (cpR mu3 39 0 47 (9 * (pre.length + 1)) 9) 48 0 (pre.length + 1) (-1) 47 0 (9 * (pre.length + 1) + 8) = cpR mu3 39 0 47 (9 * (pre.length + 1)) 9 47 0 (9 * (pre.length + 1) + 8) from by unfold up3; simp).trans c4.2.2.2)⟩
            · rw [hlen1, u48, up3_self]
              rfl
            · rw [hlen1] at hj
              rw [u48, t48 j hj]
            · rw [hlen1] at g47 g48
              rw [hlen1, kI_s]
              refine nxt _ mu' f' (fun j hj => ?_) ?_ (fun j hj => ?_) b' q
              · rw [g47 j (by omega), u47, s47 j hj]
              · rw [g48 pre.length (by omega), u48, t48 pre.length (by omega), gtD_app2]
              · rw [g48 j (by omega), u48, t48 j (by omega), gtD_app1 hj, hpre j hj]
          refine pk_le (pre.length + 1) acc.length (fun h1 => ?_) (fun h1 => ?_)
          · rw [if_neg (by omega)] at q
            exact down acc _ h4 (fun _ => rfl) (fun _ => rfl) ⟨hb.1, fun j hj => (s46 j).trans (hb.2 j hj)⟩ q
          · rw [if_pos h1] at q
            refine s_copies 48 7 0 46 6 0 (pre.length + 1) rfl (by decide) rfl (by decide) (by decide) (by omega) (by omega) (by decide) (by decide) ?_
            have k5 : Fr (cK 46) (up3 (cpR mu3 39 0 47 (9 * (pre.length + 1)) 9) 48 0 (pre.length + 1) (-1)) (cpR (up3 (cpR mu3 39 0 47 (9 * (pre.length + 1)) 9) 48 0 (pre.length + 1) (-1)) 48 0 46 0 (pre.length + 1)) := cpR_fr Fr.rf (fun _ => rfl)
            have h5 := down (pre ++ [i]) _ (cpR_fr h4 (fun _ => rfl)) (fun j => k5 47 0 j rfl) (fun j => k5 48 0 j rfl) ⟨by omega, fun j hj => ?_⟩ q
            · rw [hlen1] at h5
              exact h5
            · rw [hlen1] at hj
              have := cpR_in (up3 (cpR mu3 39 0 47 (9 * (pre.length + 1)) 9) 48 0 (pre.length + 1) (-1)) (k0 := 48) (o1 := 0) (k2 := 46) (o2 := 0) (n := pre.length + 1) hj
              rw [Nat.zero_add] at this
              rw [this, t48 j hj]
      · rw [if_neg h9] at q
        rw [decide_eq_true h9]
        refine yes b_x10 (yes rfl (yes rfl ?_))
        exact nxt acc _ f2 (fun j _ => (fk 47 0 j rfl).trans (a47 j)) ((fk 48 0 _ rfl).trans (up3_self _ _ _ _ _)) (fun j hj => (fk 48 0 j rfl).trans (b48 j hj)) ⟨hb.1, fun j hj => (fk 46 0 j rfl).trans ((c46 j).trans (hb.2 j hj))⟩ q
theorem p_done (h : Inv IB mu la) (a b : Int32) : Pair IB E (d + 13) mi_74 mi_195 [.inl a, .inl b] mu la := by
  have hi := h
  obtain ⟨hR, hTx, hSx, B, D, m, hd⟩ := h
  have hB := hd.1
  have hn := hd.1.1
  have hwt := hd.wt
  have hX := hd.2.2.1
  have hC := hd.2.2.2.1
  have hM := hd.2.2.2.2.2.1
  have hT := hd.2.2.2.2.2.2.1
  have e6 : (6 : Int32).toNatClampNeg = 6 := rfl
  have hin6 : vp_in (6 : Int32) 9 := b_in (j := 6) rfl (by decide) (by decide)
  have h108 := hwt.i108
  have bad : ((∀ j : Nat, j < 6 → b ≠ nI j) ∨ ∀ j : Nat, 0 ≤ j → j ≤ 99 → a ≠ nI j) → FnI E (d + 13) mi_195 [.inr (.inr (some (7, 0))), .inl a, .inl b] mu la (fun r2 mu2 la2 => (-1 : Int32) = r2 ∧ Inv IB mu2 la2) := by
    intro hc
    refine vc_X7_done _ _ (s_inS a 0 99 (by decide) (by decide) (fun j h1 h2 e => noo b_x10 (s_isRow _ (fun k hk e2 => ?_) (fun _ => noo (fun z => z rfl) ⟨rfl, hi⟩))) (fun _ => yes rfl ⟨rfl, hi⟩))
    rcases hc with hc | hc
    · exact absurd e2 (hc k hk)
    · exact absurd e (hc j h1 h2)
  refine vc_X6_done a b (s_rowOf b (fun r hr e => ?_) (fun hno => bad (Or.inl hno)))
  subst e
  refine b_span a 0 99 (by decide) (by decide) (fun lim _ hlim e => ?_) (fun hno => bad (Or.inr hno))
  subst e
  have mm : ∀ (mu1 : fMu) (v : Int32), mu1 7 0 4 = nI (bN B) → mu1 38 0 6 = nI (tI (rp B D m)) → ((0 < bN B → ((tI (rp B D m) ≤ lim → (FnV E (d + 12) mi_174 [.inr (.inr (some (38, 0))), .inl (0 : Int32), .inr (.inr (some (47, 0))), .inl (0 : Int32), .inl (9 : Int32)] mu1 la (fun mu8 la9 => vp_in (0 : Int32) 7 ∧ ∀ mu10 : fMu, mu10 = up3 mu8 48 0 (0 : Int32).toNatClampNeg (-1) → (Ev E (d + 13) mi_195 41 [some (.inr (.inr (some (7, 0)))), some (.inl (nI lim)), some (.inl (nI r)), some (.inl (0 : Int32)), some (.inl (0 : Int32)), none, none] [] (mem E mu10 la9) (qI E (fun r2 mu2 la2 => v = r2 ∧ Inv IB mu2 la2)))))) ∧ (lim < tI (rp B D m) → v = -6 ∧ Inv IB mu1 la))) ∧ (bN B = 0 → v = -4 ∧ Inv IB mu1 la)) → FnI E (d + 13) mi_195 [.inr (.inr (some (7, 0))), .inl (nI lim), .inl (nI r)] mu1 la (fun r2 mu2 la2 => v = r2 ∧ Inv IB mu2 la2) := by
    intro mu1 v g4 g6 hh
    refine vc_X7_done _ _ (s_inS _ 0 99 (by decide) (by decide) (fun j h1 h2 e => noo b_x10 (s_isRow _ (fun _ _ _ => yes b_x10 ?_) (fun hno => absurd rfl (hno r hr)))) (fun hno => absurd rfl (hno lim (Nat.zero_le lim) hlim)))
    rw [g4, e6, g6]
    exact sz_c (by omega) (fun hz => ⟨hin6, pk_le (tI (rp B D m)) lim (hh.1 hz).1 (hh.1 hz).2⟩) hh.2
  rw [hX.1, hC.1]
  refine sz_c (by omega) (fun hz => pk_le (tI (rp B D m)) lim (fun hle => ?_) (fun hlt => ?_)) (fun hz => ?_)
  · refine vc_X4_findMost 0 _ ?_
    rintro mu1 rfl
    rintro mu1 rfl
    have f1 : Fr cS mu (up3 (up3 mu 4 0 3 0) 4 0 6 (nI lim)) := (Fr.rf.u3 rfl).u3 rfl
    rw [f1 0 0 3 rfl, f1 0 0 1 rfl, f1 0 0 2 rfl, hC.2.2.1, hC.1, hC.2.1]
    refine x_most (d := d) lim (by omega) mu hB hX 6 [] (rp B D m) [] _ _ rfl hwt f1 (up3_self _ _ _ _ _) ⟨by decide, by unfold up3; simp; rfl, fun j hj => by cases hj⟩ (fun j hj => by cases hj) (fun mu2 f2 _ hb2 _ => ?_)
    rw [if_pos hle, if_neg (by decide)] at hb2
    obtain ⟨hl6, e3, e23⟩ := hb2
    refine s_layBest r _ hl6 e3 e23 (fun mu3 f3 e30 e21 => ?_)
    rw [f3 4 0 3 rfl, e3]
    have f12 : ∀ k i j, sR k i j = true → (k = 3 ∨ k = 21 → i ≠ r) → mu3 k i j = mu k i j := by
      intro k i j hs hk
      rw [← f2 k i j (cS_R k i j hs)]
      refine f3 k i j ?_
      unfold cR
      cases h3 : (k == 3 || k == 21) with
      | false => rfl
      | true =>
        rw [Bool.or_eq_true, beq_iff_eq, beq_iff_eq] at h3
        have : (i == r) = false := by simpa using hk h3
        rw [this]
        rfl
    have fz : Fr cZ mu mu3 := (f2.le cZ_S').tr (f3.le cZ_R)
    have hM2 : MB B mu3 := hM.fr (fz.le (fun k i j hs => cZ_B k i j (sB_MB k i j hs)))
    have hT2 : MC 38 0 (rp B D m) mu3 := hT.fr (fz.le (fun k i j hs => cZ_B k i j (sB_K (fun _ _ => rfl) k i j hs)))
    refine mm mu3 _ hM2.1 hT2.2.1 ⟨fun _ => ⟨fun _ => ?_, fun z => by omega⟩, fun z => by omega⟩
    refine s_copies 38 9 0 47 63 0 9 rfl (by decide) rfl (by decide) (by decide) (by decide) (by decide) (by decide) (by decide) ⟨b_in (j := 0) rfl (by decide) (by decide), ?_⟩
    rintro mu4 rfl
    have c4 : MC 47 (0 + 0) (rp B D m) (cpR mu3 38 0 47 0 9) := MC.cp (o1 := 0) (x := 0) hT2 (by decide)
    have f4 : Fr cY mu3 (up3 (cpR mu3 38 0 47 0 9) 48 0 0 (-1)) := (cpR_fr Fr.rf (fun _ => rfl)).u3 rfl
    refine m_most (d := d + 10) r lim (by omega) mu3 hB hM2 6 [] (rp B D m) rfl hwt (Nat.zero_le _) (bN B) 0 [] _ (by omega) f4 (c4.fr (Fr.rf.u3 rfl)) (up3_self _ _ _ _ _) (fun j hj => by cases hj) ⟨by decide, fun j hj => by cases hj⟩ (fun mu5 f5 _ _ b5 => ?_)
    refine vc_X7_done_41 0 _ _ _ _ (yes (by decide) ?_)
    rw [show (40 : Int32) * nI r = nI (40 * r) from by rw [show (40 : Int32) = nI 40 from rfl, pk_mul]]
    refine s_copies 46 6 0 30 240 (40 * r) _ rfl (by decide) rfl (by decide) (by decide) (by have := b5.1; omega) (by have := b5.1; omega) (by decide) (by decide) ⟨b_in rfl hr (by decide), ?_⟩
    rintro mu6 rfl
    rw [b_cl (by omega)]
    refine ⟨rfl, ?_⟩
    have hfr : Fr cZ mu (up3 (cpR mu5 46 0 30 (40 * r) (dnL B lim (dnO B lim (6 - 1)) (rp B D m) [] 0 (bN B) []).length) 29 0 r (nI (dnL B lim (dnO B lim (6 - 1)) (rp B D m) [] 0 (bN B) []).length)) := ((fz.tr (f5.le cZ_Y)).u2 (fun _ => rfl)).u3 rfl
    refine ⟨?_, hTx.fr (hfr.le cZ_T), hSx.fr (hfr.le cZ_S), ibf _ _ (hfr.le cZ_B) ⟨B, D, m, hd⟩⟩
    exact ir_lay (mu1 := mu3) (mu2 := mu5) hR hr (l := dnL B lim (dnO B lim (6 - 1)) (rp B D m) [] 0 (bN B) []) b5.1 f12 e30 e21 (f5.le (fun k i j hs => cY_I k i j (sI_R k i j hs))) b5.2 rfl
  · exact mm mu _ hM.1 hT.2.1 ⟨fun _ => ⟨fun z => by omega, fun _ => ⟨rfl, hi⟩⟩, fun z => by omega⟩
  · exact mm mu _ hM.1 hT.2.1 ⟨fun z => by omega, fun _ => ⟨rfl, hi⟩⟩
end MOST
