section SRCHB
variable {E : mEv} {d : Nat} {mu : fMu} {la : fLa} {B : tB} {T : tT} {D : Nat → Nat × Nat × Nat} {m : Nat}
theorem x_tryWrong (mu0 : fMu) (hB : wB B) (hX : CB B mu0) : ∀ (z : Nat) (pre : List Nat) (T : tT) (v : Nat) (a : Option (Nat × List Nat)) (mu : fMu) (Q : fMu → fLa → Prop), pre.length + z = 6 → WT B T → v + 10 * z < 9000 → okA a → Fr cS mu0 mu → SR a mu → PT pre mu → (∀ mu' : fMu, Fr cS mu0 mu' → okA (fldA (vlG B (stpW B) T v) pre (lpO (bN B) z (madeT (bN B) T)) a) → SR (fldA (vlG B (stpW B) T v) pre (lpO (bN B) z (madeT (bN B) T)) a) mu' → PT pre mu' → Q mu' la) → FnV E (d + 5 + z) mi_40 [.inr (.inr (some (4, 0))), .inl (nI pre.length), .inl (nI (madeT (bN B) T)), .inl (nI (tD T)), .inl (nI v)] mu la Q := by
  have hn := hB.1
  have prune : ∀ (z : Nat) (T : tT) (v : Nat) (pre : List Nat) (x : Nat × List Nat), x.1 ≤ v → fldA (vlG B (stpW B) T v) pre (lpO (bN B) z (madeT (bN B) T)) (some x) = some x := by
    intro z T v pre x h2
    refine fld_prune _ (fun l hl => Nat.le_trans h2 (vl_ge (R := fun _ _ => True) (fun T v i _ _ => ⟨Nat.le_add_right _ _, trivial⟩) l T v (lp_el z _ l hl) trivial))
  have leaf : ∀ (dd : Nat) (pre : List Nat) (v : Nat) (a : Option (Nat × List Nat)) (mu : fMu) (Q : fMu → fLa → Prop), pre.length ≤ 6 → v < 9000 → (∀ x, a = some x → v < x.1) → Fr cS mu0 mu → PT pre mu → (∀ mu' : fMu, Fr cS mu0 mu' → okA (updA a v pre) → SR (updA a v pre) mu' → PT pre mu' → Q mu' la) → FnV E (dd + 1) mi_38 [.inr (.inr (some (4, 0))), .inl (nI pre.length), .inl (nI v)] mu la Q := by
    intro dd pre v a mu Q hp hv hlt f hP q
    rw [upd_lt hlt] at q
    exact s_improve pre v hp hP (fun mu' f' e' s' p' => q mu' (f.tr f') (fun x hx => by cases hx; exact ⟨by omega, hp⟩) s' p')
  intro z
  induction z with
  | zero =>
    intro pre T v a mu Q hlen hT hv ha f hS hP q
    unfold lpO at q
    rw [fld1] at q
    have q' : ∀ mu' : fMu, Fr cS mu0 mu' → okA (updA a v pre) → SR (updA a v pre) mu' → PT pre mu' → Q mu' la := q
    refine vc_X4_tryByWrong 0 _ _ _ _ ?_
    rw [hS.1]
    refine ce_c ha (by omega) (fun hlt => ?_) (fun ⟨x, hx, hle⟩ => ?_)
    · refine s_isWhole _ _ hn (by omega) (bits64 _ hn) (by rw [f 1 0 0 rfl]; exact hX.1) ?_
      rw [decide_eq_true (show pre.length = 6 by omega), Bool.true_or]
      exact noo b_x10 (leaf (d + 3) pre v a mu Q (by omega) (by omega) hlt f hP q')
    · subst hx
      rw [show updA (some x) v pre = some x from if_neg (by omega)] at q'
      exact q' mu f ha hS hP
  | succ z ih =>
    intro pre T v a mu Q hlen hT hv ha f hS hP q
    refine vc_X4_tryByWrong 0 _ _ _ _ ?_
    rw [hS.1]
    refine ce_c ha (by omega) (fun hlt => ?_) (fun ⟨x, hx, hle⟩ => ?_)
    · refine FnI.deep (d := d + 1) (s_isWhole _ _ hn (by omega) (bits64 _ hn) (by rw [f 1 0 0 rfl]; exact hX.1) ?_) (show d + 1 ≤ d + 5 + z by omega)
      rw [decide_eq_false (show ¬ pre.length = 6 by omega), Bool.false_or]
      unfold lpO at q
      by_cases hw : madeT (bN B) T = 2 ^ bN B - 1
      · rw [if_pos hw, fld1] at q
        rw [decide_eq_true hw]
        exact noo b_x10 (FnV.deep (leaf d pre v a mu Q (by omega) (by omega) hlt f hP q) (show d + 1 ≤ d + 5 + z by omega))
      · rw [if_neg hw] at q
        rw [decide_eq_false hw]
        refine yes rfl ?_
        clear hlt
        have key : ∀ (w i : Nat) (a : Option (Nat × List Nat)) (mu : fMu), i + w = bN B → okA a → Fr cS mu0 mu → SR a mu → PT pre mu → (∀ mu' : fMu, Fr cS mu0 mu' → okA (fldA (vlG B (stpW B) T v) pre (lpL (lpO (bN B) z) (madeT (bN B) T) i w) a) → SR (fldA (vlG B (stpW B) T v) pre (lpL (lpO (bN B) z) (madeT (bN B) T) i w) a) mu' → PT pre mu' → Q mu' la) → Ev E (d + 5 + z + 1) mi_40 17 [some (.inr (.inr (some (4, 0)))), some (.inl (nI pre.length)), some (.inl (nI (madeT (bN B) T))), some (.inl (nI (tD T))), some (.inl (nI v)), some (.inl (nI i)), none, none] [] (mem E mu la) (qV E Q) := by
          intro w
          induction w with
          | zero =>
            intro i a mu hi ha f hS hP q
            refine vc_X4_tryByWrong_17 0 _ _ _ _ _ ?_
            rw [f 1 0 0 rfl, hX.1]
            exact yes (nI_le (by omega) (by omega)) (q mu f ha hS hP)
          | succ w ihw =>
            intro i a mu hi ha f hS hP q
            have hin : i < bN B := by omega
            have hX1 := hX.fr (f.le cS_CB)
            refine vc_X4_tryByWrong_17 0 _ _ _ _ _ ?_
            rw [hX1.1, ← nI_succ]
            have hb := b_bit (madeT (bN B) T) (bits64 _ hn) i (by omega)
            rw [made_bit hn hin] at hb
            unfold lpL at q
            rw [made_bit hn hin] at q
            refine noo (nI_ge (by omega) (by omega)) ?_
            by_cases h9 : tH T i = -9
            · rw [decide_eq_false (show ¬ tH T i ≠ -9 by simp [h9]), if_neg (by decide), fldA_app, fld_map, ← made_make (e := bE B) hin hn] at q
              refine noo (fun y => y (hb.mpr (by simp [h9]))) ?_
              refine FnI.deep (d := d + 2) (s_taker i _ hB hin hT.d64 (hX1.2.2.2 i hin).2.2.2.2.2.1 ?_) (show d + 2 ≤ d + 5 + z by omega)
              rw [b_cl (by omega), b_sh i (by omega), b_or, ← made_make (e := bE B) hin hn, nI_1 pre.length, b_a0, ← nI_succ]
              have hin6 : vp_in (nI pre.length) 6 := b_in rfl (by omega) (by decide)
              have hlt : ∀ p, who B (tD T) i (bE B) = some p → p < 6 := fun p hp => by have := (who_some hp).1; omega
              have child : ∀ v' : Nat, v' = stpW B T v i → FnI E (d + 5 + z) mi_104 [.inl (oI (who B (tD T) i (bE B)))] (up3 mu 22 0 pre.length (nI i)) la (fun x11 mu12 la13 => FnV E (d + 5 + z) mi_40 [.inr (.inr (some (4, 0))), .inl (nI (pre.length + 1)), .inl (nI (madeT (bN B) (makesT B T i (bE B)))), .inl (nI (tD T) ||| x11), .inl (nI v')] mu12 la13 (fun mu15 la16 => Ev E (d + 5 + z + 1) mi_40 17 [some (.inr (.inr (some (4, 0)))), some (.inl (nI pre.length)), some (.inl (nI (madeT (bN B) T))), some (.inl (nI (tD T))), some (.inl (nI v)), some (.inl (nI (i + 1))), none, none] [] (mem E mu15 la16) (qV E Q))) := by
                rintro v' rfl
                refine x_setOf _ hlt ?_
                rw [b_or, ← make_D]
                have hT' := wt_make (e := bE B) hB hT hin h9
                have hv' : stpW B T v i ≤ v + 1 := by
                  unfold stpW moreW
                  split
                  · omega
                  · split <;> omega
                have h1 := ih (pre ++ [i]) (makesT B T i (bE B)) (stpW B T v i) a (up3 mu 22 0 pre.length (nI i)) (fun mu15 la16 => Ev E (d + 5 + z + 1) mi_40 17 [some (.inr (.inr (some (4, 0)))), some (.inl (nI pre.length)), some (.inl (nI (madeT (bN B) T))), some (.inl (nI (tD T))), some (.inl (nI v)), some (.inl (nI (i + 1))), none, none] [] (mem E mu15 la16) (qV E Q)) (by rw [List.length_append]; show pre.length + 1 + z = 6; omega) hT' (by omega) ha (f.u3 rfl) ⟨by rw [← hS.1]; unfold up3; simp, fun x hx => by
                  obtain ⟨g1, g2, g3⟩ := hS.2 x hx
                  refine ⟨by rw [← g1]; unfold up3; simp, by rw [← g2]; unfold up3; simp, fun j hj => by rw [← g3 j hj]; unfold up3; simp⟩⟩ hP.app (fun mu' f' ha' hS' hP' => ihw (i + 1) _ mu' (by omega) ha' f' hS' hP'.pre q)
                rw [List.length_append] at h1
                exact h1
              cases hwho : who B (tD T) i (bE B) with
              | none =>
                rw [hwho] at child
                refine yes rfl ⟨hin6, ?_⟩
                rintro mu1 rfl
                exact child v (by unfold stpW; rw [hwho]; rfl)
              | some p =>
                rw [hwho] at child
                have hp := hlt p hwho
                refine noo (b_p9 p hp).1 (pk_eq p i (fun e => ⟨hin6, ?_⟩) (fun e => ⟨hin6, ?_⟩))
                · rintro mu1 rfl
                  exact child v (by unfold stpW; rw [hwho]; show v = v + moreW (some p) i; rw [show moreW (some p) i = 0 from if_pos e]; rfl)
                · rintro mu1 rfl
                  exact child (v + 1) (by unfold stpW; rw [hwho]; show v + 1 = v + moreW (some p) i; rw [show moreW (some p) i = 1 from if_neg e])
            · rw [decide_eq_true h9, if_pos rfl, List.nil_append] at q
              refine yes (fun y => by have := hb.mp y; simp [h9] at this) (ihw (i + 1) a mu (by omega) ha f hS hP q)
        exact key (bN B) 0 a mu (by omega) ha f hS hP q
    · subst hx
      rw [prune (z + 1) T v pre x hle] at q
      exact q mu f ha hS hP
def rlC (x : Int32) (t v : Nat) : Prop := (v ≤ t ∧ x = nI (t - v)) ∨ (t < v ∧ x < 0)
theorem x_count (t : Nat) (ht : t ≤ 6) (mu0 : fMu) (hB : wB B) (hX : CB B mu0) : ∀ (z dp : Nat) (T : tT) (v : Nat) (x : Int32) (c : Nat) (mu : fMu) (Q : fMu → fLa → Prop), dp + z = 6 → WT B T → rlC x t v → Fr cS mu0 mu → mu 4 0 7 = nI c → (∀ mu' : fMu, Fr cS mu0 mu' → mu' 4 0 7 = nI (c + cntL (fun l => decide (vlG B (stpW B) T v l = t)) (lpO (bN B) z (madeT (bN B) T))) → Q mu' la) → FnV E (d + 5 + z) mi_41 [.inr (.inr (some (4, 0))), .inl (nI dp), .inl (nI (madeT (bN B) T)), .inl (nI (tD T)), .inl x] mu la Q := by
  have hn := hB.1
  have prune : ∀ (z : Nat) (T : tT) (v : Nat), t < v → cntL (fun l => decide (vlG B (stpW B) T v l = t)) (lpO (bN B) z (madeT (bN B) T)) = 0 := by
    intro z T v h2
    refine cntL_0 _ (fun l hl => decide_eq_false (fun e => ?_))
    have := vl_ge (B := B) (st := stpW B) (R := fun _ _ => True) (fun T v i _ _ => ⟨Nat.le_add_right _ _, trivial⟩) l T v (lp_el z _ l hl) trivial
    omega
  have leaf : ∀ (T : tT) (v : Nat) (x : Int32) (c : Nat) (mu : fMu) (Q : fMu → fLa → Prop), v ≤ t → x = nI (t - v) → Fr cS mu0 mu → mu 4 0 7 = nI c → (∀ mu' : fMu, Fr cS mu0 mu' → mu' 4 0 7 = nI (c + cntL (fun l => decide (vlG B (stpW B) T v l = t)) [[]]) → Q mu' la) → ((¬ x = 0 → (∀ mu4 : fMu, mu4 = up3 mu 4 0 7 ((mu 4 0 7) + (0 : Int32)) → (Q mu4 la))) ∧ (¬ (¬ x = 0) → (∀ mu5 : fMu, mu5 = up3 mu 4 0 7 ((mu 4 0 7) + (1 : Int32)) → (Q mu5 la)))) := by
    rintro T v x c mu Q hv rfl f e7 q
    rw [e7, b_a0, nI_1]
    have hc : cntL (fun l => decide (vlG B (stpW B) T v l = t)) [[]] = if v = t then 1 else 0 := by
      unfold cntL cntL
      by_cases e : v = t
      · rw [if_pos e]
        show 0 + (if decide (v = t) = true then 1 else 0) = 1
        rw [decide_eq_true e]; rfl
      · rw [if_neg e]
        show 0 + (if decide (v = t) = true then 1 else 0) = 0
        rw [decide_eq_false e]; rfl
    rw [hc] at q
    by_cases e : v = t
    · rw [if_pos e] at q
      refine noo (fun z => z (by rw [e, Nat.sub_self]; rfl)) ?_
      rintro mu5 rfl
      exact q _ (f.u3 rfl) (up3_self _ _ _ _ _)
    · rw [if_neg e] at q
      refine yes (fun z => ?_) ?_
      · have := (nI_eq (b := 0) (by omega) (by decide)).mp z
        omega
      · rintro mu4 rfl
        exact q _ (f.u3 rfl) (up3_self _ _ _ _ _)
  intro z
  induction z with
  | zero =>
    intro dp T v x c mu Q hlen hT hr f e7 q
    refine vc_X4_countByWrong 0 _ _ _ _ ?_
    rcases hr with ⟨hv, hx⟩ | ⟨hv, hx⟩
    · refine yes (by rw [hx]; exact b_np _ (by omega)) (s_isWhole _ _ hn (by omega) (bits64 _ hn) (by rw [f 1 0 0 rfl]; exact hX.1) ?_)
      rw [decide_eq_true (show dp = 6 by omega), Bool.true_or]
      exact noo b_x10 (leaf T v x c mu Q hv hx f e7 q)
    · rw [prune 0 T v hv, Nat.add_zero] at q
      exact noo (fun y => absurd y (Int32.not_le.mpr hx)) (q mu f e7)
  | succ z ih =>
    intro dp T v x c mu Q hlen hT hr f e7 q
    refine vc_X4_countByWrong 0 _ _ _ _ ?_
    rcases hr with ⟨hv, hx⟩ | ⟨hv, hx⟩
    · refine yes (by rw [hx]; exact b_np _ (by omega)) (FnI.deep (d := d + 1) (s_isWhole _ _ hn (by omega) (bits64 _ hn) (by rw [f 1 0 0 rfl]; exact hX.1) ?_) (show d + 1 ≤ d + 5 + z by omega))
      rw [decide_eq_false (show ¬ dp = 6 by omega), Bool.false_or]
      unfold lpO at q
      by_cases hw : madeT (bN B) T = 2 ^ bN B - 1
      · rw [if_pos hw] at q
        rw [decide_eq_true hw]
        exact noo b_x10 (leaf T v x c mu Q hv hx f e7 q)
      · rw [if_neg hw] at q
        rw [decide_eq_false hw]
        refine yes rfl ?_
        have key : ∀ (w i c : Nat) (mu : fMu), i + w = bN B → Fr cS mu0 mu → mu 4 0 7 = nI c → (∀ mu' : fMu, Fr cS mu0 mu' → mu' 4 0 7 = nI (c + cntL (fun l => decide (vlG B (stpW B) T v l = t)) (lpL (lpO (bN B) z) (madeT (bN B) T) i w)) → Q mu' la) → Ev E (d + 5 + z + 1) mi_41 21 [some (.inr (.inr (some (4, 0)))), some (.inl (nI dp)), some (.inl (nI (madeT (bN B) T))), some (.inl (nI (tD T))), some (.inl x), some (.inl (nI i)), none, none] [] (mem E mu la) (qV E Q) := by
          intro w
          induction w with
          | zero =>
            intro i c mu hi f e7 q
            refine vc_X4_countByWrong_21 0 _ _ _ _ _ ?_
            rw [f 1 0 0 rfl, hX.1]
            exact yes (nI_le (by omega) (by omega)) (q mu f e7)
          | succ w ihw =>
            intro i c mu hi f e7 q
            have hin : i < bN B := by omega
            have hX1 := hX.fr (f.le cS_CB)
            refine vc_X4_countByWrong_21 0 _ _ _ _ _ ?_
            rw [hX1.1, ← nI_succ]
            have hb := b_bit (madeT (bN B) T) (bits64 _ hn) i (by omega)
            rw [made_bit hn hin] at hb
            unfold lpL at q
            rw [made_bit hn hin] at q
            refine noo (nI_ge (by omega) (by omega)) ?_
            by_cases h9 : tH T i = -9
            · rw [decide_eq_false (show ¬ tH T i ≠ -9 by simp [h9]), if_neg (by decide), cntL_app, cnt_map, ← made_make (e := bE B) hin hn] at q
              refine noo (fun y => y (hb.mpr (by simp [h9]))) ?_
              refine FnI.deep (d := d + 2) (s_taker i _ hB hin hT.d64 (hX1.2.2.2 i hin).2.2.2.2.2.1 ?_) (show d + 2 ≤ d + 5 + z by omega)
              rw [b_sh i (by omega), b_or, ← made_make (e := bE B) hin hn, nI_1 dp, Int32.sub_zero]
              have hlt : ∀ p, who B (tD T) i (bE B) = some p → p < 6 := fun p hp => by have := (who_some hp).1; omega
              have child : ∀ x' : Int32, rlC x' t (stpW B T v i) → FnI E (d + 5 + z) mi_104 [.inl (oI (who B (tD T) i (bE B)))] mu la (fun x11 mu12 la13 => FnV E (d + 5 + z) mi_41 [.inr (.inr (some (4, 0))), .inl (nI (dp + 1)), .inl (nI (madeT (bN B) (makesT B T i (bE B)))), .inl (nI (tD T) ||| x11), .inl x'] mu12 la13 (fun mu15 la16 => Ev E (d + 5 + z + 1) mi_41 21 [some (.inr (.inr (some (4, 0)))), some (.inl (nI dp)), some (.inl (nI (madeT (bN B) T))), some (.inl (nI (tD T))), some (.inl x), some (.inl (nI (i + 1))), none, none] [] (mem E mu15 la16) (qV E Q))) := by
                intro x' hr'
                refine x_setOf _ hlt ?_
                rw [b_or, ← make_D]
                refine ih (dp + 1) (makesT B T i (bE B)) (stpW B T v i) x' c mu _ (by omega) (wt_make (e := bE B) hB hT hin h9) hr' f e7 (fun mu' f' e' => ?_)
                refine ihw (i + 1) _ mu' (by omega) f' e' (fun mu'' f'' e'' => q mu'' f'' ?_)
                rw [e'', Nat.add_assoc]
                rfl
              cases hwho : who B (tD T) i (bE B) with
              | none =>
                rw [hwho] at child
                exact yes rfl (child x (Or.inl ⟨by unfold stpW; rw [hwho]; exact hv, by unfold stpW; rw [hwho]; exact hx⟩))
              | some p =>
                rw [hwho] at child
                have hp := hlt p hwho
                refine noo (b_p9 p hp).1 (pk_eq p i (fun e => ?_) (fun e => ?_))
                · have hst : stpW B T v i = v := by unfold stpW; rw [hwho]; show v + moreW (some p) i = v; rw [show moreW (some p) i = 0 from if_pos e]; rfl
                  exact child x (by rw [hst]; exact Or.inl ⟨hv, hx⟩)
                · have hst : stpW B T v i = v + 1 := by unfold stpW; rw [hwho]; show v + moreW (some p) i = v + 1; rw [show moreW (some p) i = 1 from if_neg e]
                  refine child _ ?_
                  rw [hst, hx]
                  by_cases hvt : v = t
                  · subst hvt
                    refine Or.inr ⟨by omega, ?_⟩
                    rw [Nat.sub_self]
                    decide
                  · refine Or.inl ⟨by omega, ?_⟩
                    rw [show t - v = (t - (v + 1)) + 1 by omega, nI_pred]
            · rw [decide_eq_true h9, if_pos rfl, List.nil_append] at q
              refine yes (fun y => by have := hb.mp y; simp [h9] at this) (ihw (i + 1) c mu (by omega) f e7 q)
        exact key (bN B) 0 c mu (by omega) f e7 q
    · rw [prune (z + 1) T v hv, Nat.add_zero] at q
      exact noo (fun y => absurd y (Int32.not_le.mpr hx)) (q mu f e7)
theorem wr_eq (hB : wB B) : ∀ (z : Nat) (T : tT) (l : List Nat), WT B T → l ∈ lpO (bN B) z (madeT (bN B) T) → vlG B (stpW B) T (pop (wrongT T (bN B))) l = pop (wrongT (runL B T l) (bN B)) := by
  have hn := hB.1
  intro z
  induction z with
  | zero =>
    intro T l hT h
    have : l = [] := by simpa [lpO] using h
    rw [this]
    rfl
  | succ z ih =>
    intro T l hT h
    unfold lpO at h
    split at h
    · have : l = [] := by simpa using h
      rw [this]
      rfl
    · obtain ⟨j, l', h1, h2, h3, h4, rfl⟩ := mem_lpL (bN B) 0 h
      have hj : j < bN B := by omega
      rw [made_bit hn hj] at h3
      have h9 : tH T j = -9 := by simpa using h3
      rw [← made_make (e := bE B) hj hn] at h4
      have h5 := ih (makesT B T j (bE B)) l' (wt_make hB hT hj h9) h4
      rw [wrong_make hB hT hj h9] at h5
      exact h5
end SRCHB
