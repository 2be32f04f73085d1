/-! deeds kept in their row; both sides together -/
def upD (D : Nat → Nat × Nat × Nat) (m : Nat) (x : Nat × Nat × Nat) : Nat → Nat × Nat × Nat := fun k => if k = m then x else D k
theorem rp_upD {B : tB} {D : Nat → Nat × Nat × Nat} {m : Nat} {x : Nat × Nat × Nat} {k : Nat} (hk : k ≤ m) : rp B (upD D m x) k = rp B D k := rp_congr k (fun j hj => if_neg (by omega))
theorem rp_upD1 {B : tB} {D : Nat → Nat × Nat × Nat} {m : Nat} {x : Nat × Nat × Nat} : rp B (upD D m x) (m + 1) = stT B (rp B D m) x := by
  show stT B (rp B (upD D m x) m) (upD D m x m) = _
  rw [rp_upD (Nat.le_refl m)]
  unfold upD
  rw [if_pos rfl]
theorem wD_upD {B : tB} {D : Nat → Nat × Nat × Nat} {m : Nat} {x : Nat × Nat × Nat} (h : wD B D m) (hm : m < 40) (hx : okDd B (rp B D m) x) : wD B (upD D m x) (m + 1) := by
  refine ⟨by omega, fun k hk => ?_⟩
  rw [rp_upD (by omega)]
  unfold upD
  by_cases e : k = m
  · rw [if_pos e, e]; exact hx
  · rw [if_neg e]; exact h.2 k (by omega)
/-- the class's cells that a deed changes; the model's -/
def cX (k i _ : Nat) : Bool := !((k == 0 || k == 8 || k == 9 || k == 2 || k == 18 || k == 19 || k == 20) && i == 0)
def cM (k _ j : Nat) : Bool := !(k == 38 || k == 40 || (k == 7 && j == 13))
def sKX (kk k i _ : Nat) : Bool := match k with
  | 2 => i == kk + 1
  | 18 => i == kk + 1
  | 19 => i == kk + 1
  | 20 => i == kk + 1
  | 41 => true
  | 42 => true
  | _ => false
theorem KX.frx {B : tB} {kk : Nat} {mu mu' : fMu} (h : KX B kk mu) (f : Fr (sKX kk) mu mu') : KX B kk mu' := by
  have e : (kk + 1 == kk + 1) = true := beq_self_eq_true _
  rcases h with ⟨h1, h2⟩ | ⟨D, m, h1, h2, h3, h4, h5, h6⟩
  · exact Or.inl ⟨(f 2 _ 0 e).trans h1, (f 42 0 kk rfl).trans h2⟩
  · have f41 : Fr (sK 41) mu mu' := f.le (fun k i j h => by unfold sK at h; rw [beq_iff_eq] at h; rw [h]; rfl)
    exact Or.inr ⟨D, m, h1, ⟨(f 2 _ 0 e).trans h2.1, fun k hk => ⟨(f 18 _ k e).trans (h2.2 k hk).1, (f 19 _ k e).trans (h2.2 k hk).2.1, (f 20 _ k e).trans (h2.2 k hk).2.2⟩⟩, (f 42 0 kk rfl).trans h3, h4.fr f41, fun k hk => (h5 k hk).fr f41, (f 41 0 _ rfl).trans h6⟩
theorem cX_R : ∀ k i j, sR k i j = true → cX k i j = true := by
  intro k i j h; unfold sR at h; split at h <;> first | rfl | cases h
theorem cX_T : ∀ k i j, sT k i j = true → cX k i j = true := by
  intro k i j h; unfold sT at h; split at h <;> first | rfl | cases h
theorem cX_S : ∀ k i j, sS k i j = true → cX k i j = true := by
  intro k i j h; unfold sS at h; split at h <;> first | rfl | cases h
theorem cX_CB : ∀ k i j, sCB k i j = true → cX k i j = true := by
  intro k i j h; unfold sCB at h; split at h <;> first | rfl | cases h
theorem cX_MB : ∀ k i j, sMB k i j = true → cX k i j = true := by
  intro k i j h; unfold sMB at h; split at h <;> first | rfl | cases h
theorem cX_KX {kk : Nat} : ∀ k i j, sKX kk k i j = true → cX k i j = true := by
  intro k i j h
  unfold sKX at h
  split at h <;> first | rfl | (rw [beq_iff_eq] at h; subst h; rfl) | cases h
theorem cX_K {k0 : Nat} (h0 : (k0 == 0 || k0 == 8 || k0 == 9 || k0 == 2 || k0 == 18 || k0 == 19 || k0 == 20) = false) : ∀ k i j, sK k0 k i j = true → cX k i j = true := by
  intro k i j h
  unfold sK at h
  rw [beq_iff_eq] at h
  subst h
  unfold cX
  rw [h0]
  rfl
theorem cX_ctr : ∀ k i j, cX k i j = true → cCtr 0 k i j = true := by
  intro k i j h
  unfold cX at h
  unfold cCtr
  cases h1 : (k == 0 || k == 8 || k == 9)
  · rfl
  · rw [h1] at h
    simpa using h
theorem cM_R : ∀ k i j, sR k i j = true → cM k i j = true := by
  intro k i j h; unfold sR at h; split at h <;> first | rfl | cases h
theorem cM_T : ∀ k i j, sT k i j = true → cM k i j = true := by
  intro k i j h; unfold sT at h; split at h <;> first | rfl | cases h
theorem cM_S : ∀ k i j, sS k i j = true → cM k i j = true := by
  intro k i j h
  unfold sS at h
  split at h
  · rfl
  · split at h <;> first | rfl | cases h
  · rfl
  · rfl
  · cases h
theorem cM_CB : ∀ k i j, sCB k i j = true → cM k i j = true := by
  intro k i j h; unfold sCB at h; split at h <;> first | rfl | cases h
theorem cM_CC : ∀ k i j, sCC 0 k i j = true → cM k i j = true := by
  intro k i j h; unfold sCC at h; split at h <;> first | rfl | cases h
theorem cM_MB : ∀ k i j, sMB k i j = true → cM k i j = true := by
  intro k i j h
  unfold sMB at h
  split at h
  · split at h <;> first | rfl | cases h
  all_goals first | rfl | cases h
theorem cM_KX {kk : Nat} : ∀ k i j, sKX kk k i j = true → cM k i j = true := by
  intro k i j h
  unfold sKX at h
  split at h <;> first | rfl | cases h
theorem cM_K {k0 : Nat} (h0 : ∀ j, cM k0 0 j = true) : ∀ k i j, sK k0 k i j = true → cM k i j = true := by
  intro k i j h
  unfold sK at h
  rw [beq_iff_eq] at h
  subst h
  exact h0 j
def XS (B : tB) (D : Nat → Nat × Nat × Nat) (m : Nat) (mu : fMu) : Prop := CB B mu ∧ CC B 0 (rp B D m) mu ∧ DX 0 D m mu
def MS (B : tB) (D : Nat → Nat × Nat × Nat) (m : Nat) (mu : fMu) : Prop := MB B mu ∧ MC 38 0 (rp B D m) mu ∧ MD B D m mu
theorem IBd.xs {B : tB} {D : Nat → Nat × Nat × Nat} {m : Nat} {mu : fMu} (h : IBd B D m mu) : XS B D m mu := ⟨h.2.2.1, h.2.2.2.1, h.2.2.2.2.1⟩
theorem IBd.ms {B : tB} {D : Nat → Nat × Nat × Nat} {m : Nat} {mu : fMu} (h : IBd B D m mu) : MS B D m mu := ⟨h.2.2.2.2.2.1, h.2.2.2.2.2.2.1, h.2.2.2.2.2.2.2.1⟩
theorem IBd.mk {B : tB} {D : Nat → Nat × Nat × Nat} {m : Nat} {mu : fMu} (h1 : wB B) (h2 : wD B D m) (x : XS B D m mu) (y : MS B D m mu) (k : ∀ kk : Nat, kk < 3 → KX B kk mu) : IBd B D m mu := ⟨h1, h2, x.1, x.2.1, x.2.2, y.1, y.2.1, y.2.2, k⟩
theorem MS.fr {B : tB} {D : Nat → Nat × Nat × Nat} {m : Nat} {mu mu' : fMu} (h : MS B D m mu) (f : Fr cX mu mu') : MS B D m mu' := by
  have f38 : Fr (sK 38) mu mu' := f.le (cX_K rfl)
  have f40 : Fr (sK 40) mu mu' := f.le (cX_K rfl)
  exact ⟨h.1.fr (f.le cX_MB), h.2.1.fr f38, (f 7 0 13 rfl).trans h.2.2.1, fun k hk => (h.2.2.2 k hk).fr f40⟩
theorem XS.fr {B : tB} {D : Nat → Nat × Nat × Nat} {m : Nat} {mu mu' : fMu} (h : XS B D m mu) (f : Fr cM mu mu') : XS B D m mu' :=
  ⟨h.1.fr (f.le cM_CB), h.2.1.fr (f.le cM_CC), h.2.2.fr (f.le (cM_K (fun _ => rfl))) (f.le (cM_K (fun _ => rfl))) (f.le (cM_K (fun _ => rfl))) (f.le (cM_K (fun _ => rfl)))⟩
/-- the rest of what holds, over a change of the bar on both sides -/
theorem Inv.both {mu mu1 mu2 : fMu} {la : fLa} (h : Inv IB mu la) (f1 : Fr cX mu mu1) (f2 : Fr cM mu1 mu2) (k : IB mu2) : Inv IB mu2 la :=
  ⟨(h.1.fr (f1.le cX_R)).fr (f2.le cM_R), (h.2.1.fr (f1.le cX_T)).fr (f2.le cM_T), (h.2.2.1.fr (f1.le cX_S)).fr (f2.le cM_S), k⟩
section PAIRS
variable {E : mEv} {d c : Nat} {mu : fMu} {la : fLa} {Q : fMu → fLa → Prop} {B : tB} {T : tT} {D : Nat → Nat × Nat × Nat} {m : Nat}
theorem s_happen (x : Nat × Nat × Nat) (hB : wB B) (hT : WT B T) (hx : okDd B T x) (hX : CB B mu) (hC : CC B c T mu) (q : ∀ mu' : fMu, Fr (cCtr c) mu mu' → CC B c (stT B T x) mu' → Q mu' la) : FnV E (d + 4) mi_8 [.inr (.inr (some (0, c))), .inl (nI x.1), .inl (nI x.2.1), .inl (nI x.2.2)] mu la Q := by
  have hn := hB.1
  obtain ⟨x1, x2, x3⟩ := x
  unfold okDd at hx
  unfold stT at q
  dsimp only at hx q ⊢
  refine vc_X0_happen _ _ _ ?_
  split at hx
  · exact yes (by decide) (yes (by decide) (yes (by decide) (q mu Fr.rf hC)))
  · exact noo (fun z => z rfl) (s_serve x2 hB hT hx.1 hx.2.1 hX hC q)
  · exact yes (by decide) (noo (fun z => z rfl) (s_swap x2 x3 hT hx.1 hx.2.1 hx.2.2.1 hx.2.2.2.1 hx.2.2.2.2 hX.1 hC q))
  · have q : ∀ mu' : fMu, Fr (cCtr c) mu mu' → CC B c (tsT T x2) mu' → Q mu' la := q
    refine yes (by decide) (yes (by decide) (noo (fun z => z rfl) ⟨b_in rfl (by omega) (by decide), ?_⟩))
    rintro mu1 rfl
    rw [b_cl (by omega)]
    have e : ∀ k, (k == 0 || k == 8 || k == 9) = true → ∀ j, cCtr c k c j = false := fun k h j => by unfold cCtr; rw [h, beq_self_eq_true]; rfl
    obtain ⟨h1, h6, -⟩ := hx
    obtain ⟨c1, c2, c3, c4, c5, c6⟩ := hC
    have hw := wt_toss hT h1 h6
    refine q _ (Fr.rf.u3 (e 8 rfl _)) ⟨?_, ?_, ?_, ?_, fun j hj => ?_, fun p hp => ?_⟩
    · show _ = nI (tI T)
      rw [← c1]; unfold up3; simp
    · show _ = tL T
      rw [← c2]; unfold up3; simp
    · have hm : madeT (bN B) (tsT T x2) = madeT (bN B) T := by
        unfold madeT
        refine bits_congr (fun j hj => ?_)
        show decide ((if j = x2 then (7 : Int32) else tH T j) ≠ -9) = _
        by_cases ej : j = x2
        · rw [if_pos ej, ej, h6]; decide
        · rw [if_neg ej]
      rw [hm, ← c3]; unfold up3; simp
    · show _ = nI (tD T)
      rw [← c4]; unfold up3; simp
    · show _ = if j = x2 then (7 : Int32) else tH T j
      rw [← c5 j hj]
      unfold up3
      by_cases ej : j = x2
      · simp [ej]
      · simp [ej]
    · have hh : heldT (bN B) (tsT T x2) (nI p) = heldT (bN B) T (nI p) := by
        refine held_ext hw hp _ (fun j => ?_)
        rw [hT.held hp]
        show _ ↔ j < 6 ∧ (if j = x2 then (7 : Int32) else tH T j) = nI p
        by_cases ej : j = x2
        · rw [if_pos ej, ej, h6]
          exact ⟨fun z => absurd z.2.symm (b_p9 p hp).2.1, fun z => absurd z.2.symm (b_p9 p hp).2.2⟩
        · rw [if_neg ej]
      rw [hh, ← c6 p hp]; unfold up3; simp
  · exact hx.elim
theorem s_replay (hB : wB B) (hw : wD B D m) (hX : CB B mu) (hD : DX 0 D m mu) (q : ∀ mu' : fMu, Fr (cCtr 0) mu mu' → CC B 0 (rp B D m) mu' → Q mu' la) : FnV E (d + 5) mi_9 [.inr (.inr (some (0, 0))), .inr (.inr (some (2, 0)))] mu la Q := by
  have hm := hw.1
  refine vc_X0_replay 0 (s_openAnew (B := B) (fun mu1 f1 c1 => ?_))
  have key : ∀ (z k : Nat) (mu' : fMu), k + z = m → Fr (cCtr 0) mu mu' → CC B 0 (rp B D k) mu' → Ev E (d + 5) mi_9 4 [some (.inr (.inr (some (0, 0)))), some (.inr (.inr (some (2, 0)))), some (.inl (nI k))] [] (mem E mu' la) (qV E Q) := by
    intro z
    induction z with
    | zero =>
      intro k mu' hk f c
      refine vc_X0_replay_4 0 0 _ ?_
      rw [f 2 0 0 rfl, hD.1]
      have : k = m := by omega
      subst this
      exact yes (nI_le (Nat.le_refl _) (by omega)) (q mu' f c)
    | succ z ih =>
      intro k mu' hk f c
      refine vc_X0_replay_4 0 0 _ ?_
      obtain ⟨g1, g2, g3⟩ := hD.2 k (by omega)
      have hin : vp_in (nI k) 40 := b_in rfl (by omega) (by decide)
      rw [f 2 0 0 rfl, hD.1, b_cl (by omega), f 18 0 k rfl, f 19 0 k rfl, f 20 0 k rfl, g1, g2, g3, nI_1]
      exact noo (nI_ge (by omega) (by omega)) ⟨hin, hin, hin, s_happen (D k) hB (wt_rp hB hw k (by omega)) (hw.2 k (by omega)) (hX.fr (f.le ctr_CB)) c (fun mu2 f2 c2 => ih (k + 1) mu2 (by omega) (f.tr f2) c2)⟩
  exact key m 0 mu1 (by omega) f1 c1
/-- the class does a deed -/
theorem s_perform (x : Nat × Nat × Nat) (hB : wB B) (hw : wD B D m) (hm : m < 40) (hx : okDd B (rp B D m) x) (h : XS B D m mu) (q : ∀ mu' : fMu, Fr cX mu mu' → XS B (upD D m x) (m + 1) mu' → Q mu' la) : FnV E (d + 5) mi_119 [.inr (.inr (some (6, 0))), .inl (nI x.1), .inl (nI x.2.1), .inl (nI x.2.2)] mu la Q := by
  obtain ⟨hX, hC, hD⟩ := h
  have hT := wt_rp hB hw m (Nat.le_refl m)
  refine vc_X6_perform _ _ _ (vc_X2_add _ _ _ ?_)
  have hin : vp_in (nI m) 40 := b_in rfl (by omega) (by decide)
  rw [hD.1]
  refine noo (nI_pos (by omega)) (noo (nI_ge (b := 40) hm (by decide)) ⟨hin, ?_⟩)
  rw [b_cl (by omega)]
  rintro mu1 rfl
  have e1 : ∀ v, up3 mu 18 0 m v 2 0 0 = nI m := fun v => by rw [← hD.1]; unfold up3; simp
  rw [e1, b_cl (by omega)]
  refine ⟨hin, ?_⟩
  rintro mu1 rfl
  have e2 : ∀ v w, up3 (up3 mu 18 0 m v) 19 0 m w 2 0 0 = nI m := fun v w => by rw [← hD.1]; unfold up3; simp
  rw [e2, b_cl (by omega)]
  refine ⟨hin, ?_⟩
  rintro mu1 rfl
  rintro mu1 rfl
  have e3 : ∀ v w u, up3 (up3 (up3 mu 18 0 m v) 19 0 m w) 20 0 m u 2 0 0 = nI m := fun v w u => by rw [← hD.1]; unfold up3; simp
  rw [e3, nI_1]
  have hF : Fr cX mu (up3 (up3 (up3 (up3 mu 18 0 m (nI x.1)) 19 0 m (nI x.2.1)) 20 0 m (nI x.2.2)) 2 0 0 (nI (m + 1))) := (((Fr.rf.u3 rfl).u3 rfl).u3 rfl).u3 rfl
  have hX1 := hX.fr (hF.le cX_CB)
  have hC1 : CC B 0 (rp B D m) (up3 (up3 (up3 (up3 mu 18 0 m (nI x.1)) 19 0 m (nI x.2.1)) 20 0 m (nI x.2.2)) 2 0 0 (nI (m + 1))) := hC.fr ((((Fr.rf.u3 rfl).u3 rfl).u3 rfl).u3 rfl)
  refine s_happen x hB hT hx hX1 hC1 (fun mu2 f2 c2 => q mu2 (fun k i j hc => ?_) ⟨hX1.fr (f2.le ctr_CB), ?_, ?_⟩)
  · rw [f2 k i j (cX_ctr k i j hc)]
    exact hF k i j hc
  · rw [rp_upD1]; exact c2
  · refine ⟨?_, fun k hk => ?_⟩
    · rw [f2 2 0 0 rfl, up3_self]
    · rw [f2 18 0 k rfl, f2 19 0 k rfl, f2 20 0 k rfl]
      unfold upD
      by_cases ek : k = m
      · subst ek
        unfold up3; simp
      · obtain ⟨g1, g2, g3⟩ := hD.2 k (by omega)
        rw [if_neg ek, ← g1, ← g2, ← g3]
        unfold up3; simp [ek]
/-- the model remembers -/
theorem s_remember (hw : wD B D m) (hm : m < 40) (h : MS B D m mu) (q : ∀ mu' : fMu, Fr cM mu mu' → Fr (sK 38) mu mu' → MB B mu' → MC 38 0 (rp B D m) mu' → (∀ x, MD B (upD D m x) (m + 1) mu') → Q mu' la) : FnV E (d + 1) mi_175 [.inr (.inr (some (7, 0)))] mu la Q := by
  obtain ⟨hM, hC, hD⟩ := h
  refine vc_X7_remember ?_
  rw [hD.1, show (9 : Int32) * nI m = nI (9 * m) from by rw [show (9 : Int32) = nI 9 from rfl, pk_mul]]
  refine s_copies 38 9 0 40 360 (9 * m) 9 rfl (by decide) rfl (by decide) (by decide) (by decide) (by omega) (by decide) (by decide) ?_
  rintro mu1 rfl
  have e1 : cpR mu 38 0 40 (9 * m) 9 7 0 13 = nI m := by rw [← hD.1]; rfl
  rw [e1, nI_1]
  have hF : Fr cM mu (up3 (cpR mu 38 0 40 (9 * m) 9) 7 0 13 (nI (m + 1))) := (cpR_fr Fr.rf (fun _ => rfl)).u3 rfl
  have hF38 : Fr (sK 38) mu (up3 (cpR mu 38 0 40 (9 * m) 9) 7 0 13 (nI (m + 1))) := (cpR_fr Fr.rf (fun _ => rfl)).u3 rfl
  have h40 : Fr (sK 40) (cpR mu 38 0 40 (9 * m) 9) (up3 (cpR mu 38 0 40 (9 * m) 9) 7 0 13 (nI (m + 1))) := Fr.rf.u3 rfl
  refine q _ hF hF38 (hM.fr (hF.le cM_MB)) (hC.fr hF38) (fun x => ⟨up3_self _ _ _ _ _, fun k hk => ?_⟩)
  rw [rp_upD (by omega)]
  refine MC.fr ?_ h40
  by_cases ek : k = m
  · subst ek
    exact MC.cp (x := 0) hC (by decide)
  · exact (hD.2 k (by omega)).cpo (by omega)
theorem Fr.cm {mu mu1 mu2 : fMu} (h1 : Fr cM mu mu1) (h2 : Fr (cK 38) mu1 mu2) : Fr cM mu mu2 := by
  intro k i j hc
  rw [h2 k i j ?_]
  · exact h1 k i j hc
  · unfold cM at hc
    unfold cK
    cases h3 : (k == 38)
    · rfl
    · rw [h3] at hc; cases hc
theorem MD.k38 {mu1 mu2 : fMu} (h : MD B D m mu1) (f : Fr (cK 38) mu1 mu2) : MD B D m mu2 := by
  have f40 : Fr (sK 40) mu1 mu2 := f.le (cK_K rfl)
  exact ⟨(f 7 0 13 rfl).trans h.1, fun k hk => (h.2 k hk).fr f40⟩
/-- the model does a deed on what it has now; it has remembered -/
theorem s_mtoss (i : Nat) (hi : i < 6) (hC : MC 38 0 T mu) : MC 38 0 (tsT T i) (up3 mu 38 0 i 7) ∧ Fr (cK 38) mu (up3 mu 38 0 i 7) := by
  refine ⟨MC.of (fun j hj => ?_) ?_ ?_ ?_, Fr.rf.u3 rfl⟩
  · show _ = if j = i then (7 : Int32) else tH T j
    rw [← hC.w hj]
    unfold up3
    by_cases ej : j = i
    · simp [ej]
    · simp [ej]
  · have : ¬ 6 = i := by omega
    rw [show nI (tI (tsT T i)) = nI (tI T) from rfl, ← show mu 38 0 6 = nI (tI T) from hC.2.1]; unfold up3; simp [this]
  · have : ¬ 7 = i := by omega
    rw [show nI (tD (tsT T i)) = nI (tD T) from rfl, ← show mu 38 0 7 = nI (tD T) from hC.2.2.1]; unfold up3; simp [this]
  · have : ¬ 8 = i := by omega
    rw [show tL (tsT T i) = tL T from rfl, ← show mu 38 0 8 = tL T from hC.2.2.2]; unfold up3; simp [this]
end PAIRS
