/-! fault, bar -/
def sZ (k _ _ : Nat) : Bool := !(decide (k < 3) || (decide (8 ≤ k) && decide (k < 21)))
def sY (k _ j : Nat) : Bool := !((decide (33 ≤ k) && decide (k < 45) && !(k == 43)) || (k == 7 && (j == 4 || j == 5 || j == 13 || j == 22 || j == 23 || j == 24 || j == 26)))
def cU (k i _ : Nat) : Bool := !((k == 1 || (decide (10 ≤ k) && decide (k < 18))) && i == 0)
def cG (k _ j : Nat) : Bool := !(k == 38 || k == 42 || (k == 7 && j == 13))
theorem z_nX : ∀ k i j, sZ k i j = true → nX k i j = true := by
  intro k i j h; simp [sZ] at h; simp [nX]; omega
theorem z_cU : ∀ k i j, sZ k i j = true → cU k i j = true := by
  intro k i j h; simp [sZ] at h; simp [cU]; omega
theorem z_ctr {c : Nat} : ∀ k i j, sZ k i j = true → cCtr c k i j = true := by
  intro k i j h; simp [sZ] at h; simp [cCtr]; omega
theorem z_R : ∀ k i j, sR k i j = true → sZ k i j = true := by
  intro k i j h; unfold sR at h; split at h <;> first | rfl | cases h
theorem z_T : ∀ k i j, sT k i j = true → sZ k i j = true := by
  intro k i j h; unfold sT at h; split at h <;> first | rfl | cases h
theorem z_S : ∀ k i j, sS k i j = true → sZ k i j = true := by
  intro k i j h; unfold sS at h; split at h <;> first | rfl | cases h
theorem y_nM : ∀ k i j, sY k i j = true → nM k i j = true := by
  intro k i j h; simp [sY] at h; simp [nM]; omega
theorem y_cG : ∀ k i j, sY k i j = true → cG k i j = true := by
  intro k i j h; simp [sY] at h; simp [cG]; omega
theorem y_R : ∀ k i j, sR k i j = true → sY k i j = true := by
  intro k i j h; unfold sR at h; split at h <;> first | rfl | cases h
theorem y_T : ∀ k i j, sT k i j = true → sY k i j = true := by
  intro k i j h; unfold sT at h; split at h <;> first | rfl | cases h
theorem y_S : ∀ k i j, sS k i j = true → sY k i j = true := by
  intro k i j h
  unfold sS at h
  split at h
  · rfl
  · split at h <;> first | rfl | cases h
  all_goals first | rfl | cases h
theorem y_CB : ∀ k i j, sCB k i j = true → sY k i j = true := by
  intro k i j h; unfold sCB at h; split at h <;> first | rfl | cases h
theorem y_CC : ∀ k i j, sCC 0 k i j = true → sY k i j = true := by
  intro k i j h; unfold sCC at h; split at h <;> first | rfl | cases h
theorem nX_B : ∀ k i j, sB k i j = true → nX k i j = true := by
  intro k i j h
  unfold sB at h
  split at h <;> first | rfl | (rw [beq_iff_eq] at h; subst h; rfl) | cases h
theorem nM_B : ∀ k i j, sB k i j = true → nM k i j = true := by
  intro k i j h
  unfold sB at h
  split at h <;> first | rfl | skip
  · split at h <;> first | rfl | cases h
  · cases h
section BAR
variable {E : mEv} {d : Nat} {mu : fMu} {la : fLa} {B : tB}
theorem p_fault (h : Inv IB mu la) (a : Int32) : Pair IB E (d + 5) mi_58 mi_152 [.inl a] mu la := by
  have hi := h
  refine vc_X6_fault a (s_textOf a (fun t ht e => ?_) (fun hno => ?_))
  · subst e
    rcases it_cases h.2.1 ht with ⟨e1, e2⟩ | ⟨s, hs, e1, e2, hv⟩
    · rw [e2]
      refine noo b_n1 (s_foundX 1 (by decide) (vc_X7_fault _ (s_isText (nI t) (fun _ _ _ => yes b_x10 ⟨b_in rfl ht (by decide), ?_⟩) (fun hno => absurd rfl (hno t ht)))))
      rw [b_cl (by omega), show fdX mu 1 31 0 t = -1 from by rw [← e1]; unfold fdX up3; simp]
      exact noo b_n1 (s_foundM 1 (by decide) ⟨rfl, hi.fd ibf (by decide)⟩)
    · rw [e2]
      have hTC : TC t (mu 24 t) s mu := ⟨e2, fun _ _ => rfl⟩
      have hTM : ∀ mu1, Fr nX mu mu1 → TM t (mu 24 t) s mu1 := fun mu1 f => ⟨(f 31 0 t rfl).trans e1, fun j hj => (f 32 0 _ rfl).trans (hv j hj)⟩
      have go : ∀ (mu1 : fMu) (v : Int32), Fr nX mu mu1 → ((prs (mu 24 t) s).1 = none → v = -9) → (∀ x, (prs (mu 24 t) s).1 = some x → v = nI x) → FnI E (d + 5) mi_152 [.inr (.inr (some (7, 0))), .inl (nI t)] mu1 la (fun r2 mu2 la2 => v = r2 ∧ Inv IB mu2 la2) := by
        intro mu1 v f1 q1 q2
        have fin : ∀ mu2, Fr nM mu1 mu2 → Inv IB mu2 la := fun mu2 f2 => ⟨(hi.1.fr ((f1.le z_nX).le z_R)).fr ((f2.le y_nM).le y_R), (hi.2.1.fr ((f1.le z_nX).le z_T)).fr ((f2.le y_nM).le y_T), (hi.2.2.1.fr ((f1.le z_nX).le z_S)).fr ((f2.le y_nM).le y_S), ibf _ _ (f2.le nM_B) (ibf _ _ (f1.le nX_B) hi.2.2.2)⟩
        refine vc_X7_fault _ (s_isText (nI t) (fun _ _ _ => yes b_x10 ⟨b_in rfl ht (by decide), ?_⟩) (fun hno => absurd rfl (hno t ht)))
        rw [b_cl (by omega), (hTM mu1 f1).1]
        exact yes (b_np s (by omega)) (m_faultOf ht hs (hTM mu1 f1) (fun mu2 f2 e _ => ⟨q1 e, fin mu2 f2⟩) (fun mu2 x f2 e => ⟨q2 x e, fin mu2 f2⟩))
      refine yes (b_np s (by omega)) (x_readBar hs hTC (fun mu1 f1 e _ => go mu1 _ f1 (fun _ => rfl) (fun x ex => by rw [e] at ex; cases ex)) (fun mu1 x f1 _ e => go mu1 _ f1 (fun en => by rw [e] at en; cases en) (fun y ey => by rw [e] at ey; rw [Option.some.inj ey])))
  · exact vc_X7_fault _ (s_isText a (fun j hj e => absurd e (hno j hj)) (fun _ => noo (fun z => z rfl) ⟨rfl, hi⟩))
/-- the five things read of each cup, as the class holds them -/
def R5 (B : tB) (mu : fMu) : Prop := mu 1 0 0 = nI (bN B) ∧ mu 1 0 1 = nI (bE B) ∧ ∀ i : Nat, i < bN B → mu 10 0 i = nI (bK B i) ∧ mu 11 0 i = nI (bS B i) ∧ mu 12 0 i = nI (bM B i) ∧ mu 13 0 i = nI (bA B i) ∧ mu 14 0 i = nI (bW B i)
theorem s_settle {Q : fMu → fLa → Prop} (hB : wB B) (h : R5 B mu) (q : ∀ mu' : fMu, Fr cU mu mu' → CB B mu' → Q mu' la) : FnV E (d + 2) mi_21 [.inr (.inr (some (1, 0)))] mu la Q := by
  have hn := hB.1
  obtain ⟨r1, r2, r3⟩ := h
  have key2 : ∀ (z i : Nat) (mu' : fMu), i + z = bN B → Fr cU mu mu' → mu' 1 0 2 = nI (thB B) → R5 B mu' → (∀ j : Nat, j < i → mu' 15 0 j = nI (hrB B (bW B j) (bE B)) ∧ mu' 16 0 j = nI (takes (bK B j) (bS B j) false) ∧ mu' 17 0 j = nI (takes (bK B j) (bS B j) true)) → Ev E (d + 2) mi_21 29 [some (.inr (.inr (some (1, 0)))), some (.inl (nI i))] [] (mem E mu' la) (qV E Q) := by
    intro z
    induction z with
    | zero =>
      intro i mu' hi f t2 h5 hj
      refine vc_X1_settle_29 0 _ ?_
      rw [h5.1]
      refine yes (nI_le (by omega) (by omega)) (q mu' f ⟨h5.1, h5.2.1, t2, fun j hj2 => ?_⟩)
      obtain ⟨g1, g2, g3, g4, g5⟩ := h5.2.2 j hj2
      obtain ⟨w1, w2, w3⟩ := hj j (by omega)
      exact ⟨g1, g2, g3, g4, g5, w1, w2, w3⟩
    | succ z ih =>
      intro i mu' hi f t2 h5 hj
      have hin : i < bN B := by omega
      have hv : vp_in (nI i) 6 := b_in rfl (by omega) (by decide)
      obtain ⟨g1, g2, g3, g4, g5⟩ := h5.2.2 i hin
      obtain ⟨b1, b2, b3, b4, b5, b6⟩ := hB.2.2 i hin
      refine vc_X1_settle_29 0 _ ?_
      rw [h5.1, b_cl (by omega), g5, h5.2.1, nI_1]
      refine noo (nI_ge hin (by omega)) ⟨hv, s_whoHears _ _ hB b6 hB.2.1 ⟨h5.1, t2, fun j hj2 => (h5.2.2 j hj2).2.2.2.1⟩ ⟨hv, ?_⟩⟩
      rintro mu1 rfl
      have e1 : ∀ v, up3 mu' 15 0 i v 10 0 i = nI (bK B i) := fun v => by rw [← g1]; unfold up3; simp
      have e2 : ∀ v, up3 mu' 15 0 i v 11 0 i = nI (bS B i) := fun v => by rw [← g2]; unfold up3; simp
      rw [e1, e2]
      refine ⟨hv, hv, s_timeOf _ _ false (by omega) b2 (by omega) ⟨hv, ?_⟩⟩
      rintro mu1 rfl
      have e3 : ∀ v w, up3 (up3 mu' 15 0 i v) 16 0 i w 10 0 i = nI (bK B i) := fun v w => by rw [← g1]; unfold up3; simp
      have e4 : ∀ v w, up3 (up3 mu' 15 0 i v) 16 0 i w 11 0 i = nI (bS B i) := fun v w => by rw [← g2]; unfold up3; simp
      rw [e3, e4]
      refine ⟨hv, hv, s_timeOf _ _ true (by omega) b2 (by omega) ⟨hv, ?_⟩⟩
      rintro mu1 rfl
      refine ih (i + 1) _ (by omega) (((f.u3 rfl).u3 rfl).u3 rfl) ?_ ⟨?_, ?_, fun j hj2 => ?_⟩ (fun j hj2 => ?_)
      · rw [← t2]; unfold up3; simp
      · rw [← h5.1]; unfold up3; simp
      · rw [← h5.2.1]; unfold up3; simp
      · obtain ⟨x1, x2, x3, x4, x5⟩ := h5.2.2 j hj2
        rw [← x1, ← x2, ← x3, ← x4, ← x5]; unfold up3; simp
      · by_cases ej : j = i
        · subst ej
          unfold up3; simp
        · obtain ⟨w1, w2, w3⟩ := hj j (by omega)
          rw [← w1, ← w2, ← w3]; unfold up3; simp [ej]
  refine vc_X1_settle ?_
  rintro mu1 rfl
  refine lpU (P := fun p => Ev E (d + 2) mi_21 5 [some (.inr (.inr (some (1, 0)))), some (.inl (nI p))] [] (mem E (up3 mu 1 0 2 (nI (bitsOf (fun p => decide (bK B p ≠ 3)) p))) la) (qV E Q)) (n := bN B) ?_ ?_ 0 (Nat.zero_le _)
  · refine vc_X1_settle_5 0 _ ?_
    have e1 : ∀ v, up3 mu 1 0 2 v 1 0 0 = nI (bN B) := fun v => by rw [← r1]; unfold up3; simp
    rw [e1]
    refine yes (nI_le (Nat.le_refl _) (by omega)) (key2 (bN B) 0 _ (by omega) (Fr.rf.u3 rfl) (up3_self _ _ _ _ _) ⟨e1 _, ?_, fun j hj2 => ?_⟩ (fun j hj => absurd hj (Nat.not_lt_zero j)))
    · rw [← r2]; unfold up3; simp
    · obtain ⟨x1, x2, x3, x4, x5⟩ := r3 j hj2
      rw [← x1, ← x2, ← x3, ← x4, ← x5]; unfold up3; simp
  · intro p hp ih
    refine vc_X1_settle_5 0 _ ?_
    have e1 : ∀ v, up3 mu 1 0 2 v 1 0 0 = nI (bN B) := fun v => by rw [← r1]; unfold up3; simp
    have e2 : ∀ v, up3 mu 1 0 2 v 10 0 p = nI (bK B p) := fun v => by rw [← (r3 p hp).1]; unfold up3; simp
    have hk := (hB.2.2 p hp).1
    rw [e1, b_cl (by omega), e2, nI_1, up3_self, b_sh p (by omega), b_or, b_or0]
    unfold bitsOf at ih
    refine noo (nI_ge hp (by omega)) ⟨b_in rfl (by omega) (by decide), ?_⟩
    by_cases h3 : bK B p = 3
    · simp only [h3, ne_eq, not_true, decide_false, Bool.false_eq_true, if_false, Nat.or_zero] at ih
      refine noo (fun z => z (by rw [h3]; rfl)) ?_
      rintro mu1 rfl
      rw [up3_up3]
      exact ih
    · simp only [h3, ne_eq, not_false_eq_true, decide_true, if_true] at ih
      refine yes (fun z => h3 ((nI_eq (b := 3) (by omega) (by decide)).mp z)) ?_
      rintro mu1 rfl
      rw [up3_up3]
      exact ih
theorem s_cbecome {Q : fMu → fLa → Prop} (hB : wB B) (h : DR B mu) (q : ∀ mu' : fMu, Fr cU mu mu' → CB B mu' → Q mu' la) : FnV E (d + 3) mi_22 [.inr (.inr (some (1, 0))), .inr (.inr (some (1, 1)))] mu la Q := by
  have hn := hB.1
  refine vc_X1_become 1 ?_
  rintro mu1 rfl
  rintro mu1 rfl
  have key : ∀ (z i : Nat) (mu' : fMu), i + z = 6 → Fr cU mu mu' → mu' 1 0 0 = nI (bN B) → mu' 1 0 1 = nI (bE B) → (∀ j : Nat, j < i → mu' 10 0 j = mu 10 1 j ∧ mu' 11 0 j = mu 11 1 j ∧ mu' 12 0 j = mu 12 1 j ∧ mu' 13 0 j = mu 13 1 j ∧ mu' 14 0 j = mu 14 1 j) → Ev E (d + 3) mi_22 10 [some (.inr (.inr (some (1, 0)))), some (.inr (.inr (some (1, 1)))), some (.inl (nI i))] [] (mem E mu' la) (qV E Q) := by
    intro z
    induction z with
    | zero =>
      intro i mu' hi f e0 e1 hj
      refine vc_X1_become_10 0 1 _ (yes (nI_le (a := 6) (by omega) (by omega)) (s_settle hB ⟨e0, e1, fun j hj2 => ?_⟩ (fun mu2 f2 c2 => q mu2 (f.tr f2) c2)))
      obtain ⟨x1, x2, x3, x4, x5⟩ := hj j (by omega)
      rw [x1, x2, x3, x4, x5]
      exact h.2.2 j hj2
    | succ z ih =>
      intro i mu' hi f e0 e1 hj
      have hv : vp_in (nI i) 6 := b_in rfl (by omega) (by decide)
      refine vc_X1_become_10 0 1 _ (noo (nI_ge (b := 6) (by omega) (by decide)) ⟨hv, hv, ?_⟩)
      rw [b_cl (by omega), nI_1]
      rintro mu1 rfl
      refine ⟨hv, hv, ?_⟩
      rintro mu1 rfl
      refine ⟨hv, hv, ?_⟩
      rintro mu1 rfl
      refine ⟨hv, hv, ?_⟩
      rintro mu1 rfl
      refine ⟨hv, hv, ?_⟩
      rintro mu1 rfl
      refine ih (i + 1) _ (by omega) (((((f.u3 rfl).u3 rfl).u3 rfl).u3 rfl).u3 rfl) ?_ ?_ (fun j hj2 => ?_)
      · rw [← e0]; unfold up3; simp
      · rw [← e1]; unfold up3; simp
      · by_cases ej : j = i
        · subst ej
          rw [← f 10 1 j rfl, ← f 11 1 j rfl, ← f 12 1 j rfl, ← f 13 1 j rfl, ← f 14 1 j rfl]
          unfold up3; simp
        · obtain ⟨x1, x2, x3, x4, x5⟩ := hj j (by omega)
          rw [← x1, ← x2, ← x3, ← x4, ← x5]; unfold up3; simp [ej]
  refine key 6 0 _ rfl ((Fr.rf.u3 rfl).u3 rfl) ?_ ?_ (fun j hj => absurd hj (Nat.not_lt_zero j))
  · rw [← h.1]; unfold up3; simp
  · rw [up3_self, ← h.2.1]; unfold up3; simp
theorem s_begins {Q : fMu → fLa → Prop} (q : ∀ mu' : fMu, Fr cG mu mu' → MC 38 0 T0 mu' → mu' 7 0 13 = nI 0 → (∀ k : Nat, k < 3 → mu' 42 0 k = 0) → Q mu' la) : FnV E d mi_153 [.inr (.inr (some (7, 0)))] mu la Q := by
  have key2 : ∀ (z k : Nat) (mu' : fMu), k + z = 3 → Fr cG mu mu' → MC 38 0 T0 mu' → mu' 7 0 13 = nI 0 → (∀ j : Nat, j < k → mu' 42 0 j = 0) → Ev E d mi_153 34 [some (.inr (.inr (some (7, 0)))), some (.inl (nI k))] [] (mem E mu' la) (qV E Q) := by
    intro z
    induction z with
    | zero =>
      intro k mu' hk f c e hj
      exact vc_X7_begins_34 0 _ (yes (nI_le (a := 3) (by omega) (by omega)) (q mu' f c e (fun j hj2 => hj j (by omega))))
    | succ z ih =>
      intro k mu' hk f c e hj
      refine vc_X7_begins_34 0 _ (noo (nI_ge (b := 3) (by omega) (by decide)) ⟨b_in rfl (by omega) (by decide), ?_⟩)
      rw [b_cl (by omega), nI_1, show vp_nar .boolean (0 : Int32) = 0 from rfl]
      rintro mu1 rfl
      refine ih (k + 1) _ (by omega) (f.u3 rfl) (c.fr (Fr.rf.u3 rfl)) (by rw [← e]; unfold up3; simp) (fun j hj2 => ?_)
      by_cases ej : j = k
      · subst ej; unfold up3; simp
      · rw [← hj j (by omega)]; unfold up3; simp [ej]
  have key : ∀ (z i : Nat) (mu' : fMu), i + z = 6 → Fr cG mu mu' → (∀ j : Nat, j < i → mu' 38 0 j = -9) → Ev E d mi_153 2 [some (.inr (.inr (some (7, 0)))), some (.inl (nI i))] [] (mem E mu' la) (qV E Q) := by
    intro z
    induction z with
    | zero =>
      intro i mu' hi f hj
      refine vc_X7_begins_2 0 _ (yes (nI_le (a := 6) (by omega) (by omega)) ⟨b_in (j := 6) rfl (by decide) (by decide), ?_⟩)
      rintro mu1 rfl
      refine ⟨b_in (j := 7) rfl (by decide) (by decide), ?_⟩
      rintro mu1 rfl
      refine ⟨b_in (j := 8) rfl (by decide) (by decide), ?_⟩
      rintro mu1 rfl
      rintro mu1 rfl
      rw [show (6 : Int32).toNatClampNeg = 6 from rfl, show (7 : Int32).toNatClampNeg = 7 from rfl, show (8 : Int32).toNatClampNeg = 8 from rfl]
      refine key2 3 0 _ rfl ((((f.u3 rfl).u3 rfl).u3 rfl).u3 rfl) (MC.of (fun j hj2 => ?_) ?_ ?_ ?_) ?_ (fun j hj2 => absurd hj2 (Nat.not_lt_zero j))
      · have n6 : ¬ j = 6 := by omega
        have n7 : ¬ j = 7 := by omega
        have n8 : ¬ j = 8 := by omega
        rw [show tH T0 j = -9 from rfl, ← hj j (by omega)]; unfold up3; simp [n6, n7, n8]
      · unfold up3; simp; rfl
      · unfold up3; simp; rfl
      · unfold up3; simp; rfl
      · rw [up3_self]; rfl
    | succ z ih =>
      intro i mu' hi f hj
      refine vc_X7_begins_2 0 _ (noo (nI_ge (b := 6) (by omega) (by decide)) ?_)
      rw [Int32.zero_add, b_cl (by omega), nI_1]
      refine ⟨b_in rfl (by omega) (by decide), ?_⟩
      rintro mu1 rfl
      refine ih (i + 1) _ (by omega) (f.u3 rfl) (fun j hj2 => ?_)
      by_cases ej : j = i
      · subst ej; unfold up3; simp
      · rw [← hj j (by omega)]; unfold up3; simp [ej]
  exact vc_X7_begins (key 6 0 mu rfl Fr.rf (fun j hj => absurd hj (Nat.not_lt_zero j)))
/-- the model takes what it has read -/
theorem m_barTail {Q : Int32 → fMu → fLa → Prop} (hB : wB B) (h : RM B mu) (q : ∀ mu' : fMu, Fr sY mu mu' → MB B mu' → MC 38 0 T0 mu' → mu' 7 0 13 = nI 0 → (∀ k : Nat, k < 3 → mu' 42 0 k = 0) → Q (nI (bN B)) mu' la) : Ev E (d + 1) mi_154 31 [some (.inr (.inr (some (7, 0)))), none, some (.inl (0 : Int32))] [] (mem E (up3 (up3 mu 7 0 4 (mu 7 0 24)) 7 0 5 (up3 mu 7 0 4 (mu 7 0 24) 7 0 23)) la) (qI E Q) := by
  have hn := hB.1
  have key : ∀ (z i : Nat) (mu' : fMu), i + z = bN B → Fr sY mu mu' → Fr (sK 44) mu mu' → mu' 7 0 4 = nI (bN B) → mu' 7 0 5 = nI (bE B) → (∀ j : Nat, j < i → mu' 33 0 j = nI (bK B j) ∧ mu' 34 0 j = nI (bS B j) ∧ mu' 35 0 j = nI (bM B j) ∧ mu' 36 0 j = nI (bA B j) ∧ mu' 37 0 j = nI (bW B j)) → Ev E (d + 1) mi_154 31 [some (.inr (.inr (some (7, 0)))), none, some (.inl (nI i))] [] (mem E mu' la) (qI E Q) := by
    intro z
    induction z with
    | zero =>
      intro i mu' hi f f44 e0 e1 hj
      refine vc_X7_bar_31 0 _ ?_
      rw [e0]
      have hMB : MB B mu' := ⟨e0, e1, fun j hj2 => hj j (by omega)⟩
      refine yes (nI_le (by omega) (by omega)) (s_begins (fun mu2 f2 c2 e2 k2 => ?_))
      have hm2 : MB B mu2 := hMB.fr (f2.le (fun k i j h => by
        unfold sMB at h
        split at h
        · split at h <;> first | rfl | cases h
        all_goals first | rfl | cases h))
      rw [hm2.1]
      exact q mu2 (f.tr (f2.le y_cG)) hm2 c2 e2 k2
    | succ z ih =>
      intro i mu' hi f f44 e0 e1 hj
      have hv : vp_in (nI i) 6 := b_in rfl (by omega) (by decide)
      obtain ⟨g1, g2, g3, g4, g5⟩ := h.2.2 i (by omega)
      refine vc_X7_bar_31 0 _ ?_
      rw [e0, show (5 : Int32) * nI i = nI (5 * i) from by rw [show (5 : Int32) = nI 5 from rfl, pk_mul], nI_1, nI_1, show nI (5 * i) + 2 = nI (5 * i + 2) from nI_add _ 2, show nI (5 * i) + 3 = nI (5 * i + 3) from nI_add _ 3, show nI (5 * i) + 4 = nI (5 * i + 4) from nI_add _ 4, b_cl (by omega), b_cl (by omega), b_cl (by omega), b_cl (by omega), b_cl (by omega), b_cl (by omega), f44 44 0 _ rfl, g1]
      refine noo (nI_ge (by omega) (by omega)) ⟨b_in rfl (by omega) (by decide), hv, ?_⟩
      rintro mu1 rfl
      refine ⟨b_in rfl (by omega) (by decide), hv, ?_⟩
      rintro mu1 rfl
      refine ⟨b_in rfl (by omega) (by decide), hv, ?_⟩
      rintro mu1 rfl
      refine ⟨b_in rfl (by omega) (by decide), hv, ?_⟩
      rintro mu1 rfl
      refine ⟨b_in rfl (by omega) (by decide), hv, ?_⟩
      rintro mu1 rfl
      refine ih (i + 1) _ (by omega) (((((f.u3 rfl).u3 rfl).u3 rfl).u3 rfl).u3 rfl) (((((f44.u3 rfl).u3 rfl).u3 rfl).u3 rfl).u3 rfl) ?_ ?_ (fun j hj2 => ?_)
      · rw [← e0]; unfold up3; simp
      · rw [← e1]; unfold up3; simp
      · by_cases ej : j = i
        · subst ej
          rw [← g2, ← g3, ← g4, ← g5, ← f44 44 0 _ rfl, ← f44 44 0 _ rfl, ← f44 44 0 _ rfl, ← f44 44 0 _ rfl]
          unfold up3; simp
        · obtain ⟨x1, x2, x3, x4, x5⟩ := hj j (by omega)
          rw [← x1, ← x2, ← x3, ← x4, ← x5]; unfold up3; simp [ej]
  refine key (bN B) 0 _ (by omega) ((Fr.rf.u3 rfl).u3 rfl) ((Fr.rf.u3 rfl).u3 rfl) ?_ ?_ (fun j hj => absurd hj (Nat.not_lt_zero j))
  · rw [← h.1]; unfold up3; simp
  · rw [up3_self, ← h.2.1]; unfold up3; simp
/-- the class's bar, behind the reading -/
theorem x_barTail {Q : Int32 → fMu → fLa → Prop} (hB : wB B) (h : DR B mu) (q : ∀ mu' : fMu, Fr sZ mu mu' → XS B (fun _ => (0, 0, 0)) 0 mu' → (∀ k : Nat, k < 3 → mu' 2 (k + 1) 0 = -1) → Q (nI (bN B)) mu' la) : FnV E (d + 3) mi_22 [.inr (.inr (some (1, 0))), .inr (.inr (some (1, 1)))] mu la (fun mu8 la9 => FnV E (d + 3) mi_1 [.inr (.inr (some (0, 0)))] mu8 la9 (fun mu11 la12 => ∀ mu13 : fMu, mu13 = up3 mu11 2 0 0 (0 : Int32) → (Ev E (d + 4) mi_59 37 [some (.inr (.inr (some (6, 0)))), none, none, some (.inl (0 : Int32))] [] (mem E mu13 la12) (qI E Q)))) := by
  have hn := hB.1
  refine s_cbecome hB h (fun mu1 f1 c1 => s_openAnew (B := B) (fun mu2 f2 c2 => ?_))
  rintro mu3 rfl
  have key : ∀ (z k : Nat) (mu' : fMu), k + z = 3 → Fr sZ mu mu' → XS B (fun _ => (0, 0, 0)) 0 mu' → (∀ j : Nat, j < k → mu' 2 (j + 1) 0 = -1) → Ev E (d + 4) mi_59 37 [some (.inr (.inr (some (6, 0)))), none, none, some (.inl (nI k))] [] (mem E mu' la) (qI E Q) := by
    intro z
    induction z with
    | zero =>
      intro k mu' hk f x hj
      refine vc_X6_bar_37 0 _ (yes (nI_le (a := 3) (by omega) (by omega)) ?_)
      rw [x.1.1]
      exact q mu' f x (fun j hj2 => hj j (by omega))
    | succ z ih =>
      intro k mu' hk f x hj
      refine vc_X6_bar_37 0 _ (noo (nI_ge (b := 3) (by omega) (by decide)) ⟨b_in rfl (by omega) (by decide), ?_⟩)
      rw [b_cl (by omega), nI_1]
      rintro mu1 rfl
      refine ih (k + 1) _ (by omega) (f.u3 rfl) ⟨x.1.fr (Fr.rf.u3 rfl), x.2.1.fr (Fr.rf.u3 rfl), ?_, fun j hj2 => absurd hj2 (Nat.not_lt_zero j)⟩ (fun j hj2 => ?_)
      · rw [← x.2.2.1]; unfold up3; simp
      · by_cases ej : j = k
        · subst ej; unfold up3; simp
        · rw [← hj j (by omega)]; unfold up3; simp [ej]
  refine key 3 0 _ rfl (((f1.le z_cU).tr (f2.le z_ctr)).u3 rfl) ⟨(c1.fr (f2.le ctr_CB)).fr (Fr.rf.u3 rfl), c2.fr (Fr.rf.u3 rfl), up3_self _ _ _ _ _, fun j hj2 => absurd hj2 (Nat.not_lt_zero j)⟩ (fun j hj => absurd hj (Nat.not_lt_zero j))
theorem p_bar (h : Inv IB mu la) (a : Int32) : Pair IB E (d + 5) mi_59 mi_154 [.inl a] mu la := by
  have hi := h
  refine vc_X6_bar a (s_textOf a (fun t ht e => ?_) (fun hno => ?_))
  · subst e
    rcases it_cases h.2.1 ht with ⟨e1, e2⟩ | ⟨s, hs, e1, e2, hv⟩
    · rw [e2]
      refine noo b_n1 (s_foundX 1 (by decide) (vc_X7_bar _ (s_isText (nI t) (fun _ _ _ => yes b_x10 ⟨b_in rfl ht (by decide), ?_⟩) (fun hno => absurd rfl (hno t ht)))))
      rw [b_cl (by omega), show fdX mu 1 31 0 t = -1 from by rw [← e1]; unfold fdX up3; simp]
      exact noo b_n1 (s_foundM 1 (by decide) ⟨rfl, hi.fd ibf (by decide)⟩)
    · rw [e2]
      have hTC : TC t (mu 24 t) s mu := ⟨e2, fun _ _ => rfl⟩
      have hTM : ∀ mu1, Fr sZ mu mu1 → TM t (mu 24 t) s mu1 := fun mu1 f => ⟨(f 31 0 t rfl).trans e1, fun j hj => (f 32 0 _ rfl).trans (hv j hj)⟩
      have hw := prs_w (mu 24 t) s hs
      have b9 : ∀ x : Nat, x < 1000 → ¬ nI x = -9 := by
        intro x hx z
        have := b_np x (by omega)
        rw [z] at this
        exact absurd this (by decide)
      refine yes (b_np s (by omega)) (x_readBar hs hTC (fun mu1 f1 e dr => yes rfl (x_barTail hw dr (fun mu2 f2 x2 k2 => ?_))) (fun mu1 x f1 hx e => noo (b9 x hx) ?_))
      · have f12 : Fr sZ mu mu2 := (f1.le z_nX).tr f2
        refine vc_X7_bar _ (s_isText (nI t) (fun _ _ _ => yes b_x10 ⟨b_in rfl ht (by decide), ?_⟩) (fun hno => absurd rfl (hno t ht)))
        rw [b_cl (by omega), (hTM mu2 f12).1]
        refine yes (b_np s (by omega)) (m_faultOf ht hs (hTM mu2 f12) (fun mu3 f3 _ rm => yes rfl ?_) (fun mu3 x f3 e2 => by rw [e] at e2; cases e2))
        rintro mu4 rfl
        rintro mu4 rfl
        refine m_barTail hw rm (fun mu4 f4 m4 c4 e4 k4 => ?_)
        have f34 : Fr sY mu2 mu4 := (f3.le y_nM).tr f4
        refine ⟨rfl, (hi.1.fr (f12.le z_R)).fr (f34.le y_R), (hi.2.1.fr (f12.le z_T)).fr (f34.le y_T), (hi.2.2.1.fr (f12.le z_S)).fr (f34.le y_S), _, _, 0, IBd.mk hw ⟨by decide, fun k hk => absurd hk (Nat.not_lt_zero k)⟩ ⟨x2.1.fr (f34.le y_CB), x2.2.1.fr (f34.le y_CC), ?_, fun k hk => absurd hk (Nat.not_lt_zero k)⟩ ⟨m4, c4, e4, fun k hk => absurd hk (Nat.not_lt_zero k)⟩ (fun kk hkk => Or.inl ⟨?_, k4 kk hkk⟩)⟩
        · rw [f34 2 0 0 rfl]; exact x2.2.2.1
        · rw [f34 2 (kk + 1) 0 rfl]; exact k2 kk hkk
      · have f1z := f1.le z_nX
        refine vc_X7_bar _ (s_isText (nI t) (fun _ _ _ => yes b_x10 ⟨b_in rfl ht (by decide), ?_⟩) (fun hno => absurd rfl (hno t ht)))
        rw [b_cl (by omega), (hTM mu1 f1z).1]
        have fin : ∀ mu2, Fr nM mu1 mu2 → Inv IB mu2 la := fun mu2 f2 => ⟨(hi.1.fr (f1z.le z_R)).fr ((f2.le y_nM).le y_R), (hi.2.1.fr (f1z.le z_T)).fr ((f2.le y_nM).le y_T), (hi.2.2.1.fr (f1z.le z_S)).fr ((f2.le y_nM).le y_S), ibf _ _ (f2.le nM_B) (ibf _ _ (f1.le nX_B) hi.2.2.2)⟩
        refine yes (b_np s (by omega)) (m_faultOf ht hs (hTM mu1 f1z) (fun mu2 f2 e2 _ => by rw [e] at e2; cases e2) (fun mu2 y f2 e2 => noo ?_ ⟨rfl, fin mu2 f2⟩))
        rw [e] at e2
        rw [← Option.some.inj e2]
        exact b9 x hx
  · exact vc_X7_bar _ (s_isText a (fun j hj e => absurd e (hno j hj)) (fun _ => noo (fun z => z rfl) ⟨rfl, hi⟩))
end BAR
