/-! what is only tried -/
def sI (k i j : Nat) : Bool := sR k i j || sT k i j || sS k i j || sB k i j
theorem sI_or {S : Nat → Nat → Nat → Bool} (h1 : ∀ k i j, sR k i j = true → S k i j = true) (h2 : ∀ k i j, sT k i j = true → S k i j = true) (h3 : ∀ k i j, sS k i j = true → S k i j = true) (h4 : ∀ k i j, sB k i j = true → S k i j = true) : ∀ k i j, sI k i j = true → S k i j = true := by
  intro k i j h
  unfold sI at h
  rw [Bool.or_eq_true, Bool.or_eq_true, Bool.or_eq_true] at h
  rcases h with ((h | h) | h) | h
  · exact h1 k i j h
  · exact h2 k i j h
  · exact h3 k i j h
  · exact h4 k i j h
theorem sI_R : ∀ k i j, sR k i j = true → sI k i j = true := fun k i j h => by unfold sI; rw [h]; simp
theorem sI_T : ∀ k i j, sT k i j = true → sI k i j = true := fun k i j h => by unfold sI; rw [h]; simp
theorem sI_S : ∀ k i j, sS k i j = true → sI k i j = true := fun k i j h => by unfold sI; rw [h]; simp
theorem sI_B : ∀ k i j, sB k i j = true → sI k i j = true := fun k i j h => by unfold sI; rw [h]; simp
theorem Inv.frI {mu mu' : fMu} {la : fLa} (h : Inv IB mu la) (f : Fr sI mu mu') : Inv IB mu' la := ⟨h.1.fr (f.le sI_R), h.2.1.fr (f.le sI_T), h.2.2.1.fr (f.le sI_S), ibf _ _ (f.le sI_B) h.2.2.2⟩
theorem ctr1_B : ∀ k i j, sB k i j = true → cCtr 1 k i j = true := by
  intro k i j h
  unfold sB at h
  split at h <;> first | rfl | (rw [beq_iff_eq] at h; subst h; rfl) | cases h
theorem ctr1_I : ∀ k i j, sI k i j = true → cCtr 1 k i j = true := sI_or ctr_R ctr_T ctr_S ctr1_B
theorem ck39_I : ∀ k i j, sI k i j = true → cK 39 k i j = true := by
  refine sI_or ?_ ?_ ?_ ?_
  · intro k i j h
    unfold sR at h
    split at h <;> first | rfl | cases h
  · intro k i j h
    unfold sT at h
    split at h <;> first | rfl | cases h
  · intro k i j h
    unfold sS at h
    split at h <;> first | rfl | cases h
  · intro k i j h
    unfold sB at h
    split at h <;> first | rfl | cases h
/-- one makes of a row, as far as can be -/
def runM (B : tB) (f : Nat → Nat) : Nat → Nat → tT → tT
  | _, 0, T => T
  | k, z + 1, T => if tH T (f k) = -9 then runM B f (k + 1) z (makesT B T (f k) (bE B)) else T
section MAKES
variable {E : mEv} {d : Nat} {mu : fMu} {la : fLa} {B : tB} {T : tT} {D : Nat → Nat × Nat × Nat} {m : Nat}
theorem runM_wt (hB : wB B) (f : Nat → Nat) (z : Nat) : ∀ (k : Nat) (T : tT), WT B T → (∀ j, k ≤ j → j < k + z → f j < bN B) → WT B (runM B f k z T) := by
  induction z with
  | zero => intro k T h _; exact h
  | succ z ih =>
    intro k T h hf
    unfold runM
    split
    · rename_i h9
      exact ih (k + 1) _ (wt_make hB h (hf k (Nat.le_refl k) (by omega)) h9) (fun j h1 h2 => hf j (by omega) (by omega))
    · exact h
theorem s_becomeT {Q : fMu → fLa → Prop} (hC : CC B 0 T mu) (q : ∀ mu' : fMu, Fr (cCtr 1) mu mu' → CC B 1 T mu' → Q mu' la) : FnV E d mi_2 [.inr (.inr (some (0, 1))), .inr (.inr (some (0, 0)))] mu la Q := by
  obtain ⟨c1, c2, c3, c4, c5, c6⟩ := hC
  refine vc_X0_become 0 ?_
  rintro mu1 rfl
  rintro mu1 rfl
  rintro mu1 rfl
  rintro mu1 rfl
  have key : ∀ (z i : Nat) (mu' : fMu), i + z = 6 → Fr (cCtr 1) mu mu' → mu' 0 1 1 = nI (tI T) → mu' 0 1 2 = tL T → mu' 0 1 3 = nI (madeT (bN B) T) → mu' 0 1 4 = nI (tD T) → (∀ j : Nat, j < i → mu' 8 1 j = tH T j ∧ mu' 9 1 j = oI (heldT (bN B) T (nI j))) → Ev E d mi_2 18 [some (.inr (.inr (some (0, 1)))), some (.inr (.inr (some (0, 0)))), some (.inl (nI i))] [] (mem E mu' la) (qV E Q) := by
    intro z
    induction z with
    | zero =>
      intro i mu' hi f e1 e2 e3 e4 hk
      refine vc_X0_become_18 1 0 _ (yes (nI_le (a := 6) (by omega) (by omega)) (q mu' f ⟨e1, e2, e3, e4, fun j hj => (hk j (by omega)).1, fun j hj => (hk j (by omega)).2⟩))
    | succ z ih =>
      intro i mu' hi f e1 e2 e3 e4 hk
      have hin : vp_in (nI i) 6 := b_in rfl (by omega) (by decide)
      refine vc_X0_become_18 1 0 _ (noo (nI_ge (b := 6) (by omega) (by decide)) ⟨hin, hin, ?_⟩)
      rw [b_cl (by omega), nI_1, f 8 0 i rfl, c5 i (by omega)]
      rintro mu2 rfl
      have e9 : up3 mu' 8 1 i (tH T i) 9 0 i = oI (heldT (bN B) T (nI i)) := by rw [← c6 i (by omega), ← f 9 0 i rfl]; unfold up3; simp
      rw [e9]
      refine ⟨hin, hin, ?_⟩
      rintro mu3 rfl
      refine ih (i + 1) _ (by omega) ((f.u3 rfl).u3 rfl) ?_ ?_ ?_ ?_ (fun j hj => ?_)
      · rw [← e1]; unfold up3; simp
      · rw [← e2]; unfold up3; simp
      · rw [← e3]; unfold up3; simp
      · rw [← e4]; unfold up3; simp
      · by_cases ej : j = i
        · subst ej
          unfold up3; simp
        · obtain ⟨g1, g2⟩ := hk j (by omega)
          rw [← g1, ← g2]
          unfold up3; simp [ej]
  refine key 6 0 _ rfl ((((Fr.rf.u3 rfl).u3 rfl).u3 rfl).u3 rfl) ?_ ?_ ?_ ?_ (fun j hj => by omega)
  · rw [← c1]; unfold up3; simp
  · rw [← c2]; unfold up3; simp
  · rw [← c3]; unfold up3; simp
  · rw [← c4]; unfold up3; simp
theorem s_layAside {Q : fMu → fLa → Prop} (hC : MC 38 0 T mu) (q : ∀ mu' : fMu, Fr (cK 39) mu mu' → MC 39 0 T mu' → Q mu' la) : FnV E (d + 1) mi_186 [.inr (.inr (some (7, 0)))] mu la Q := by
  refine vc_X7_layAside (s_copies 38 9 0 39 9 0 9 rfl (by decide) rfl (by decide) (by decide) (by decide) (by decide) (by decide) (by decide) (q _ (cpR_fr Fr.rf (fun _ => rfl)) ?_))
  exact MC.cp (o1 := 0) (o2 := 0) (x := 0) hC (by decide)
theorem x_makes2 {Q : Int32 → fMu → fLa → Prop} (mu0 : fMu) (r s : Nat) (f : Nat → Nat) (hB : wB B) (hs : s ≤ 6) (e : mu0 3 r 0 = nI s) (hf : ∀ k : Nat, k < s → f k < bN B ∧ mu0 21 r k = nI (f k)) (hX : CB B mu0) : ∀ (z k : Nat) (T : tT) (mu : fMu), k + z = s → WT B T → Fr (cCtr 1) mu0 mu → CC B 1 T mu → (∀ mu' : fMu, Fr (cCtr 1) mu0 mu' → Q (nI (tI (runM B f k z T))) (up3 mu' 6 0 11 (nI (pop (wrongT (runM B f k z T) (bN B))))) la) → Ev E (d + 4) mi_73 56 [some (.inr (.inr (some (6, 0)))), none, some (.inr (.inr (some (3, r)))), some (.inl (nI k))] [] (mem E mu la) (qI E Q) := by
  have hn := hB.1
  intro z
  induction z with
  | zero =>
    intro k T mu hk hT g hC q
    refine vc_X6_makes_56 0 r _ ?_
    rw [g 3 r 0 rfl, e]
    have hX1 := hX.fr (g.le ctr_CB)
    refine yes (nI_le (by omega) (by omega)) (s_howManyWrong hT hX1.1 hC ?_)
    rintro mu2 rfl
    rw [show up3 mu 6 0 11 (nI (pop (wrongT T (bN B)))) 0 1 1 = nI (tI T) from by rw [← hC.1]; unfold up3; simp]
    exact q mu g
  | succ z ih =>
    intro k T mu hk hT g hC q
    obtain ⟨f1, f2⟩ := hf k (by omega)
    have hX1 := hX.fr (g.le ctr_CB)
    refine vc_X6_makes_56 0 r _ ?_
    rw [g 3 r 0 rfl, e]
    refine noo (nI_ge (by omega) (by omega)) ⟨b_in rfl (by omega) (by decide), ?_⟩
    rw [b_cl (by omega), g 21 r k rfl, f2, ← nI_succ]
    unfold runM at q
    refine s_cMade (T := T) (f k) hn f1 hC.2.2.1 (bnz (fun h9 => ?_) (fun h9 => ⟨b_in rfl (by omega) (by decide), ?_⟩))
    · have h9' : ¬ tH T (f k) = -9 := of_decide_eq_true h9
      rw [if_neg h9'] at q
      refine s_howManyWrong hT hX1.1 hC ?_
      rintro mu2 rfl
      rw [show up3 mu 6 0 11 (nI (pop (wrongT T (bN B)))) 0 1 1 = nI (tI T) from by rw [← hC.1]; unfold up3; simp]
      exact q mu g
    · have h9' : tH T (f k) = -9 := by simpa using h9
      rw [if_pos h9'] at q
      rw [g 21 r k rfl, f2]
      exact s_serve (f k) hB hT f1 h9' hX1 hC (fun mu' g' c' => ih (k + 1) _ mu' (by omega) (wt_make hB hT f1 h9') (g.tr g') c' q)
theorem x_makes1 {Q : Int32 → fMu → fLa → Prop} (r s : Nat) (hn : bN B ≤ 6) (hs : s ≤ 6) (e : mu 3 r 0 = nI s) (e0 : mu 1 0 0 = nI (bN B)) : ∀ (z k : Nat), k + z = s → ((∀ j : Nat, k ≤ j → j < s → ∃ c : Nat, c < bN B ∧ mu 21 r j = nI c) → FnV E (d + 3) mi_2 [.inr (.inr (some (0, 1))), .inr (.inr (some (0, 0)))] mu la (fun mu11 la12 => Ev E (d + 4) mi_73 56 [some (.inr (.inr (some (6, 0)))), none, some (.inr (.inr (some (3, r)))), some (.inl (0 : Int32))] [] (mem E mu11 la12) (qI E Q))) → ((∃ j : Nat, k ≤ j ∧ j < s ∧ ∀ c : Nat, c < bN B → mu 21 r j ≠ nI c) → Q (-3) (fdX mu 3) la) → Ev E (d + 4) mi_73 31 [some (.inr (.inr (some (6, 0)))), none, some (.inr (.inr (some (3, r)))), some (.inl (nI k))] [] (mem E mu la) (qI E Q) := by
  intro z
  induction z with
  | zero =>
    intro k hk q1 q2
    refine vc_X6_makes_31 0 r _ ?_
    rw [e]
    exact yes (nI_le (by omega) (by omega)) (q1 (fun j h1 h2 => by omega))
  | succ z ih =>
    intro k hk q1 q2
    refine vc_X6_makes_31 0 r _ ?_
    rw [e]
    refine noo (nI_ge (by omega) (by omega)) ⟨b_in rfl (by omega) (by decide), ?_⟩
    rw [b_cl (by omega), ← nI_succ]
    refine s_cHas _ (by omega) e0 (fun c hc ec => yes b_x10 (ih (k + 1) (by omega) (fun h => q1 (fun j h1 h2 => ?_)) (fun ⟨j, h1, h2, h3⟩ => q2 ⟨j, by omega, h2, h3⟩))) (fun hno => noo (fun z => z rfl) (s_foundX 3 (by decide) (q2 ⟨k, Nat.le_refl k, by omega, hno⟩)))
    by_cases ej : j = k
    · exact ⟨c, hc, by rw [ej]; exact ec⟩
    · exact h j (by omega) h2
theorem m_makes2 {Q : Int32 → fMu → fLa → Prop} (mu0 : fMu) (r s : Nat) (f : Nat → Nat) (hr : r < 6) (hB : wB B) (hs : s ≤ 6) (e : mu0 29 0 r = nI s) (hf : ∀ k : Nat, k < s → f k < bN B ∧ mu0 30 0 (40 * r + k) = nI (f k)) (hM : MB B mu0) : ∀ (z k : Nat) (T : tT) (mu : fMu), k + z = s → WT B T → Fr (cK 39) mu0 mu → MC 39 0 T mu → (∀ mu' : fMu, Fr (cK 39) mu0 mu' → Q (nI (tI (runM B f k z T))) (up3 mu' 7 0 17 (nI (pop (wrongT (runM B f k z T) (bN B))))) la) → Ev E (d + 4) mi_194 58 [some (.inr (.inr (some (7, 0)))), some (.inl (nI r)), some (.inl (nI k))] [] (mem E mu la) (qI E Q) := by
  have hn := hB.1
  have hinr : vp_in (nI r) 6 := b_in rfl hr (by decide)
  have hin6 : vp_in (6 : Int32) 9 := b_in (j := 6) rfl (by decide) (by decide)
  have e6 : (6 : Int32).toNatClampNeg = 6 := rfl
  intro z
  induction z with
  | zero =>
    intro k T mu hk hT g hC q
    have hM1 := hM.fr (g.le (cK_MB (Or.inr rfl)))
    refine vc_X7_makes_58 0 _ _ ⟨hinr, ?_⟩
    rw [b_cl (by omega), g 29 0 r rfl, e, e6, show mu 39 0 6 = nI (tI T) from hC.2.1]
    refine yes (nI_le (by omega) (by omega)) ⟨hin6, s_wrongOf (T := T) hk39 (by decide) hn hM1.1 (fun j h => hC.w h) (s_bits _ (wrongT_lt _) (s_answer _ _ (q mu g)))⟩
  | succ z ih =>
    intro k T mu hk hT g hC q
    have hM1 := hM.fr (g.le (cK_MB (Or.inr rfl)))
    obtain ⟨f1, f2⟩ := hf k (by omega)
    refine vc_X7_makes_58 0 _ _ ⟨hinr, ?_⟩
    rw [b_cl (by omega), g 29 0 r rfl, e, b_40, b_cl (by omega), g 30 0 _ rfl, f2, ← nI_succ, e6]
    unfold runM at q
    refine noo (nI_ge (by omega) (by omega)) ⟨b_in rfl (by omega) (by decide), s_isMadeM hk39 (by decide) (f k) (by omega) (hC.w (by omega)) (bnz (fun h9 => ⟨hin6, ?_⟩) (fun h9 => ⟨b_in rfl (by omega) (by decide), ?_⟩))⟩
    · have h9' : ¬ tH T (f k) = -9 := of_decide_eq_true h9
      rw [if_neg h9'] at q
      rw [show mu 39 0 6 = nI (tI T) from hC.2.1]
      exact s_wrongOf (T := T) hk39 (by decide) hn hM1.1 (fun j h => hC.w h) (s_bits _ (wrongT_lt _) (s_answer _ _ (q mu g)))
    · have h9' : tH T (f k) = -9 := by simpa using h9
      rw [if_pos h9'] at q
      rw [g 30 0 _ rfl, f2, hM1.2.1]
      exact s_makesOn (Or.inr rfl) (f k) (bE B) hB f1 hB.2.1 hT.d64 hT.2.2.2.2.2 hM1 hC (fun mu' g' c' => ih (k + 1) _ mu' (by omega) (wt_make hB hT f1 h9') (g.tr g') c' q)
theorem m_makes1 {Q : Int32 → fMu → fLa → Prop} (r s : Nat) (hr : r < 6) (hn : bN B ≤ 6) (hs : s ≤ 6) (e : mu 29 0 r = nI s) (e0 : mu 7 0 4 = nI (bN B)) : ∀ (z k : Nat), k + z = s → ((∀ j : Nat, k ≤ j → j < s → ∃ c : Nat, c < bN B ∧ mu 30 0 (40 * r + j) = nI c) → FnV E (d + 3) mi_186 [.inr (.inr (some (7, 0)))] mu la (fun mu11 la12 => Ev E (d + 4) mi_194 58 [some (.inr (.inr (some (7, 0)))), some (.inl (nI r)), some (.inl (0 : Int32))] [] (mem E mu11 la12) (qI E Q))) → ((∃ j : Nat, k ≤ j ∧ j < s ∧ ∀ c : Nat, c < bN B → mu 30 0 (40 * r + j) ≠ nI c) → Q (-3) (fdM mu 3) la) → Ev E (d + 4) mi_194 31 [some (.inr (.inr (some (7, 0)))), some (.inl (nI r)), some (.inl (nI k))] [] (mem E mu la) (qI E Q) := by
  have hinr : vp_in (nI r) 6 := b_in rfl hr (by decide)
  intro z
  induction z with
  | zero =>
    intro k hk q1 q2
    refine vc_X7_makes_31 0 _ _ ⟨hinr, ?_⟩
    rw [b_cl (by omega), e]
    exact yes (nI_le (by omega) (by omega)) (q1 (fun j h1 h2 => by omega))
  | succ z ih =>
    intro k hk q1 q2
    refine vc_X7_makes_31 0 _ _ ⟨hinr, ?_⟩
    rw [b_cl (by omega), e, b_40, b_cl (by omega), ← nI_succ]
    refine noo (nI_ge (by omega) (by omega)) ⟨b_in rfl (by omega) (by decide), ?_⟩
    refine s_isCup hn _ e0 (fun c hc ec => yes b_x10 (ih (k + 1) (by omega) (fun h => q1 (fun j h1 h2 => ?_)) (fun ⟨j, h1, h2, h3⟩ => q2 ⟨j, by omega, h2, h3⟩))) (fun hno => noo (fun z => z rfl) (s_foundM 3 (by decide) (q2 ⟨k, Nat.le_refl k, by omega, hno⟩)))
    by_cases ej : j = k
    · exact ⟨c, hc, by rw [ej]; exact ec⟩
    · exact h j (by omega) h2
theorem p_makes (h : Inv IB mu la) (a : Int32) : Pair IB E (d + 4) mi_73 mi_194 [.inl a] mu la := by
  have hi := h
  obtain ⟨hR, -, -, B, D, m, hd⟩ := h
  have hB := hd.1
  have hn := hd.1.1
  have hwt := hd.wt
  have hX := hd.2.2.1
  have hC := hd.2.2.2.1
  have hM := hd.2.2.2.2.2.1
  have hT := hd.2.2.2.2.2.2.1
  refine vc_X6_makes a (s_rowOf a (fun r hr e => ?_) (fun hno => ?_))
  · subst e
    have hinr : vp_in (nI r) 6 := b_in rfl hr (by decide)
    rw [hX.1]
    refine sz_c (by omega) (fun hz => ?_) (fun hz => ?_)
    · have mm : ∀ (mu1 : fMu) (v : Int32), mu1 7 0 4 = nI (bN B) → (0 ≤ mu1 29 0 r → ((mu1 29 0 r ≤ 6 → Ev E (d + 4) mi_194 31 [some (.inr (.inr (some (7, 0)))), some (.inl (nI r)), some (.inl (0 : Int32))] [] (mem E mu1 la) (qI E (fun r2 mu2 la2 => v = r2 ∧ Inv IB mu2 la2))) ∧ (¬ (mu1 29 0 r ≤ 6) → v = -3 ∧ Inv IB (fdM mu1 5) la))) → (¬ (0 ≤ mu1 29 0 r) → v = -3 ∧ Inv IB (fdM mu1 1) la) → FnI E (d + 4) mi_194 [.inr (.inr (some (7, 0))), .inl (nI r)] mu1 la (fun r2 mu2 la2 => v = r2 ∧ Inv IB mu2 la2) := by
        intro mu1 v e4 q1 q2
        refine vc_X7_makes _ (s_isRow _ (fun _ _ _ => yes b_x10 ?_) (fun hno => absurd rfl (hno r hr)))
        rw [e4, b_cl (by omega)]
        refine sz_c (by omega) (fun _ => ⟨hinr, fun h0 => ⟨hinr, (q1 h0).1, fun h1 => s_foundM 5 (by decide) ((q1 h0).2 h1)⟩, fun h0 => s_foundM 1 (by decide) (q2 h0)⟩) (fun z => by omega)
      rcases ir_cases hR hr with ⟨e1, e2⟩ | ⟨s, hs, e1, e2, hv⟩
      · rw [e2]
        refine noo b_n1 (s_foundX 1 (by decide) (mm _ _ ?_ (fun z => ?_) (fun _ => ⟨rfl, hi.fd ibf (by decide)⟩)))
        · rw [← hM.1]; unfold fdX up3; simp
        · rw [show fdX mu 1 29 0 r = mu 29 0 r from by unfold fdX up3; simp, e1] at z
          exact absurd z b_n1
      · rw [e2]
        refine yes (b_np s (by omega)) (pk_le s 6 (fun hs6 => ?_) (fun hs6 => ?_))
        · refine x_makes1 (Q := _) r s hn hs6 e2 hX.1 s 0 (by omega) (fun hall => ?_) (fun hex => ?_)
          · have hch : ∀ j : Nat, ∃ c : Nat, j < s → c < bN B ∧ mu 21 r j = nI c := by
              intro j
              by_cases hj : j < s
              · obtain ⟨c, h1, h2⟩ := hall j (Nat.zero_le j) hj
                exact ⟨c, fun _ => ⟨h1, h2⟩⟩
              · exact ⟨0, fun z => absurd z hj⟩
            obtain ⟨f, hf⟩ : ∃ f : Nat → Nat, ∀ j : Nat, j < s → f j < bN B ∧ mu 21 r j = nI (f j) := ⟨fun j => (hch j).choose, fun j hj => (hch j).choose_spec hj⟩
            refine s_becomeT hC (fun mu1 f1 c1 => x_makes2 mu r s f hB hs6 e2 hf hX s 0 _ mu1 (by omega) hwt f1 c1 (fun mu2 f2 => ?_))
            have hi2 : Inv IB mu2 la := hi.frI (f2.le ctr1_I)
            have f3 : Fr cX mu (up3 mu2 6 0 11 (nI (pop (wrongT (runM B f 0 s (rp B D m)) (bN B))))) → True := fun _ => trivial
            have g29 : ∀ v, up3 mu2 6 0 11 v 29 0 r = nI s := fun v => by rw [← e1, ← f2 29 0 r rfl]; unfold up3; simp
            have hM3 : ∀ v, MB B (up3 mu2 6 0 11 v) := fun v => (hM.fr (f2.le ctr_MB)).fr (Fr.rf.u3 rfl)
            refine mm _ _ (hM3 _).1 (fun _ => ?_) (fun z => absurd (b_np s (by omega)) (by rw [g29] at z; exact z))
            rw [g29]
            refine ⟨fun _ => ?_, fun z => absurd (nI_le (b := 6) hs6 (by decide)) z⟩
            refine m_makes1 r s hr hn hs6 (g29 _) (hM3 _).1 s 0 (by omega) (fun _ => ?_) (fun ⟨j, h1, h2, h3⟩ => ?_)
            · have hT3 : MC 38 0 (rp B D m) (up3 mu2 6 0 11 (nI (pop (wrongT (runM B f 0 s (rp B D m)) (bN B))))) := (hT.fr (f2.le (ctr_K rfl))).fr (Fr.rf.u3 rfl)
              refine s_layAside hT3 (fun mu4 f4 c4 => m_makes2 _ r s f hr hB hs6 (g29 _) (fun k hk => ⟨(hf k hk).1, ?_⟩) (hM3 _) s 0 _ mu4 (by omega) hwt f4 c4 (fun mu5 f5 => ⟨rfl, ?_⟩))
              · rw [← (hf k hk).2, ← hv k hk, ← f2 30 0 _ rfl]; unfold up3; simp
              · have hi3 := (hi2.tell ibf (nI (pop (wrongT (runM B f 0 s (rp B D m)) (bN B)))))
                refine hi3.frI (fun k i j hs => ?_)
                have := f5 k i j (ck39_I k i j hs)
                unfold up3 at this ⊢
                split
                · rfl
                · rw [this]
            · exfalso
              refine h3 (f j) (hf j h2).1 ?_
              rw [← (hf j h2).2, ← hv j h2, ← f2 30 0 _ rfl]; unfold up3; simp
          · obtain ⟨j, h1, h2, h3⟩ := hex
            have g29 : fdX mu 3 29 0 r = nI s := by rw [← e1]; unfold fdX up3; simp
            have g4 : fdX mu 3 7 0 4 = nI (bN B) := by rw [← hM.1]; unfold fdX up3; simp
            refine mm _ _ g4 (fun _ => ?_) (fun z => absurd (b_np s (by omega)) (by rw [g29] at z; exact z))
            rw [g29]
            refine ⟨fun _ => ?_, fun z => absurd (nI_le (b := 6) hs6 (by decide)) z⟩
            refine m_makes1 r s hr hn hs6 g29 g4 s 0 (by omega) (fun hall => ?_) (fun _ => ⟨rfl, hi.fd ibf (by decide)⟩)
            obtain ⟨c, hc, ec⟩ := hall j (Nat.zero_le j) h2
            refine absurd ?_ (h3 c hc)
            rw [← hv j h2, ← ec]; unfold fdX up3; simp
        · refine s_foundX 5 (by decide) ?_
          have g29 : fdX mu 5 29 0 r = nI s := by rw [← e1]; unfold fdX up3; simp
          refine mm _ _ (by rw [← hM.1]; unfold fdX up3; simp) (fun _ => ?_) (fun z => absurd (b_np s (by omega)) (by rw [g29] at z; exact z))
          rw [g29]
          exact ⟨fun z => absurd z (nI_ge (a := 6) hs6 (by omega)), fun _ => ⟨rfl, hi.fd ibf (by decide)⟩⟩
    · refine vc_X7_makes _ (s_isRow _ (fun _ _ _ => yes b_x10 ?_) (fun hno => absurd rfl (hno r hr)))
      rw [hM.1]
      exact sz_c (by omega) (fun z => by omega) (fun _ => ⟨rfl, hi⟩)
  · exact vc_X7_makes _ (s_isRow _ (fun j hj e => absurd e (hno j hj)) (fun _ => noo (fun z => z rfl) ⟨rfl, hi⟩))
end MAKES
