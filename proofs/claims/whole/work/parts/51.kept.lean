def cD (c k i _ : Nat) : Bool := !((k == 2 || k == 18 || k == 19 || k == 20) && i == c)
def cQ (k _ _ : Nat) : Bool := !(k == 41 || k == 42)
section KEPT
variable {E : mEv} {d c : Nat} {mu : fMu} {la : fLa} {B : tB} {T : tT} {D : Nat → Nat × Nat × Nat} {m : Nat}
theorem DX.le {n : Nat} (h : DX c D m mu) (hn : n ≤ m) : ∀ k : Nat, k < n → mu 18 c k = nI (D k).1 ∧ mu 19 c k = nI (D k).2.1 ∧ mu 20 c k = nI (D k).2.2 := fun k hk => h.2 k (by omega)
theorem p_undo (h : Inv IB mu la) (a : Int32) : Pair IB E (d + 6) mi_66 mi_180 [.inl a] mu la := by
  have hi := h
  obtain ⟨-, -, -, B, D, m, hd⟩ := h
  have hb := hd.1
  have hm40 := hd.2.1.1
  have hdm : mu 7 0 13 = nI m := hd.2.2.2.2.2.2.2.1.1
  have hsz : mu 2 0 0 = nI m := hd.2.2.2.2.1.1
  have hbad : (∀ j : Nat, 0 ≤ j → j ≤ m → a ≠ nI j) → FnI E (d + 6) mi_180 [.inr (.inr (some (7, 0))), .inl a] mu la (fun r2 mu2 la2 => (-1 : Int32) = r2 ∧ Inv IB mu2 la2) := by
    intro hno
    refine vc_X7_undo _ ?_
    rw [hdm]
    exact s_inS a 0 m (by decide) (by omega) (fun j h1 h2 e => absurd e (hno j h1 h2)) (fun _ => noo (fun z => z rfl) ⟨rfl, hi⟩)
  refine vc_X6_undo a ?_
  rw [hsz]
  refine b_span a 0 m (by decide) (by omega) (fun n _ hnm e => ?_) hbad
  subst e
  rintro mu1 rfl
  have hw := wD_le hd.2.1 hnm
  have fx : Fr cX mu (up3 mu 2 0 0 (nI n)) := Fr.rf.u3 rfl
  have hX1 := hd.2.2.1.fr (fx.le cX_CB)
  have hD1 : DX 0 D n (up3 mu 2 0 0 (nI n)) := ⟨up3_self _ _ _ _ _, fun k hk => by
    obtain ⟨g1, g2, g3⟩ := hd.2.2.2.2.1.2 k (by omega)
    rw [← g1, ← g2, ← g3]; unfold up3; simp⟩
  refine s_replay hb hw hX1 hD1 (fun mu2 f2 c2 => ?_)
  have f12 : Fr cX mu mu2 := fun k i j hc => (f2 k i j (cX_ctr k i j hc)).trans (fx k i j hc)
  have x2 : XS B D n mu2 := ⟨hX1.fr (f2.le ctr_CB), c2, hD1.fr (f2.le (ctr_K rfl)) (f2.le (ctr_K rfl)) (f2.le (ctr_K rfl)) (f2.le (ctr_K rfl))⟩
  have y2 := hd.ms.fr f12
  have fin : ∀ mu3 : fMu, Fr cM mu2 mu3 → MC 38 0 (rp B D n) mu3 → mu3 7 0 13 = nI n → Fr (sK 40) mu2 mu3 → Inv IB mu3 la := by
    intro mu3 f3 c3 e3 f40
    refine hi.both f12 f3 ⟨B, D, n, IBd.mk hb hw (x2.fr f3) ⟨y2.1.fr (f3.le cM_MB), c3, e3, fun k hk => (y2.2.2.2 k (by omega)).fr f40⟩ (fun kk hk => ((hd.2.2.2.2.2.2.2.2 kk hk).frx (f12.le cX_KX)).frx (f3.le cM_KX))⟩
  refine vc_X7_undo _ ?_
  rw [y2.2.2.1]
  refine s_inS (nI n) 0 m (by decide) (by omega) (fun _ _ _ _ => yes b_x10 ?_) (fun hno => absurd rfl (hno n (Nat.zero_le _) hnm))
  rw [y2.2.2.1, pk_sub hnm, show (9 : Int32) * nI n = nI (9 * n) from by rw [show (9 : Int32) = nI 9 from rfl, pk_mul], show (0 : Int32) = nI 0 from rfl]
  refine pk_le (m - n) 0 (fun hl => ?_) (fun hl => ?_)
  · rintro mu3 rfl
    have : n = m := by omega
    subst this
    exact ⟨rfl, fin _ (Fr.rf.u3 rfl) (y2.2.1.fr (Fr.rf.u3 rfl)) (up3_self _ _ _ _ _) (Fr.rf.u3 rfl)⟩
  · refine s_copies 40 360 (9 * n) 38 9 0 9 rfl (by decide) rfl (by decide) (by decide) (by omega) (by decide) (by decide) (by decide) ?_
    rintro mu3 rfl
    have hc : MC 38 (0 + 0) (rp B D n) (cpR mu2 40 (9 * n) 38 0 9) := MC.cp (x := 0) (y2.2.2.2 n (by omega)) (by decide)
    exact ⟨rfl, fin _ ((cpR_fr Fr.rf (fun _ => rfl)).u3 rfl) (hc.fr (Fr.rf.u3 rfl)) (up3_self _ _ _ _ _) ((cpR_fr Fr.rf (fun _ => rfl)).u3 rfl)⟩
theorem s_become2 {Q : fMu → fLa → Prop} (a : Nat) (hca : c ≠ a) (hm : m ≤ 40) (h : DX a D m mu) (q : ∀ mu' : fMu, Fr (cD c) mu mu' → DX c D m mu' → Q mu' la) : FnV E d mi_25 [.inr (.inr (some (2, c))), .inr (.inr (some (2, a)))] mu la Q := by
  have hac : a ≠ c := fun z => hca z.symm
  have e : ∀ k, (k == 2 || k == 18 || k == 19 || k == 20) = true → ∀ j, cD c k c j = false := fun k h j => by unfold cD; rw [h, beq_self_eq_true]; rfl
  have ea : ∀ k j, cD c k a j = true := fun k j => by
    unfold cD
    rw [show (a == c) = false from by simpa using hac, Bool.and_false]; rfl
  refine vc_X2_become a ?_
  rintro mu1 rfl
  have key : ∀ (z i : Nat) (mu' : fMu), i + z = m → Fr (cD c) mu mu' → mu' 2 c 0 = nI m → (∀ k : Nat, k < i → mu' 18 c k = nI (D k).1 ∧ mu' 19 c k = nI (D k).2.1 ∧ mu' 20 c k = nI (D k).2.2) → Ev E d mi_25 6 [some (.inr (.inr (some (2, c)))), some (.inr (.inr (some (2, a)))), some (.inl (nI i))] [] (mem E mu' la) (qV E Q) := by
    intro z
    induction z with
    | zero =>
      intro i mu' hi f e0 hk
      refine vc_X2_become_6 c a _ ?_
      rw [e0]
      have : i = m := by omega
      subst this
      exact yes (nI_le (Nat.le_refl _) (by omega)) (q mu' f ⟨e0, hk⟩)
    | succ z ih =>
      intro i mu' hi f e0 hk
      refine vc_X2_become_6 c a _ ?_
      have hin : vp_in (nI i) 40 := b_in rfl (by omega) (by decide)
      obtain ⟨g1, g2, g3⟩ := h.2 i (by omega)
      rw [e0, b_cl (by omega), nI_1, f 18 a i (ea _ _), g1]
      refine noo (nI_ge (by omega) (by omega)) ⟨hin, hin, ?_⟩
      rintro mu1 rfl
      have e1 : up3 mu' 18 c i (nI (D i).1) 19 a i = nI (D i).2.1 := by rw [← g2, ← f 19 a i (ea _ _)]; unfold up3; simp
      rw [e1]
      refine ⟨hin, hin, ?_⟩
      rintro mu1 rfl
      have e2 : up3 (up3 mu' 18 c i (nI (D i).1)) 19 c i (nI (D i).2.1) 20 a i = nI (D i).2.2 := by rw [← g3, ← f 20 a i (ea _ _)]; unfold up3; simp
      rw [e2]
      refine ⟨hin, hin, ?_⟩
      rintro mu1 rfl
      refine ih (i + 1) _ (by omega) (((f.u3 (e 18 rfl _)).u3 (e 19 rfl _)).u3 (e 20 rfl _)) ?_ (fun k hk2 => ?_)
      · rw [← e0]; unfold up3; simp
      · by_cases ek : k = i
        · subst ek
          unfold up3; simp
        · obtain ⟨w1, w2, w3⟩ := hk k (by omega)
          rw [← w1, ← w2, ← w3]
          unfold up3; simp [ek]
  refine key m 0 _ (by omega) (Fr.rf.u3 (e 2 rfl _)) ?_ (fun k hk => absurd hk (Nat.not_lt_zero k))
  rw [up3_self, h.1]
theorem cD_R {kk : Nat} : ∀ k i j, sR k i j = true → cD kk k i j = true := by
  intro k i j h; unfold sR at h; split at h <;> first | rfl | cases h
theorem cD_T {kk : Nat} : ∀ k i j, sT k i j = true → cD kk k i j = true := by
  intro k i j h; unfold sT at h; split at h <;> first | rfl | cases h
theorem cD_S {kk : Nat} : ∀ k i j, sS k i j = true → cD kk k i j = true := by
  intro k i j h; unfold sS at h; split at h <;> first | rfl | cases h
theorem cD_CB {kk : Nat} : ∀ k i j, sCB k i j = true → cD kk k i j = true := by
  intro k i j h; unfold sCB at h; split at h <;> first | rfl | cases h
theorem cD_CC {kk : Nat} : ∀ k i j, sCC 0 k i j = true → cD kk k i j = true := by
  intro k i j h; unfold sCC at h; split at h <;> first | rfl | cases h
theorem cD_MB {kk : Nat} : ∀ k i j, sMB k i j = true → cD kk k i j = true := by
  intro k i j h; unfold sMB at h; split at h <;> first | rfl | cases h
theorem cD_K {kk k0 : Nat} (h0 : (k0 == 2 || k0 == 18 || k0 == 19 || k0 == 20) = false) : ∀ k i j, sK k0 k i j = true → cD kk k i j = true := by
  intro k i j h
  unfold sK at h
  rw [beq_iff_eq] at h
  subst h
  unfold cD
  rw [h0]
  rfl
theorem cD_i {kk i : Nat} (h : i ≠ kk) (k j : Nat) : cD kk k i j = true := by
  unfold cD
  rw [show (i == kk) = false from by simpa using h, Bool.and_false]; rfl
theorem cQ_R : ∀ k i j, sR k i j = true → cQ k i j = true := by
  intro k i j h; unfold sR at h; split at h <;> first | rfl | cases h
theorem cQ_T : ∀ k i j, sT k i j = true → cQ k i j = true := by
  intro k i j h; unfold sT at h; split at h <;> first | rfl | cases h
theorem cQ_S : ∀ k i j, sS k i j = true → cQ k i j = true := by
  intro k i j h; unfold sS at h; split at h <;> first | rfl | cases h
theorem cQ_CB : ∀ k i j, sCB k i j = true → cQ k i j = true := by
  intro k i j h; unfold sCB at h; split at h <;> first | rfl | cases h
theorem cQ_CC : ∀ k i j, sCC 0 k i j = true → cQ k i j = true := by
  intro k i j h; unfold sCC at h; split at h <;> first | rfl | cases h
theorem cQ_MB : ∀ k i j, sMB k i j = true → cQ k i j = true := by
  intro k i j h; unfold sMB at h; split at h <;> first | rfl | cases h
theorem cQ_K {k0 : Nat} (h0 : (k0 == 41 || k0 == 42) = false) : ∀ k i j, sK k0 k i j = true → cQ k i j = true := by
  intro k i j h
  unfold sK at h
  rw [beq_iff_eq] at h
  subst h
  unfold cQ
  rw [h0]
  rfl
theorem b_370 (k x : Nat) : (370 : Int32) * nI k + nI x = nI (370 * k + x) := by rw [show (370 : Int32) = nI 370 from rfl, pk_mul, nI_add]
theorem p_keep (h : Inv IB mu la) (a : Int32) : Pair IB E (d + 6) mi_67 mi_181 [.inl a] mu la := by
  have hi := h
  obtain ⟨hR, hTx, hS, B, D, m, hd⟩ := h
  have hn := hd.1.1
  have hb := hd.1
  have hX := hd.2.2.1
  have hM := hd.2.2.2.2.2.1
  have hm40 := hd.2.1.1
  have e0 : nI (bN B) = 0 ↔ bN B = 0 := by rw [show (0 : Int32) = nI 0 from rfl, nI_eq (by omega) (by omega)]
  refine vc_X6_keep a (s_keptAt a (fun k hk e => ?_) (fun hno => ?_))
  · subst e
    rw [hX.1]
    by_cases hz : bN B = 0
    · refine noo (fun w => w (e0.mpr hz)) (vc_X7_keep _ (s_inS (nI k) 0 2 (by decide) (by decide) (fun _ _ _ _ => yes b_x10 ?_) (fun hno => absurd rfl (hno k (Nat.zero_le _) (by omega)))))
      rw [hM.1]
      exact noo (fun w => w (e0.mpr hz)) ⟨rfl, hi⟩
    · refine yes (fun w => hz (e0.mp w)) (s_become2 0 (by omega) hm40 hd.2.2.2.2.1 (fun mu1 f1 d1 => ?_))
      rw [d1.1]
      have hX1 := hX.fr (f1.le cD_CB)
      have hC1 := hd.2.2.2.1.fr (f1.le cD_CC)
      have hD1 : DX 0 D m mu1 := by
        obtain ⟨g1, g2⟩ := hd.2.2.2.2.1
        refine ⟨(f1 2 0 0 (cD_i (by omega) _ _)).trans g1, fun j hj => ?_⟩
        rw [f1 18 0 j (cD_i (by omega) _ _), f1 19 0 j (cD_i (by omega) _ _), f1 20 0 j (cD_i (by omega) _ _)]
        exact g2 j hj
      have hM1 := hM.fr (f1.le cD_MB)
      have hT1 := hd.2.2.2.2.2.2.1.fr (f1.le (cD_K rfl))
      have f40 : Fr (sK 40) mu mu1 := f1.le (cD_K rfl)
      have hMD1 : MD B D m mu1 := ⟨(f1 7 0 13 rfl).trans hd.2.2.2.2.2.2.2.1.1, fun j hj => (hd.2.2.2.2.2.2.2.1.2 j hj).fr f40⟩
      refine vc_X7_keep _ (s_inS (nI k) 0 2 (by decide) (by decide) (fun _ _ _ _ => yes b_x10 ?_) (fun hno => absurd rfl (hno k (Nat.zero_le _) (by omega))))
      rw [hM1.1, show (370 : Int32) * nI k = nI (370 * k) from by rw [show (370 : Int32) = nI 370 from rfl, pk_mul], show nI (370 * k) + 9 = nI (370 * k + 9) from nI_add _ 9, show nI (370 * k) + 369 = nI (370 * k + 369) from nI_add _ 369, b_cl (by omega), b_cl (by omega)]
      refine yes (fun w => hz (e0.mp w)) (s_copies 38 9 0 41 1110 (370 * k) 9 rfl (by decide) rfl (by decide) (by decide) (by decide) (by omega) (by decide) (by decide) (s_copies 40 360 0 41 1110 (370 * k + 9) 360 rfl (by decide) rfl (by decide) (by decide) (by decide) (by omega) (by decide) (by decide) ⟨b_in rfl (by omega) (by decide), ?_⟩))
      rintro mu2 rfl
      refine ⟨b_in rfl hk (by decide), ?_⟩
      rintro mu2 rfl
      have e13 : ∀ v w, up3 (up3 (cpR (cpR mu1 38 0 41 (370 * k) 9) 40 0 41 (370 * k + 9) 360) 41 0 (370 * k + 369) v) 42 0 k w 7 0 13 = nI m := by
        intro v w
        rw [← hMD1.1]
        unfold up3
        simp
        rfl
      have e14 : cpR (cpR mu1 38 0 41 (370 * k) 9) 40 0 41 (370 * k + 9) 360 7 0 13 = nI m := by rw [← hMD1.1]; rfl
      rw [e13, e14, show vp_nar .boolean (1 : Int32) = 1 from rfl]
      have fq : Fr cQ mu1 (up3 (up3 (cpR (cpR mu1 38 0 41 (370 * k) 9) 40 0 41 (370 * k + 9) 360) 41 0 (370 * k + 369) (nI m)) 42 0 k 1) := ((cpR_fr (cpR_fr Fr.rf (fun _ => rfl)) (fun _ => rfl)).u3 rfl).u3 rfl
      refine ⟨rfl, ((hR.fr (f1.le cD_R)).fr (fq.le cQ_R)), ((hTx.fr (f1.le cD_T)).fr (fq.le cQ_T)), ((hS.fr (f1.le cD_S)).fr (fq.le cQ_S)), B, D, m, IBd.mk hb hd.2.1 ⟨hX1.fr (fq.le cQ_CB), hC1.fr (fq.le cQ_CC), hD1.fr (fq.le (cQ_K rfl)) (fq.le (cQ_K rfl)) (fq.le (cQ_K rfl)) (fq.le (cQ_K rfl))⟩ ⟨hM1.fr (fq.le cQ_MB), hT1.fr (fq.le (cQ_K rfl)), (fq 7 0 13 rfl).trans hMD1.1, fun j hj => (hMD1.2 j hj).fr (fq.le (cQ_K rfl))⟩ (fun kk hkk => ?_)⟩
      have lift : ∀ {o : Nat} {T : tT}, (o + 9 ≤ 370 * k + 369 ∨ 370 * k + 370 ≤ o) → MC 41 o T (cpR (cpR mu1 38 0 41 (370 * k) 9) 40 0 41 (370 * k + 9) 360) → MC 41 o T (up3 (up3 (cpR (cpR mu1 38 0 41 (370 * k) 9) 40 0 41 (370 * k + 9) 360) 41 0 (370 * k + 369) (nI m)) 42 0 k 1) := by
        intro o T ho hc
        obtain ⟨w1, w2, w3, w4⟩ := hc
        refine ⟨fun i hi => ?_, ?_, ?_, ?_⟩
        · rw [← w1 i hi]; unfold up3; simp; omega
        · rw [← w2]; unfold up3; simp; omega
        · rw [← w3]; unfold up3; simp; omega
        · rw [← w4]; unfold up3; simp; omega
      by_cases ek : kk = k
      · subst ek
        refine Or.inr ⟨D, m, hd.2.1, d1.fr (fq.le (cQ_K rfl)) (fq.le (cQ_K rfl)) (fq.le (cQ_K rfl)) (fq.le (cQ_K rfl)), up3_self _ _ _ _ _, ?_, fun j hj => ?_, ?_⟩
        · refine lift (by omega) (MC.cpo (MC.cp (x := 0) hT1 (by decide)) (by omega))
        · refine lift (by omega) (MC.cp (x := 9 * j) ?_ (by omega))
          rw [Nat.zero_add]
          exact (hMD1.2 j hj).fr (cpR_fr Fr.rf (fun _ => rfl))
        · unfold up3; simp
      · have hK := hd.2.2.2.2.2.2.2.2 kk hkk
        rcases hK with ⟨w1, w2⟩ | ⟨D', m', w1, w2, w3, w4, w5, w6⟩
        · refine Or.inl ⟨?_, ?_⟩
          · rw [fq 2 (kk + 1) 0 rfl, f1 2 (kk + 1) 0 (cD_i (by omega) _ _)]; exact w1
          · rw [← w2, ← f1 42 0 kk rfl]; unfold up3; simp [ek]; rfl
        · have hm' := w1.1
          refine Or.inr ⟨D', m', w1, ⟨?_, fun j hj => ?_⟩, ?_, ?_, fun j hj => ?_, ?_⟩
          · rw [fq 2 (kk + 1) 0 rfl, f1 2 (kk + 1) 0 (cD_i (by omega) _ _)]; exact w2.1
          · rw [fq 18 (kk + 1) j rfl, f1 18 (kk + 1) j (cD_i (by omega) _ _), fq 19 (kk + 1) j rfl, f1 19 (kk + 1) j (cD_i (by omega) _ _), fq 20 (kk + 1) j rfl, f1 20 (kk + 1) j (cD_i (by omega) _ _)]
            exact w2.2 j hj
          · rw [← w3, ← f1 42 0 kk rfl]; unfold up3; simp [ek]; rfl
          · exact lift (by omega) (MC.cpo (MC.cpo (w4.fr (f1.le (cD_K rfl))) (by omega)) (by omega))
          · exact lift (by omega) (MC.cpo (MC.cpo ((w5 j hj).fr (f1.le (cD_K rfl))) (by omega)) (by omega))
          · rw [← w6, ← f1 41 0 _ rfl]
            have : ¬ 370 * kk + 369 = 370 * k + 369 := by omega
            unfold up3
            simp [this]
            rw [cpR_out _ (by omega), cpR_out _ (by omega)]
            exact if_neg (by omega)
  · exact vc_X7_keep _ (s_inS a 0 2 (by decide) (by decide) (fun j _ h2 e => absurd e (hno j (by omega))) (fun _ => noo (fun z => z rfl) ⟨rfl, hi⟩))
theorem p_on (h : Inv IB mu la) (a : Int32) : Pair IB E (d + 6) mi_68 mi_182 [.inl a] mu la := by
  have hi := h
  obtain ⟨hR, hTx, hS, B, D, m, hd⟩ := h
  have hn := hd.1.1
  have hb := hd.1
  have hX := hd.2.2.1
  have hM := hd.2.2.2.2.2.1
  refine vc_X6_on a (s_keptAt a (fun k hk e => ?_) (fun hno => ?_))
  · subst e
    rcases hd.2.2.2.2.2.2.2.2 k hk with ⟨w1, w2⟩ | ⟨D', m', w1, w2, w3, w4, w5, w6⟩
    · rw [w1]
      refine noo b_n1 (s_foundX 1 (by decide) (vc_X7_on _ (s_inS (nI k) 0 2 (by decide) (by decide) (fun _ _ _ _ => yes b_x10 ⟨b_in rfl hk (by decide), ?_⟩) (fun hno => absurd rfl (hno k (Nat.zero_le _) (by omega))))))
      have e : fdX mu 1 42 0 k = 0 := by rw [← w2]; unfold fdX up3; simp
      rw [b_cl (by omega), e]
      exact noo (fun z => z rfl) (s_foundM 1 (by decide) ⟨rfl, hi.fd ibf (by decide)⟩)
    · have hm' := w1.1
      rw [w2.1]
      refine yes (b_np m' (by omega)) (s_become2 (k + 1) (by omega) hm' w2 (fun mu1 f1 d1 => ?_))
      have hX1 := hX.fr (f1.le cD_CB)
      refine s_replay hb w1 hX1 d1 (fun mu2 f2 c2 => ?_)
      have d2 : DX 0 D' m' mu2 := d1.fr (f2.le (ctr_K rfl)) (f2.le (ctr_K rfl)) (f2.le (ctr_K rfl)) (f2.le (ctr_K rfl))
      rw [d2.1]
      have f12 : Fr cX mu mu2 := by
        intro kx ix jx hc
        rw [f2 kx ix jx (cX_ctr kx ix jx hc)]
        refine f1 kx ix jx ?_
        unfold cX at hc
        unfold cD
        cases h3 : (kx == 2 || kx == 18 || kx == 19 || kx == 20)
        · rfl
        · cases h4 : (ix == 0)
          · rfl
          · rw [h4, Bool.and_true] at hc
            simp only [Bool.or_eq_true, beq_iff_eq] at h3
            rcases h3 with ((h3 | h3) | h3) | h3 <;> subst h3 <;> exact absurd hc (by decide)
      have x2 : XS B D' m' mu2 := ⟨hX1.fr (f2.le ctr_CB), c2, d2⟩
      have y2 := hd.ms.fr f12
      have f41 : Fr (sK 41) mu mu2 := f12.le (cX_K rfl)
      refine vc_X7_on _ (s_inS (nI k) 0 2 (by decide) (by decide) (fun _ _ _ _ => yes b_x10 ⟨b_in rfl hk (by decide), ?_⟩) (fun hno => absurd rfl (hno k (Nat.zero_le _) (by omega))))
      rw [show (370 : Int32) * nI k = nI (370 * k) from by rw [show (370 : Int32) = nI 370 from rfl, pk_mul], show nI (370 * k) + 9 = nI (370 * k + 9) from nI_add _ 9, show nI (370 * k) + 369 = nI (370 * k + 369) from nI_add _ 369, b_cl (by omega), b_cl (by omega), f12 42 0 k rfl, w3]
      refine yes b_x10 (s_copies 41 1110 (370 * k) 38 9 0 9 rfl (by decide) rfl (by decide) (by decide) (by omega) (by decide) (by decide) (by decide) (s_copies 41 1110 (370 * k + 9) 40 360 0 360 rfl (by decide) rfl (by decide) (by decide) (by omega) (by decide) (by decide) (by decide) ⟨b_in rfl (by omega) (by decide), ?_⟩))
      rintro mu3 rfl
      have e41 : cpR (cpR mu2 41 (370 * k) 38 0 9) 41 (370 * k + 9) 40 0 360 41 0 (370 * k + 369) = nI m' := by
        rw [← w6, ← f41 41 0 _ rfl]; rfl
      rw [e41, up3_self]
      have f3 : Fr cM mu2 (up3 (cpR (cpR mu2 41 (370 * k) 38 0 9) 41 (370 * k + 9) 40 0 360) 7 0 13 (nI m')) := (cpR_fr (cpR_fr Fr.rf (fun _ => rfl)) (fun _ => rfl)).u3 rfl
      have c38 : MC 38 0 (rp B D' m') (cpR mu2 41 (370 * k) 38 0 9) := MC.cp (x := 0) (w4.fr f41) (by decide)
      have c38b : MC 38 0 (rp B D' m') (up3 (cpR (cpR mu2 41 (370 * k) 38 0 9) 41 (370 * k + 9) 40 0 360) 7 0 13 (nI m')) := c38.fr ((cpR_fr Fr.rf (fun _ => rfl)).u3 rfl)
      refine ⟨rfl, hi.both f12 f3 ⟨B, D', m', IBd.mk hb w1 (x2.fr f3) ⟨y2.1.fr (f3.le cM_MB), c38b, up3_self _ _ _ _ _, fun j hj => ?_⟩ (fun kk hkk => ((hd.2.2.2.2.2.2.2.2 kk hkk).frx (f12.le cX_KX)).frx (f3.le cM_KX))⟩⟩
      have hc : MC 40 (0 + 9 * j) (rp B D' j) (cpR (cpR mu2 41 (370 * k) 38 0 9) 41 (370 * k + 9) 40 0 360) := MC.cp (x := 9 * j) (((w5 j hj).fr f41).fr (cpR_fr Fr.rf (fun _ => rfl))) (by omega)
      rw [Nat.zero_add] at hc
      exact hc.fr (Fr.rf.u3 rfl)
  · exact vc_X7_on _ (s_inS a 0 2 (by decide) (by decide) (fun j _ h2 e => absurd e (hno j (by omega))) (fun _ => noo (fun z => z rfl) ⟨rfl, hi⟩))
end KEPT
