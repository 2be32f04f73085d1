set_option maxRecDepth 100000 in
/-- AnnCupsModel.toss(I)I -/
theorem vc_X7_toss {E : mEv} {d : Nat} {c : Nat} (a0 : Int32) {mu : fMu} {la : fLa} {Q : Int32 → fMu → fLa → Prop} (h : FnI E d mi_155 [.inr (.inr (some (7, c))), .inl a0] mu la (fun x1 mu2 la3 => (¬ x1 = 0 → (vp_in ((0 : Int32) + a0) 9 ∧ (((mu2 38 c ((0 : Int32) + a0).toNatClampNeg) = (6 : Int32) → ((¬ (mu2 7 c 13) = (40 : Int32) → (FnV E d mi_175 [.inr (.inr (some (7, c)))] mu2 la3 (fun mu5 la6 => vp_in ((0 : Int32) + a0) 9 ∧ ∀ mu7 : fMu, mu7 = up3 mu5 38 c ((0 : Int32) + a0).toNatClampNeg (7 : Int32) → (FnI E d mi_166 [.inr (.inr (some (7, c)))] mu7 la6 (fun x8 mu9 la10 => FnI E d mi_131 [.inl x8] mu9 la10 (fun x11 mu12 la13 => Q x11 mu12 la13)))))) ∧ (¬ (¬ (mu2 7 c 13) = (40 : Int32)) → (Q (-2 : Int32) mu2 la3)))) ∧ (¬ ((mu2 38 c ((0 : Int32) + a0).toNatClampNeg) = (6 : Int32)) → (Q (-4 : Int32) mu2 la3))))) ∧ (¬ (¬ x1 = 0) → (Q (-1 : Int32) mu2 la3)))) : FnI E (d + 1) mi_179 [.inr (.inr (some (7, c))), .inl a0] mu la Q := by
  unfold FnI
  show Ev E (d + 1) mi_179 0 [some (.inr (.inr (some (7, c)))), some (.inl a0)] [] (mem E mu la) (qI E Q)
  refine Ev.steps 2 (ip' := 2) (ls' := [some (.inr (.inr (some (7, c)))), some (.inl a0)]) (st' := [.inl a0, .inr (.inr (some (7, c)))]) (M' := mem E mu la) rfl ?_
  refine Ev.ci (J := mi_155) (as := [.inr (.inr (some (7, c))), .inl a0]) (rest := []) rfl rfl rfl (Nat.le_of_ble_eq_true rfl) h (fun x1 mu2 la3 h => ?_)
  refine Ev.br (c := ¬ x1 = 0) (s1 := (6, [some (.inr (.inr (some (7, c)))), some (.inl a0)], [], mem E mu2 la3)) (s2 := (4, [some (.inr (.inr (some (7, c)))), some (.inl a0)], [], mem E mu2 la3)) rfl rfl rfl rfl (fun hc => ?_) (fun hc => ?_)
  · have h := h.1 hc
    dsimp only
    refine Ev.steps 5 (ip' := 11) (ls' := [some (.inr (.inr (some (7, c)))), some (.inl a0)]) (st' := [.inl ((0 : Int32) + a0), .inr (.inr (some (38, c)))]) (M' := mem E mu2 la3) rfl ?_
    refine Ev.ial rfl rfl (by decide) h.1 ?_
    have h := h.2
    refine Ev.steps 1 (ip' := 13) (ls' := [some (.inr (.inr (some (7, c)))), some (.inl a0)]) (st' := [.inl (6 : Int32), .inl (mu2 38 c ((0 : Int32) + a0).toNatClampNeg)]) (M' := mem E mu2 la3) rfl ?_
    refine Ev.br (c := (mu2 38 c ((0 : Int32) + a0).toNatClampNeg) = (6 : Int32)) (s1 := (16, [some (.inr (.inr (some (7, c)))), some (.inl a0)], [], mem E mu2 la3)) (s2 := (14, [some (.inr (.inr (some (7, c)))), some (.inl a0)], [], mem E mu2 la3)) rfl rfl rfl rfl (fun hc => ?_) (fun hc => ?_)
    · have h := h.1 hc
      dsimp only
      refine Ev.steps 3 (ip' := 19) (ls' := [some (.inr (.inr (some (7, c)))), some (.inl a0)]) (st' := [.inl (40 : Int32), .inl (mu2 7 c 13)]) (M' := mem E mu2 la3) rfl ?_
      refine Ev.br (c := ¬ (mu2 7 c 13) = (40 : Int32)) (s1 := (22, [some (.inr (.inr (some (7, c)))), some (.inl a0)], [], mem E mu2 la3)) (s2 := (20, [some (.inr (.inr (some (7, c)))), some (.inl a0)], [], mem E mu2 la3)) rfl rfl rfl rfl (fun hc => ?_) (fun hc => ?_)
      · have h := h.1 hc
        dsimp only
        refine Ev.steps 1 (ip' := 23) (ls' := [some (.inr (.inr (some (7, c)))), some (.inl a0)]) (st' := [.inr (.inr (some (7, c)))]) (M' := mem E mu2 la3) rfl ?_
        refine Ev.cv (J := mi_175) (as := [.inr (.inr (some (7, c)))]) (rest := []) rfl rfl rfl (Nat.le_of_ble_eq_true rfl) h (fun mu5 la6 h => ?_)
        refine Ev.steps 6 (ip' := 30) (ls' := [some (.inr (.inr (some (7, c)))), some (.inl a0)]) (st' := [.inl (7 : Int32), .inl ((0 : Int32) + a0), .inr (.inr (some (38, c)))]) (M' := mem E mu5 la6) rfl ?_
        refine Ev.ias rfl rfl h.1 ?_
        have h := h.2
        generalize hgmu7 : up3 mu5 38 c ((0 : Int32) + a0).toNatClampNeg (7 : Int32) = mu7
        have h := h mu7 hgmu7.symm
        refine Ev.steps 1 (ip' := 32) (ls' := [some (.inr (.inr (some (7, c)))), some (.inl a0)]) (st' := [.inr (.inr (some (7, c)))]) (M' := mem E mu7 la6) rfl ?_
        refine Ev.ci (J := mi_166) (as := [.inr (.inr (some (7, c)))]) (rest := []) rfl rfl rfl (Nat.le_of_ble_eq_true rfl) h (fun x8 mu9 la10 h => ?_)
        refine Ev.ci (J := mi_131) (as := [.inl x8]) (rest := []) rfl rfl rfl (Nat.le_of_ble_eq_true rfl) h (fun x11 mu12 la13 h => ?_)
        exact Ev.ret rfl rfl ⟨_, _, _, rfl, rfl, h⟩
      · have h := h.2 hc
        dsimp only
        refine Ev.steps 1 (ip' := 21) (ls' := [some (.inr (.inr (some (7, c)))), some (.inl a0)]) (st' := [.inl (-2 : Int32)]) (M' := mem E mu2 la3) rfl ?_
        exact Ev.ret rfl rfl ⟨_, _, _, rfl, rfl, h⟩
    · have h := h.2 hc
      dsimp only
      refine Ev.steps 1 (ip' := 15) (ls' := [some (.inr (.inr (some (7, c)))), some (.inl a0)]) (st' := [.inl (-4 : Int32)]) (M' := mem E mu2 la3) rfl ?_
      exact Ev.ret rfl rfl ⟨_, _, _, rfl, rfl, h⟩
  · have h := h.2 hc
    dsimp only
    refine Ev.steps 1 (ip' := 5) (ls' := [some (.inr (.inr (some (7, c)))), some (.inl a0)]) (st' := [.inl (-1 : Int32)]) (M' := mem E mu2 la3) rfl ?_
    exact Ev.ret rfl rfl ⟨_, _, _, rfl, rfl, h⟩
set_option maxRecDepth 100000 in
/-- AnnCupsModel.undo(I)I -/
theorem vc_X7_undo {E : mEv} {d : Nat} {c : Nat} (a0 : Int32) {mu : fMu} {la : fLa} {Q : Int32 → fMu → fLa → Prop} (h : FnI E d mi_129 [.inr (.inl a0.toInt64), .inr (.inl (0 : Int64)), .inr (.inl ((mu 7 c 13).toInt64))] mu la (fun x1 mu2 la3 => (¬ x1 = 0 → ((((mu2 7 c 13) - a0) ≤ 0 → (∀ mu4 : fMu, mu4 = up3 mu2 7 c 13 a0 → (Q ((mu2 7 c 13) - a0) mu4 la3))) ∧ (¬ (((mu2 7 c 13) - a0) ≤ 0) → (FnV E d mi_174 [.inr (.inr (some (40, c))), .inl ((9 : Int32) * a0), .inr (.inr (some (38, c))), .inl (0 : Int32), .inl (9 : Int32)] mu2 la3 (fun mu6 la7 => ∀ mu8 : fMu, mu8 = up3 mu6 7 c 13 a0 → (Q ((mu2 7 c 13) - a0) mu8 la7)))))) ∧ (¬ (¬ x1 = 0) → (Q (-1 : Int32) mu2 la3)))) : FnI E (d + 1) mi_180 [.inr (.inr (some (7, c))), .inl a0] mu la Q := by
  unfold FnI
  show Ev E (d + 1) mi_180 0 [some (.inr (.inr (some (7, c)))), some (.inl a0), none] [] (mem E mu la) (qI E Q)
  refine Ev.steps 6 (ip' := 6) (ls' := [some (.inr (.inr (some (7, c)))), some (.inl a0), none]) (st' := [.inr (.inl ((mu 7 c 13).toInt64)), .inr (.inl (0 : Int64)), .inr (.inl a0.toInt64)]) (M' := mem E mu la) rfl ?_
  refine Ev.ci (J := mi_129) (as := [.inr (.inl a0.toInt64), .inr (.inl (0 : Int64)), .inr (.inl ((mu 7 c 13).toInt64))]) (rest := []) rfl rfl rfl (Nat.le_of_ble_eq_true rfl) h (fun x1 mu2 la3 h => ?_)
  refine Ev.br (c := ¬ x1 = 0) (s1 := (10, [some (.inr (.inr (some (7, c)))), some (.inl a0), none], [], mem E mu2 la3)) (s2 := (8, [some (.inr (.inr (some (7, c)))), some (.inl a0), none], [], mem E mu2 la3)) rfl rfl rfl rfl (fun hc => ?_) (fun hc => ?_)
  · have h := h.1 hc
    dsimp only
    refine Ev.steps 6 (ip' := 16) (ls' := [some (.inr (.inr (some (7, c)))), some (.inl a0), some (.inl ((mu2 7 c 13) - a0))]) (st' := [.inl ((mu2 7 c 13) - a0)]) (M' := mem E mu2 la3) rfl ?_
    refine Ev.br (c := ((mu2 7 c 13) - a0) ≤ 0) (s1 := (27, [some (.inr (.inr (some (7, c)))), some (.inl a0), some (.inl ((mu2 7 c 13) - a0))], [], mem E mu2 la3)) (s2 := (17, [some (.inr (.inr (some (7, c)))), some (.inl a0), some (.inl ((mu2 7 c 13) - a0))], [], mem E mu2 la3)) rfl rfl rfl rfl (fun hc => ?_) (fun hc => ?_)
    · have h := h.1 hc
      dsimp only
      refine Ev.steps 3 (ip' := 30) (ls' := [some (.inr (.inr (some (7, c)))), some (.inl a0), some (.inl ((mu2 7 c 13) - a0))]) (st' := []) (M' := mem E (up3 mu2 7 c 13 a0) la3) rfl ?_
      generalize hgmu4 : up3 mu2 7 c 13 a0 = mu4
      have h := h mu4 hgmu4.symm
      refine Ev.steps 1 (ip' := 31) (ls' := [some (.inr (.inr (some (7, c)))), some (.inl a0), some (.inl ((mu2 7 c 13) - a0))]) (st' := [.inl ((mu2 7 c 13) - a0)]) (M' := mem E mu4 la3) rfl ?_
      exact Ev.ret rfl rfl ⟨_, _, _, rfl, rfl, h⟩
    · have h := h.2 hc
      dsimp only
      refine Ev.steps 9 (ip' := 26) (ls' := [some (.inr (.inr (some (7, c)))), some (.inl a0), some (.inl ((mu2 7 c 13) - a0))]) (st' := [.inl (9 : Int32), .inl (0 : Int32), .inr (.inr (some (38, c))), .inl ((9 : Int32) * a0), .inr (.inr (some (40, c)))]) (M' := mem E mu2 la3) rfl ?_
      refine Ev.cv (J := mi_174) (as := [.inr (.inr (some (40, c))), .inl ((9 : Int32) * a0), .inr (.inr (some (38, c))), .inl (0 : Int32), .inl (9 : Int32)]) (rest := []) rfl rfl rfl (Nat.le_of_ble_eq_true rfl) h (fun mu6 la7 h => ?_)
      refine Ev.steps 3 (ip' := 30) (ls' := [some (.inr (.inr (some (7, c)))), some (.inl a0), some (.inl ((mu2 7 c 13) - a0))]) (st' := []) (M' := mem E (up3 mu6 7 c 13 a0) la7) rfl ?_
      generalize hgmu8 : up3 mu6 7 c 13 a0 = mu8
      have h := h mu8 hgmu8.symm
      refine Ev.steps 1 (ip' := 31) (ls' := [some (.inr (.inr (some (7, c)))), some (.inl a0), some (.inl ((mu2 7 c 13) - a0))]) (st' := [.inl ((mu2 7 c 13) - a0)]) (M' := mem E mu8 la7) rfl ?_
      exact Ev.ret rfl rfl ⟨_, _, _, rfl, rfl, h⟩
  · have h := h.2 hc
    dsimp only
    refine Ev.steps 1 (ip' := 9) (ls' := [some (.inr (.inr (some (7, c)))), some (.inl a0), none]) (st' := [.inl (-1 : Int32)]) (M' := mem E mu2 la3) rfl ?_
    exact Ev.ret rfl rfl ⟨_, _, _, rfl, rfl, h⟩
set_option maxRecDepth 100000 in
/-- AnnCupsModel.keep(I)I -/
theorem vc_X7_keep {E : mEv} {d : Nat} {c : Nat} (a0 : Int32) {mu : fMu} {la : fLa} {Q : Int32 → fMu → fLa → Prop} (h : FnI E d mi_129 [.inr (.inl a0.toInt64), .inr (.inl (0 : Int64)), .inr (.inl (2 : Int64))] mu la (fun x1 mu2 la3 => (¬ x1 = 0 → ((¬ (mu2 7 c 4) = 0 → (FnV E d mi_174 [.inr (.inr (some (38, c))), .inl (0 : Int32), .inr (.inr (some (41, c))), .inl ((370 : Int32) * a0), .inl (9 : Int32)] mu2 la3 (fun mu5 la6 => FnV E d mi_174 [.inr (.inr (some (40, c))), .inl (0 : Int32), .inr (.inr (some (41, c))), .inl (((370 : Int32) * a0) + (9 : Int32)), .inl (360 : Int32)] mu5 la6 (fun mu8 la9 => vp_in (((370 : Int32) * a0) + (369 : Int32)) 1110 ∧ ∀ mu10 : fMu, mu10 = up3 mu8 41 c (((370 : Int32) * a0) + (369 : Int32)).toNatClampNeg (mu8 7 c 13) → (vp_in a0 3 ∧ ∀ mu11 : fMu, mu11 = up3 mu10 42 c a0.toNatClampNeg (vp_nar .boolean (1 : Int32)) → (Q (mu11 7 c 13) mu11 la9)))))) ∧ (¬ (¬ (mu2 7 c 4) = 0) → (Q (-4 : Int32) mu2 la3)))) ∧ (¬ (¬ x1 = 0) → (Q (-1 : Int32) mu2 la3)))) : FnI E (d + 1) mi_181 [.inr (.inr (some (7, c))), .inl a0] mu la Q := by
  unfold FnI
  show Ev E (d + 1) mi_181 0 [some (.inr (.inr (some (7, c)))), some (.inl a0)] [] (mem E mu la) (qI E Q)
  refine Ev.steps 4 (ip' := 4) (ls' := [some (.inr (.inr (some (7, c)))), some (.inl a0)]) (st' := [.inr (.inl (2 : Int64)), .inr (.inl (0 : Int64)), .inr (.inl a0.toInt64)]) (M' := mem E mu la) rfl ?_
  refine Ev.ci (J := mi_129) (as := [.inr (.inl a0.toInt64), .inr (.inl (0 : Int64)), .inr (.inl (2 : Int64))]) (rest := []) rfl rfl rfl (Nat.le_of_ble_eq_true rfl) h (fun x1 mu2 la3 h => ?_)
  refine Ev.br (c := ¬ x1 = 0) (s1 := (8, [some (.inr (.inr (some (7, c)))), some (.inl a0)], [], mem E mu2 la3)) (s2 := (6, [some (.inr (.inr (some (7, c)))), some (.inl a0)], [], mem E mu2 la3)) rfl rfl rfl rfl (fun hc => ?_) (fun hc => ?_)
  · have h := h.1 hc
    dsimp only
    refine Ev.steps 2 (ip' := 10) (ls' := [some (.inr (.inr (some (7, c)))), some (.inl a0)]) (st' := [.inl (mu2 7 c 4)]) (M' := mem E mu2 la3) rfl ?_
    refine Ev.br (c := ¬ (mu2 7 c 4) = 0) (s1 := (13, [some (.inr (.inr (some (7, c)))), some (.inl a0)], [], mem E mu2 la3)) (s2 := (11, [some (.inr (.inr (some (7, c)))), some (.inl a0)], [], mem E mu2 la3)) rfl rfl rfl rfl (fun hc => ?_) (fun hc => ?_)
    · have h := h.1 hc
      dsimp only
      refine Ev.steps 9 (ip' := 22) (ls' := [some (.inr (.inr (some (7, c)))), some (.inl a0)]) (st' := [.inl (9 : Int32), .inl ((370 : Int32) * a0), .inr (.inr (some (41, c))), .inl (0 : Int32), .inr (.inr (some (38, c)))]) (M' := mem E mu2 la3) rfl ?_
      refine Ev.cv (J := mi_174) (as := [.inr (.inr (some (38, c))), .inl (0 : Int32), .inr (.inr (some (41, c))), .inl ((370 : Int32) * a0), .inl (9 : Int32)]) (rest := []) rfl rfl rfl (Nat.le_of_ble_eq_true rfl) h (fun mu5 la6 h => ?_)
      refine Ev.steps 11 (ip' := 34) (ls' := [some (.inr (.inr (some (7, c)))), some (.inl a0)]) (st' := [.inl (360 : Int32), .inl (((370 : Int32) * a0) + (9 : Int32)), .inr (.inr (some (41, c))), .inl (0 : Int32), .inr (.inr (some (40, c)))]) (M' := mem E mu5 la6) rfl ?_
      refine Ev.cv (J := mi_174) (as := [.inr (.inr (some (40, c))), .inl (0 : Int32), .inr (.inr (some (41, c))), .inl (((370 : Int32) * a0) + (9 : Int32)), .inl (360 : Int32)]) (rest := []) rfl rfl rfl (Nat.le_of_ble_eq_true rfl) h (fun mu8 la9 h => ?_)
      refine Ev.steps 9 (ip' := 44) (ls' := [some (.inr (.inr (some (7, c)))), some (.inl a0)]) (st' := [.inl (mu8 7 c 13), .inl (((370 : Int32) * a0) + (369 : Int32)), .inr (.inr (some (41, c)))]) (M' := mem E mu8 la9) rfl ?_
      refine Ev.ias rfl rfl h.1 ?_
      have h := h.2
      generalize hgmu10 : up3 mu8 41 c (((370 : Int32) * a0) + (369 : Int32)).toNatClampNeg (mu8 7 c 13) = mu10
      have h := h mu10 hgmu10.symm
      refine Ev.steps 4 (ip' := 49) (ls' := [some (.inr (.inr (some (7, c)))), some (.inl a0)]) (st' := [.inl (1 : Int32), .inl a0, .inr (.inr (some (42, c)))]) (M' := mem E mu10 la9) rfl ?_
      refine Ev.zas rfl rfl h.1 ?_
      have h := h.2
      generalize hgmu11 : up3 mu10 42 c a0.toNatClampNeg (vp_nar .boolean (1 : Int32)) = mu11
      have h := h mu11 hgmu11.symm
      refine Ev.steps 2 (ip' := 52) (ls' := [some (.inr (.inr (some (7, c)))), some (.inl a0)]) (st' := [.inl (mu11 7 c 13)]) (M' := mem E mu11 la9) rfl ?_
      exact Ev.ret rfl rfl ⟨_, _, _, rfl, rfl, h⟩
    · have h := h.2 hc
      dsimp only
      refine Ev.steps 1 (ip' := 12) (ls' := [some (.inr (.inr (some (7, c)))), some (.inl a0)]) (st' := [.inl (-4 : Int32)]) (M' := mem E mu2 la3) rfl ?_
      exact Ev.ret rfl rfl ⟨_, _, _, rfl, rfl, h⟩
  · have h := h.2 hc
    dsimp only
    refine Ev.steps 1 (ip' := 7) (ls' := [some (.inr (.inr (some (7, c)))), some (.inl a0)]) (st' := [.inl (-1 : Int32)]) (M' := mem E mu2 la3) rfl ?_
    exact Ev.ret rfl rfl ⟨_, _, _, rfl, rfl, h⟩
set_option maxRecDepth 100000 in
/-- AnnCupsModel.on(I)I -/
theorem vc_X7_on {E : mEv} {d : Nat} {c : Nat} (a0 : Int32) {mu : fMu} {la : fLa} {Q : Int32 → fMu → fLa → Prop} (h : FnI E d mi_129 [.inr (.inl a0.toInt64), .inr (.inl (0 : Int64)), .inr (.inl (2 : Int64))] mu la (fun x1 mu2 la3 => (¬ x1 = 0 → (vp_in a0 3 ∧ ((¬ (mu2 42 c a0.toNatClampNeg) = 0 → (FnV E d mi_174 [.inr (.inr (some (41, c))), .inl ((370 : Int32) * a0), .inr (.inr (some (38, c))), .inl (0 : Int32), .inl (9 : Int32)] mu2 la3 (fun mu5 la6 => FnV E d mi_174 [.inr (.inr (some (41, c))), .inl (((370 : Int32) * a0) + (9 : Int32)), .inr (.inr (some (40, c))), .inl (0 : Int32), .inl (360 : Int32)] mu5 la6 (fun mu8 la9 => vp_in (((370 : Int32) * a0) + (369 : Int32)) 1110 ∧ (∀ mu10 : fMu, mu10 = up3 mu8 7 c 13 (mu8 41 c (((370 : Int32) * a0) + (369 : Int32)).toNatClampNeg) → (Q (mu10 7 c 13) mu10 la9)))))) ∧ (¬ (¬ (mu2 42 c a0.toNatClampNeg) = 0) → (FnI E d mi_132 [.inr (.inr (some (7, c))), .inl (1 : Int32)] mu2 la3 (fun x11 mu12 la13 => Q x11 mu12 la13)))))) ∧ (¬ (¬ x1 = 0) → (Q (-1 : Int32) mu2 la3)))) : FnI E (d + 1) mi_182 [.inr (.inr (some (7, c))), .inl a0] mu la Q := by
  unfold FnI
  show Ev E (d + 1) mi_182 0 [some (.inr (.inr (some (7, c)))), some (.inl a0)] [] (mem E mu la) (qI E Q)
  refine Ev.steps 4 (ip' := 4) (ls' := [some (.inr (.inr (some (7, c)))), some (.inl a0)]) (st' := [.inr (.inl (2 : Int64)), .inr (.inl (0 : Int64)), .inr (.inl a0.toInt64)]) (M' := mem E mu la) rfl ?_
  refine Ev.ci (J := mi_129) (as := [.inr (.inl a0.toInt64), .inr (.inl (0 : Int64)), .inr (.inl (2 : Int64))]) (rest := []) rfl rfl rfl (Nat.le_of_ble_eq_true rfl) h (fun x1 mu2 la3 h => ?_)
  refine Ev.br (c := ¬ x1 = 0) (s1 := (8, [some (.inr (.inr (some (7, c)))), some (.inl a0)], [], mem E mu2 la3)) (s2 := (6, [some (.inr (.inr (some (7, c)))), some (.inl a0)], [], mem E mu2 la3)) rfl rfl rfl rfl (fun hc => ?_) (fun hc => ?_)
  · have h := h.1 hc
    dsimp only
    refine Ev.steps 3 (ip' := 11) (ls' := [some (.inr (.inr (some (7, c)))), some (.inl a0)]) (st' := [.inl a0, .inr (.inr (some (42, c)))]) (M' := mem E mu2 la3) rfl ?_
    refine Ev.bal rfl (Or.inr rfl) h.1 ?_
    have h := h.2
    refine Ev.br (c := ¬ (mu2 42 c a0.toNatClampNeg) = 0) (s1 := (17, [some (.inr (.inr (some (7, c)))), some (.inl a0)], [], mem E mu2 la3)) (s2 := (13, [some (.inr (.inr (some (7, c)))), some (.inl a0)], [], mem E mu2 la3)) rfl rfl rfl rfl (fun hc => ?_) (fun hc => ?_)
    · have h := h.1 hc
      dsimp only
      refine Ev.steps 9 (ip' := 26) (ls' := [some (.inr (.inr (some (7, c)))), some (.inl a0)]) (st' := [.inl (9 : Int32), .inl (0 : Int32), .inr (.inr (some (38, c))), .inl ((370 : Int32) * a0), .inr (.inr (some (41, c)))]) (M' := mem E mu2 la3) rfl ?_
      refine Ev.cv (J := mi_174) (as := [.inr (.inr (some (41, c))), .inl ((370 : Int32) * a0), .inr (.inr (some (38, c))), .inl (0 : Int32), .inl (9 : Int32)]) (rest := []) rfl rfl rfl (Nat.le_of_ble_eq_true rfl) h (fun mu5 la6 h => ?_)
      refine Ev.steps 11 (ip' := 38) (ls' := [some (.inr (.inr (some (7, c)))), some (.inl a0)]) (st' := [.inl (360 : Int32), .inl (0 : Int32), .inr (.inr (some (40, c))), .inl (((370 : Int32) * a0) + (9 : Int32)), .inr (.inr (some (41, c)))]) (M' := mem E mu5 la6) rfl ?_
      refine Ev.cv (J := mi_174) (as := [.inr (.inr (some (41, c))), .inl (((370 : Int32) * a0) + (9 : Int32)), .inr (.inr (some (40, c))), .inl (0 : Int32), .inl (360 : Int32)]) (rest := []) rfl rfl rfl (Nat.le_of_ble_eq_true rfl) h (fun mu8 la9 h => ?_)
      refine Ev.steps 8 (ip' := 47) (ls' := [some (.inr (.inr (some (7, c)))), some (.inl a0)]) (st' := [.inl (((370 : Int32) * a0) + (369 : Int32)), .inr (.inr (some (41, c))), .inr (.inr (some (7, c)))]) (M' := mem E mu8 la9) rfl ?_
      refine Ev.ial rfl rfl (by decide) h.1 ?_
      have h := h.2
      refine Ev.steps 1 (ip' := 49) (ls' := [some (.inr (.inr (some (7, c)))), some (.inl a0)]) (st' := []) (M' := mem E (up3 mu8 7 c 13 (mu8 41 c (((370 : Int32) * a0) + (369 : Int32)).toNatClampNeg)) la9) rfl ?_
      generalize hgmu10 : up3 mu8 7 c 13 (mu8 41 c (((370 : Int32) * a0) + (369 : Int32)).toNatClampNeg) = mu10
      have h := h mu10 hgmu10.symm
      refine Ev.steps 2 (ip' := 51) (ls' := [some (.inr (.inr (some (7, c)))), some (.inl a0)]) (st' := [.inl (mu10 7 c 13)]) (M' := mem E mu10 la9) rfl ?_
      exact Ev.ret rfl rfl ⟨_, _, _, rfl, rfl, h⟩
    · have h := h.2 hc
      dsimp only
      refine Ev.steps 2 (ip' := 15) (ls' := [some (.inr (.inr (some (7, c)))), some (.inl a0)]) (st' := [.inl (1 : Int32), .inr (.inr (some (7, c)))]) (M' := mem E mu2 la3) rfl ?_
      refine Ev.ci (J := mi_132) (as := [.inr (.inr (some (7, c))), .inl (1 : Int32)]) (rest := []) rfl rfl rfl (Nat.le_of_ble_eq_true rfl) h (fun x11 mu12 la13 h => ?_)
      exact Ev.ret rfl rfl ⟨_, _, _, rfl, rfl, h⟩
  · have h := h.2 hc
    dsimp only
    refine Ev.steps 1 (ip' := 7) (ls' := [some (.inr (.inr (some (7, c)))), some (.inl a0)]) (st' := [.inl (-1 : Int32)]) (M' := mem E mu2 la3) rfl ?_
    exact Ev.ret rfl rfl ⟨_, _, _, rfl, rfl, h⟩
set_option maxRecDepth 100000 in
/-- AnnCupsModel.firstOrder()V -/
theorem vc_X7_firstOrder {E : mEv} {d : Nat} {c : Nat} {mu : fMu} {la : fLa} {Q : fMu → fLa → Prop} (h : ∀ mu1 : fMu, mu1 = up3 mu 7 c 29 (0 : Int32) → (Ev E (d + 1) mi_183 5 [some (.inr (.inr (some (7, c)))), some (.inl (0 : Int32))] [] (mem E mu1 la) (qV E Q))) : FnV E (d + 1) mi_183 [.inr (.inr (some (7, c)))] mu la Q := by
  unfold FnV
  show Ev E (d + 1) mi_183 0 [some (.inr (.inr (some (7, c)))), none] [] (mem E mu la) (qV E Q)
  refine Ev.steps 3 (ip' := 3) (ls' := [some (.inr (.inr (some (7, c)))), none]) (st' := []) (M' := mem E (up3 mu 7 c 29 (0 : Int32)) la) rfl ?_
  generalize hgmu1 : up3 mu 7 c 29 (0 : Int32) = mu1
  have h := h mu1 hgmu1.symm
  refine Ev.steps 2 (ip' := 5) (ls' := [some (.inr (.inr (some (7, c)))), some (.inl (0 : Int32))]) (st' := []) (M' := mem E mu1 la) rfl ?_
  exact h
set_option maxRecDepth 100000 in
theorem vc_X7_firstOrder_5 {E : mEv} {d : Nat}  (v0 : Nat) (v1 : Int32) {mu : fMu} {la : fLa} {Q : fMu → fLa → Prop} (h : ((mu 7 v0 4) ≤ v1 → (Q mu la)) ∧ (¬ ((mu 7 v0 4) ≤ v1) → (FnI E d mi_162 [.inr (.inr (some (38, v0))), .inl v1] mu la (fun x2 mu3 la4 => (¬ x2 = 0 → (Ev E (d + 1) mi_183 5 [some (.inr (.inr (some (7, v0)))), some (.inl (v1 + (1 : Int32)))] [] (mem E mu3 la4) (qV E Q))) ∧ (¬ (¬ x2 = 0) → (vp_in (mu3 7 v0 29) 6 ∧ ∀ mu5 : fMu, mu5 = up3 mu3 45 v0 (mu3 7 v0 29).toNatClampNeg v1 → (∀ mu6 : fMu, mu6 = up3 mu5 7 v0 29 ((mu5 7 v0 29) + (1 : Int32)) → (Ev E (d + 1) mi_183 5 [some (.inr (.inr (some (7, v0)))), some (.inl (v1 + (1 : Int32)))] [] (mem E mu6 la4) (qV E Q))))))))) : Ev E (d + 1) mi_183 5 [some (.inr (.inr (some (7, v0)))), some (.inl v1)] [] (mem E mu la) (qV E Q) := by
  refine Ev.steps 3 (ip' := 8) (ls' := [some (.inr (.inr (some (7, v0)))), some (.inl v1)]) (st' := [.inl (mu 7 v0 4), .inl v1]) (M' := mem E mu la) rfl ?_
  refine Ev.br (c := (mu 7 v0 4) ≤ v1) (s1 := (28, [some (.inr (.inr (some (7, v0)))), some (.inl v1)], [], mem E mu la)) (s2 := (9, [some (.inr (.inr (some (7, v0)))), some (.inl v1)], [], mem E mu la)) rfl rfl rfl rfl (fun hc => ?_) (fun hc => ?_)
  · have h := h.1 hc
    dsimp only
    exact Ev.ret rfl rfl ⟨_, _, rfl, rfl, h⟩
  · have h := h.2 hc
    dsimp only
    refine Ev.steps 3 (ip' := 12) (ls' := [some (.inr (.inr (some (7, v0)))), some (.inl v1)]) (st' := [.inl v1, .inr (.inr (some (38, v0)))]) (M' := mem E mu la) rfl ?_
    refine Ev.ci (J := mi_162) (as := [.inr (.inr (some (38, v0))), .inl v1]) (rest := []) rfl rfl rfl (Nat.le_of_ble_eq_true rfl) h (fun x2 mu3 la4 h => ?_)
    refine Ev.br (c := ¬ x2 = 0) (s1 := (26, [some (.inr (.inr (some (7, v0)))), some (.inl v1)], [], mem E mu3 la4)) (s2 := (14, [some (.inr (.inr (some (7, v0)))), some (.inl v1)], [], mem E mu3 la4)) rfl rfl rfl rfl (fun hc => ?_) (fun hc => ?_)
    · have h := h.1 hc
      dsimp only
      refine Ev.steps 2 (ip' := 5) (ls' := [some (.inr (.inr (some (7, v0)))), some (.inl (v1 + (1 : Int32)))]) (st' := []) (M' := mem E mu3 la4) rfl ?_
      exact h
    · have h := h.2 hc
      dsimp only
      refine Ev.steps 5 (ip' := 19) (ls' := [some (.inr (.inr (some (7, v0)))), some (.inl v1)]) (st' := [.inl v1, .inl (mu3 7 v0 29), .inr (.inr (some (45, v0)))]) (M' := mem E mu3 la4) rfl ?_
      refine Ev.ias rfl rfl h.1 ?_
      have h := h.2
      generalize hgmu5 : up3 mu3 45 v0 (mu3 7 v0 29).toNatClampNeg v1 = mu5
      have h := h mu5 hgmu5.symm
      refine Ev.steps 6 (ip' := 26) (ls' := [some (.inr (.inr (some (7, v0)))), some (.inl v1)]) (st' := []) (M' := mem E (up3 mu5 7 v0 29 ((mu5 7 v0 29) + (1 : Int32))) la4) rfl ?_
      generalize hgmu6 : up3 mu5 7 v0 29 ((mu5 7 v0 29) + (1 : Int32)) = mu6
      have h := h mu6 hgmu6.symm
      refine Ev.steps 2 (ip' := 5) (ls' := [some (.inr (.inr (some (7, v0)))), some (.inl (v1 + (1 : Int32)))]) (st' := []) (M' := mem E mu6 la4) rfl ?_
      exact h
set_option maxRecDepth 100000 in
/-- AnnCupsModel.exchanges(II)V -/
theorem vc_X7_exchanges {E : mEv} {d : Nat} {c : Nat} (a0 : Int32) (a1 : Int32) {mu : fMu} {la : fLa} {Q : fMu → fLa → Prop} (h : vp_in a0 6 ∧ (vp_in a1 6 ∧ (vp_in a0 6 ∧ ∀ mu1 : fMu, mu1 = up3 mu 45 c a0.toNatClampNeg (mu 45 c a1.toNatClampNeg) → (vp_in a1 6 ∧ ∀ mu2 : fMu, mu2 = up3 mu1 45 c a1.toNatClampNeg (mu 45 c a0.toNatClampNeg) → (Q mu2 la))))) : FnV E d mi_184 [.inr (.inr (some (7, c))), .inl a0, .inl a1] mu la Q := by
  unfold FnV
  show Ev E d mi_184 0 [some (.inr (.inr (some (7, c)))), some (.inl a0), some (.inl a1), none] [] (mem E mu la) (qV E Q)
  refine Ev.steps 3 (ip' := 3) (ls' := [some (.inr (.inr (some (7, c)))), some (.inl a0), some (.inl a1), none]) (st' := [.inl a0, .inr (.inr (some (45, c)))]) (M' := mem E mu la) rfl ?_
  refine Ev.ial rfl rfl (by decide) h.1 ?_
  have h := h.2
  refine Ev.steps 7 (ip' := 11) (ls' := [some (.inr (.inr (some (7, c)))), some (.inl a0), some (.inl a1), some (.inl (mu 45 c a0.toNatClampNeg))]) (st' := [.inl a1, .inr (.inr (some (45, c))), .inl a0, .inr (.inr (some (45, c)))]) (M' := mem E mu la) rfl ?_
  refine Ev.ial rfl rfl (by decide) h.1 ?_
  have h := h.2
  refine Ev.ias rfl rfl h.1 ?_
  have h := h.2
  generalize hgmu1 : up3 mu 45 c a0.toNatClampNeg (mu 45 c a1.toNatClampNeg) = mu1
  have h := h mu1 hgmu1.symm
  refine Ev.steps 4 (ip' := 17) (ls' := [some (.inr (.inr (some (7, c)))), some (.inl a0), some (.inl a1), some (.inl (mu 45 c a0.toNatClampNeg))]) (st' := [.inl (mu 45 c a0.toNatClampNeg), .inl a1, .inr (.inr (some (45, c)))]) (M' := mem E mu1 la) rfl ?_
  refine Ev.ias rfl rfl h.1 ?_
  have h := h.2
  generalize hgmu2 : up3 mu1 45 c a1.toNatClampNeg (mu 45 c a0.toNatClampNeg) = mu2
  have h := h mu2 hgmu2.symm
  exact Ev.ret rfl rfl ⟨_, _, rfl, rfl, h⟩
set_option maxRecDepth 100000 in
/-- AnnCupsModel.nextOrder()Z -/
theorem vc_X7_nextOrder {E : mEv} {d : Nat} {c : Nat} {mu : fMu} {la : fLa} {Q : Int32 → fMu → fLa → Prop} (h : Ev E (d + 1) mi_185 5 [some (.inr (.inr (some (7, c)))), some (.inl ((mu 7 c 29) - (2 : Int32))), none, none, none] [] (mem E mu la) (qI E Q)) : FnI E (d + 1) mi_185 [.inr (.inr (some (7, c)))] mu la Q := by
  unfold FnI
  show Ev E (d + 1) mi_185 0 [some (.inr (.inr (some (7, c)))), none, none, none, none] [] (mem E mu la) (qI E Q)
  refine Ev.steps 5 (ip' := 5) (ls' := [some (.inr (.inr (some (7, c)))), some (.inl ((mu 7 c 29) - (2 : Int32))), none, none, none]) (st' := []) (M' := mem E mu la) rfl ?_
  exact h
set_option maxRecDepth 100000 in
theorem vc_X7_nextOrder_5 {E : mEv} {d : Nat}  (v0 : Nat) (v1 : Int32) {mu : fMu} {la : fLa} {Q : Int32 → fMu → fLa → Prop} (h : (v1 < 0 → ((0 ≤ v1 → (Ev E (d + 1) mi_185 29 [some (.inr (.inr (some (7, v0)))), some (.inl v1), some (.inl ((mu 7 v0 29) - (1 : Int32))), none, none] [] (mem E mu la) (qI E Q))) ∧ (¬ (0 ≤ v1) → (Q (0 : Int32) mu la)))) ∧ (¬ (v1 < 0) → (vp_in v1 6 ∧ (vp_in (v1 + (1 : Int32)) 6 ∧ (((mu 45 v0 v1.toNatClampNeg) ≤ (mu 45 v0 (v1 + (1 : Int32)).toNatClampNeg) → ((0 ≤ v1 → (Ev E (d + 1) mi_185 29 [some (.inr (.inr (some (7, v0)))), some (.inl v1), some (.inl ((mu 7 v0 29) - (1 : Int32))), none, none] [] (mem E mu la) (qI E Q))) ∧ (¬ (0 ≤ v1) → (Q (0 : Int32) mu la)))) ∧ (¬ ((mu 45 v0 v1.toNatClampNeg) ≤ (mu 45 v0 (v1 + (1 : Int32)).toNatClampNeg)) → (Ev E (d + 1) mi_185 5 [some (.inr (.inr (some (7, v0)))), some (.inl (v1 + (-1 : Int32))), none, none, none] [] (mem E mu la) (qI E Q)))))))) : Ev E (d + 1) mi_185 5 [some (.inr (.inr (some (7, v0)))), some (.inl v1), none, none, none] [] (mem E mu la) (qI E Q) := by
  refine Ev.steps 1 (ip' := 6) (ls' := [some (.inr (.inr (some (7, v0)))), some (.inl v1), none, none, none]) (st' := [.inl v1]) (M' := mem E mu la) rfl ?_
  refine Ev.br (c := v1 < 0) (s1 := (20, [some (.inr (.inr (some (7, v0)))), some (.inl v1), none, none, none], [], mem E mu la)) (s2 := (7, [some (.inr (.inr (some (7, v0)))), some (.inl v1), none, none, none], [], mem E mu la)) rfl rfl rfl rfl (fun hc => ?_) (fun hc => ?_)
  · have h := h.1 hc
    dsimp only
    refine Ev.steps 1 (ip' := 21) (ls' := [some (.inr (.inr (some (7, v0)))), some (.inl v1), none, none, none]) (st' := [.inl v1]) (M' := mem E mu la) rfl ?_
    refine Ev.br (c := 0 ≤ v1) (s1 := (24, [some (.inr (.inr (some (7, v0)))), some (.inl v1), none, none, none], [], mem E mu la)) (s2 := (22, [some (.inr (.inr (some (7, v0)))), some (.inl v1), none, none, none], [], mem E mu la)) rfl rfl rfl rfl (fun hc => ?_) (fun hc => ?_)
    · have h := h.1 hc
      dsimp only
      refine Ev.steps 5 (ip' := 29) (ls' := [some (.inr (.inr (some (7, v0)))), some (.inl v1), some (.inl ((mu 7 v0 29) - (1 : Int32))), none, none]) (st' := []) (M' := mem E mu la) rfl ?_
      exact h
    · have h := h.2 hc
      dsimp only
      refine Ev.steps 1 (ip' := 23) (ls' := [some (.inr (.inr (some (7, v0)))), some (.inl v1), none, none, none]) (st' := [.inl (0 : Int32)]) (M' := mem E mu la) rfl ?_
      exact Ev.retZ rfl rfl (Or.inl rfl) ⟨_, _, _, rfl, rfl, h⟩
  · have h := h.2 hc
    dsimp only
    refine Ev.steps 3 (ip' := 10) (ls' := [some (.inr (.inr (some (7, v0)))), some (.inl v1), none, none, none]) (st' := [.inl v1, .inr (.inr (some (45, v0)))]) (M' := mem E mu la) rfl ?_
    refine Ev.ial rfl rfl (by decide) h.1 ?_
    have h := h.2
    refine Ev.steps 5 (ip' := 16) (ls' := [some (.inr (.inr (some (7, v0)))), some (.inl v1), none, none, none]) (st' := [.inl (v1 + (1 : Int32)), .inr (.inr (some (45, v0))), .inl (mu 45 v0 v1.toNatClampNeg)]) (M' := mem E mu la) rfl ?_
    refine Ev.ial rfl rfl (by decide) h.1 ?_
    have h := h.2
    refine Ev.br (c := (mu 45 v0 v1.toNatClampNeg) ≤ (mu 45 v0 (v1 + (1 : Int32)).toNatClampNeg)) (s1 := (20, [some (.inr (.inr (some (7, v0)))), some (.inl v1), none, none, none], [], mem E mu la)) (s2 := (18, [some (.inr (.inr (some (7, v0)))), some (.inl v1), none, none, none], [], mem E mu la)) rfl rfl rfl rfl (fun hc => ?_) (fun hc => ?_)
    · have h := h.1 hc
      dsimp only
      refine Ev.steps 1 (ip' := 21) (ls' := [some (.inr (.inr (some (7, v0)))), some (.inl v1), none, none, none]) (st' := [.inl v1]) (M' := mem E mu la) rfl ?_
      refine Ev.br (c := 0 ≤ v1) (s1 := (24, [some (.inr (.inr (some (7, v0)))), some (.inl v1), none, none, none], [], mem E mu la)) (s2 := (22, [some (.inr (.inr (some (7, v0)))), some (.inl v1), none, none, none], [], mem E mu la)) rfl rfl rfl rfl (fun hc => ?_) (fun hc => ?_)
      · have h := h.1 hc
        dsimp only
        refine Ev.steps 5 (ip' := 29) (ls' := [some (.inr (.inr (some (7, v0)))), some (.inl v1), some (.inl ((mu 7 v0 29) - (1 : Int32))), none, none]) (st' := []) (M' := mem E mu la) rfl ?_
        exact h
      · have h := h.2 hc
        dsimp only
        refine Ev.steps 1 (ip' := 23) (ls' := [some (.inr (.inr (some (7, v0)))), some (.inl v1), none, none, none]) (st' := [.inl (0 : Int32)]) (M' := mem E mu la) rfl ?_
        exact Ev.retZ rfl rfl (Or.inl rfl) ⟨_, _, _, rfl, rfl, h⟩
    · have h := h.2 hc
      dsimp only
      refine Ev.steps 2 (ip' := 5) (ls' := [some (.inr (.inr (some (7, v0)))), some (.inl (v1 + (-1 : Int32))), none, none, none]) (st' := []) (M' := mem E mu la) rfl ?_
      exact h
set_option maxRecDepth 100000 in
theorem vc_X7_nextOrder_29 {E : mEv} {d : Nat}  (v0 : Nat) (v1 : Int32) (v2 : Int32) {mu : fMu} {la : fLa} {Q : Int32 → fMu → fLa → Prop} (h : vp_in v2 6 ∧ (vp_in v1 6 ∧ (((mu 45 v0 v1.toNatClampNeg) ≤ (mu 45 v0 v2.toNatClampNeg) → (FnV E d mi_184 [.inr (.inr (some (7, v0))), .inl v1, .inl v2] mu la (fun mu2 la3 => Ev E (d + 1) mi_185 53 [some (.inr (.inr (some (7, v0)))), none, none, some (.inl (v1 + (1 : Int32))), some (.inl ((mu2 7 v0 29) - (1 : Int32)))] [] (mem E mu2 la3) (qI E Q)))) ∧ (¬ ((mu 45 v0 v1.toNatClampNeg) ≤ (mu 45 v0 v2.toNatClampNeg)) → (Ev E (d + 1) mi_185 29 [some (.inr (.inr (some (7, v0)))), some (.inl v1), some (.inl (v2 + (-1 : Int32))), none, none] [] (mem E mu la) (qI E Q)))))) : Ev E (d + 1) mi_185 29 [some (.inr (.inr (some (7, v0)))), some (.inl v1), some (.inl v2), none, none] [] (mem E mu la) (qI E Q) := by
  refine Ev.steps 3 (ip' := 32) (ls' := [some (.inr (.inr (some (7, v0)))), some (.inl v1), some (.inl v2), none, none]) (st' := [.inl v2, .inr (.inr (some (45, v0)))]) (M' := mem E mu la) rfl ?_
  refine Ev.ial rfl rfl (by decide) h.1 ?_
  have h := h.2
  refine Ev.steps 3 (ip' := 36) (ls' := [some (.inr (.inr (some (7, v0)))), some (.inl v1), some (.inl v2), none, none]) (st' := [.inl v1, .inr (.inr (some (45, v0))), .inl (mu 45 v0 v2.toNatClampNeg)]) (M' := mem E mu la) rfl ?_
  refine Ev.ial rfl rfl (by decide) h.1 ?_
  have h := h.2
  refine Ev.br (c := (mu 45 v0 v1.toNatClampNeg) ≤ (mu 45 v0 v2.toNatClampNeg)) (s1 := (40, [some (.inr (.inr (some (7, v0)))), some (.inl v1), some (.inl v2), none, none], [], mem E mu la)) (s2 := (38, [some (.inr (.inr (some (7, v0)))), some (.inl v1), some (.inl v2), none, none], [], mem E mu la)) rfl rfl rfl rfl (fun hc => ?_) (fun hc => ?_)
  · have h := h.1 hc
    dsimp only
    refine Ev.steps 3 (ip' := 43) (ls' := [some (.inr (.inr (some (7, v0)))), some (.inl v1), some (.inl v2), none, none]) (st' := [.inl v2, .inl v1, .inr (.inr (some (7, v0)))]) (M' := mem E mu la) rfl ?_
    refine Ev.cv (J := mi_184) (as := [.inr (.inr (some (7, v0))), .inl v1, .inl v2]) (rest := []) rfl rfl rfl (Nat.le_of_ble_eq_true rfl) h (fun mu2 la3 h => ?_)
    refine Ev.steps 9 (ip' := 53) (ls' := [some (.inr (.inr (some (7, v0)))), some (.inl v1), some (.inl v2), some (.inl (v1 + (1 : Int32))), some (.inl ((mu2 7 v0 29) - (1 : Int32)))]) (st' := []) (M' := mem E mu2 la3) rfl ?_
    refine Ev.drop (ls := [some (.inr (.inr (some (7, v0)))), none, none, some (.inl (v1 + (1 : Int32))), some (.inl ((mu2 7 v0 29) - (1 : Int32)))]) ⟨Or.inr rfl, Or.inl rfl, Or.inl rfl, Or.inr rfl, Or.inr rfl, trivial⟩ ?_
    exact h
  · have h := h.2 hc
    dsimp only
    refine Ev.steps 2 (ip' := 29) (ls' := [some (.inr (.inr (some (7, v0)))), some (.inl v1), some (.inl (v2 + (-1 : Int32))), none, none]) (st' := []) (M' := mem E mu la) rfl ?_
    exact h
set_option maxRecDepth 100000 in
theorem vc_X7_nextOrder_53 {E : mEv} {d : Nat}  (v0 : Nat) (v3 : Int32) (v4 : Int32) {mu : fMu} {la : fLa} {Q : Int32 → fMu → fLa → Prop} (h : (v4 ≤ v3 → (Q (1 : Int32) mu la)) ∧ (¬ (v4 ≤ v3) → (FnV E d mi_184 [.inr (.inr (some (7, v0))), .inl v3, .inl v4] mu la (fun mu5 la6 => Ev E (d + 1) mi_185 53 [some (.inr (.inr (some (7, v0)))), none, none, some (.inl (v3 + (1 : Int32))), some (.inl (v4 + (-1 : Int32)))] [] (mem E mu5 la6) (qI E Q))))) : Ev E (d + 1) mi_185 53 [some (.inr (.inr (some (7, v0)))), none, none, some (.inl v3), some (.inl v4)] [] (mem E mu la) (qI E Q) := by
  refine Ev.steps 2 (ip' := 55) (ls' := [some (.inr (.inr (some (7, v0)))), none, none, some (.inl v3), some (.inl v4)]) (st' := [.inl v4, .inl v3]) (M' := mem E mu la) rfl ?_
  refine Ev.br (c := v4 ≤ v3) (s1 := (63, [some (.inr (.inr (some (7, v0)))), none, none, some (.inl v3), some (.inl v4)], [], mem E mu la)) (s2 := (56, [some (.inr (.inr (some (7, v0)))), none, none, some (.inl v3), some (.inl v4)], [], mem E mu la)) rfl rfl rfl rfl (fun hc => ?_) (fun hc => ?_)
  · have h := h.1 hc
    dsimp only
    refine Ev.steps 1 (ip' := 64) (ls' := [some (.inr (.inr (some (7, v0)))), none, none, some (.inl v3), some (.inl v4)]) (st' := [.inl (1 : Int32)]) (M' := mem E mu la) rfl ?_
    exact Ev.retZ rfl rfl (Or.inr rfl) ⟨_, _, _, rfl, rfl, h⟩
  · have h := h.2 hc
    dsimp only
    refine Ev.steps 3 (ip' := 59) (ls' := [some (.inr (.inr (some (7, v0)))), none, none, some (.inl v3), some (.inl v4)]) (st' := [.inl v4, .inl v3, .inr (.inr (some (7, v0)))]) (M' := mem E mu la) rfl ?_
    refine Ev.cv (J := mi_184) (as := [.inr (.inr (some (7, v0))), .inl v3, .inl v4]) (rest := []) rfl rfl rfl (Nat.le_of_ble_eq_true rfl) h (fun mu5 la6 h => ?_)
    refine Ev.steps 3 (ip' := 53) (ls' := [some (.inr (.inr (some (7, v0)))), none, none, some (.inl (v3 + (1 : Int32))), some (.inl (v4 + (-1 : Int32)))]) (st' := []) (M' := mem E mu5 la6) rfl ?_
    exact h
set_option maxRecDepth 100000 in
/-- AnnCupsModel.layAside()V -/
theorem vc_X7_layAside {E : mEv} {d : Nat} {c : Nat} {mu : fMu} {la : fLa} {Q : fMu → fLa → Prop} (h : FnV E d mi_174 [.inr (.inr (some (38, c))), .inl (0 : Int32), .inr (.inr (some (39, c))), .inl (0 : Int32), .inl (9 : Int32)] mu la (fun mu2 la3 => Q mu2 la3)) : FnV E (d + 1) mi_186 [.inr (.inr (some (7, c)))] mu la Q := by
  unfold FnV
  show Ev E (d + 1) mi_186 0 [some (.inr (.inr (some (7, c))))] [] (mem E mu la) (qV E Q)
  refine Ev.steps 7 (ip' := 7) (ls' := [some (.inr (.inr (some (7, c))))]) (st' := [.inl (9 : Int32), .inl (0 : Int32), .inr (.inr (some (39, c))), .inl (0 : Int32), .inr (.inr (some (38, c)))]) (M' := mem E mu la) rfl ?_
  refine Ev.cv (J := mi_174) (as := [.inr (.inr (some (38, c))), .inl (0 : Int32), .inr (.inr (some (39, c))), .inl (0 : Int32), .inl (9 : Int32)]) (rest := []) rfl rfl rfl (Nat.le_of_ble_eq_true rfl) h (fun mu2 la3 h => ?_)
  exact Ev.ret rfl rfl ⟨_, _, rfl, rfl, h⟩
set_option maxRecDepth 100000 in
/-- AnnCupsModel.worth(I)I -/
theorem vc_X7_worth {E : mEv} {d : Nat} {c : Nat} (a0 : Int32) {mu : fMu} {la : fLa} {Q : Int32 → fMu → fLa → Prop} (h : FnV E d mi_186 [.inr (.inr (some (7, c)))] mu la (fun mu2 la3 => vp_in (6 : Int32) 9 ∧ (Ev E (d + 1) mi_187 11 [some (.inr (.inr (some (7, c)))), some (.inl a0), some (.inl (0 : Int32)), some (.inl (mu2 38 c (6 : Int32).toNatClampNeg)), some (.inl (0 : Int32)), none] [] (mem E mu2 la3) (qI E Q)))) : FnI E (d + 1) mi_187 [.inr (.inr (some (7, c))), .inl a0] mu la Q := by
  unfold FnI
  show Ev E (d + 1) mi_187 0 [some (.inr (.inr (some (7, c)))), some (.inl a0), none, none, none, none] [] (mem E mu la) (qI E Q)
  refine Ev.steps 1 (ip' := 1) (ls' := [some (.inr (.inr (some (7, c)))), some (.inl a0), none, none, none, none]) (st' := [.inr (.inr (some (7, c)))]) (M' := mem E mu la) rfl ?_
  refine Ev.cv (J := mi_186) (as := [.inr (.inr (some (7, c)))]) (rest := []) rfl rfl rfl (Nat.le_of_ble_eq_true rfl) h (fun mu2 la3 h => ?_)
  refine Ev.steps 5 (ip' := 7) (ls' := [some (.inr (.inr (some (7, c)))), some (.inl a0), some (.inl (0 : Int32)), none, none, none]) (st' := [.inl (6 : Int32), .inr (.inr (some (38, c)))]) (M' := mem E mu2 la3) rfl ?_
  refine Ev.ial rfl rfl (by decide) h.1 ?_
  have h := h.2
  refine Ev.steps 3 (ip' := 11) (ls' := [some (.inr (.inr (some (7, c)))), some (.inl a0), some (.inl (0 : Int32)), some (.inl (mu2 38 c (6 : Int32).toNatClampNeg)), some (.inl (0 : Int32)), none]) (st' := []) (M' := mem E mu2 la3) rfl ?_
  exact h
set_option maxRecDepth 100000 in
theorem vc_X7_worth_11 {E : mEv} {d : Nat}  (v0 : Nat) (v1 : Int32) (v2 : Int32) (v3 : Int32) (v4 : Int32) {mu : fMu} {la : fLa} {Q : Int32 → fMu → fLa → Prop} (h : ((mu 7 v0 29) ≤ v4 → ((¬ v1 = 0 → ((¬ v1 = (1 : Int32) → (FnI E d mi_163 [.inr (.inr (some (7, v0))), .inr (.inr (some (39, v0)))] mu la (fun x4 mu5 la6 => FnI E d mi_131 [.inl x4] mu5 la6 (fun x7 mu8 la9 => Q x7 mu8 la9)))) ∧ (¬ (¬ v1 = (1 : Int32)) → (Q v3 mu la)))) ∧ (¬ (¬ v1 = 0) → (Q v2 mu la)))) ∧ (¬ ((mu 7 v0 29) ≤ v4) → (vp_in v4 6 ∧ (FnV E d mi_161 [.inr (.inr (some (7, v0))), .inr (.inr (some (39, v0))), .inl (mu 45 v0 v4.toNatClampNeg), .inl (mu 7 v0 5)] mu la (fun mu11 la12 => vp_in v4 6 ∧ (FnI E d mi_156 [.inr (.inr (some (7, v0))), .inl (mu11 45 v0 v4.toNatClampNeg)] mu11 la12 (fun x13 mu14 la15 => (x13 = 0 → ((x13 = 0 → (Ev E (d + 1) mi_187 11 [some (.inr (.inr (some (7, v0)))), some (.inl v1), some (.inl (v2 + (0 : Int32))), some (.inl v3), some (.inl (v4 + (1 : Int32))), none] [] (mem E mu14 la15) (qI E Q))) ∧ (¬ (x13 = 0) → (vp_in (6 : Int32) 9 ∧ (Ev E (d + 1) mi_187 11 [some (.inr (.inr (some (7, v0)))), some (.inl v1), some (.inl (v2 + (0 : Int32))), some (.inl (mu14 39 v0 (6 : Int32).toNatClampNeg)), some (.inl (v4 + (1 : Int32))), none] [] (mem E mu14 la15) (qI E Q)))))) ∧ (¬ (x13 = 0) → (vp_in (6 : Int32) 9 ∧ ((x13 = 0 → (Ev E (d + 1) mi_187 11 [some (.inr (.inr (some (7, v0)))), some (.inl v1), some (.inl (v2 + (mu14 39 v0 (6 : Int32).toNatClampNeg))), some (.inl v3), some (.inl (v4 + (1 : Int32))), none] [] (mem E mu14 la15) (qI E Q))) ∧ (¬ (x13 = 0) → (vp_in (6 : Int32) 9 ∧ (Ev E (d + 1) mi_187 11 [some (.inr (.inr (some (7, v0)))), some (.inl v1), some (.inl (v2 + (mu14 39 v0 (6 : Int32).toNatClampNeg))), some (.inl (mu14 39 v0 (6 : Int32).toNatClampNeg)), some (.inl (v4 + (1 : Int32))), none] [] (mem E mu14 la15) (qI E Q)))))))))))))) : Ev E (d + 1) mi_187 11 [some (.inr (.inr (some (7, v0)))), some (.inl v1), some (.inl v2), some (.inl v3), some (.inl v4), none] [] (mem E mu la) (qI E Q) := by
  refine Ev.steps 3 (ip' := 14) (ls' := [some (.inr (.inr (some (7, v0)))), some (.inl v1), some (.inl v2), some (.inl v3), some (.inl v4), none]) (st' := [.inl (mu 7 v0 29), .inl v4]) (M' := mem E mu la) rfl ?_
  refine Ev.br (c := (mu 7 v0 29) ≤ v4) (s1 := (54, [some (.inr (.inr (some (7, v0)))), some (.inl v1), some (.inl v2), some (.inl v3), some (.inl v4), none], [], mem E mu la)) (s2 := (15, [some (.inr (.inr (some (7, v0)))), some (.inl v1), some (.inl v2), some (.inl v3), some (.inl v4), none], [], mem E mu la)) rfl rfl rfl rfl (fun hc => ?_) (fun hc => ?_)
  · have h := h.1 hc
    dsimp only
    refine Ev.steps 1 (ip' := 55) (ls' := [some (.inr (.inr (some (7, v0)))), some (.inl v1), some (.inl v2), some (.inl v3), some (.inl v4), none]) (st' := [.inl v1]) (M' := mem E mu la) rfl ?_
    refine Ev.br (c := ¬ v1 = 0) (s1 := (58, [some (.inr (.inr (some (7, v0)))), some (.inl v1), some (.inl v2), some (.inl v3), some (.inl v4), none], [], mem E mu la)) (s2 := (56, [some (.inr (.inr (some (7, v0)))), some (.inl v1), some (.inl v2), some (.inl v3), some (.inl v4), none], [], mem E mu la)) rfl rfl rfl rfl (fun hc => ?_) (fun hc => ?_)
    · have h := h.1 hc
      dsimp only
      refine Ev.steps 2 (ip' := 60) (ls' := [some (.inr (.inr (some (7, v0)))), some (.inl v1), some (.inl v2), some (.inl v3), some (.inl v4), none]) (st' := [.inl (1 : Int32), .inl v1]) (M' := mem E mu la) rfl ?_
      refine Ev.br (c := ¬ v1 = (1 : Int32)) (s1 := (63, [some (.inr (.inr (some (7, v0)))), some (.inl v1), some (.inl v2), some (.inl v3), some (.inl v4), none], [], mem E mu la)) (s2 := (61, [some (.inr (.inr (some (7, v0)))), some (.inl v1), some (.inl v2), some (.inl v3), some (.inl v4), none], [], mem E mu la)) rfl rfl rfl rfl (fun hc => ?_) (fun hc => ?_)
      · have h := h.1 hc
        dsimp only
        refine Ev.steps 3 (ip' := 66) (ls' := [some (.inr (.inr (some (7, v0)))), some (.inl v1), some (.inl v2), some (.inl v3), some (.inl v4), none]) (st' := [.inr (.inr (some (39, v0))), .inr (.inr (some (7, v0)))]) (M' := mem E mu la) rfl ?_
        refine Ev.ci (J := mi_163) (as := [.inr (.inr (some (7, v0))), .inr (.inr (some (39, v0)))]) (rest := []) rfl rfl rfl (Nat.le_of_ble_eq_true rfl) h (fun x4 mu5 la6 h => ?_)
        refine Ev.ci (J := mi_131) (as := [.inl x4]) (rest := []) rfl rfl rfl (Nat.le_of_ble_eq_true rfl) h (fun x7 mu8 la9 h => ?_)
        exact Ev.ret rfl rfl ⟨_, _, _, rfl, rfl, h⟩
      · have h := h.2 hc
        dsimp only
        refine Ev.steps 2 (ip' := 68) (ls' := [some (.inr (.inr (some (7, v0)))), some (.inl v1), some (.inl v2), some (.inl v3), some (.inl v4), none]) (st' := [.inl v3]) (M' := mem E mu la) rfl ?_
        exact Ev.ret rfl rfl ⟨_, _, _, rfl, rfl, h⟩
    · have h := h.2 hc
      dsimp only
      refine Ev.steps 2 (ip' := 68) (ls' := [some (.inr (.inr (some (7, v0)))), some (.inl v1), some (.inl v2), some (.inl v3), some (.inl v4), none]) (st' := [.inl v2]) (M' := mem E mu la) rfl ?_
      exact Ev.ret rfl rfl ⟨_, _, _, rfl, rfl, h⟩
  · have h := h.2 hc
    dsimp only
    refine Ev.steps 6 (ip' := 21) (ls' := [some (.inr (.inr (some (7, v0)))), some (.inl v1), some (.inl v2), some (.inl v3), some (.inl v4), none]) (st' := [.inl v4, .inr (.inr (some (45, v0))), .inr (.inr (some (39, v0))), .inr (.inr (some (7, v0)))]) (M' := mem E mu la) rfl ?_
    refine Ev.ial rfl rfl (by decide) h.1 ?_
    have h := h.2
    refine Ev.steps 2 (ip' := 24) (ls' := [some (.inr (.inr (some (7, v0)))), some (.inl v1), some (.inl v2), some (.inl v3), some (.inl v4), none]) (st' := [.inl (mu 7 v0 5), .inl (mu 45 v0 v4.toNatClampNeg), .inr (.inr (some (39, v0))), .inr (.inr (some (7, v0)))]) (M' := mem E mu la) rfl ?_
    refine Ev.cv (J := mi_161) (as := [.inr (.inr (some (7, v0))), .inr (.inr (some (39, v0))), .inl (mu 45 v0 v4.toNatClampNeg), .inl (mu 7 v0 5)]) (rest := []) rfl rfl rfl (Nat.le_of_ble_eq_true rfl) h (fun mu11 la12 h => ?_)
    refine Ev.steps 4 (ip' := 29) (ls' := [some (.inr (.inr (some (7, v0)))), some (.inl v1), some (.inl v2), some (.inl v3), some (.inl v4), none]) (st' := [.inl v4, .inr (.inr (some (45, v0))), .inr (.inr (some (7, v0)))]) (M' := mem E mu11 la12) rfl ?_
    refine Ev.ial rfl rfl (by decide) h.1 ?_
    have h := h.2
    refine Ev.ci (J := mi_156) (as := [.inr (.inr (some (7, v0))), .inl (mu11 45 v0 v4.toNatClampNeg)]) (rest := []) rfl rfl rfl (Nat.le_of_ble_eq_true rfl) h (fun x13 mu14 la15 h => ?_)
    refine Ev.steps 3 (ip' := 34) (ls' := [some (.inr (.inr (some (7, v0)))), some (.inl v1), some (.inl v2), some (.inl v3), some (.inl v4), some (.inl x13)]) (st' := [.inl x13, .inl v2]) (M' := mem E mu14 la15) rfl ?_
    refine Ev.br (c := x13 = 0) (s1 := (40, [some (.inr (.inr (some (7, v0)))), some (.inl v1), some (.inl v2), some (.inl v3), some (.inl v4), some (.inl x13)], [.inl v2], mem E mu14 la15)) (s2 := (35, [some (.inr (.inr (some (7, v0)))), some (.inl v1), some (.inl v2), some (.inl v3), some (.inl v4), some (.inl x13)], [.inl v2], mem E mu14 la15)) rfl rfl rfl rfl (fun hc => ?_) (fun hc => ?_)
    · have h := h.1 hc
      dsimp only
      refine Ev.steps 4 (ip' := 44) (ls' := [some (.inr (.inr (some (7, v0)))), some (.inl v1), some (.inl (v2 + (0 : Int32))), some (.inl v3), some (.inl v4), some (.inl x13)]) (st' := [.inl x13]) (M' := mem E mu14 la15) rfl ?_
      refine Ev.br (c := x13 = 0) (s1 := (50, [some (.inr (.inr (some (7, v0)))), some (.inl v1), some (.inl (v2 + (0 : Int32))), some (.inl v3), some (.inl v4), some (.inl x13)], [], mem E mu14 la15)) (s2 := (45, [some (.inr (.inr (some (7, v0)))), some (.inl v1), some (.inl (v2 + (0 : Int32))), some (.inl v3), some (.inl v4), some (.inl x13)], [], mem E mu14 la15)) rfl rfl rfl rfl (fun hc => ?_) (fun hc => ?_)
      · have h := h.1 hc
        dsimp only
        refine Ev.steps 4 (ip' := 11) (ls' := [some (.inr (.inr (some (7, v0)))), some (.inl v1), some (.inl (v2 + (0 : Int32))), some (.inl v3), some (.inl (v4 + (1 : Int32))), some (.inl x13)]) (st' := []) (M' := mem E mu14 la15) rfl ?_
        refine Ev.drop (ls := [some (.inr (.inr (some (7, v0)))), some (.inl v1), some (.inl (v2 + (0 : Int32))), some (.inl v3), some (.inl (v4 + (1 : Int32))), none]) ⟨Or.inr rfl, Or.inr rfl, Or.inr rfl, Or.inr rfl, Or.inr rfl, Or.inl rfl, trivial⟩ ?_
        exact h
      · have h := h.2 hc
        dsimp only
        refine Ev.steps 3 (ip' := 48) (ls' := [some (.inr (.inr (some (7, v0)))), some (.inl v1), some (.inl (v2 + (0 : Int32))), some (.inl v3), some (.inl v4), some (.inl x13)]) (st' := [.inl (6 : Int32), .inr (.inr (some (39, v0)))]) (M' := mem E mu14 la15) rfl ?_
        refine Ev.ial rfl rfl (by decide) h.1 ?_
        have h := h.2
        refine Ev.steps 4 (ip' := 11) (ls' := [some (.inr (.inr (some (7, v0)))), some (.inl v1), some (.inl (v2 + (0 : Int32))), some (.inl (mu14 39 v0 (6 : Int32).toNatClampNeg)), some (.inl (v4 + (1 : Int32))), some (.inl x13)]) (st' := []) (M' := mem E mu14 la15) rfl ?_
        refine Ev.drop (ls := [some (.inr (.inr (some (7, v0)))), some (.inl v1), some (.inl (v2 + (0 : Int32))), some (.inl (mu14 39 v0 (6 : Int32).toNatClampNeg)), some (.inl (v4 + (1 : Int32))), none]) ⟨Or.inr rfl, Or.inr rfl, Or.inr rfl, Or.inr rfl, Or.inr rfl, Or.inl rfl, trivial⟩ ?_
        exact h
    · have h := h.2 hc
      dsimp only
      refine Ev.steps 3 (ip' := 38) (ls' := [some (.inr (.inr (some (7, v0)))), some (.inl v1), some (.inl v2), some (.inl v3), some (.inl v4), some (.inl x13)]) (st' := [.inl (6 : Int32), .inr (.inr (some (39, v0))), .inl v2]) (M' := mem E mu14 la15) rfl ?_
      refine Ev.ial rfl rfl (by decide) h.1 ?_
      have h := h.2
      refine Ev.steps 4 (ip' := 44) (ls' := [some (.inr (.inr (some (7, v0)))), some (.inl v1), some (.inl (v2 + (mu14 39 v0 (6 : Int32).toNatClampNeg))), some (.inl v3), some (.inl v4), some (.inl x13)]) (st' := [.inl x13]) (M' := mem E mu14 la15) rfl ?_
      refine Ev.br (c := x13 = 0) (s1 := (50, [some (.inr (.inr (some (7, v0)))), some (.inl v1), some (.inl (v2 + (mu14 39 v0 (6 : Int32).toNatClampNeg))), some (.inl v3), some (.inl v4), some (.inl x13)], [], mem E mu14 la15)) (s2 := (45, [some (.inr (.inr (some (7, v0)))), some (.inl v1), some (.inl (v2 + (mu14 39 v0 (6 : Int32).toNatClampNeg))), some (.inl v3), some (.inl v4), some (.inl x13)], [], mem E mu14 la15)) rfl rfl rfl rfl (fun hc => ?_) (fun hc => ?_)
      · have h := h.1 hc
        dsimp only
        refine Ev.steps 4 (ip' := 11) (ls' := [some (.inr (.inr (some (7, v0)))), some (.inl v1), some (.inl (v2 + (mu14 39 v0 (6 : Int32).toNatClampNeg))), some (.inl v3), some (.inl (v4 + (1 : Int32))), some (.inl x13)]) (st' := []) (M' := mem E mu14 la15) rfl ?_
        refine Ev.drop (ls := [some (.inr (.inr (some (7, v0)))), some (.inl v1), some (.inl (v2 + (mu14 39 v0 (6 : Int32).toNatClampNeg))), some (.inl v3), some (.inl (v4 + (1 : Int32))), none]) ⟨Or.inr rfl, Or.inr rfl, Or.inr rfl, Or.inr rfl, Or.inr rfl, Or.inl rfl, trivial⟩ ?_
        exact h
      · have h := h.2 hc
        dsimp only
        refine Ev.steps 3 (ip' := 48) (ls' := [some (.inr (.inr (some (7, v0)))), some (.inl v1), some (.inl (v2 + (mu14 39 v0 (6 : Int32).toNatClampNeg))), some (.inl v3), some (.inl v4), some (.inl x13)]) (st' := [.inl (6 : Int32), .inr (.inr (some (39, v0)))]) (M' := mem E mu14 la15) rfl ?_
        refine Ev.ial rfl rfl (by decide) h.1 ?_
        have h := h.2
        refine Ev.steps 4 (ip' := 11) (ls' := [some (.inr (.inr (some (7, v0)))), some (.inl v1), some (.inl (v2 + (mu14 39 v0 (6 : Int32).toNatClampNeg))), some (.inl (mu14 39 v0 (6 : Int32).toNatClampNeg)), some (.inl (v4 + (1 : Int32))), some (.inl x13)]) (st' := []) (M' := mem E mu14 la15) rfl ?_
        refine Ev.drop (ls := [some (.inr (.inr (some (7, v0)))), some (.inl v1), some (.inl (v2 + (mu14 39 v0 (6 : Int32).toNatClampNeg))), some (.inl (mu14 39 v0 (6 : Int32).toNatClampNeg)), some (.inl (v4 + (1 : Int32))), none]) ⟨Or.inr rfl, Or.inr rfl, Or.inr rfl, Or.inr rfl, Or.inr rfl, Or.inl rfl, trivial⟩ ?_
        exact h
set_option maxRecDepth 100000 in
/-- AnnCupsModel.bestBy(II)I -/
theorem vc_X7_bestBy {E : mEv} {d : Nat} {c : Nat} (a0 : Int32) (a1 : Int32) {mu : fMu} {la : fLa} {Q : Int32 → fMu → fLa → Prop} (h : FnI E d mi_135 [.inl a0] mu la (fun x1 mu2 la3 => (¬ x1 = 0 → ((¬ (mu2 7 c 4) = 0 → (FnV E d mi_183 [.inr (.inr (some (7, c)))] mu2 la3 (fun mu5 la6 => Ev E (d + 1) mi_188 16 [some (.inr (.inr (some (7, c)))), some (.inl a0), some (.inl a1), some (.inl (1000000 : Int32)), some (.inl (1 : Int32)), none] [] (mem E mu5 la6) (qI E Q)))) ∧ (¬ (¬ (mu2 7 c 4) = 0) → (Q (-4 : Int32) mu2 la3)))) ∧ (¬ (¬ x1 = 0) → (Q (-1 : Int32) mu2 la3)))) : FnI E (d + 1) mi_188 [.inr (.inr (some (7, c))), .inl a0, .inl a1] mu la Q := by
  unfold FnI
  show Ev E (d + 1) mi_188 0 [some (.inr (.inr (some (7, c)))), some (.inl a0), some (.inl a1), none, none, none] [] (mem E mu la) (qI E Q)
  refine Ev.steps 1 (ip' := 1) (ls' := [some (.inr (.inr (some (7, c)))), some (.inl a0), some (.inl a1), none, none, none]) (st' := [.inl a0]) (M' := mem E mu la) rfl ?_
  refine Ev.ci (J := mi_135) (as := [.inl a0]) (rest := []) rfl rfl rfl (Nat.le_of_ble_eq_true rfl) h (fun x1 mu2 la3 h => ?_)
  refine Ev.br (c := ¬ x1 = 0) (s1 := (5, [some (.inr (.inr (some (7, c)))), some (.inl a0), some (.inl a1), none, none, none], [], mem E mu2 la3)) (s2 := (3, [some (.inr (.inr (some (7, c)))), some (.inl a0), some (.inl a1), none, none, none], [], mem E mu2 la3)) rfl rfl rfl rfl (fun hc => ?_) (fun hc => ?_)
  · have h := h.1 hc
    dsimp only
    refine Ev.steps 2 (ip' := 7) (ls' := [some (.inr (.inr (some (7, c)))), some (.inl a0), some (.inl a1), none, none, none]) (st' := [.inl (mu2 7 c 4)]) (M' := mem E mu2 la3) rfl ?_
    refine Ev.br (c := ¬ (mu2 7 c 4) = 0) (s1 := (10, [some (.inr (.inr (some (7, c)))), some (.inl a0), some (.inl a1), none, none, none], [], mem E mu2 la3)) (s2 := (8, [some (.inr (.inr (some (7, c)))), some (.inl a0), some (.inl a1), none, none, none], [], mem E mu2 la3)) rfl rfl rfl rfl (fun hc => ?_) (fun hc => ?_)
    · have h := h.1 hc
      dsimp only
      refine Ev.steps 3 (ip' := 13) (ls' := [some (.inr (.inr (some (7, c)))), some (.inl a0), some (.inl a1), some (.inl (1000000 : Int32)), none, none]) (st' := [.inr (.inr (some (7, c)))]) (M' := mem E mu2 la3) rfl ?_
      refine Ev.cv (J := mi_183) (as := [.inr (.inr (some (7, c)))]) (rest := []) rfl rfl rfl (Nat.le_of_ble_eq_true rfl) h (fun mu5 la6 h => ?_)
      refine Ev.steps 2 (ip' := 16) (ls' := [some (.inr (.inr (some (7, c)))), some (.inl a0), some (.inl a1), some (.inl (1000000 : Int32)), some (.inl (1 : Int32)), none]) (st' := []) (M' := mem E mu5 la6) rfl ?_
      exact h
    · have h := h.2 hc
      dsimp only
      refine Ev.steps 1 (ip' := 9) (ls' := [some (.inr (.inr (some (7, c)))), some (.inl a0), some (.inl a1), none, none, none]) (st' := [.inl (-4 : Int32)]) (M' := mem E mu2 la3) rfl ?_
      exact Ev.ret rfl rfl ⟨_, _, _, rfl, rfl, h⟩
  · have h := h.2 hc
    dsimp only
    refine Ev.steps 1 (ip' := 4) (ls' := [some (.inr (.inr (some (7, c)))), some (.inl a0), some (.inl a1), none, none, none]) (st' := [.inl (-1 : Int32)]) (M' := mem E mu2 la3) rfl ?_
    exact Ev.ret rfl rfl ⟨_, _, _, rfl, rfl, h⟩
set_option maxRecDepth 100000 in
theorem vc_X7_bestBy_16 {E : mEv} {d : Nat}  (v0 : Nat) (v1 : Int32) (v2 : Int32) (v3 : Int32) (v4 : Int32) {mu : fMu} {la : fLa} {Q : Int32 → fMu → fLa → Prop} (h : (v4 = 0 → (FnV E d mi_174 [.inr (.inr (some (46, v0))), .inl (0 : Int32), .inr (.inr (some (30, v0))), .inl ((40 : Int32) * v1), .inl (mu 7 v0 29)] mu la (fun mu8 la9 => vp_in v1 6 ∧ ∀ mu10 : fMu, mu10 = up3 mu8 29 v0 v1.toNatClampNeg (mu8 7 v0 29) → (Q v3 mu10 la9)))) ∧ (¬ (v4 = 0) → (FnI E d mi_187 [.inr (.inr (some (7, v0))), .inl v2] mu la (fun x11 mu12 la13 => (v3 ≤ x11 → (FnI E d mi_185 [.inr (.inr (some (7, v0)))] mu12 la13 (fun x14 mu15 la16 => Ev E (d + 1) mi_188 16 [some (.inr (.inr (some (7, v0)))), some (.inl v1), some (.inl v2), some (.inl v3), some (.inl x14), none] [] (mem E mu15 la16) (qI E Q)))) ∧ (¬ (v3 ≤ x11) → (FnV E d mi_174 [.inr (.inr (some (45, v0))), .inl (0 : Int32), .inr (.inr (some (46, v0))), .inl (0 : Int32), .inl (6 : Int32)] mu12 la13 (fun mu18 la19 => FnI E d mi_185 [.inr (.inr (some (7, v0)))] mu18 la19 (fun x20 mu21 la22 => Ev E (d + 1) mi_188 16 [some (.inr (.inr (some (7, v0)))), some (.inl v1), some (.inl v2), some (.inl x11), some (.inl x20), none] [] (mem E mu21 la22) (qI E Q))))))))) : Ev E (d + 1) mi_188 16 [some (.inr (.inr (some (7, v0)))), some (.inl v1), some (.inl v2), some (.inl v3), some (.inl v4), none] [] (mem E mu la) (qI E Q) := by
  refine Ev.steps 1 (ip' := 17) (ls' := [some (.inr (.inr (some (7, v0)))), some (.inl v1), some (.inl v2), some (.inl v3), some (.inl v4), none]) (st' := [.inl v4]) (M' := mem E mu la) rfl ?_
  refine Ev.br (c := v4 = 0) (s1 := (39, [some (.inr (.inr (some (7, v0)))), some (.inl v1), some (.inl v2), some (.inl v3), some (.inl v4), none], [], mem E mu la)) (s2 := (18, [some (.inr (.inr (some (7, v0)))), some (.inl v1), some (.inl v2), some (.inl v3), some (.inl v4), none], [], mem E mu la)) rfl rfl rfl rfl (fun hc => ?_) (fun hc => ?_)
  · have h := h.1 hc
    dsimp only
    refine Ev.steps 10 (ip' := 49) (ls' := [some (.inr (.inr (some (7, v0)))), some (.inl v1), some (.inl v2), some (.inl v3), some (.inl v4), none]) (st' := [.inl (mu 7 v0 29), .inl ((40 : Int32) * v1), .inr (.inr (some (30, v0))), .inl (0 : Int32), .inr (.inr (some (46, v0)))]) (M' := mem E mu la) rfl ?_
    refine Ev.cv (J := mi_174) (as := [.inr (.inr (some (46, v0))), .inl (0 : Int32), .inr (.inr (some (30, v0))), .inl ((40 : Int32) * v1), .inl (mu 7 v0 29)]) (rest := []) rfl rfl rfl (Nat.le_of_ble_eq_true rfl) h (fun mu8 la9 h => ?_)
    refine Ev.steps 5 (ip' := 55) (ls' := [some (.inr (.inr (some (7, v0)))), some (.inl v1), some (.inl v2), some (.inl v3), some (.inl v4), none]) (st' := [.inl (mu8 7 v0 29), .inl v1, .inr (.inr (some (29, v0)))]) (M' := mem E mu8 la9) rfl ?_
    refine Ev.ias rfl rfl h.1 ?_
    have h := h.2
    generalize hgmu10 : up3 mu8 29 v0 v1.toNatClampNeg (mu8 7 v0 29) = mu10
    have h := h mu10 hgmu10.symm
    refine Ev.steps 1 (ip' := 57) (ls' := [some (.inr (.inr (some (7, v0)))), some (.inl v1), some (.inl v2), some (.inl v3), some (.inl v4), none]) (st' := [.inl v3]) (M' := mem E mu10 la9) rfl ?_
    exact Ev.ret rfl rfl ⟨_, _, _, rfl, rfl, h⟩
  · have h := h.2 hc
    dsimp only
    refine Ev.steps 2 (ip' := 20) (ls' := [some (.inr (.inr (some (7, v0)))), some (.inl v1), some (.inl v2), some (.inl v3), some (.inl v4), none]) (st' := [.inl v2, .inr (.inr (some (7, v0)))]) (M' := mem E mu la) rfl ?_
    refine Ev.ci (J := mi_187) (as := [.inr (.inr (some (7, v0))), .inl v2]) (rest := []) rfl rfl rfl (Nat.le_of_ble_eq_true rfl) h (fun x11 mu12 la13 h => ?_)
    refine Ev.steps 3 (ip' := 24) (ls' := [some (.inr (.inr (some (7, v0)))), some (.inl v1), some (.inl v2), some (.inl v3), some (.inl v4), some (.inl x11)]) (st' := [.inl v3, .inl x11]) (M' := mem E mu12 la13) rfl ?_
    refine Ev.br (c := v3 ≤ x11) (s1 := (35, [some (.inr (.inr (some (7, v0)))), some (.inl v1), some (.inl v2), some (.inl v3), some (.inl v4), some (.inl x11)], [], mem E mu12 la13)) (s2 := (25, [some (.inr (.inr (some (7, v0)))), some (.inl v1), some (.inl v2), some (.inl v3), some (.inl v4), some (.inl x11)], [], mem E mu12 la13)) rfl rfl rfl rfl (fun hc => ?_) (fun hc => ?_)
    · have h := h.1 hc
      dsimp only
      refine Ev.steps 1 (ip' := 36) (ls' := [some (.inr (.inr (some (7, v0)))), some (.inl v1), some (.inl v2), some (.inl v3), some (.inl v4), some (.inl x11)]) (st' := [.inr (.inr (some (7, v0)))]) (M' := mem E mu12 la13) rfl ?_
      refine Ev.ci (J := mi_185) (as := [.inr (.inr (some (7, v0)))]) (rest := []) rfl rfl rfl (Nat.le_of_ble_eq_true rfl) h (fun x14 mu15 la16 h => ?_)
      refine Ev.steps 2 (ip' := 16) (ls' := [some (.inr (.inr (some (7, v0)))), some (.inl v1), some (.inl v2), some (.inl v3), some (.inl x14), some (.inl x11)]) (st' := []) (M' := mem E mu15 la16) rfl ?_
      refine Ev.drop (ls := [some (.inr (.inr (some (7, v0)))), some (.inl v1), some (.inl v2), some (.inl v3), some (.inl x14), none]) ⟨Or.inr rfl, Or.inr rfl, Or.inr rfl, Or.inr rfl, Or.inr rfl, Or.inl rfl, trivial⟩ ?_
      exact h
    · have h := h.2 hc
      dsimp only
      refine Ev.steps 9 (ip' := 34) (ls' := [some (.inr (.inr (some (7, v0)))), some (.inl v1), some (.inl v2), some (.inl x11), some (.inl v4), some (.inl x11)]) (st' := [.inl (6 : Int32), .inl (0 : Int32), .inr (.inr (some (46, v0))), .inl (0 : Int32), .inr (.inr (some (45, v0)))]) (M' := mem E mu12 la13) rfl ?_
      refine Ev.cv (J := mi_174) (as := [.inr (.inr (some (45, v0))), .inl (0 : Int32), .inr (.inr (some (46, v0))), .inl (0 : Int32), .inl (6 : Int32)]) (rest := []) rfl rfl rfl (Nat.le_of_ble_eq_true rfl) h (fun mu18 la19 h => ?_)
      refine Ev.steps 1 (ip' := 36) (ls' := [some (.inr (.inr (some (7, v0)))), some (.inl v1), some (.inl v2), some (.inl x11), some (.inl v4), some (.inl x11)]) (st' := [.inr (.inr (some (7, v0)))]) (M' := mem E mu18 la19) rfl ?_
      refine Ev.ci (J := mi_185) (as := [.inr (.inr (some (7, v0)))]) (rest := []) rfl rfl rfl (Nat.le_of_ble_eq_true rfl) h (fun x20 mu21 la22 h => ?_)
      refine Ev.steps 2 (ip' := 16) (ls' := [some (.inr (.inr (some (7, v0)))), some (.inl v1), some (.inl v2), some (.inl x11), some (.inl x20), some (.inl x11)]) (st' := []) (M' := mem E mu21 la22) rfl ?_
      refine Ev.drop (ls := [some (.inr (.inr (some (7, v0)))), some (.inl v1), some (.inl v2), some (.inl x11), some (.inl x20), none]) ⟨Or.inr rfl, Or.inr rfl, Or.inr rfl, Or.inr rfl, Or.inr rfl, Or.inl rfl, trivial⟩ ?_
      exact h
set_option maxRecDepth 100000 in
/-- AnnCupsModel.least(I)I -/
theorem vc_X7_least {E : mEv} {d : Nat} {c : Nat} (a0 : Int32) {mu : fMu} {la : fLa} {Q : Int32 → fMu → fLa → Prop} (h : FnI E d mi_188 [.inr (.inr (some (7, c))), .inl a0, .inl (0 : Int32)] mu la (fun x1 mu2 la3 => Q x1 mu2 la3)) : FnI E (d + 1) mi_189 [.inr (.inr (some (7, c))), .inl a0] mu la Q := by
  unfold FnI
  show Ev E (d + 1) mi_189 0 [some (.inr (.inr (some (7, c)))), some (.inl a0)] [] (mem E mu la) (qI E Q)
  refine Ev.steps 3 (ip' := 3) (ls' := [some (.inr (.inr (some (7, c)))), some (.inl a0)]) (st' := [.inl (0 : Int32), .inl a0, .inr (.inr (some (7, c)))]) (M' := mem E mu la) rfl ?_
  refine Ev.ci (J := mi_188) (as := [.inr (.inr (some (7, c))), .inl a0, .inl (0 : Int32)]) (rest := []) rfl rfl rfl (Nat.le_of_ble_eq_true rfl) h (fun x1 mu2 la3 h => ?_)
  exact Ev.ret rfl rfl ⟨_, _, _, rfl, rfl, h⟩
set_option maxRecDepth 100000 in
/-- AnnCupsModel.latest(I)I -/
theorem vc_X7_latest {E : mEv} {d : Nat} {c : Nat} (a0 : Int32) {mu : fMu} {la : fLa} {Q : Int32 → fMu → fLa → Prop} (h : FnI E d mi_188 [.inr (.inr (some (7, c))), .inl a0, .inl (1 : Int32)] mu la (fun x1 mu2 la3 => Q x1 mu2 la3)) : FnI E (d + 1) mi_190 [.inr (.inr (some (7, c))), .inl a0] mu la Q := by
  unfold FnI
  show Ev E (d + 1) mi_190 0 [some (.inr (.inr (some (7, c)))), some (.inl a0)] [] (mem E mu la) (qI E Q)
  refine Ev.steps 3 (ip' := 3) (ls' := [some (.inr (.inr (some (7, c)))), some (.inl a0)]) (st' := [.inl (1 : Int32), .inl a0, .inr (.inr (some (7, c)))]) (M' := mem E mu la) rfl ?_
  refine Ev.ci (J := mi_188) (as := [.inr (.inr (some (7, c))), .inl a0, .inl (1 : Int32)]) (rest := []) rfl rfl rfl (Nat.le_of_ble_eq_true rfl) h (fun x1 mu2 la3 h => ?_)
  exact Ev.ret rfl rfl ⟨_, _, _, rfl, rfl, h⟩
set_option maxRecDepth 100000 in
/-- AnnCupsModel.fewest(I)I -/
theorem vc_X7_fewest {E : mEv} {d : Nat} {c : Nat} (a0 : Int32) {mu : fMu} {la : fLa} {Q : Int32 → fMu → fLa → Prop} (h : FnI E d mi_188 [.inr (.inr (some (7, c))), .inl a0, .inl (2 : Int32)] mu la (fun x1 mu2 la3 => Q x1 mu2 la3)) : FnI E (d + 1) mi_191 [.inr (.inr (some (7, c))), .inl a0] mu la Q := by
  unfold FnI
  show Ev E (d + 1) mi_191 0 [some (.inr (.inr (some (7, c)))), some (.inl a0)] [] (mem E mu la) (qI E Q)
  refine Ev.steps 3 (ip' := 3) (ls' := [some (.inr (.inr (some (7, c)))), some (.inl a0)]) (st' := [.inl (2 : Int32), .inl a0, .inr (.inr (some (7, c)))]) (M' := mem E mu la) rfl ?_
  refine Ev.ci (J := mi_188) (as := [.inr (.inr (some (7, c))), .inl a0, .inl (2 : Int32)]) (rest := []) rfl rfl rfl (Nat.le_of_ble_eq_true rfl) h (fun x1 mu2 la3 h => ?_)
  exact Ev.ret rfl rfl ⟨_, _, _, rfl, rfl, h⟩
set_option maxRecDepth 100000 in
/-- AnnCupsModel.fraction(JJ)I -/
theorem vc_X7_fraction {E : mEv} {d : Nat} {c : Nat} (a0 : Int64) (a1 : Int64) {mu : fMu} {la : fLa} {Q : Int32 → fMu → fLa → Prop} (h : Ev E d mi_192 4 [some (.inr (.inr (some (7, c)))), some (.inr (.inl a0)), none, some (.inr (.inl a1)), none, some (.inr (.inl a0)), none, some (.inr (.inl a1)), none, none, none] [] (mem E mu la) (qI E Q)) : FnI E d mi_192 [.inr (.inr (some (7, c))), .inr (.inl a0), .inr (.inl a1)] mu la Q := by
  unfold FnI
  show Ev E d mi_192 0 [some (.inr (.inr (some (7, c)))), some (.inr (.inl a0)), none, some (.inr (.inl a1)), none, none, none, none, none, none, none] [] (mem E mu la) (qI E Q)
  refine Ev.steps 4 (ip' := 4) (ls' := [some (.inr (.inr (some (7, c)))), some (.inr (.inl a0)), none, some (.inr (.inl a1)), none, some (.inr (.inl a0)), none, some (.inr (.inl a1)), none, none, none]) (st' := []) (M' := mem E mu la) rfl ?_
  exact h
set_option maxRecDepth 100000 in
theorem vc_X7_fraction_4 {E : mEv} {d : Nat}  (v0 : Nat) (v1 : Int64) (v3 : Int64) (v5 : Int64) (v7 : Int64) {mu : fMu} {la : fLa} {Q : Int32 → fMu → fLa → Prop} (h : ((lg_cmp v7 (0 : Int64)) = 0 → ((¬ v5 = 0) ∧ (∀ la1 : fLa, la1 = up3 la 7 v0 18 (v1 / v5) → ((¬ v5 = 0) ∧ (∀ la2 : fLa, la2 = up3 la1 7 v0 19 (v3 / v5) → (Q (1 : Int32) mu la2)))))) ∧ (¬ ((lg_cmp v7 (0 : Int64)) = 0) → ((¬ v7 = 0) ∧ (Ev E d mi_192 4 [some (.inr (.inr (some (7, v0)))), some (.inr (.inl v1)), none, some (.inr (.inl v3)), none, some (.inr (.inl v7)), none, some (.inr (.inl (v5 - v5 / v7 * v7))), none, none, none] [] (mem E mu la) (qI E Q))))) : Ev E d mi_192 4 [some (.inr (.inr (some (7, v0)))), some (.inr (.inl v1)), none, some (.inr (.inl v3)), none, some (.inr (.inl v5)), none, some (.inr (.inl v7)), none, none, none] [] (mem E mu la) (qI E Q) := by
  refine Ev.steps 3 (ip' := 7) (ls' := [some (.inr (.inr (some (7, v0)))), some (.inr (.inl v1)), none, some (.inr (.inl v3)), none, some (.inr (.inl v5)), none, some (.inr (.inl v7)), none, none, none]) (st' := [.inl (lg_cmp v7 (0 : Int64))]) (M' := mem E mu la) rfl ?_
  refine Ev.br (c := (lg_cmp v7 (0 : Int64)) = 0) (s1 := (17, [some (.inr (.inr (some (7, v0)))), some (.inr (.inl v1)), none, some (.inr (.inl v3)), none, some (.inr (.inl v5)), none, some (.inr (.inl v7)), none, none, none], [], mem E mu la)) (s2 := (8, [some (.inr (.inr (some (7, v0)))), some (.inr (.inl v1)), none, some (.inr (.inl v3)), none, some (.inr (.inl v5)), none, some (.inr (.inl v7)), none, none, none], [], mem E mu la)) rfl rfl rfl rfl (fun hc => ?_) (fun hc => ?_)
  · have h := h.1 hc
    dsimp only
    refine Ev.steps 3 (ip' := 20) (ls' := [some (.inr (.inr (some (7, v0)))), some (.inr (.inl v1)), none, some (.inr (.inl v3)), none, some (.inr (.inl v5)), none, some (.inr (.inl v7)), none, none, none]) (st' := [.inr (.inl v5), .inr (.inl v1), .inr (.inr (some (7, v0)))]) (M' := mem E mu la) rfl ?_
    refine Ev.want (c := v5 = 0) (s2 := (21, [some (.inr (.inr (some (7, v0)))), some (.inr (.inl v1)), none, some (.inr (.inl v3)), none, some (.inr (.inl v5)), none, some (.inr (.inl v7)), none, none, none], [.inr (.inl (v1 / v5)), .inr (.inr (some (7, v0)))], mem E mu la)) rfl rfl rfl rfl h.1 ?_
    have h := h.2
    refine Ev.steps 1 (ip' := 22) (ls' := [some (.inr (.inr (some (7, v0)))), some (.inr (.inl v1)), none, some (.inr (.inl v3)), none, some (.inr (.inl v5)), none, some (.inr (.inl v7)), none, none, none]) (st' := []) (M' := mem E mu (up3 la 7 v0 18 (v1 / v5))) rfl ?_
    generalize hgla1 : up3 la 7 v0 18 (v1 / v5) = la1
    have h := h la1 hgla1.symm
    refine Ev.steps 3 (ip' := 25) (ls' := [some (.inr (.inr (some (7, v0)))), some (.inr (.inl v1)), none, some (.inr (.inl v3)), none, some (.inr (.inl v5)), none, some (.inr (.inl v7)), none, none, none]) (st' := [.inr (.inl v5), .inr (.inl v3), .inr (.inr (some (7, v0)))]) (M' := mem E mu la1) rfl ?_
    refine Ev.want (c := v5 = 0) (s2 := (26, [some (.inr (.inr (some (7, v0)))), some (.inr (.inl v1)), none, some (.inr (.inl v3)), none, some (.inr (.inl v5)), none, some (.inr (.inl v7)), none, none, none], [.inr (.inl (v3 / v5)), .inr (.inr (some (7, v0)))], mem E mu la1)) rfl rfl rfl rfl h.1 ?_
    have h := h.2
    refine Ev.steps 1 (ip' := 27) (ls' := [some (.inr (.inr (some (7, v0)))), some (.inr (.inl v1)), none, some (.inr (.inl v3)), none, some (.inr (.inl v5)), none, some (.inr (.inl v7)), none, none, none]) (st' := []) (M' := mem E mu (up3 la1 7 v0 19 (v3 / v5))) rfl ?_
    generalize hgla2 : up3 la1 7 v0 19 (v3 / v5) = la2
    have h := h la2 hgla2.symm
    refine Ev.steps 1 (ip' := 28) (ls' := [some (.inr (.inr (some (7, v0)))), some (.inr (.inl v1)), none, some (.inr (.inl v3)), none, some (.inr (.inl v5)), none, some (.inr (.inl v7)), none, none, none]) (st' := [.inl (1 : Int32)]) (M' := mem E mu la2) rfl ?_
    exact Ev.ret rfl rfl ⟨_, _, _, rfl, rfl, h⟩
  · have h := h.2 hc
    dsimp only
    refine Ev.steps 2 (ip' := 10) (ls' := [some (.inr (.inr (some (7, v0)))), some (.inr (.inl v1)), none, some (.inr (.inl v3)), none, some (.inr (.inl v5)), none, some (.inr (.inl v7)), none, none, none]) (st' := [.inr (.inl v7), .inr (.inl v5)]) (M' := mem E mu la) rfl ?_
    refine Ev.want (c := v7 = 0) (s2 := (11, [some (.inr (.inr (some (7, v0)))), some (.inr (.inl v1)), none, some (.inr (.inl v3)), none, some (.inr (.inl v5)), none, some (.inr (.inl v7)), none, none, none], [.inr (.inl (v5 - v5 / v7 * v7))], mem E mu la)) rfl rfl rfl rfl h.1 ?_
    have h := h.2
    refine Ev.steps 6 (ip' := 4) (ls' := [some (.inr (.inr (some (7, v0)))), some (.inr (.inl v1)), none, some (.inr (.inl v3)), none, some (.inr (.inl v7)), none, some (.inr (.inl (v5 - v5 / v7 * v7))), none, some (.inr (.inl (v5 - v5 / v7 * v7))), none]) (st' := []) (M' := mem E mu la) rfl ?_
    refine Ev.drop (ls := [some (.inr (.inr (some (7, v0)))), some (.inr (.inl v1)), none, some (.inr (.inl v3)), none, some (.inr (.inl v7)), none, some (.inr (.inl (v5 - v5 / v7 * v7))), none, none, none]) ⟨Or.inr rfl, Or.inr rfl, Or.inr rfl, Or.inr rfl, Or.inr rfl, Or.inr rfl, Or.inr rfl, Or.inr rfl, Or.inr rfl, Or.inl rfl, Or.inr rfl, trivial⟩ ?_
    exact h
set_option maxRecDepth 100000 in
/-- AnnCupsModel.orders(I)I -/
theorem vc_X7_orders {E : mEv} {d : Nat} {c : Nat} (a0 : Int32) {mu : fMu} {la : fLa} {Q : Int32 → fMu → fLa → Prop} (h : FnI E d mi_129 [.inr (.inl a0.toInt64), .inr (.inl (0 : Int64)), .inr (.inl (6 : Int64))] mu la (fun x1 mu2 la3 => (¬ x1 = 0 → ((¬ (mu2 7 c 4) = 0 → (FnV E d mi_183 [.inr (.inr (some (7, c)))] mu2 la3 (fun mu5 la6 => Ev E (d + 1) mi_193 19 [some (.inr (.inr (some (7, c)))), some (.inl a0), some (.inl (0 : Int32)), some (.inl (1 : Int32))] [] (mem E mu5 la6) (qI E Q)))) ∧ (¬ (¬ (mu2 7 c 4) = 0) → (Q (-4 : Int32) mu2 la3)))) ∧ (¬ (¬ x1 = 0) → (Q (-1 : Int32) mu2 la3)))) : FnI E (d + 1) mi_193 [.inr (.inr (some (7, c))), .inl a0] mu la Q := by
  unfold FnI
  show Ev E (d + 1) mi_193 0 [some (.inr (.inr (some (7, c)))), some (.inl a0), none, none] [] (mem E mu la) (qI E Q)
  refine Ev.steps 4 (ip' := 4) (ls' := [some (.inr (.inr (some (7, c)))), some (.inl a0), none, none]) (st' := [.inr (.inl (6 : Int64)), .inr (.inl (0 : Int64)), .inr (.inl a0.toInt64)]) (M' := mem E mu la) rfl ?_
  refine Ev.ci (J := mi_129) (as := [.inr (.inl a0.toInt64), .inr (.inl (0 : Int64)), .inr (.inl (6 : Int64))]) (rest := []) rfl rfl rfl (Nat.le_of_ble_eq_true rfl) h (fun x1 mu2 la3 h => ?_)
  refine Ev.br (c := ¬ x1 = 0) (s1 := (8, [some (.inr (.inr (some (7, c)))), some (.inl a0), none, none], [], mem E mu2 la3)) (s2 := (6, [some (.inr (.inr (some (7, c)))), some (.inl a0), none, none], [], mem E mu2 la3)) rfl rfl rfl rfl (fun hc => ?_) (fun hc => ?_)
  · have h := h.1 hc
    dsimp only
    refine Ev.steps 2 (ip' := 10) (ls' := [some (.inr (.inr (some (7, c)))), some (.inl a0), none, none]) (st' := [.inl (mu2 7 c 4)]) (M' := mem E mu2 la3) rfl ?_
    refine Ev.br (c := ¬ (mu2 7 c 4) = 0) (s1 := (13, [some (.inr (.inr (some (7, c)))), some (.inl a0), none, none], [], mem E mu2 la3)) (s2 := (11, [some (.inr (.inr (some (7, c)))), some (.inl a0), none, none], [], mem E mu2 la3)) rfl rfl rfl rfl (fun hc => ?_) (fun hc => ?_)
    · have h := h.1 hc
      dsimp only
      refine Ev.steps 3 (ip' := 16) (ls' := [some (.inr (.inr (some (7, c)))), some (.inl a0), some (.inl (0 : Int32)), none]) (st' := [.inr (.inr (some (7, c)))]) (M' := mem E mu2 la3) rfl ?_
      refine Ev.cv (J := mi_183) (as := [.inr (.inr (some (7, c)))]) (rest := []) rfl rfl rfl (Nat.le_of_ble_eq_true rfl) h (fun mu5 la6 h => ?_)
      refine Ev.steps 2 (ip' := 19) (ls' := [some (.inr (.inr (some (7, c)))), some (.inl a0), some (.inl (0 : Int32)), some (.inl (1 : Int32))]) (st' := []) (M' := mem E mu5 la6) rfl ?_
      exact h
    · have h := h.2 hc
      dsimp only
      refine Ev.steps 1 (ip' := 12) (ls' := [some (.inr (.inr (some (7, c)))), some (.inl a0), none, none]) (st' := [.inl (-4 : Int32)]) (M' := mem E mu2 la3) rfl ?_
      exact Ev.ret rfl rfl ⟨_, _, _, rfl, rfl, h⟩
  · have h := h.2 hc
    dsimp only
    refine Ev.steps 1 (ip' := 7) (ls' := [some (.inr (.inr (some (7, c)))), some (.inl a0), none, none]) (st' := [.inl (-1 : Int32)]) (M' := mem E mu2 la3) rfl ?_
    exact Ev.ret rfl rfl ⟨_, _, _, rfl, rfl, h⟩
set_option maxRecDepth 100000 in
theorem vc_X7_orders_19 {E : mEv} {d : Nat}  (v0 : Nat) (v1 : Int32) (v2 : Int32) (v3 : Int32) {mu : fMu} {la : fLa} {Q : Int32 → fMu → fLa → Prop} (h : (v3 = 0 → (FnI E d mi_192 [.inr (.inr (some (7, v0))), .inr (.inl v2.toInt64), .inr (.inl (1 : Int64))] mu la (fun x7 mu8 la9 => Q x7 mu8 la9))) ∧ (¬ (v3 = 0) → (FnI E d mi_187 [.inr (.inr (some (7, v0))), .inl (2 : Int32)] mu la (fun x10 mu11 la12 => (¬ x10 = v1 → (FnI E d mi_185 [.inr (.inr (some (7, v0)))] mu11 la12 (fun x13 mu14 la15 => Ev E (d + 1) mi_193 19 [some (.inr (.inr (some (7, v0)))), some (.inl v1), some (.inl (v2 + (0 : Int32))), some (.inl x13)] [] (mem E mu14 la15) (qI E Q)))) ∧ (¬ (¬ x10 = v1) → (FnI E d mi_185 [.inr (.inr (some (7, v0)))] mu11 la12 (fun x16 mu17 la18 => Ev E (d + 1) mi_193 19 [some (.inr (.inr (some (7, v0)))), some (.inl v1), some (.inl (v2 + (1 : Int32))), some (.inl x16)] [] (mem E mu17 la18) (qI E Q)))))))) : Ev E (d + 1) mi_193 19 [some (.inr (.inr (some (7, v0)))), some (.inl v1), some (.inl v2), some (.inl v3)] [] (mem E mu la) (qI E Q) := by
  refine Ev.steps 1 (ip' := 20) (ls' := [some (.inr (.inr (some (7, v0)))), some (.inl v1), some (.inl v2), some (.inl v3)]) (st' := [.inl v3]) (M' := mem E mu la) rfl ?_
  refine Ev.br (c := v3 = 0) (s1 := (36, [some (.inr (.inr (some (7, v0)))), some (.inl v1), some (.inl v2), some (.inl v3)], [], mem E mu la)) (s2 := (21, [some (.inr (.inr (some (7, v0)))), some (.inl v1), some (.inl v2), some (.inl v3)], [], mem E mu la)) rfl rfl rfl rfl (fun hc => ?_) (fun hc => ?_)
  · have h := h.1 hc
    dsimp only
    refine Ev.steps 4 (ip' := 40) (ls' := [some (.inr (.inr (some (7, v0)))), some (.inl v1), some (.inl v2), some (.inl v3)]) (st' := [.inr (.inl (1 : Int64)), .inr (.inl v2.toInt64), .inr (.inr (some (7, v0)))]) (M' := mem E mu la) rfl ?_
    refine Ev.ci (J := mi_192) (as := [.inr (.inr (some (7, v0))), .inr (.inl v2.toInt64), .inr (.inl (1 : Int64))]) (rest := []) rfl rfl rfl (Nat.le_of_ble_eq_true rfl) h (fun x7 mu8 la9 h => ?_)
    exact Ev.ret rfl rfl ⟨_, _, _, rfl, rfl, h⟩
  · have h := h.2 hc
    dsimp only
    refine Ev.steps 3 (ip' := 24) (ls' := [some (.inr (.inr (some (7, v0)))), some (.inl v1), some (.inl v2), some (.inl v3)]) (st' := [.inl (2 : Int32), .inr (.inr (some (7, v0))), .inl v2]) (M' := mem E mu la) rfl ?_
    refine Ev.ci (J := mi_187) (as := [.inr (.inr (some (7, v0))), .inl (2 : Int32)]) (rest := [.inl v2]) rfl rfl rfl (Nat.le_of_ble_eq_true rfl) h (fun x10 mu11 la12 h => ?_)
    refine Ev.steps 1 (ip' := 26) (ls' := [some (.inr (.inr (some (7, v0)))), some (.inl v1), some (.inl v2), some (.inl v3)]) (st' := [.inl v1, .inl x10, .inl v2]) (M' := mem E mu11 la12) rfl ?_
    refine Ev.br (c := ¬ x10 = v1) (s1 := (29, [some (.inr (.inr (some (7, v0)))), some (.inl v1), some (.inl v2), some (.inl v3)], [.inl v2], mem E mu11 la12)) (s2 := (27, [some (.inr (.inr (some (7, v0)))), some (.inl v1), some (.inl v2), some (.inl v3)], [.inl v2], mem E mu11 la12)) rfl rfl rfl rfl (fun hc => ?_) (fun hc => ?_)
    · have h := h.1 hc
      dsimp only
      refine Ev.steps 4 (ip' := 33) (ls' := [some (.inr (.inr (some (7, v0)))), some (.inl v1), some (.inl (v2 + (0 : Int32))), some (.inl v3)]) (st' := [.inr (.inr (some (7, v0)))]) (M' := mem E mu11 la12) rfl ?_
      refine Ev.ci (J := mi_185) (as := [.inr (.inr (some (7, v0)))]) (rest := []) rfl rfl rfl (Nat.le_of_ble_eq_true rfl) h (fun x13 mu14 la15 h => ?_)
      refine Ev.steps 2 (ip' := 19) (ls' := [some (.inr (.inr (some (7, v0)))), some (.inl v1), some (.inl (v2 + (0 : Int32))), some (.inl x13)]) (st' := []) (M' := mem E mu14 la15) rfl ?_
      exact h
    · have h := h.2 hc
      dsimp only
      refine Ev.steps 5 (ip' := 33) (ls' := [some (.inr (.inr (some (7, v0)))), some (.inl v1), some (.inl (v2 + (1 : Int32))), some (.inl v3)]) (st' := [.inr (.inr (some (7, v0)))]) (M' := mem E mu11 la12) rfl ?_
      refine Ev.ci (J := mi_185) (as := [.inr (.inr (some (7, v0)))]) (rest := []) rfl rfl rfl (Nat.le_of_ble_eq_true rfl) h (fun x16 mu17 la18 h => ?_)
      refine Ev.steps 2 (ip' := 19) (ls' := [some (.inr (.inr (some (7, v0)))), some (.inl v1), some (.inl (v2 + (1 : Int32))), some (.inl x16)]) (st' := []) (M' := mem E mu17 la18) rfl ?_
      exact h
