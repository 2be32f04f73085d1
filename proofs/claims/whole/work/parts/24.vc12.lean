set_option maxRecDepth 100000 in
/-- AnnCupsModel.makes(I)I -/
theorem vc_X7_makes {E : mEv} {d : Nat} {c : Nat} (a0 : Int32) {mu : fMu} {la : fLa} {Q : Int32 → fMu → fLa → Prop} (h : FnI E d mi_135 [.inl a0] mu la (fun x1 mu2 la3 => (¬ x1 = 0 → ((¬ (mu2 7 c 4) = 0 → (vp_in a0 6 ∧ ((0 ≤ (mu2 29 c a0.toNatClampNeg) → (vp_in a0 6 ∧ (((mu2 29 c a0.toNatClampNeg) ≤ (6 : Int32) → (Ev E (d + 1) mi_194 31 [some (.inr (.inr (some (7, c)))), some (.inl a0), some (.inl (0 : Int32))] [] (mem E mu2 la3) (qI E Q))) ∧ (¬ ((mu2 29 c a0.toNatClampNeg) ≤ (6 : Int32)) → (FnI E d mi_132 [.inr (.inr (some (7, c))), .inl (5 : Int32)] mu2 la3 (fun x4 mu5 la6 => Q x4 mu5 la6)))))) ∧ (¬ (0 ≤ (mu2 29 c a0.toNatClampNeg)) → (FnI E d mi_132 [.inr (.inr (some (7, c))), .inl (1 : Int32)] mu2 la3 (fun x7 mu8 la9 => Q x7 mu8 la9)))))) ∧ (¬ (¬ (mu2 7 c 4) = 0) → (Q (-4 : Int32) mu2 la3)))) ∧ (¬ (¬ x1 = 0) → (Q (-1 : Int32) mu2 la3)))) : FnI E (d + 1) mi_194 [.inr (.inr (some (7, c))), .inl a0] mu la Q := by
  unfold FnI
  show Ev E (d + 1) mi_194 0 [some (.inr (.inr (some (7, c)))), some (.inl a0), none] [] (mem E mu la) (qI E Q)
  refine Ev.steps 1 (ip' := 1) (ls' := [some (.inr (.inr (some (7, c)))), some (.inl a0), none]) (st' := [.inl a0]) (M' := mem E mu la) rfl ?_
  refine Ev.ci (J := mi_135) (as := [.inl a0]) (rest := []) rfl rfl rfl (Nat.le_of_ble_eq_true rfl) h (fun x1 mu2 la3 h => ?_)
  refine Ev.br (c := ¬ x1 = 0) (s1 := (5, [some (.inr (.inr (some (7, c)))), some (.inl a0), none], [], mem E mu2 la3)) (s2 := (3, [some (.inr (.inr (some (7, c)))), some (.inl a0), none], [], mem E mu2 la3)) rfl rfl rfl rfl (fun hc => ?_) (fun hc => ?_)
  · have h := h.1 hc
    dsimp only
    refine Ev.steps 2 (ip' := 7) (ls' := [some (.inr (.inr (some (7, c)))), some (.inl a0), none]) (st' := [.inl (mu2 7 c 4)]) (M' := mem E mu2 la3) rfl ?_
    refine Ev.br (c := ¬ (mu2 7 c 4) = 0) (s1 := (10, [some (.inr (.inr (some (7, c)))), some (.inl a0), none], [], mem E mu2 la3)) (s2 := (8, [some (.inr (.inr (some (7, c)))), some (.inl a0), none], [], mem E mu2 la3)) rfl rfl rfl rfl (fun hc => ?_) (fun hc => ?_)
    · have h := h.1 hc
      dsimp only
      refine Ev.steps 3 (ip' := 13) (ls' := [some (.inr (.inr (some (7, c)))), some (.inl a0), none]) (st' := [.inl a0, .inr (.inr (some (29, c)))]) (M' := mem E mu2 la3) rfl ?_
      refine Ev.ial rfl rfl (by decide) h.1 ?_
      have h := h.2
      refine Ev.br (c := 0 ≤ (mu2 29 c a0.toNatClampNeg)) (s1 := (19, [some (.inr (.inr (some (7, c)))), some (.inl a0), none], [], mem E mu2 la3)) (s2 := (15, [some (.inr (.inr (some (7, c)))), some (.inl a0), none], [], mem E mu2 la3)) rfl rfl rfl rfl (fun hc => ?_) (fun hc => ?_)
      · have h := h.1 hc
        dsimp only
        refine Ev.steps 3 (ip' := 22) (ls' := [some (.inr (.inr (some (7, c)))), some (.inl a0), none]) (st' := [.inl a0, .inr (.inr (some (29, c)))]) (M' := mem E mu2 la3) rfl ?_
        refine Ev.ial rfl rfl (by decide) h.1 ?_
        have h := h.2
        refine Ev.steps 1 (ip' := 24) (ls' := [some (.inr (.inr (some (7, c)))), some (.inl a0), none]) (st' := [.inl (6 : Int32), .inl (mu2 29 c a0.toNatClampNeg)]) (M' := mem E mu2 la3) rfl ?_
        refine Ev.br (c := (mu2 29 c a0.toNatClampNeg) ≤ (6 : Int32)) (s1 := (29, [some (.inr (.inr (some (7, c)))), some (.inl a0), none], [], mem E mu2 la3)) (s2 := (25, [some (.inr (.inr (some (7, c)))), some (.inl a0), none], [], mem E mu2 la3)) rfl rfl rfl rfl (fun hc => ?_) (fun hc => ?_)
        · have h := h.1 hc
          dsimp only
          refine Ev.steps 2 (ip' := 31) (ls' := [some (.inr (.inr (some (7, c)))), some (.inl a0), some (.inl (0 : Int32))]) (st' := []) (M' := mem E mu2 la3) rfl ?_
          exact h
        · have h := h.2 hc
          dsimp only
          refine Ev.steps 2 (ip' := 27) (ls' := [some (.inr (.inr (some (7, c)))), some (.inl a0), none]) (st' := [.inl (5 : Int32), .inr (.inr (some (7, c)))]) (M' := mem E mu2 la3) rfl ?_
          refine Ev.ci (J := mi_132) (as := [.inr (.inr (some (7, c))), .inl (5 : Int32)]) (rest := []) rfl rfl rfl (Nat.le_of_ble_eq_true rfl) h (fun x4 mu5 la6 h => ?_)
          exact Ev.ret rfl rfl ⟨_, _, _, rfl, rfl, h⟩
      · have h := h.2 hc
        dsimp only
        refine Ev.steps 2 (ip' := 17) (ls' := [some (.inr (.inr (some (7, c)))), some (.inl a0), none]) (st' := [.inl (1 : Int32), .inr (.inr (some (7, c)))]) (M' := mem E mu2 la3) rfl ?_
        refine Ev.ci (J := mi_132) (as := [.inr (.inr (some (7, c))), .inl (1 : Int32)]) (rest := []) rfl rfl rfl (Nat.le_of_ble_eq_true rfl) h (fun x7 mu8 la9 h => ?_)
        exact Ev.ret rfl rfl ⟨_, _, _, rfl, rfl, h⟩
    · have h := h.2 hc
      dsimp only
      refine Ev.steps 1 (ip' := 9) (ls' := [some (.inr (.inr (some (7, c)))), some (.inl a0), none]) (st' := [.inl (-4 : Int32)]) (M' := mem E mu2 la3) rfl ?_
      exact Ev.ret rfl rfl ⟨_, _, _, rfl, rfl, h⟩
  · have h := h.2 hc
    dsimp only
    refine Ev.steps 1 (ip' := 4) (ls' := [some (.inr (.inr (some (7, c)))), some (.inl a0), none]) (st' := [.inl (-1 : Int32)]) (M' := mem E mu2 la3) rfl ?_
    exact Ev.ret rfl rfl ⟨_, _, _, rfl, rfl, h⟩
set_option maxRecDepth 100000 in
theorem vc_X7_makes_31 {E : mEv} {d : Nat}  (v0 : Nat) (v1 : Int32) (v2 : Int32) {mu : fMu} {la : fLa} {Q : Int32 → fMu → fLa → Prop} (h : vp_in v1 6 ∧ (((mu 29 v0 v1.toNatClampNeg) ≤ v2 → (FnV E d mi_186 [.inr (.inr (some (7, v0)))] mu la (fun mu11 la12 => Ev E (d + 1) mi_194 58 [some (.inr (.inr (some (7, v0)))), some (.inl v1), some (.inl (0 : Int32))] [] (mem E mu11 la12) (qI E Q)))) ∧ (¬ ((mu 29 v0 v1.toNatClampNeg) ≤ v2) → (vp_in (((40 : Int32) * v1) + v2) 240 ∧ (FnI E d mi_155 [.inr (.inr (some (7, v0))), .inl (mu 30 v0 (((40 : Int32) * v1) + v2).toNatClampNeg)] mu la (fun x13 mu14 la15 => (¬ x13 = 0 → (Ev E (d + 1) mi_194 31 [some (.inr (.inr (some (7, v0)))), some (.inl v1), some (.inl (v2 + (1 : Int32)))] [] (mem E mu14 la15) (qI E Q))) ∧ (¬ (¬ x13 = 0) → (FnI E d mi_132 [.inr (.inr (some (7, v0))), .inl (3 : Int32)] mu14 la15 (fun x16 mu17 la18 => Q x16 mu17 la18))))))))) : Ev E (d + 1) mi_194 31 [some (.inr (.inr (some (7, v0)))), some (.inl v1), some (.inl v2)] [] (mem E mu la) (qI E Q) := by
  refine Ev.steps 4 (ip' := 35) (ls' := [some (.inr (.inr (some (7, v0)))), some (.inl v1), some (.inl v2)]) (st' := [.inl v1, .inr (.inr (some (29, v0))), .inl v2]) (M' := mem E mu la) rfl ?_
  refine Ev.ial rfl rfl (by decide) h.1 ?_
  have h := h.2
  refine Ev.br (c := (mu 29 v0 v1.toNatClampNeg) ≤ v2) (s1 := (54, [some (.inr (.inr (some (7, v0)))), some (.inl v1), some (.inl v2)], [], mem E mu la)) (s2 := (37, [some (.inr (.inr (some (7, v0)))), some (.inl v1), some (.inl v2)], [], mem E mu la)) rfl rfl rfl rfl (fun hc => ?_) (fun hc => ?_)
  · have h := h.1 hc
    dsimp only
    refine Ev.steps 1 (ip' := 55) (ls' := [some (.inr (.inr (some (7, v0)))), some (.inl v1), some (.inl v2)]) (st' := [.inr (.inr (some (7, v0)))]) (M' := mem E mu la) rfl ?_
    refine Ev.cv (J := mi_186) (as := [.inr (.inr (some (7, v0)))]) (rest := []) rfl rfl rfl (Nat.le_of_ble_eq_true rfl) h (fun mu11 la12 h => ?_)
    refine Ev.steps 2 (ip' := 58) (ls' := [some (.inr (.inr (some (7, v0)))), some (.inl v1), some (.inl (0 : Int32))]) (st' := []) (M' := mem E mu11 la12) rfl ?_
    exact h
  · have h := h.2 hc
    dsimp only
    refine Ev.steps 8 (ip' := 45) (ls' := [some (.inr (.inr (some (7, v0)))), some (.inl v1), some (.inl v2)]) (st' := [.inl (((40 : Int32) * v1) + v2), .inr (.inr (some (30, v0))), .inr (.inr (some (7, v0)))]) (M' := mem E mu la) rfl ?_
    refine Ev.ial rfl rfl (by decide) h.1 ?_
    have h := h.2
    refine Ev.ci (J := mi_155) (as := [.inr (.inr (some (7, v0))), .inl (mu 30 v0 (((40 : Int32) * v1) + v2).toNatClampNeg)]) (rest := []) rfl rfl rfl (Nat.le_of_ble_eq_true rfl) h (fun x13 mu14 la15 h => ?_)
    refine Ev.br (c := ¬ x13 = 0) (s1 := (52, [some (.inr (.inr (some (7, v0)))), some (.inl v1), some (.inl v2)], [], mem E mu14 la15)) (s2 := (48, [some (.inr (.inr (some (7, v0)))), some (.inl v1), some (.inl v2)], [], mem E mu14 la15)) rfl rfl rfl rfl (fun hc => ?_) (fun hc => ?_)
    · have h := h.1 hc
      dsimp only
      refine Ev.steps 2 (ip' := 31) (ls' := [some (.inr (.inr (some (7, v0)))), some (.inl v1), some (.inl (v2 + (1 : Int32)))]) (st' := []) (M' := mem E mu14 la15) rfl ?_
      exact h
    · have h := h.2 hc
      dsimp only
      refine Ev.steps 2 (ip' := 50) (ls' := [some (.inr (.inr (some (7, v0)))), some (.inl v1), some (.inl v2)]) (st' := [.inl (3 : Int32), .inr (.inr (some (7, v0)))]) (M' := mem E mu14 la15) rfl ?_
      refine Ev.ci (J := mi_132) (as := [.inr (.inr (some (7, v0))), .inl (3 : Int32)]) (rest := []) rfl rfl rfl (Nat.le_of_ble_eq_true rfl) h (fun x16 mu17 la18 h => ?_)
      exact Ev.ret rfl rfl ⟨_, _, _, rfl, rfl, h⟩
set_option maxRecDepth 100000 in
theorem vc_X7_makes_58 {E : mEv} {d : Nat}  (v0 : Nat) (v1 : Int32) (v2 : Int32) {mu : fMu} {la : fLa} {Q : Int32 → fMu → fLa → Prop} (h : vp_in v1 6 ∧ (((mu 29 v0 v1.toNatClampNeg) ≤ v2 → (vp_in (6 : Int32) 9 ∧ (FnI E d mi_163 [.inr (.inr (some (7, v0))), .inr (.inr (some (39, v0)))] mu la (fun x19 mu20 la21 => FnI E d mi_131 [.inl x19] mu20 la21 (fun x22 mu23 la24 => FnI E d mi_134 [.inr (.inr (some (7, v0))), .inl (mu 39 v0 (6 : Int32).toNatClampNeg), .inl x22] mu23 la24 (fun x25 mu26 la27 => Q x25 mu26 la27)))))) ∧ (¬ ((mu 29 v0 v1.toNatClampNeg) ≤ v2) → (vp_in (((40 : Int32) * v1) + v2) 240 ∧ (FnI E d mi_162 [.inr (.inr (some (39, v0))), .inl (mu 30 v0 (((40 : Int32) * v1) + v2).toNatClampNeg)] mu la (fun x28 mu29 la30 => (¬ x28 = 0 → (vp_in (6 : Int32) 9 ∧ (FnI E d mi_163 [.inr (.inr (some (7, v0))), .inr (.inr (some (39, v0)))] mu29 la30 (fun x31 mu32 la33 => FnI E d mi_131 [.inl x31] mu32 la33 (fun x34 mu35 la36 => FnI E d mi_134 [.inr (.inr (some (7, v0))), .inl (mu29 39 v0 (6 : Int32).toNatClampNeg), .inl x34] mu35 la36 (fun x37 mu38 la39 => Q x37 mu38 la39)))))) ∧ (¬ (¬ x28 = 0) → (vp_in (((40 : Int32) * v1) + v2) 240 ∧ (FnV E d mi_161 [.inr (.inr (some (7, v0))), .inr (.inr (some (39, v0))), .inl (mu29 30 v0 (((40 : Int32) * v1) + v2).toNatClampNeg), .inl (mu29 7 v0 5)] mu29 la30 (fun mu41 la42 => Ev E (d + 1) mi_194 58 [some (.inr (.inr (some (7, v0)))), some (.inl v1), some (.inl (v2 + (1 : Int32)))] [] (mem E mu41 la42) (qI E Q))))))))))) : Ev E (d + 1) mi_194 58 [some (.inr (.inr (some (7, v0)))), some (.inl v1), some (.inl v2)] [] (mem E mu la) (qI E Q) := by
  refine Ev.steps 4 (ip' := 62) (ls' := [some (.inr (.inr (some (7, v0)))), some (.inl v1), some (.inl v2)]) (st' := [.inl v1, .inr (.inr (some (29, v0))), .inl v2]) (M' := mem E mu la) rfl ?_
  refine Ev.ial rfl rfl (by decide) h.1 ?_
  have h := h.2
  refine Ev.br (c := (mu 29 v0 v1.toNatClampNeg) ≤ v2) (s1 := (92, [some (.inr (.inr (some (7, v0)))), some (.inl v1), some (.inl v2)], [], mem E mu la)) (s2 := (64, [some (.inr (.inr (some (7, v0)))), some (.inl v1), some (.inl v2)], [], mem E mu la)) rfl rfl rfl rfl (fun hc => ?_) (fun hc => ?_)
  · have h := h.1 hc
    dsimp only
    refine Ev.steps 4 (ip' := 96) (ls' := [some (.inr (.inr (some (7, v0)))), some (.inl v1), some (.inl v2)]) (st' := [.inl (6 : Int32), .inr (.inr (some (39, v0))), .inr (.inr (some (7, v0)))]) (M' := mem E mu la) rfl ?_
    refine Ev.ial rfl rfl (by decide) h.1 ?_
    have h := h.2
    refine Ev.steps 3 (ip' := 100) (ls' := [some (.inr (.inr (some (7, v0)))), some (.inl v1), some (.inl v2)]) (st' := [.inr (.inr (some (39, v0))), .inr (.inr (some (7, v0))), .inl (mu 39 v0 (6 : Int32).toNatClampNeg), .inr (.inr (some (7, v0)))]) (M' := mem E mu la) rfl ?_
    refine Ev.ci (J := mi_163) (as := [.inr (.inr (some (7, v0))), .inr (.inr (some (39, v0)))]) (rest := [.inl (mu 39 v0 (6 : Int32).toNatClampNeg), .inr (.inr (some (7, v0)))]) rfl rfl rfl (Nat.le_of_ble_eq_true rfl) h (fun x19 mu20 la21 h => ?_)
    refine Ev.ci (J := mi_131) (as := [.inl x19]) (rest := [.inl (mu 39 v0 (6 : Int32).toNatClampNeg), .inr (.inr (some (7, v0)))]) rfl rfl rfl (Nat.le_of_ble_eq_true rfl) h (fun x22 mu23 la24 h => ?_)
    refine Ev.ci (J := mi_134) (as := [.inr (.inr (some (7, v0))), .inl (mu 39 v0 (6 : Int32).toNatClampNeg), .inl x22]) (rest := []) rfl rfl rfl (Nat.le_of_ble_eq_true rfl) h (fun x25 mu26 la27 h => ?_)
    exact Ev.ret rfl rfl ⟨_, _, _, rfl, rfl, h⟩
  · have h := h.2 hc
    dsimp only
    refine Ev.steps 9 (ip' := 73) (ls' := [some (.inr (.inr (some (7, v0)))), some (.inl v1), some (.inl v2)]) (st' := [.inl (((40 : Int32) * v1) + v2), .inr (.inr (some (30, v0))), .inr (.inr (some (39, v0)))]) (M' := mem E mu la) rfl ?_
    refine Ev.ial rfl rfl (by decide) h.1 ?_
    have h := h.2
    refine Ev.ci (J := mi_162) (as := [.inr (.inr (some (39, v0))), .inl (mu 30 v0 (((40 : Int32) * v1) + v2).toNatClampNeg)]) (rest := []) rfl rfl rfl (Nat.le_of_ble_eq_true rfl) h (fun x28 mu29 la30 h => ?_)
    refine Ev.br (c := ¬ x28 = 0) (s1 := (92, [some (.inr (.inr (some (7, v0)))), some (.inl v1), some (.inl v2)], [], mem E mu29 la30)) (s2 := (76, [some (.inr (.inr (some (7, v0)))), some (.inl v1), some (.inl v2)], [], mem E mu29 la30)) rfl rfl rfl rfl (fun hc => ?_) (fun hc => ?_)
    · have h := h.1 hc
      dsimp only
      refine Ev.steps 4 (ip' := 96) (ls' := [some (.inr (.inr (some (7, v0)))), some (.inl v1), some (.inl v2)]) (st' := [.inl (6 : Int32), .inr (.inr (some (39, v0))), .inr (.inr (some (7, v0)))]) (M' := mem E mu29 la30) rfl ?_
      refine Ev.ial rfl rfl (by decide) h.1 ?_
      have h := h.2
      refine Ev.steps 3 (ip' := 100) (ls' := [some (.inr (.inr (some (7, v0)))), some (.inl v1), some (.inl v2)]) (st' := [.inr (.inr (some (39, v0))), .inr (.inr (some (7, v0))), .inl (mu29 39 v0 (6 : Int32).toNatClampNeg), .inr (.inr (some (7, v0)))]) (M' := mem E mu29 la30) rfl ?_
      refine Ev.ci (J := mi_163) (as := [.inr (.inr (some (7, v0))), .inr (.inr (some (39, v0)))]) (rest := [.inl (mu29 39 v0 (6 : Int32).toNatClampNeg), .inr (.inr (some (7, v0)))]) rfl rfl rfl (Nat.le_of_ble_eq_true rfl) h (fun x31 mu32 la33 h => ?_)
      refine Ev.ci (J := mi_131) (as := [.inl x31]) (rest := [.inl (mu29 39 v0 (6 : Int32).toNatClampNeg), .inr (.inr (some (7, v0)))]) rfl rfl rfl (Nat.le_of_ble_eq_true rfl) h (fun x34 mu35 la36 h => ?_)
      refine Ev.ci (J := mi_134) (as := [.inr (.inr (some (7, v0))), .inl (mu29 39 v0 (6 : Int32).toNatClampNeg), .inl x34]) (rest := []) rfl rfl rfl (Nat.le_of_ble_eq_true rfl) h (fun x37 mu38 la39 h => ?_)
      exact Ev.ret rfl rfl ⟨_, _, _, rfl, rfl, h⟩
    · have h := h.2 hc
      dsimp only
      refine Ev.steps 10 (ip' := 86) (ls' := [some (.inr (.inr (some (7, v0)))), some (.inl v1), some (.inl v2)]) (st' := [.inl (((40 : Int32) * v1) + v2), .inr (.inr (some (30, v0))), .inr (.inr (some (39, v0))), .inr (.inr (some (7, v0)))]) (M' := mem E mu29 la30) rfl ?_
      refine Ev.ial rfl rfl (by decide) h.1 ?_
      have h := h.2
      refine Ev.steps 2 (ip' := 89) (ls' := [some (.inr (.inr (some (7, v0)))), some (.inl v1), some (.inl v2)]) (st' := [.inl (mu29 7 v0 5), .inl (mu29 30 v0 (((40 : Int32) * v1) + v2).toNatClampNeg), .inr (.inr (some (39, v0))), .inr (.inr (some (7, v0)))]) (M' := mem E mu29 la30) rfl ?_
      refine Ev.cv (J := mi_161) (as := [.inr (.inr (some (7, v0))), .inr (.inr (some (39, v0))), .inl (mu29 30 v0 (((40 : Int32) * v1) + v2).toNatClampNeg), .inl (mu29 7 v0 5)]) (rest := []) rfl rfl rfl (Nat.le_of_ble_eq_true rfl) h (fun mu41 la42 h => ?_)
      refine Ev.steps 2 (ip' := 58) (ls' := [some (.inr (.inr (some (7, v0)))), some (.inl v1), some (.inl (v2 + (1 : Int32)))]) (st' := []) (M' := mem E mu41 la42) rfl ?_
      exact h
set_option maxRecDepth 100000 in
/-- AnnCupsModel.done(II)I -/
theorem vc_X7_done {E : mEv} {d : Nat} {c : Nat} (a0 : Int32) (a1 : Int32) {mu : fMu} {la : fLa} {Q : Int32 → fMu → fLa → Prop} (h : FnI E d mi_129 [.inr (.inl a0.toInt64), .inr (.inl (0 : Int64)), .inr (.inl (99 : Int64))] mu la (fun x1 mu2 la3 => (x1 = 0 → (Q (-1 : Int32) mu2 la3)) ∧ (¬ (x1 = 0) → (FnI E d mi_135 [.inl a1] mu2 la3 (fun x4 mu5 la6 => (¬ x4 = 0 → ((¬ (mu5 7 c 4) = 0 → (vp_in (6 : Int32) 9 ∧ (((mu5 38 c (6 : Int32).toNatClampNeg) ≤ a0 → (FnV E d mi_174 [.inr (.inr (some (38, c))), .inl (0 : Int32), .inr (.inr (some (47, c))), .inl (0 : Int32), .inl (9 : Int32)] mu5 la6 (fun mu8 la9 => vp_in (0 : Int32) 7 ∧ ∀ mu10 : fMu, mu10 = up3 mu8 48 c (0 : Int32).toNatClampNeg (-1 : Int32) → (Ev E (d + 1) mi_195 41 [some (.inr (.inr (some (7, c)))), some (.inl a0), some (.inl a1), some (.inl (0 : Int32)), some (.inl (0 : Int32)), none, none] [] (mem E mu10 la9) (qI E Q))))) ∧ (¬ ((mu5 38 c (6 : Int32).toNatClampNeg) ≤ a0) → (Q (-6 : Int32) mu5 la6))))) ∧ (¬ (¬ (mu5 7 c 4) = 0) → (Q (-4 : Int32) mu5 la6)))) ∧ (¬ (¬ x4 = 0) → (Q (-1 : Int32) mu5 la6))))))) : FnI E (d + 1) mi_195 [.inr (.inr (some (7, c))), .inl a0, .inl a1] mu la Q := by
  unfold FnI
  show Ev E (d + 1) mi_195 0 [some (.inr (.inr (some (7, c)))), some (.inl a0), some (.inl a1), none, none, none, none] [] (mem E mu la) (qI E Q)
  refine Ev.steps 4 (ip' := 4) (ls' := [some (.inr (.inr (some (7, c)))), some (.inl a0), some (.inl a1), none, none, none, none]) (st' := [.inr (.inl (99 : Int64)), .inr (.inl (0 : Int64)), .inr (.inl a0.toInt64)]) (M' := mem E mu la) rfl ?_
  refine Ev.ci (J := mi_129) (as := [.inr (.inl a0.toInt64), .inr (.inl (0 : Int64)), .inr (.inl (99 : Int64))]) (rest := []) rfl rfl rfl (Nat.le_of_ble_eq_true rfl) h (fun x1 mu2 la3 h => ?_)
  refine Ev.br (c := x1 = 0) (s1 := (9, [some (.inr (.inr (some (7, c)))), some (.inl a0), some (.inl a1), none, none, none, none], [], mem E mu2 la3)) (s2 := (6, [some (.inr (.inr (some (7, c)))), some (.inl a0), some (.inl a1), none, none, none, none], [], mem E mu2 la3)) rfl rfl rfl rfl (fun hc => ?_) (fun hc => ?_)
  · have h := h.1 hc
    dsimp only
    refine Ev.steps 1 (ip' := 10) (ls' := [some (.inr (.inr (some (7, c)))), some (.inl a0), some (.inl a1), none, none, none, none]) (st' := [.inl (-1 : Int32)]) (M' := mem E mu2 la3) rfl ?_
    exact Ev.ret rfl rfl ⟨_, _, _, rfl, rfl, h⟩
  · have h := h.2 hc
    dsimp only
    refine Ev.steps 1 (ip' := 7) (ls' := [some (.inr (.inr (some (7, c)))), some (.inl a0), some (.inl a1), none, none, none, none]) (st' := [.inl a1]) (M' := mem E mu2 la3) rfl ?_
    refine Ev.ci (J := mi_135) (as := [.inl a1]) (rest := []) rfl rfl rfl (Nat.le_of_ble_eq_true rfl) h (fun x4 mu5 la6 h => ?_)
    refine Ev.br (c := ¬ x4 = 0) (s1 := (11, [some (.inr (.inr (some (7, c)))), some (.inl a0), some (.inl a1), none, none, none, none], [], mem E mu5 la6)) (s2 := (9, [some (.inr (.inr (some (7, c)))), some (.inl a0), some (.inl a1), none, none, none, none], [], mem E mu5 la6)) rfl rfl rfl rfl (fun hc => ?_) (fun hc => ?_)
    · have h := h.1 hc
      dsimp only
      refine Ev.steps 2 (ip' := 13) (ls' := [some (.inr (.inr (some (7, c)))), some (.inl a0), some (.inl a1), none, none, none, none]) (st' := [.inl (mu5 7 c 4)]) (M' := mem E mu5 la6) rfl ?_
      refine Ev.br (c := ¬ (mu5 7 c 4) = 0) (s1 := (16, [some (.inr (.inr (some (7, c)))), some (.inl a0), some (.inl a1), none, none, none, none], [], mem E mu5 la6)) (s2 := (14, [some (.inr (.inr (some (7, c)))), some (.inl a0), some (.inl a1), none, none, none, none], [], mem E mu5 la6)) rfl rfl rfl rfl (fun hc => ?_) (fun hc => ?_)
      · have h := h.1 hc
        dsimp only
        refine Ev.steps 3 (ip' := 19) (ls' := [some (.inr (.inr (some (7, c)))), some (.inl a0), some (.inl a1), none, none, none, none]) (st' := [.inl (6 : Int32), .inr (.inr (some (38, c)))]) (M' := mem E mu5 la6) rfl ?_
        refine Ev.ial rfl rfl (by decide) h.1 ?_
        have h := h.2
        refine Ev.steps 1 (ip' := 21) (ls' := [some (.inr (.inr (some (7, c)))), some (.inl a0), some (.inl a1), none, none, none, none]) (st' := [.inl a0, .inl (mu5 38 c (6 : Int32).toNatClampNeg)]) (M' := mem E mu5 la6) rfl ?_
        refine Ev.br (c := (mu5 38 c (6 : Int32).toNatClampNeg) ≤ a0) (s1 := (24, [some (.inr (.inr (some (7, c)))), some (.inl a0), some (.inl a1), none, none, none, none], [], mem E mu5 la6)) (s2 := (22, [some (.inr (.inr (some (7, c)))), some (.inl a0), some (.inl a1), none, none, none, none], [], mem E mu5 la6)) rfl rfl rfl rfl (fun hc => ?_) (fun hc => ?_)
        · have h := h.1 hc
          dsimp only
          refine Ev.steps 11 (ip' := 35) (ls' := [some (.inr (.inr (some (7, c)))), some (.inl a0), some (.inl a1), some (.inl (0 : Int32)), some (.inl (0 : Int32)), none, none]) (st' := [.inl (9 : Int32), .inl (0 : Int32), .inr (.inr (some (47, c))), .inl (0 : Int32), .inr (.inr (some (38, c)))]) (M' := mem E mu5 la6) rfl ?_
          refine Ev.cv (J := mi_174) (as := [.inr (.inr (some (38, c))), .inl (0 : Int32), .inr (.inr (some (47, c))), .inl (0 : Int32), .inl (9 : Int32)]) (rest := []) rfl rfl rfl (Nat.le_of_ble_eq_true rfl) h (fun mu8 la9 h => ?_)
          refine Ev.steps 4 (ip' := 40) (ls' := [some (.inr (.inr (some (7, c)))), some (.inl a0), some (.inl a1), some (.inl (0 : Int32)), some (.inl (0 : Int32)), none, none]) (st' := [.inl (-1 : Int32), .inl (0 : Int32), .inr (.inr (some (48, c)))]) (M' := mem E mu8 la9) rfl ?_
          refine Ev.ias rfl rfl h.1 ?_
          have h := h.2
          generalize hgmu10 : up3 mu8 48 c (0 : Int32).toNatClampNeg (-1 : Int32) = mu10
          have h := h mu10 hgmu10.symm
          exact h
        · have h := h.2 hc
          dsimp only
          refine Ev.steps 1 (ip' := 23) (ls' := [some (.inr (.inr (some (7, c)))), some (.inl a0), some (.inl a1), none, none, none, none]) (st' := [.inl (-6 : Int32)]) (M' := mem E mu5 la6) rfl ?_
          exact Ev.ret rfl rfl ⟨_, _, _, rfl, rfl, h⟩
      · have h := h.2 hc
        dsimp only
        refine Ev.steps 1 (ip' := 15) (ls' := [some (.inr (.inr (some (7, c)))), some (.inl a0), some (.inl a1), none, none, none, none]) (st' := [.inl (-4 : Int32)]) (M' := mem E mu5 la6) rfl ?_
        exact Ev.ret rfl rfl ⟨_, _, _, rfl, rfl, h⟩
    · have h := h.2 hc
      dsimp only
      refine Ev.steps 1 (ip' := 10) (ls' := [some (.inr (.inr (some (7, c)))), some (.inl a0), some (.inl a1), none, none, none, none]) (st' := [.inl (-1 : Int32)]) (M' := mem E mu5 la6) rfl ?_
      exact Ev.ret rfl rfl ⟨_, _, _, rfl, rfl, h⟩
set_option maxRecDepth 100000 in
theorem vc_X7_done_41 {E : mEv} {d : Nat}  (v0 : Nat) (v1 : Int32) (v2 : Int32) (v3 : Int32) (v4 : Int32) {mu : fMu} {la : fLa} {Q : Int32 → fMu → fLa → Prop} (h : (v4 < 0 → (FnV E d mi_174 [.inr (.inr (some (46, v0))), .inl (0 : Int32), .inr (.inr (some (30, v0))), .inl ((40 : Int32) * v2), .inl v3] mu la (fun mu12 la13 => vp_in v2 6 ∧ ∀ mu14 : fMu, mu14 = up3 mu12 29 v0 v2.toNatClampNeg v3 → (Q v3 mu14 la13)))) ∧ (¬ (v4 < 0) → (vp_in v4 7 ∧ (vp_in v4 7 ∧ ∀ mu15 : fMu, mu15 = up3 mu 48 v0 v4.toNatClampNeg ((mu 48 v0 v4.toNatClampNeg) + (1 : Int32)) → (vp_in v4 7 ∧ (((mu15 48 v0 v4.toNatClampNeg) < (mu15 7 v0 4) → (FnV E d mi_174 [.inr (.inr (some (47, v0))), .inl ((9 : Int32) * v4), .inr (.inr (some (39, v0))), .inl (0 : Int32), .inl (9 : Int32)] mu15 la (fun mu17 la18 => FnI E d mi_162 [.inr (.inr (some (39, v0))), .inl (mu15 48 v0 v4.toNatClampNeg)] mu17 la18 (fun x19 mu20 la21 => (¬ x19 = 0 → (((0 : Int32) = 0 → (((0 : Int32) = 0 → (Ev E (d + 1) mi_195 41 [some (.inr (.inr (some (7, v0)))), some (.inl v1), some (.inl v2), some (.inl v3), some (.inl v4), none, none] [] (mem E mu20 la21) (qI E Q))) ∧ (¬ ((0 : Int32) = 0) → (vp_in (6 : Int32) 9 ∧ ((v1 < (mu20 39 v0 (6 : Int32).toNatClampNeg) → (Ev E (d + 1) mi_195 41 [some (.inr (.inr (some (7, v0)))), some (.inl v1), some (.inl v2), some (.inl v3), some (.inl v4), none, none] [] (mem E mu20 la21) (qI E Q))) ∧ (¬ (v1 < (mu20 39 v0 (6 : Int32).toNatClampNeg)) → (FnV E d mi_174 [.inr (.inr (some (39, v0))), .inl (0 : Int32), .inr (.inr (some (47, v0))), .inl ((9 : Int32) * (v4 + (1 : Int32))), .inl (9 : Int32)] mu20 la21 (fun mu23 la24 => vp_in (v4 + (1 : Int32)) 7 ∧ ∀ mu25 : fMu, mu25 = up3 mu23 48 v0 (v4 + (1 : Int32)).toNatClampNeg (-1 : Int32) → (((v4 + (1 : Int32)) ≤ v3 → (Ev E (d + 1) mi_195 41 [some (.inr (.inr (some (7, v0)))), some (.inl v1), some (.inl v2), some (.inl v3), some (.inl (v4 + (1 : Int32))), none, none] [] (mem E mu25 la24) (qI E Q))) ∧ (¬ ((v4 + (1 : Int32)) ≤ v3) → (FnV E d mi_174 [.inr (.inr (some (48, v0))), .inl (0 : Int32), .inr (.inr (some (46, v0))), .inl (0 : Int32), .inl (v4 + (1 : Int32))] mu25 la24 (fun mu27 la28 => Ev E (d + 1) mi_195 41 [some (.inr (.inr (some (7, v0)))), some (.inl v1), some (.inl v2), some (.inl (v4 + (1 : Int32))), some (.inl (v4 + (1 : Int32))), none, none] [] (mem E mu27 la28) (qI E Q))))))))))))) ∧ (¬ ((0 : Int32) = 0) → (FnV E d mi_161 [.inr (.inr (some (7, v0))), .inr (.inr (some (39, v0))), .inl (mu15 48 v0 v4.toNatClampNeg), .inl (mu20 7 v0 5)] mu20 la21 (fun mu30 la31 => ((0 : Int32) = 0 → (Ev E (d + 1) mi_195 41 [some (.inr (.inr (some (7, v0)))), some (.inl v1), some (.inl v2), some (.inl v3), some (.inl v4), none, none] [] (mem E mu30 la31) (qI E Q))) ∧ (¬ ((0 : Int32) = 0) → (vp_in (6 : Int32) 9 ∧ ((v1 < (mu30 39 v0 (6 : Int32).toNatClampNeg) → (Ev E (d + 1) mi_195 41 [some (.inr (.inr (some (7, v0)))), some (.inl v1), some (.inl v2), some (.inl v3), some (.inl v4), none, none] [] (mem E mu30 la31) (qI E Q))) ∧ (¬ (v1 < (mu30 39 v0 (6 : Int32).toNatClampNeg)) → (FnV E d mi_174 [.inr (.inr (some (39, v0))), .inl (0 : Int32), .inr (.inr (some (47, v0))), .inl ((9 : Int32) * (v4 + (1 : Int32))), .inl (9 : Int32)] mu30 la31 (fun mu33 la34 => vp_in (v4 + (1 : Int32)) 7 ∧ ∀ mu35 : fMu, mu35 = up3 mu33 48 v0 (v4 + (1 : Int32)).toNatClampNeg (-1 : Int32) → (((v4 + (1 : Int32)) ≤ v3 → (Ev E (d + 1) mi_195 41 [some (.inr (.inr (some (7, v0)))), some (.inl v1), some (.inl v2), some (.inl v3), some (.inl (v4 + (1 : Int32))), none, none] [] (mem E mu35 la34) (qI E Q))) ∧ (¬ ((v4 + (1 : Int32)) ≤ v3) → (FnV E d mi_174 [.inr (.inr (some (48, v0))), .inl (0 : Int32), .inr (.inr (some (46, v0))), .inl (0 : Int32), .inl (v4 + (1 : Int32))] mu35 la34 (fun mu37 la38 => Ev E (d + 1) mi_195 41 [some (.inr (.inr (some (7, v0)))), some (.inl v1), some (.inl v2), some (.inl (v4 + (1 : Int32))), some (.inl (v4 + (1 : Int32))), none, none] [] (mem E mu37 la38) (qI E Q)))))))))))))))) ∧ (¬ (¬ x19 = 0) → (((1 : Int32) = 0 → (((1 : Int32) = 0 → (Ev E (d + 1) mi_195 41 [some (.inr (.inr (some (7, v0)))), some (.inl v1), some (.inl v2), some (.inl v3), some (.inl v4), none, none] [] (mem E mu20 la21) (qI E Q))) ∧ (¬ ((1 : Int32) = 0) → (vp_in (6 : Int32) 9 ∧ ((v1 < (mu20 39 v0 (6 : Int32).toNatClampNeg) → (Ev E (d + 1) mi_195 41 [some (.inr (.inr (some (7, v0)))), some (.inl v1), some (.inl v2), some (.inl v3), some (.inl v4), none, none] [] (mem E mu20 la21) (qI E Q))) ∧ (¬ (v1 < (mu20 39 v0 (6 : Int32).toNatClampNeg)) → (FnV E d mi_174 [.inr (.inr (some (39, v0))), .inl (0 : Int32), .inr (.inr (some (47, v0))), .inl ((9 : Int32) * (v4 + (1 : Int32))), .inl (9 : Int32)] mu20 la21 (fun mu40 la41 => vp_in (v4 + (1 : Int32)) 7 ∧ ∀ mu42 : fMu, mu42 = up3 mu40 48 v0 (v4 + (1 : Int32)).toNatClampNeg (-1 : Int32) → (((v4 + (1 : Int32)) ≤ v3 → (Ev E (d + 1) mi_195 41 [some (.inr (.inr (some (7, v0)))), some (.inl v1), some (.inl v2), some (.inl v3), some (.inl (v4 + (1 : Int32))), none, none] [] (mem E mu42 la41) (qI E Q))) ∧ (¬ ((v4 + (1 : Int32)) ≤ v3) → (FnV E d mi_174 [.inr (.inr (some (48, v0))), .inl (0 : Int32), .inr (.inr (some (46, v0))), .inl (0 : Int32), .inl (v4 + (1 : Int32))] mu42 la41 (fun mu44 la45 => Ev E (d + 1) mi_195 41 [some (.inr (.inr (some (7, v0)))), some (.inl v1), some (.inl v2), some (.inl (v4 + (1 : Int32))), some (.inl (v4 + (1 : Int32))), none, none] [] (mem E mu44 la45) (qI E Q))))))))))))) ∧ (¬ ((1 : Int32) = 0) → (FnV E d mi_161 [.inr (.inr (some (7, v0))), .inr (.inr (some (39, v0))), .inl (mu15 48 v0 v4.toNatClampNeg), .inl (mu20 7 v0 5)] mu20 la21 (fun mu47 la48 => ((1 : Int32) = 0 → (Ev E (d + 1) mi_195 41 [some (.inr (.inr (some (7, v0)))), some (.inl v1), some (.inl v2), some (.inl v3), some (.inl v4), none, none] [] (mem E mu47 la48) (qI E Q))) ∧ (¬ ((1 : Int32) = 0) → (vp_in (6 : Int32) 9 ∧ ((v1 < (mu47 39 v0 (6 : Int32).toNatClampNeg) → (Ev E (d + 1) mi_195 41 [some (.inr (.inr (some (7, v0)))), some (.inl v1), some (.inl v2), some (.inl v3), some (.inl v4), none, none] [] (mem E mu47 la48) (qI E Q))) ∧ (¬ (v1 < (mu47 39 v0 (6 : Int32).toNatClampNeg)) → (FnV E d mi_174 [.inr (.inr (some (39, v0))), .inl (0 : Int32), .inr (.inr (some (47, v0))), .inl ((9 : Int32) * (v4 + (1 : Int32))), .inl (9 : Int32)] mu47 la48 (fun mu50 la51 => vp_in (v4 + (1 : Int32)) 7 ∧ ∀ mu52 : fMu, mu52 = up3 mu50 48 v0 (v4 + (1 : Int32)).toNatClampNeg (-1 : Int32) → (((v4 + (1 : Int32)) ≤ v3 → (Ev E (d + 1) mi_195 41 [some (.inr (.inr (some (7, v0)))), some (.inl v1), some (.inl v2), some (.inl v3), some (.inl (v4 + (1 : Int32))), none, none] [] (mem E mu52 la51) (qI E Q))) ∧ (¬ ((v4 + (1 : Int32)) ≤ v3) → (FnV E d mi_174 [.inr (.inr (some (48, v0))), .inl (0 : Int32), .inr (.inr (some (46, v0))), .inl (0 : Int32), .inl (v4 + (1 : Int32))] mu52 la51 (fun mu54 la55 => Ev E (d + 1) mi_195 41 [some (.inr (.inr (some (7, v0)))), some (.inl v1), some (.inl v2), some (.inl (v4 + (1 : Int32))), some (.inl (v4 + (1 : Int32))), none, none] [] (mem E mu54 la55) (qI E Q)))))))))))))))))))) ∧ (¬ ((mu15 48 v0 v4.toNatClampNeg) < (mu15 7 v0 4)) → (Ev E (d + 1) mi_195 41 [some (.inr (.inr (some (7, v0)))), some (.inl v1), some (.inl v2), some (.inl v3), some (.inl (v4 + (-1 : Int32))), none, none] [] (mem E mu15 la) (qI E Q))))))))) : Ev E (d + 1) mi_195 41 [some (.inr (.inr (some (7, v0)))), some (.inl v1), some (.inl v2), some (.inl v3), some (.inl v4), none, none] [] (mem E mu la) (qI E Q) := by
  refine Ev.steps 1 (ip' := 42) (ls' := [some (.inr (.inr (some (7, v0)))), some (.inl v1), some (.inl v2), some (.inl v3), some (.inl v4), none, none]) (st' := [.inl v4]) (M' := mem E mu la) rfl ?_
  refine Ev.br (c := v4 < 0) (s1 := (128, [some (.inr (.inr (some (7, v0)))), some (.inl v1), some (.inl v2), some (.inl v3), some (.inl v4), none, none], [], mem E mu la)) (s2 := (43, [some (.inr (.inr (some (7, v0)))), some (.inl v1), some (.inl v2), some (.inl v3), some (.inl v4), none, none], [], mem E mu la)) rfl rfl rfl rfl (fun hc => ?_) (fun hc => ?_)
  · have h := h.1 hc
    dsimp only
    refine Ev.steps 9 (ip' := 137) (ls' := [some (.inr (.inr (some (7, v0)))), some (.inl v1), some (.inl v2), some (.inl v3), some (.inl v4), none, none]) (st' := [.inl v3, .inl ((40 : Int32) * v2), .inr (.inr (some (30, v0))), .inl (0 : Int32), .inr (.inr (some (46, v0)))]) (M' := mem E mu la) rfl ?_
    refine Ev.cv (J := mi_174) (as := [.inr (.inr (some (46, v0))), .inl (0 : Int32), .inr (.inr (some (30, v0))), .inl ((40 : Int32) * v2), .inl v3]) (rest := []) rfl rfl rfl (Nat.le_of_ble_eq_true rfl) h (fun mu12 la13 h => ?_)
    refine Ev.steps 4 (ip' := 142) (ls' := [some (.inr (.inr (some (7, v0)))), some (.inl v1), some (.inl v2), some (.inl v3), some (.inl v4), none, none]) (st' := [.inl v3, .inl v2, .inr (.inr (some (29, v0)))]) (M' := mem E mu12 la13) rfl ?_
    refine Ev.ias rfl rfl h.1 ?_
    have h := h.2
    generalize hgmu14 : up3 mu12 29 v0 v2.toNatClampNeg v3 = mu14
    have h := h mu14 hgmu14.symm
    refine Ev.steps 1 (ip' := 144) (ls' := [some (.inr (.inr (some (7, v0)))), some (.inl v1), some (.inl v2), some (.inl v3), some (.inl v4), none, none]) (st' := [.inl v3]) (M' := mem E mu14 la13) rfl ?_
    exact Ev.ret rfl rfl ⟨_, _, _, rfl, rfl, h⟩
  · have h := h.2 hc
    dsimp only
    refine Ev.steps 4 (ip' := 47) (ls' := [some (.inr (.inr (some (7, v0)))), some (.inl v1), some (.inl v2), some (.inl v3), some (.inl v4), none, none]) (st' := [.inl v4, .inr (.inr (some (48, v0))), .inl v4, .inr (.inr (some (48, v0)))]) (M' := mem E mu la) rfl ?_
    refine Ev.ial rfl rfl (by decide) h.1 ?_
    have h := h.2
    refine Ev.steps 2 (ip' := 50) (ls' := [some (.inr (.inr (some (7, v0)))), some (.inl v1), some (.inl v2), some (.inl v3), some (.inl v4), none, none]) (st' := [.inl ((mu 48 v0 v4.toNatClampNeg) + (1 : Int32)), .inl v4, .inr (.inr (some (48, v0)))]) (M' := mem E mu la) rfl ?_
    refine Ev.ias rfl rfl h.1 ?_
    have h := h.2
    generalize hgmu15 : up3 mu 48 v0 v4.toNatClampNeg ((mu 48 v0 v4.toNatClampNeg) + (1 : Int32)) = mu15
    have h := h mu15 hgmu15.symm
    refine Ev.steps 3 (ip' := 54) (ls' := [some (.inr (.inr (some (7, v0)))), some (.inl v1), some (.inl v2), some (.inl v3), some (.inl v4), none, none]) (st' := [.inl v4, .inr (.inr (some (48, v0)))]) (M' := mem E mu15 la) rfl ?_
    refine Ev.ial rfl rfl (by decide) h.1 ?_
    have h := h.2
    refine Ev.steps 4 (ip' := 59) (ls' := [some (.inr (.inr (some (7, v0)))), some (.inl v1), some (.inl v2), some (.inl v3), some (.inl v4), some (.inl (mu15 48 v0 v4.toNatClampNeg)), none]) (st' := [.inl (mu15 7 v0 4), .inl (mu15 48 v0 v4.toNatClampNeg)]) (M' := mem E mu15 la) rfl ?_
    refine Ev.br (c := (mu15 48 v0 v4.toNatClampNeg) < (mu15 7 v0 4)) (s1 := (62, [some (.inr (.inr (some (7, v0)))), some (.inl v1), some (.inl v2), some (.inl v3), some (.inl v4), some (.inl (mu15 48 v0 v4.toNatClampNeg)), none], [], mem E mu15 la)) (s2 := (60, [some (.inr (.inr (some (7, v0)))), some (.inl v1), some (.inl v2), some (.inl v3), some (.inl v4), some (.inl (mu15 48 v0 v4.toNatClampNeg)), none], [], mem E mu15 la)) rfl rfl rfl rfl (fun hc => ?_) (fun hc => ?_)
    · have h := h.1 hc
      dsimp only
      refine Ev.steps 9 (ip' := 71) (ls' := [some (.inr (.inr (some (7, v0)))), some (.inl v1), some (.inl v2), some (.inl v3), some (.inl v4), some (.inl (mu15 48 v0 v4.toNatClampNeg)), none]) (st' := [.inl (9 : Int32), .inl (0 : Int32), .inr (.inr (some (39, v0))), .inl ((9 : Int32) * v4), .inr (.inr (some (47, v0)))]) (M' := mem E mu15 la) rfl ?_
      refine Ev.cv (J := mi_174) (as := [.inr (.inr (some (47, v0))), .inl ((9 : Int32) * v4), .inr (.inr (some (39, v0))), .inl (0 : Int32), .inl (9 : Int32)]) (rest := []) rfl rfl rfl (Nat.le_of_ble_eq_true rfl) h (fun mu17 la18 h => ?_)
      refine Ev.steps 3 (ip' := 75) (ls' := [some (.inr (.inr (some (7, v0)))), some (.inl v1), some (.inl v2), some (.inl v3), some (.inl v4), some (.inl (mu15 48 v0 v4.toNatClampNeg)), none]) (st' := [.inl (mu15 48 v0 v4.toNatClampNeg), .inr (.inr (some (39, v0)))]) (M' := mem E mu17 la18) rfl ?_
      refine Ev.ci (J := mi_162) (as := [.inr (.inr (some (39, v0))), .inl (mu15 48 v0 v4.toNatClampNeg)]) (rest := []) rfl rfl rfl (Nat.le_of_ble_eq_true rfl) h (fun x19 mu20 la21 h => ?_)
      refine Ev.br (c := ¬ x19 = 0) (s1 := (79, [some (.inr (.inr (some (7, v0)))), some (.inl v1), some (.inl v2), some (.inl v3), some (.inl v4), some (.inl (mu15 48 v0 v4.toNatClampNeg)), none], [], mem E mu20 la21)) (s2 := (77, [some (.inr (.inr (some (7, v0)))), some (.inl v1), some (.inl v2), some (.inl v3), some (.inl v4), some (.inl (mu15 48 v0 v4.toNatClampNeg)), none], [], mem E mu20 la21)) rfl rfl rfl rfl (fun hc => ?_) (fun hc => ?_)
      · have h := h.1 hc
        dsimp only
        refine Ev.steps 3 (ip' := 82) (ls' := [some (.inr (.inr (some (7, v0)))), some (.inl v1), some (.inl v2), some (.inl v3), some (.inl v4), some (.inl (mu15 48 v0 v4.toNatClampNeg)), some (.inl (0 : Int32))]) (st' := [.inl (0 : Int32)]) (M' := mem E mu20 la21) rfl ?_
        refine Ev.br (c := (0 : Int32) = 0) (s1 := (90, [some (.inr (.inr (some (7, v0)))), some (.inl v1), some (.inl v2), some (.inl v3), some (.inl v4), some (.inl (mu15 48 v0 v4.toNatClampNeg)), some (.inl (0 : Int32))], [], mem E mu20 la21)) (s2 := (83, [some (.inr (.inr (some (7, v0)))), some (.inl v1), some (.inl v2), some (.inl v3), some (.inl v4), some (.inl (mu15 48 v0 v4.toNatClampNeg)), some (.inl (0 : Int32))], [], mem E mu20 la21)) rfl rfl rfl rfl (fun hc => ?_) (fun hc => ?_)
        · have h := h.1 hc
          dsimp only
          refine Ev.steps 1 (ip' := 91) (ls' := [some (.inr (.inr (some (7, v0)))), some (.inl v1), some (.inl v2), some (.inl v3), some (.inl v4), some (.inl (mu15 48 v0 v4.toNatClampNeg)), some (.inl (0 : Int32))]) (st' := [.inl (0 : Int32)]) (M' := mem E mu20 la21) rfl ?_
          refine Ev.br (c := (0 : Int32) = 0) (s1 := (127, [some (.inr (.inr (some (7, v0)))), some (.inl v1), some (.inl v2), some (.inl v3), some (.inl v4), some (.inl (mu15 48 v0 v4.toNatClampNeg)), some (.inl (0 : Int32))], [], mem E mu20 la21)) (s2 := (92, [some (.inr (.inr (some (7, v0)))), some (.inl v1), some (.inl v2), some (.inl v3), some (.inl v4), some (.inl (mu15 48 v0 v4.toNatClampNeg)), some (.inl (0 : Int32))], [], mem E mu20 la21)) rfl rfl rfl rfl (fun hc => ?_) (fun hc => ?_)
          · have h := h.1 hc
            dsimp only
            refine Ev.steps 1 (ip' := 41) (ls' := [some (.inr (.inr (some (7, v0)))), some (.inl v1), some (.inl v2), some (.inl v3), some (.inl v4), some (.inl (mu15 48 v0 v4.toNatClampNeg)), some (.inl (0 : Int32))]) (st' := []) (M' := mem E mu20 la21) rfl ?_
            refine Ev.drop (ls := [some (.inr (.inr (some (7, v0)))), some (.inl v1), some (.inl v2), some (.inl v3), some (.inl v4), none, none]) ⟨Or.inr rfl, Or.inr rfl, Or.inr rfl, Or.inr rfl, Or.inr rfl, Or.inl rfl, Or.inl rfl, trivial⟩ ?_
            exact h
          · have h := h.2 hc
            dsimp only
            refine Ev.steps 3 (ip' := 95) (ls' := [some (.inr (.inr (some (7, v0)))), some (.inl v1), some (.inl v2), some (.inl v3), some (.inl v4), some (.inl (mu15 48 v0 v4.toNatClampNeg)), some (.inl (0 : Int32))]) (st' := [.inl (6 : Int32), .inr (.inr (some (39, v0)))]) (M' := mem E mu20 la21) rfl ?_
            refine Ev.ial rfl rfl (by decide) h.1 ?_
            have h := h.2
            refine Ev.steps 1 (ip' := 97) (ls' := [some (.inr (.inr (some (7, v0)))), some (.inl v1), some (.inl v2), some (.inl v3), some (.inl v4), some (.inl (mu15 48 v0 v4.toNatClampNeg)), some (.inl (0 : Int32))]) (st' := [.inl v1, .inl (mu20 39 v0 (6 : Int32).toNatClampNeg)]) (M' := mem E mu20 la21) rfl ?_
            refine Ev.br (c := v1 < (mu20 39 v0 (6 : Int32).toNatClampNeg)) (s1 := (127, [some (.inr (.inr (some (7, v0)))), some (.inl v1), some (.inl v2), some (.inl v3), some (.inl v4), some (.inl (mu15 48 v0 v4.toNatClampNeg)), some (.inl (0 : Int32))], [], mem E mu20 la21)) (s2 := (98, [some (.inr (.inr (some (7, v0)))), some (.inl v1), some (.inl v2), some (.inl v3), some (.inl v4), some (.inl (mu15 48 v0 v4.toNatClampNeg)), some (.inl (0 : Int32))], [], mem E mu20 la21)) rfl rfl rfl rfl (fun hc => ?_) (fun hc => ?_)
            · have h := h.1 hc
              dsimp only
              refine Ev.steps 1 (ip' := 41) (ls' := [some (.inr (.inr (some (7, v0)))), some (.inl v1), some (.inl v2), some (.inl v3), some (.inl v4), some (.inl (mu15 48 v0 v4.toNatClampNeg)), some (.inl (0 : Int32))]) (st' := []) (M' := mem E mu20 la21) rfl ?_
              refine Ev.drop (ls := [some (.inr (.inr (some (7, v0)))), some (.inl v1), some (.inl v2), some (.inl v3), some (.inl v4), none, none]) ⟨Or.inr rfl, Or.inr rfl, Or.inr rfl, Or.inr rfl, Or.inr rfl, Or.inl rfl, Or.inl rfl, trivial⟩ ?_
              exact h
            · have h := h.2 hc
              dsimp only
              refine Ev.steps 10 (ip' := 108) (ls' := [some (.inr (.inr (some (7, v0)))), some (.inl v1), some (.inl v2), some (.inl v3), some (.inl (v4 + (1 : Int32))), some (.inl (mu15 48 v0 v4.toNatClampNeg)), some (.inl (0 : Int32))]) (st' := [.inl (9 : Int32), .inl ((9 : Int32) * (v4 + (1 : Int32))), .inr (.inr (some (47, v0))), .inl (0 : Int32), .inr (.inr (some (39, v0)))]) (M' := mem E mu20 la21) rfl ?_
              refine Ev.cv (J := mi_174) (as := [.inr (.inr (some (39, v0))), .inl (0 : Int32), .inr (.inr (some (47, v0))), .inl ((9 : Int32) * (v4 + (1 : Int32))), .inl (9 : Int32)]) (rest := []) rfl rfl rfl (Nat.le_of_ble_eq_true rfl) h (fun mu23 la24 h => ?_)
              refine Ev.steps 4 (ip' := 113) (ls' := [some (.inr (.inr (some (7, v0)))), some (.inl v1), some (.inl v2), some (.inl v3), some (.inl (v4 + (1 : Int32))), some (.inl (mu15 48 v0 v4.toNatClampNeg)), some (.inl (0 : Int32))]) (st' := [.inl (-1 : Int32), .inl (v4 + (1 : Int32)), .inr (.inr (some (48, v0)))]) (M' := mem E mu23 la24) rfl ?_
              refine Ev.ias rfl rfl h.1 ?_
              have h := h.2
              generalize hgmu25 : up3 mu23 48 v0 (v4 + (1 : Int32)).toNatClampNeg (-1 : Int32) = mu25
              have h := h mu25 hgmu25.symm
              refine Ev.steps 2 (ip' := 116) (ls' := [some (.inr (.inr (some (7, v0)))), some (.inl v1), some (.inl v2), some (.inl v3), some (.inl (v4 + (1 : Int32))), some (.inl (mu15 48 v0 v4.toNatClampNeg)), some (.inl (0 : Int32))]) (st' := [.inl v3, .inl (v4 + (1 : Int32))]) (M' := mem E mu25 la24) rfl ?_
              refine Ev.br (c := (v4 + (1 : Int32)) ≤ v3) (s1 := (127, [some (.inr (.inr (some (7, v0)))), some (.inl v1), some (.inl v2), some (.inl v3), some (.inl (v4 + (1 : Int32))), some (.inl (mu15 48 v0 v4.toNatClampNeg)), some (.inl (0 : Int32))], [], mem E mu25 la24)) (s2 := (117, [some (.inr (.inr (some (7, v0)))), some (.inl v1), some (.inl v2), some (.inl v3), some (.inl (v4 + (1 : Int32))), some (.inl (mu15 48 v0 v4.toNatClampNeg)), some (.inl (0 : Int32))], [], mem E mu25 la24)) rfl rfl rfl rfl (fun hc => ?_) (fun hc => ?_)
              · have h := h.1 hc
                dsimp only
                refine Ev.steps 1 (ip' := 41) (ls' := [some (.inr (.inr (some (7, v0)))), some (.inl v1), some (.inl v2), some (.inl v3), some (.inl (v4 + (1 : Int32))), some (.inl (mu15 48 v0 v4.toNatClampNeg)), some (.inl (0 : Int32))]) (st' := []) (M' := mem E mu25 la24) rfl ?_
                refine Ev.drop (ls := [some (.inr (.inr (some (7, v0)))), some (.inl v1), some (.inl v2), some (.inl v3), some (.inl (v4 + (1 : Int32))), none, none]) ⟨Or.inr rfl, Or.inr rfl, Or.inr rfl, Or.inr rfl, Or.inr rfl, Or.inl rfl, Or.inl rfl, trivial⟩ ?_
                exact h
              · have h := h.2 hc
                dsimp only
                refine Ev.steps 9 (ip' := 126) (ls' := [some (.inr (.inr (some (7, v0)))), some (.inl v1), some (.inl v2), some (.inl (v4 + (1 : Int32))), some (.inl (v4 + (1 : Int32))), some (.inl (mu15 48 v0 v4.toNatClampNeg)), some (.inl (0 : Int32))]) (st' := [.inl (v4 + (1 : Int32)), .inl (0 : Int32), .inr (.inr (some (46, v0))), .inl (0 : Int32), .inr (.inr (some (48, v0)))]) (M' := mem E mu25 la24) rfl ?_
                refine Ev.cv (J := mi_174) (as := [.inr (.inr (some (48, v0))), .inl (0 : Int32), .inr (.inr (some (46, v0))), .inl (0 : Int32), .inl (v4 + (1 : Int32))]) (rest := []) rfl rfl rfl (Nat.le_of_ble_eq_true rfl) h (fun mu27 la28 h => ?_)
                refine Ev.steps 1 (ip' := 41) (ls' := [some (.inr (.inr (some (7, v0)))), some (.inl v1), some (.inl v2), some (.inl (v4 + (1 : Int32))), some (.inl (v4 + (1 : Int32))), some (.inl (mu15 48 v0 v4.toNatClampNeg)), some (.inl (0 : Int32))]) (st' := []) (M' := mem E mu27 la28) rfl ?_
                refine Ev.drop (ls := [some (.inr (.inr (some (7, v0)))), some (.inl v1), some (.inl v2), some (.inl (v4 + (1 : Int32))), some (.inl (v4 + (1 : Int32))), none, none]) ⟨Or.inr rfl, Or.inr rfl, Or.inr rfl, Or.inr rfl, Or.inr rfl, Or.inl rfl, Or.inl rfl, trivial⟩ ?_
                exact h
        · have h := h.2 hc
          dsimp only
          refine Ev.steps 6 (ip' := 89) (ls' := [some (.inr (.inr (some (7, v0)))), some (.inl v1), some (.inl v2), some (.inl v3), some (.inl v4), some (.inl (mu15 48 v0 v4.toNatClampNeg)), some (.inl (0 : Int32))]) (st' := [.inl (mu20 7 v0 5), .inl (mu15 48 v0 v4.toNatClampNeg), .inr (.inr (some (39, v0))), .inr (.inr (some (7, v0)))]) (M' := mem E mu20 la21) rfl ?_
          refine Ev.cv (J := mi_161) (as := [.inr (.inr (some (7, v0))), .inr (.inr (some (39, v0))), .inl (mu15 48 v0 v4.toNatClampNeg), .inl (mu20 7 v0 5)]) (rest := []) rfl rfl rfl (Nat.le_of_ble_eq_true rfl) h (fun mu30 la31 h => ?_)
          refine Ev.steps 1 (ip' := 91) (ls' := [some (.inr (.inr (some (7, v0)))), some (.inl v1), some (.inl v2), some (.inl v3), some (.inl v4), some (.inl (mu15 48 v0 v4.toNatClampNeg)), some (.inl (0 : Int32))]) (st' := [.inl (0 : Int32)]) (M' := mem E mu30 la31) rfl ?_
          refine Ev.br (c := (0 : Int32) = 0) (s1 := (127, [some (.inr (.inr (some (7, v0)))), some (.inl v1), some (.inl v2), some (.inl v3), some (.inl v4), some (.inl (mu15 48 v0 v4.toNatClampNeg)), some (.inl (0 : Int32))], [], mem E mu30 la31)) (s2 := (92, [some (.inr (.inr (some (7, v0)))), some (.inl v1), some (.inl v2), some (.inl v3), some (.inl v4), some (.inl (mu15 48 v0 v4.toNatClampNeg)), some (.inl (0 : Int32))], [], mem E mu30 la31)) rfl rfl rfl rfl (fun hc => ?_) (fun hc => ?_)
          · have h := h.1 hc
            dsimp only
            refine Ev.steps 1 (ip' := 41) (ls' := [some (.inr (.inr (some (7, v0)))), some (.inl v1), some (.inl v2), some (.inl v3), some (.inl v4), some (.inl (mu15 48 v0 v4.toNatClampNeg)), some (.inl (0 : Int32))]) (st' := []) (M' := mem E mu30 la31) rfl ?_
            refine Ev.drop (ls := [some (.inr (.inr (some (7, v0)))), some (.inl v1), some (.inl v2), some (.inl v3), some (.inl v4), none, none]) ⟨Or.inr rfl, Or.inr rfl, Or.inr rfl, Or.inr rfl, Or.inr rfl, Or.inl rfl, Or.inl rfl, trivial⟩ ?_
            exact h
          · have h := h.2 hc
            dsimp only
            refine Ev.steps 3 (ip' := 95) (ls' := [some (.inr (.inr (some (7, v0)))), some (.inl v1), some (.inl v2), some (.inl v3), some (.inl v4), some (.inl (mu15 48 v0 v4.toNatClampNeg)), some (.inl (0 : Int32))]) (st' := [.inl (6 : Int32), .inr (.inr (some (39, v0)))]) (M' := mem E mu30 la31) rfl ?_
            refine Ev.ial rfl rfl (by decide) h.1 ?_
            have h := h.2
            refine Ev.steps 1 (ip' := 97) (ls' := [some (.inr (.inr (some (7, v0)))), some (.inl v1), some (.inl v2), some (.inl v3), some (.inl v4), some (.inl (mu15 48 v0 v4.toNatClampNeg)), some (.inl (0 : Int32))]) (st' := [.inl v1, .inl (mu30 39 v0 (6 : Int32).toNatClampNeg)]) (M' := mem E mu30 la31) rfl ?_
            refine Ev.br (c := v1 < (mu30 39 v0 (6 : Int32).toNatClampNeg)) (s1 := (127, [some (.inr (.inr (some (7, v0)))), some (.inl v1), some (.inl v2), some (.inl v3), some (.inl v4), some (.inl (mu15 48 v0 v4.toNatClampNeg)), some (.inl (0 : Int32))], [], mem E mu30 la31)) (s2 := (98, [some (.inr (.inr (some (7, v0)))), some (.inl v1), some (.inl v2), some (.inl v3), some (.inl v4), some (.inl (mu15 48 v0 v4.toNatClampNeg)), some (.inl (0 : Int32))], [], mem E mu30 la31)) rfl rfl rfl rfl (fun hc => ?_) (fun hc => ?_)
            · have h := h.1 hc
              dsimp only
              refine Ev.steps 1 (ip' := 41) (ls' := [some (.inr (.inr (some (7, v0)))), some (.inl v1), some (.inl v2), some (.inl v3), some (.inl v4), some (.inl (mu15 48 v0 v4.toNatClampNeg)), some (.inl (0 : Int32))]) (st' := []) (M' := mem E mu30 la31) rfl ?_
              refine Ev.drop (ls := [some (.inr (.inr (some (7, v0)))), some (.inl v1), some (.inl v2), some (.inl v3), some (.inl v4), none, none]) ⟨Or.inr rfl, Or.inr rfl, Or.inr rfl, Or.inr rfl, Or.inr rfl, Or.inl rfl, Or.inl rfl, trivial⟩ ?_
              exact h
            · have h := h.2 hc
              dsimp only
              refine Ev.steps 10 (ip' := 108) (ls' := [some (.inr (.inr (some (7, v0)))), some (.inl v1), some (.inl v2), some (.inl v3), some (.inl (v4 + (1 : Int32))), some (.inl (mu15 48 v0 v4.toNatClampNeg)), some (.inl (0 : Int32))]) (st' := [.inl (9 : Int32), .inl ((9 : Int32) * (v4 + (1 : Int32))), .inr (.inr (some (47, v0))), .inl (0 : Int32), .inr (.inr (some (39, v0)))]) (M' := mem E mu30 la31) rfl ?_
              refine Ev.cv (J := mi_174) (as := [.inr (.inr (some (39, v0))), .inl (0 : Int32), .inr (.inr (some (47, v0))), .inl ((9 : Int32) * (v4 + (1 : Int32))), .inl (9 : Int32)]) (rest := []) rfl rfl rfl (Nat.le_of_ble_eq_true rfl) h (fun mu33 la34 h => ?_)
              refine Ev.steps 4 (ip' := 113) (ls' := [some (.inr (.inr (some (7, v0)))), some (.inl v1), some (.inl v2), some (.inl v3), some (.inl (v4 + (1 : Int32))), some (.inl (mu15 48 v0 v4.toNatClampNeg)), some (.inl (0 : Int32))]) (st' := [.inl (-1 : Int32), .inl (v4 + (1 : Int32)), .inr (.inr (some (48, v0)))]) (M' := mem E mu33 la34) rfl ?_
              refine Ev.ias rfl rfl h.1 ?_
              have h := h.2
              generalize hgmu35 : up3 mu33 48 v0 (v4 + (1 : Int32)).toNatClampNeg (-1 : Int32) = mu35
              have h := h mu35 hgmu35.symm
              refine Ev.steps 2 (ip' := 116) (ls' := [some (.inr (.inr (some (7, v0)))), some (.inl v1), some (.inl v2), some (.inl v3), some (.inl (v4 + (1 : Int32))), some (.inl (mu15 48 v0 v4.toNatClampNeg)), some (.inl (0 : Int32))]) (st' := [.inl v3, .inl (v4 + (1 : Int32))]) (M' := mem E mu35 la34) rfl ?_
              refine Ev.br (c := (v4 + (1 : Int32)) ≤ v3) (s1 := (127, [some (.inr (.inr (some (7, v0)))), some (.inl v1), some (.inl v2), some (.inl v3), some (.inl (v4 + (1 : Int32))), some (.inl (mu15 48 v0 v4.toNatClampNeg)), some (.inl (0 : Int32))], [], mem E mu35 la34)) (s2 := (117, [some (.inr (.inr (some (7, v0)))), some (.inl v1), some (.inl v2), some (.inl v3), some (.inl (v4 + (1 : Int32))), some (.inl (mu15 48 v0 v4.toNatClampNeg)), some (.inl (0 : Int32))], [], mem E mu35 la34)) rfl rfl rfl rfl (fun hc => ?_) (fun hc => ?_)
              · have h := h.1 hc
                dsimp only
                refine Ev.steps 1 (ip' := 41) (ls' := [some (.inr (.inr (some (7, v0)))), some (.inl v1), some (.inl v2), some (.inl v3), some (.inl (v4 + (1 : Int32))), some (.inl (mu15 48 v0 v4.toNatClampNeg)), some (.inl (0 : Int32))]) (st' := []) (M' := mem E mu35 la34) rfl ?_
                refine Ev.drop (ls := [some (.inr (.inr (some (7, v0)))), some (.inl v1), some (.inl v2), some (.inl v3), some (.inl (v4 + (1 : Int32))), none, none]) ⟨Or.inr rfl, Or.inr rfl, Or.inr rfl, Or.inr rfl, Or.inr rfl, Or.inl rfl, Or.inl rfl, trivial⟩ ?_
                exact h
              · have h := h.2 hc
                dsimp only
                refine Ev.steps 9 (ip' := 126) (ls' := [some (.inr (.inr (some (7, v0)))), some (.inl v1), some (.inl v2), some (.inl (v4 + (1 : Int32))), some (.inl (v4 + (1 : Int32))), some (.inl (mu15 48 v0 v4.toNatClampNeg)), some (.inl (0 : Int32))]) (st' := [.inl (v4 + (1 : Int32)), .inl (0 : Int32), .inr (.inr (some (46, v0))), .inl (0 : Int32), .inr (.inr (some (48, v0)))]) (M' := mem E mu35 la34) rfl ?_
                refine Ev.cv (J := mi_174) (as := [.inr (.inr (some (48, v0))), .inl (0 : Int32), .inr (.inr (some (46, v0))), .inl (0 : Int32), .inl (v4 + (1 : Int32))]) (rest := []) rfl rfl rfl (Nat.le_of_ble_eq_true rfl) h (fun mu37 la38 h => ?_)
                refine Ev.steps 1 (ip' := 41) (ls' := [some (.inr (.inr (some (7, v0)))), some (.inl v1), some (.inl v2), some (.inl (v4 + (1 : Int32))), some (.inl (v4 + (1 : Int32))), some (.inl (mu15 48 v0 v4.toNatClampNeg)), some (.inl (0 : Int32))]) (st' := []) (M' := mem E mu37 la38) rfl ?_
                refine Ev.drop (ls := [some (.inr (.inr (some (7, v0)))), some (.inl v1), some (.inl v2), some (.inl (v4 + (1 : Int32))), some (.inl (v4 + (1 : Int32))), none, none]) ⟨Or.inr rfl, Or.inr rfl, Or.inr rfl, Or.inr rfl, Or.inr rfl, Or.inl rfl, Or.inl rfl, trivial⟩ ?_
                exact h
      · have h := h.2 hc
        dsimp only
        refine Ev.steps 4 (ip' := 82) (ls' := [some (.inr (.inr (some (7, v0)))), some (.inl v1), some (.inl v2), some (.inl v3), some (.inl v4), some (.inl (mu15 48 v0 v4.toNatClampNeg)), some (.inl (1 : Int32))]) (st' := [.inl (1 : Int32)]) (M' := mem E mu20 la21) rfl ?_
        refine Ev.br (c := (1 : Int32) = 0) (s1 := (90, [some (.inr (.inr (some (7, v0)))), some (.inl v1), some (.inl v2), some (.inl v3), some (.inl v4), some (.inl (mu15 48 v0 v4.toNatClampNeg)), some (.inl (1 : Int32))], [], mem E mu20 la21)) (s2 := (83, [some (.inr (.inr (some (7, v0)))), some (.inl v1), some (.inl v2), some (.inl v3), some (.inl v4), some (.inl (mu15 48 v0 v4.toNatClampNeg)), some (.inl (1 : Int32))], [], mem E mu20 la21)) rfl rfl rfl rfl (fun hc => ?_) (fun hc => ?_)
        · have h := h.1 hc
          dsimp only
          refine Ev.steps 1 (ip' := 91) (ls' := [some (.inr (.inr (some (7, v0)))), some (.inl v1), some (.inl v2), some (.inl v3), some (.inl v4), some (.inl (mu15 48 v0 v4.toNatClampNeg)), some (.inl (1 : Int32))]) (st' := [.inl (1 : Int32)]) (M' := mem E mu20 la21) rfl ?_
          refine Ev.br (c := (1 : Int32) = 0) (s1 := (127, [some (.inr (.inr (some (7, v0)))), some (.inl v1), some (.inl v2), some (.inl v3), some (.inl v4), some (.inl (mu15 48 v0 v4.toNatClampNeg)), some (.inl (1 : Int32))], [], mem E mu20 la21)) (s2 := (92, [some (.inr (.inr (some (7, v0)))), some (.inl v1), some (.inl v2), some (.inl v3), some (.inl v4), some (.inl (mu15 48 v0 v4.toNatClampNeg)), some (.inl (1 : Int32))], [], mem E mu20 la21)) rfl rfl rfl rfl (fun hc => ?_) (fun hc => ?_)
          · have h := h.1 hc
            dsimp only
            refine Ev.steps 1 (ip' := 41) (ls' := [some (.inr (.inr (some (7, v0)))), some (.inl v1), some (.inl v2), some (.inl v3), some (.inl v4), some (.inl (mu15 48 v0 v4.toNatClampNeg)), some (.inl (1 : Int32))]) (st' := []) (M' := mem E mu20 la21) rfl ?_
            refine Ev.drop (ls := [some (.inr (.inr (some (7, v0)))), some (.inl v1), some (.inl v2), some (.inl v3), some (.inl v4), none, none]) ⟨Or.inr rfl, Or.inr rfl, Or.inr rfl, Or.inr rfl, Or.inr rfl, Or.inl rfl, Or.inl rfl, trivial⟩ ?_
            exact h
          · have h := h.2 hc
            dsimp only
            refine Ev.steps 3 (ip' := 95) (ls' := [some (.inr (.inr (some (7, v0)))), some (.inl v1), some (.inl v2), some (.inl v3), some (.inl v4), some (.inl (mu15 48 v0 v4.toNatClampNeg)), some (.inl (1 : Int32))]) (st' := [.inl (6 : Int32), .inr (.inr (some (39, v0)))]) (M' := mem E mu20 la21) rfl ?_
            refine Ev.ial rfl rfl (by decide) h.1 ?_
            have h := h.2
            refine Ev.steps 1 (ip' := 97) (ls' := [some (.inr (.inr (some (7, v0)))), some (.inl v1), some (.inl v2), some (.inl v3), some (.inl v4), some (.inl (mu15 48 v0 v4.toNatClampNeg)), some (.inl (1 : Int32))]) (st' := [.inl v1, .inl (mu20 39 v0 (6 : Int32).toNatClampNeg)]) (M' := mem E mu20 la21) rfl ?_
            refine Ev.br (c := v1 < (mu20 39 v0 (6 : Int32).toNatClampNeg)) (s1 := (127, [some (.inr (.inr (some (7, v0)))), some (.inl v1), some (.inl v2), some (.inl v3), some (.inl v4), some (.inl (mu15 48 v0 v4.toNatClampNeg)), some (.inl (1 : Int32))], [], mem E mu20 la21)) (s2 := (98, [some (.inr (.inr (some (7, v0)))), some (.inl v1), some (.inl v2), some (.inl v3), some (.inl v4), some (.inl (mu15 48 v0 v4.toNatClampNeg)), some (.inl (1 : Int32))], [], mem E mu20 la21)) rfl rfl rfl rfl (fun hc => ?_) (fun hc => ?_)
            · have h := h.1 hc
              dsimp only
              refine Ev.steps 1 (ip' := 41) (ls' := [some (.inr (.inr (some (7, v0)))), some (.inl v1), some (.inl v2), some (.inl v3), some (.inl v4), some (.inl (mu15 48 v0 v4.toNatClampNeg)), some (.inl (1 : Int32))]) (st' := []) (M' := mem E mu20 la21) rfl ?_
              refine Ev.drop (ls := [some (.inr (.inr (some (7, v0)))), some (.inl v1), some (.inl v2), some (.inl v3), some (.inl v4), none, none]) ⟨Or.inr rfl, Or.inr rfl, Or.inr rfl, Or.inr rfl, Or.inr rfl, Or.inl rfl, Or.inl rfl, trivial⟩ ?_
              exact h
            · have h := h.2 hc
              dsimp only
              refine Ev.steps 10 (ip' := 108) (ls' := [some (.inr (.inr (some (7, v0)))), some (.inl v1), some (.inl v2), some (.inl v3), some (.inl (v4 + (1 : Int32))), some (.inl (mu15 48 v0 v4.toNatClampNeg)), some (.inl (1 : Int32))]) (st' := [.inl (9 : Int32), .inl ((9 : Int32) * (v4 + (1 : Int32))), .inr (.inr (some (47, v0))), .inl (0 : Int32), .inr (.inr (some (39, v0)))]) (M' := mem E mu20 la21) rfl ?_
              refine Ev.cv (J := mi_174) (as := [.inr (.inr (some (39, v0))), .inl (0 : Int32), .inr (.inr (some (47, v0))), .inl ((9 : Int32) * (v4 + (1 : Int32))), .inl (9 : Int32)]) (rest := []) rfl rfl rfl (Nat.le_of_ble_eq_true rfl) h (fun mu40 la41 h => ?_)
              refine Ev.steps 4 (ip' := 113) (ls' := [some (.inr (.inr (some (7, v0)))), some (.inl v1), some (.inl v2), some (.inl v3), some (.inl (v4 + (1 : Int32))), some (.inl (mu15 48 v0 v4.toNatClampNeg)), some (.inl (1 : Int32))]) (st' := [.inl (-1 : Int32), .inl (v4 + (1 : Int32)), .inr (.inr (some (48, v0)))]) (M' := mem E mu40 la41) rfl ?_
              refine Ev.ias rfl rfl h.1 ?_
              have h := h.2
              generalize hgmu42 : up3 mu40 48 v0 (v4 + (1 : Int32)).toNatClampNeg (-1 : Int32) = mu42
              have h := h mu42 hgmu42.symm
              refine Ev.steps 2 (ip' := 116) (ls' := [some (.inr (.inr (some (7, v0)))), some (.inl v1), some (.inl v2), some (.inl v3), some (.inl (v4 + (1 : Int32))), some (.inl (mu15 48 v0 v4.toNatClampNeg)), some (.inl (1 : Int32))]) (st' := [.inl v3, .inl (v4 + (1 : Int32))]) (M' := mem E mu42 la41) rfl ?_
              refine Ev.br (c := (v4 + (1 : Int32)) ≤ v3) (s1 := (127, [some (.inr (.inr (some (7, v0)))), some (.inl v1), some (.inl v2), some (.inl v3), some (.inl (v4 + (1 : Int32))), some (.inl (mu15 48 v0 v4.toNatClampNeg)), some (.inl (1 : Int32))], [], mem E mu42 la41)) (s2 := (117, [some (.inr (.inr (some (7, v0)))), some (.inl v1), some (.inl v2), some (.inl v3), some (.inl (v4 + (1 : Int32))), some (.inl (mu15 48 v0 v4.toNatClampNeg)), some (.inl (1 : Int32))], [], mem E mu42 la41)) rfl rfl rfl rfl (fun hc => ?_) (fun hc => ?_)
              · have h := h.1 hc
                dsimp only
                refine Ev.steps 1 (ip' := 41) (ls' := [some (.inr (.inr (some (7, v0)))), some (.inl v1), some (.inl v2), some (.inl v3), some (.inl (v4 + (1 : Int32))), some (.inl (mu15 48 v0 v4.toNatClampNeg)), some (.inl (1 : Int32))]) (st' := []) (M' := mem E mu42 la41) rfl ?_
                refine Ev.drop (ls := [some (.inr (.inr (some (7, v0)))), some (.inl v1), some (.inl v2), some (.inl v3), some (.inl (v4 + (1 : Int32))), none, none]) ⟨Or.inr rfl, Or.inr rfl, Or.inr rfl, Or.inr rfl, Or.inr rfl, Or.inl rfl, Or.inl rfl, trivial⟩ ?_
                exact h
              · have h := h.2 hc
                dsimp only
                refine Ev.steps 9 (ip' := 126) (ls' := [some (.inr (.inr (some (7, v0)))), some (.inl v1), some (.inl v2), some (.inl (v4 + (1 : Int32))), some (.inl (v4 + (1 : Int32))), some (.inl (mu15 48 v0 v4.toNatClampNeg)), some (.inl (1 : Int32))]) (st' := [.inl (v4 + (1 : Int32)), .inl (0 : Int32), .inr (.inr (some (46, v0))), .inl (0 : Int32), .inr (.inr (some (48, v0)))]) (M' := mem E mu42 la41) rfl ?_
                refine Ev.cv (J := mi_174) (as := [.inr (.inr (some (48, v0))), .inl (0 : Int32), .inr (.inr (some (46, v0))), .inl (0 : Int32), .inl (v4 + (1 : Int32))]) (rest := []) rfl rfl rfl (Nat.le_of_ble_eq_true rfl) h (fun mu44 la45 h => ?_)
                refine Ev.steps 1 (ip' := 41) (ls' := [some (.inr (.inr (some (7, v0)))), some (.inl v1), some (.inl v2), some (.inl (v4 + (1 : Int32))), some (.inl (v4 + (1 : Int32))), some (.inl (mu15 48 v0 v4.toNatClampNeg)), some (.inl (1 : Int32))]) (st' := []) (M' := mem E mu44 la45) rfl ?_
                refine Ev.drop (ls := [some (.inr (.inr (some (7, v0)))), some (.inl v1), some (.inl v2), some (.inl (v4 + (1 : Int32))), some (.inl (v4 + (1 : Int32))), none, none]) ⟨Or.inr rfl, Or.inr rfl, Or.inr rfl, Or.inr rfl, Or.inr rfl, Or.inl rfl, Or.inl rfl, trivial⟩ ?_
                exact h
        · have h := h.2 hc
          dsimp only
          refine Ev.steps 6 (ip' := 89) (ls' := [some (.inr (.inr (some (7, v0)))), some (.inl v1), some (.inl v2), some (.inl v3), some (.inl v4), some (.inl (mu15 48 v0 v4.toNatClampNeg)), some (.inl (1 : Int32))]) (st' := [.inl (mu20 7 v0 5), .inl (mu15 48 v0 v4.toNatClampNeg), .inr (.inr (some (39, v0))), .inr (.inr (some (7, v0)))]) (M' := mem E mu20 la21) rfl ?_
          refine Ev.cv (J := mi_161) (as := [.inr (.inr (some (7, v0))), .inr (.inr (some (39, v0))), .inl (mu15 48 v0 v4.toNatClampNeg), .inl (mu20 7 v0 5)]) (rest := []) rfl rfl rfl (Nat.le_of_ble_eq_true rfl) h (fun mu47 la48 h => ?_)
          refine Ev.steps 1 (ip' := 91) (ls' := [some (.inr (.inr (some (7, v0)))), some (.inl v1), some (.inl v2), some (.inl v3), some (.inl v4), some (.inl (mu15 48 v0 v4.toNatClampNeg)), some (.inl (1 : Int32))]) (st' := [.inl (1 : Int32)]) (M' := mem E mu47 la48) rfl ?_
          refine Ev.br (c := (1 : Int32) = 0) (s1 := (127, [some (.inr (.inr (some (7, v0)))), some (.inl v1), some (.inl v2), some (.inl v3), some (.inl v4), some (.inl (mu15 48 v0 v4.toNatClampNeg)), some (.inl (1 : Int32))], [], mem E mu47 la48)) (s2 := (92, [some (.inr (.inr (some (7, v0)))), some (.inl v1), some (.inl v2), some (.inl v3), some (.inl v4), some (.inl (mu15 48 v0 v4.toNatClampNeg)), some (.inl (1 : Int32))], [], mem E mu47 la48)) rfl rfl rfl rfl (fun hc => ?_) (fun hc => ?_)
          · have h := h.1 hc
            dsimp only
            refine Ev.steps 1 (ip' := 41) (ls' := [some (.inr (.inr (some (7, v0)))), some (.inl v1), some (.inl v2), some (.inl v3), some (.inl v4), some (.inl (mu15 48 v0 v4.toNatClampNeg)), some (.inl (1 : Int32))]) (st' := []) (M' := mem E mu47 la48) rfl ?_
            refine Ev.drop (ls := [some (.inr (.inr (some (7, v0)))), some (.inl v1), some (.inl v2), some (.inl v3), some (.inl v4), none, none]) ⟨Or.inr rfl, Or.inr rfl, Or.inr rfl, Or.inr rfl, Or.inr rfl, Or.inl rfl, Or.inl rfl, trivial⟩ ?_
            exact h
          · have h := h.2 hc
            dsimp only
            refine Ev.steps 3 (ip' := 95) (ls' := [some (.inr (.inr (some (7, v0)))), some (.inl v1), some (.inl v2), some (.inl v3), some (.inl v4), some (.inl (mu15 48 v0 v4.toNatClampNeg)), some (.inl (1 : Int32))]) (st' := [.inl (6 : Int32), .inr (.inr (some (39, v0)))]) (M' := mem E mu47 la48) rfl ?_
            refine Ev.ial rfl rfl (by decide) h.1 ?_
            have h := h.2
            refine Ev.steps 1 (ip' := 97) (ls' := [some (.inr (.inr (some (7, v0)))), some (.inl v1), some (.inl v2), some (.inl v3), some (.inl v4), some (.inl (mu15 48 v0 v4.toNatClampNeg)), some (.inl (1 : Int32))]) (st' := [.inl v1, .inl (mu47 39 v0 (6 : Int32).toNatClampNeg)]) (M' := mem E mu47 la48) rfl ?_
            refine Ev.br (c := v1 < (mu47 39 v0 (6 : Int32).toNatClampNeg)) (s1 := (127, [some (.inr (.inr (some (7, v0)))), some (.inl v1), some (.inl v2), some (.inl v3), some (.inl v4), some (.inl (mu15 48 v0 v4.toNatClampNeg)), some (.inl (1 : Int32))], [], mem E mu47 la48)) (s2 := (98, [some (.inr (.inr (some (7, v0)))), some (.inl v1), some (.inl v2), some (.inl v3), some (.inl v4), some (.inl (mu15 48 v0 v4.toNatClampNeg)), some (.inl (1 : Int32))], [], mem E mu47 la48)) rfl rfl rfl rfl (fun hc => ?_) (fun hc => ?_)
            · have h := h.1 hc
              dsimp only
              refine Ev.steps 1 (ip' := 41) (ls' := [some (.inr (.inr (some (7, v0)))), some (.inl v1), some (.inl v2), some (.inl v3), some (.inl v4), some (.inl (mu15 48 v0 v4.toNatClampNeg)), some (.inl (1 : Int32))]) (st' := []) (M' := mem E mu47 la48) rfl ?_
              refine Ev.drop (ls := [some (.inr (.inr (some (7, v0)))), some (.inl v1), some (.inl v2), some (.inl v3), some (.inl v4), none, none]) ⟨Or.inr rfl, Or.inr rfl, Or.inr rfl, Or.inr rfl, Or.inr rfl, Or.inl rfl, Or.inl rfl, trivial⟩ ?_
              exact h
            · have h := h.2 hc
              dsimp only
              refine Ev.steps 10 (ip' := 108) (ls' := [some (.inr (.inr (some (7, v0)))), some (.inl v1), some (.inl v2), some (.inl v3), some (.inl (v4 + (1 : Int32))), some (.inl (mu15 48 v0 v4.toNatClampNeg)), some (.inl (1 : Int32))]) (st' := [.inl (9 : Int32), .inl ((9 : Int32) * (v4 + (1 : Int32))), .inr (.inr (some (47, v0))), .inl (0 : Int32), .inr (.inr (some (39, v0)))]) (M' := mem E mu47 la48) rfl ?_
              refine Ev.cv (J := mi_174) (as := [.inr (.inr (some (39, v0))), .inl (0 : Int32), .inr (.inr (some (47, v0))), .inl ((9 : Int32) * (v4 + (1 : Int32))), .inl (9 : Int32)]) (rest := []) rfl rfl rfl (Nat.le_of_ble_eq_true rfl) h (fun mu50 la51 h => ?_)
              refine Ev.steps 4 (ip' := 113) (ls' := [some (.inr (.inr (some (7, v0)))), some (.inl v1), some (.inl v2), some (.inl v3), some (.inl (v4 + (1 : Int32))), some (.inl (mu15 48 v0 v4.toNatClampNeg)), some (.inl (1 : Int32))]) (st' := [.inl (-1 : Int32), .inl (v4 + (1 : Int32)), .inr (.inr (some (48, v0)))]) (M' := mem E mu50 la51) rfl ?_
              refine Ev.ias rfl rfl h.1 ?_
              have h := h.2
              generalize hgmu52 : up3 mu50 48 v0 (v4 + (1 : Int32)).toNatClampNeg (-1 : Int32) = mu52
              have h := h mu52 hgmu52.symm
              refine Ev.steps 2 (ip' := 116) (ls' := [some (.inr (.inr (some (7, v0)))), some (.inl v1), some (.inl v2), some (.inl v3), some (.inl (v4 + (1 : Int32))), some (.inl (mu15 48 v0 v4.toNatClampNeg)), some (.inl (1 : Int32))]) (st' := [.inl v3, .inl (v4 + (1 : Int32))]) (M' := mem E mu52 la51) rfl ?_
              refine Ev.br (c := (v4 + (1 : Int32)) ≤ v3) (s1 := (127, [some (.inr (.inr (some (7, v0)))), some (.inl v1), some (.inl v2), some (.inl v3), some (.inl (v4 + (1 : Int32))), some (.inl (mu15 48 v0 v4.toNatClampNeg)), some (.inl (1 : Int32))], [], mem E mu52 la51)) (s2 := (117, [some (.inr (.inr (some (7, v0)))), some (.inl v1), some (.inl v2), some (.inl v3), some (.inl (v4 + (1 : Int32))), some (.inl (mu15 48 v0 v4.toNatClampNeg)), some (.inl (1 : Int32))], [], mem E mu52 la51)) rfl rfl rfl rfl (fun hc => ?_) (fun hc => ?_)
              · have h := h.1 hc
                dsimp only
                refine Ev.steps 1 (ip' := 41) (ls' := [some (.inr (.inr (some (7, v0)))), some (.inl v1), some (.inl v2), some (.inl v3), some (.inl (v4 + (1 : Int32))), some (.inl (mu15 48 v0 v4.toNatClampNeg)), some (.inl (1 : Int32))]) (st' := []) (M' := mem E mu52 la51) rfl ?_
                refine Ev.drop (ls := [some (.inr (.inr (some (7, v0)))), some (.inl v1), some (.inl v2), some (.inl v3), some (.inl (v4 + (1 : Int32))), none, none]) ⟨Or.inr rfl, Or.inr rfl, Or.inr rfl, Or.inr rfl, Or.inr rfl, Or.inl rfl, Or.inl rfl, trivial⟩ ?_
                exact h
              · have h := h.2 hc
                dsimp only
                refine Ev.steps 9 (ip' := 126) (ls' := [some (.inr (.inr (some (7, v0)))), some (.inl v1), some (.inl v2), some (.inl (v4 + (1 : Int32))), some (.inl (v4 + (1 : Int32))), some (.inl (mu15 48 v0 v4.toNatClampNeg)), some (.inl (1 : Int32))]) (st' := [.inl (v4 + (1 : Int32)), .inl (0 : Int32), .inr (.inr (some (46, v0))), .inl (0 : Int32), .inr (.inr (some (48, v0)))]) (M' := mem E mu52 la51) rfl ?_
                refine Ev.cv (J := mi_174) (as := [.inr (.inr (some (48, v0))), .inl (0 : Int32), .inr (.inr (some (46, v0))), .inl (0 : Int32), .inl (v4 + (1 : Int32))]) (rest := []) rfl rfl rfl (Nat.le_of_ble_eq_true rfl) h (fun mu54 la55 h => ?_)
                refine Ev.steps 1 (ip' := 41) (ls' := [some (.inr (.inr (some (7, v0)))), some (.inl v1), some (.inl v2), some (.inl (v4 + (1 : Int32))), some (.inl (v4 + (1 : Int32))), some (.inl (mu15 48 v0 v4.toNatClampNeg)), some (.inl (1 : Int32))]) (st' := []) (M' := mem E mu54 la55) rfl ?_
                refine Ev.drop (ls := [some (.inr (.inr (some (7, v0)))), some (.inl v1), some (.inl v2), some (.inl (v4 + (1 : Int32))), some (.inl (v4 + (1 : Int32))), none, none]) ⟨Or.inr rfl, Or.inr rfl, Or.inr rfl, Or.inr rfl, Or.inr rfl, Or.inl rfl, Or.inl rfl, trivial⟩ ?_
                exact h
    · have h := h.2 hc
      dsimp only
      refine Ev.steps 3 (ip' := 41) (ls' := [some (.inr (.inr (some (7, v0)))), some (.inl v1), some (.inl v2), some (.inl v3), some (.inl (v4 + (-1 : Int32))), some (.inl (mu15 48 v0 v4.toNatClampNeg)), none]) (st' := []) (M' := mem E mu15 la) rfl ?_
      refine Ev.drop (ls := [some (.inr (.inr (some (7, v0)))), some (.inl v1), some (.inl v2), some (.inl v3), some (.inl (v4 + (-1 : Int32))), none, none]) ⟨Or.inr rfl, Or.inr rfl, Or.inr rfl, Or.inr rfl, Or.inr rfl, Or.inl rfl, Or.inr rfl, trivial⟩ ?_
      exact h
set_option maxRecDepth 100000 in
/-- AnnCupsModel.wrong()I -/
theorem vc_X7_wrong {E : mEv} {d : Nat} {c : Nat} {mu : fMu} {la : fLa} {Q : Int32 → fMu → fLa → Prop} (h : FnI E d mi_163 [.inr (.inr (some (7, c))), .inr (.inr (some (38, c)))] mu la (fun x1 mu2 la3 => Q x1 mu2 la3)) : FnI E (d + 1) mi_196 [.inr (.inr (some (7, c)))] mu la Q := by
  unfold FnI
  show Ev E (d + 1) mi_196 0 [some (.inr (.inr (some (7, c))))] [] (mem E mu la) (qI E Q)
  refine Ev.steps 3 (ip' := 3) (ls' := [some (.inr (.inr (some (7, c))))]) (st' := [.inr (.inr (some (38, c))), .inr (.inr (some (7, c)))]) (M' := mem E mu la) rfl ?_
  refine Ev.ci (J := mi_163) (as := [.inr (.inr (some (7, c))), .inr (.inr (some (38, c)))]) (rest := []) rfl rfl rfl (Nat.le_of_ble_eq_true rfl) h (fun x1 mu2 la3 h => ?_)
  exact Ev.ret rfl rfl ⟨_, _, _, rfl, rfl, h⟩
