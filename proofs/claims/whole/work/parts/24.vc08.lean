set_option maxRecDepth 100000 in
/-- AnnCupsModel.mean(I)I -/
theorem vc_X7_mean {E : mEv} {d : Nat} {c : Nat} (a0 : Int32) {mu : fMu} {la : fLa} {Q : Int32 → fMu → fLa → Prop} (h : FnI E d mi_135 [.inl a0] mu la (fun x1 mu2 la3 => (¬ x1 = 0 → (vp_in a0 6 ∧ ((0 ≤ (mu2 29 c a0.toNatClampNeg) → (vp_in a0 6 ∧ ((¬ (mu2 29 c a0.toNatClampNeg) = 0 → (Ev E (d + 1) mi_142 27 [some (.inr (.inr (some (7, c)))), some (.inl a0), some (.inr (.inl (0 : Int64))), none, some (.inl (0 : Int32))] [] (mem E mu2 la3) (qI E Q))) ∧ (¬ (¬ (mu2 29 c a0.toNatClampNeg) = 0) → (FnI E d mi_132 [.inr (.inr (some (7, c))), .inl (4 : Int32)] mu2 la3 (fun x4 mu5 la6 => Q x4 mu5 la6)))))) ∧ (¬ (0 ≤ (mu2 29 c a0.toNatClampNeg)) → (FnI E d mi_132 [.inr (.inr (some (7, c))), .inl (1 : Int32)] mu2 la3 (fun x7 mu8 la9 => Q x7 mu8 la9)))))) ∧ (¬ (¬ x1 = 0) → (Q (-1 : Int32) mu2 la3)))) : FnI E (d + 1) mi_142 [.inr (.inr (some (7, c))), .inl a0] mu la Q := by
  unfold FnI
  show Ev E (d + 1) mi_142 0 [some (.inr (.inr (some (7, c)))), some (.inl a0), none, none, none] [] (mem E mu la) (qI E Q)
  refine Ev.steps 1 (ip' := 1) (ls' := [some (.inr (.inr (some (7, c)))), some (.inl a0), none, none, none]) (st' := [.inl a0]) (M' := mem E mu la) rfl ?_
  refine Ev.ci (J := mi_135) (as := [.inl a0]) (rest := []) rfl rfl rfl (Nat.le_of_ble_eq_true rfl) h (fun x1 mu2 la3 h => ?_)
  refine Ev.br (c := ¬ x1 = 0) (s1 := (5, [some (.inr (.inr (some (7, c)))), some (.inl a0), none, none, none], [], mem E mu2 la3)) (s2 := (3, [some (.inr (.inr (some (7, c)))), some (.inl a0), none, none, none], [], mem E mu2 la3)) rfl rfl rfl rfl (fun hc => ?_) (fun hc => ?_)
  · have h := h.1 hc
    dsimp only
    refine Ev.steps 3 (ip' := 8) (ls' := [some (.inr (.inr (some (7, c)))), some (.inl a0), none, none, none]) (st' := [.inl a0, .inr (.inr (some (29, c)))]) (M' := mem E mu2 la3) rfl ?_
    refine Ev.ial rfl rfl (by decide) h.1 ?_
    have h := h.2
    refine Ev.br (c := 0 ≤ (mu2 29 c a0.toNatClampNeg)) (s1 := (14, [some (.inr (.inr (some (7, c)))), some (.inl a0), none, none, none], [], mem E mu2 la3)) (s2 := (10, [some (.inr (.inr (some (7, c)))), some (.inl a0), none, none, none], [], mem E mu2 la3)) rfl rfl rfl rfl (fun hc => ?_) (fun hc => ?_)
    · have h := h.1 hc
      dsimp only
      refine Ev.steps 3 (ip' := 17) (ls' := [some (.inr (.inr (some (7, c)))), some (.inl a0), none, none, none]) (st' := [.inl a0, .inr (.inr (some (29, c)))]) (M' := mem E mu2 la3) rfl ?_
      refine Ev.ial rfl rfl (by decide) h.1 ?_
      have h := h.2
      refine Ev.br (c := ¬ (mu2 29 c a0.toNatClampNeg) = 0) (s1 := (23, [some (.inr (.inr (some (7, c)))), some (.inl a0), none, none, none], [], mem E mu2 la3)) (s2 := (19, [some (.inr (.inr (some (7, c)))), some (.inl a0), none, none, none], [], mem E mu2 la3)) rfl rfl rfl rfl (fun hc => ?_) (fun hc => ?_)
      · have h := h.1 hc
        dsimp only
        refine Ev.steps 4 (ip' := 27) (ls' := [some (.inr (.inr (some (7, c)))), some (.inl a0), some (.inr (.inl (0 : Int64))), none, some (.inl (0 : Int32))]) (st' := []) (M' := mem E mu2 la3) rfl ?_
        exact h
      · have h := h.2 hc
        dsimp only
        refine Ev.steps 2 (ip' := 21) (ls' := [some (.inr (.inr (some (7, c)))), some (.inl a0), none, none, none]) (st' := [.inl (4 : Int32), .inr (.inr (some (7, c)))]) (M' := mem E mu2 la3) rfl ?_
        refine Ev.ci (J := mi_132) (as := [.inr (.inr (some (7, c))), .inl (4 : Int32)]) (rest := []) rfl rfl rfl (Nat.le_of_ble_eq_true rfl) h (fun x4 mu5 la6 h => ?_)
        exact Ev.ret rfl rfl ⟨_, _, _, rfl, rfl, h⟩
    · have h := h.2 hc
      dsimp only
      refine Ev.steps 2 (ip' := 12) (ls' := [some (.inr (.inr (some (7, c)))), some (.inl a0), none, none, none]) (st' := [.inl (1 : Int32), .inr (.inr (some (7, c)))]) (M' := mem E mu2 la3) rfl ?_
      refine Ev.ci (J := mi_132) (as := [.inr (.inr (some (7, c))), .inl (1 : Int32)]) (rest := []) rfl rfl rfl (Nat.le_of_ble_eq_true rfl) h (fun x7 mu8 la9 h => ?_)
      exact Ev.ret rfl rfl ⟨_, _, _, rfl, rfl, h⟩
  · have h := h.2 hc
    dsimp only
    refine Ev.steps 1 (ip' := 4) (ls' := [some (.inr (.inr (some (7, c)))), some (.inl a0), none, none, none]) (st' := [.inl (-1 : Int32)]) (M' := mem E mu2 la3) rfl ?_
    exact Ev.ret rfl rfl ⟨_, _, _, rfl, rfl, h⟩
set_option maxRecDepth 100000 in
theorem vc_X7_mean_27 {E : mEv} {d : Nat}  (v0 : Nat) (v1 : Int32) (v2 : Int64) (v4 : Int32) {mu : fMu} {la : fLa} {Q : Int32 → fMu → fLa → Prop} (h : vp_in v1 6 ∧ (((mu 29 v0 v1.toNatClampNeg) ≤ v4 → (vp_in v1 6 ∧ ((¬ ((mu 29 v0 v1.toNatClampNeg).toInt64) = 0) ∧ (FnI E d mi_133 [.inr (.inr (some (7, v0))), .inl ((v2 / ((mu 29 v0 v1.toNatClampNeg).toInt64)).toInt32)] mu la (fun x10 mu11 la12 => Q x10 mu11 la12))))) ∧ (¬ ((mu 29 v0 v1.toNatClampNeg) ≤ v4) → (vp_in (((40 : Int32) * v1) + v4) 240 ∧ (Ev E (d + 1) mi_142 27 [some (.inr (.inr (some (7, v0)))), some (.inl v1), some (.inr (.inl (v2 + ((mu 30 v0 (((40 : Int32) * v1) + v4).toNatClampNeg).toInt64)))), none, some (.inl (v4 + (1 : Int32)))] [] (mem E mu la) (qI E Q)))))) : Ev E (d + 1) mi_142 27 [some (.inr (.inr (some (7, v0)))), some (.inl v1), some (.inr (.inl v2)), none, some (.inl v4)] [] (mem E mu la) (qI E Q) := by
  refine Ev.steps 4 (ip' := 31) (ls' := [some (.inr (.inr (some (7, v0)))), some (.inl v1), some (.inr (.inl v2)), none, some (.inl v4)]) (st' := [.inl v1, .inr (.inr (some (29, v0))), .inl v4]) (M' := mem E mu la) rfl ?_
  refine Ev.ial rfl rfl (by decide) h.1 ?_
  have h := h.2
  refine Ev.br (c := (mu 29 v0 v1.toNatClampNeg) ≤ v4) (s1 := (47, [some (.inr (.inr (some (7, v0)))), some (.inl v1), some (.inr (.inl v2)), none, some (.inl v4)], [], mem E mu la)) (s2 := (33, [some (.inr (.inr (some (7, v0)))), some (.inl v1), some (.inr (.inl v2)), none, some (.inl v4)], [], mem E mu la)) rfl rfl rfl rfl (fun hc => ?_) (fun hc => ?_)
  · have h := h.1 hc
    dsimp only
    refine Ev.steps 5 (ip' := 52) (ls' := [some (.inr (.inr (some (7, v0)))), some (.inl v1), some (.inr (.inl v2)), none, some (.inl v4)]) (st' := [.inl v1, .inr (.inr (some (29, v0))), .inr (.inl v2), .inr (.inr (some (7, v0)))]) (M' := mem E mu la) rfl ?_
    refine Ev.ial rfl rfl (by decide) h.1 ?_
    have h := h.2
    refine Ev.steps 1 (ip' := 54) (ls' := [some (.inr (.inr (some (7, v0)))), some (.inl v1), some (.inr (.inl v2)), none, some (.inl v4)]) (st' := [.inr (.inl ((mu 29 v0 v1.toNatClampNeg).toInt64)), .inr (.inl v2), .inr (.inr (some (7, v0)))]) (M' := mem E mu la) rfl ?_
    refine Ev.want (c := ((mu 29 v0 v1.toNatClampNeg).toInt64) = 0) (s2 := (55, [some (.inr (.inr (some (7, v0)))), some (.inl v1), some (.inr (.inl v2)), none, some (.inl v4)], [.inr (.inl (v2 / ((mu 29 v0 v1.toNatClampNeg).toInt64))), .inr (.inr (some (7, v0)))], mem E mu la)) rfl rfl rfl rfl h.1 ?_
    have h := h.2
    refine Ev.steps 1 (ip' := 56) (ls' := [some (.inr (.inr (some (7, v0)))), some (.inl v1), some (.inr (.inl v2)), none, some (.inl v4)]) (st' := [.inl ((v2 / ((mu 29 v0 v1.toNatClampNeg).toInt64)).toInt32), .inr (.inr (some (7, v0)))]) (M' := mem E mu la) rfl ?_
    refine Ev.ci (J := mi_133) (as := [.inr (.inr (some (7, v0))), .inl ((v2 / ((mu 29 v0 v1.toNatClampNeg).toInt64)).toInt32)]) (rest := []) rfl rfl rfl (Nat.le_of_ble_eq_true rfl) h (fun x10 mu11 la12 h => ?_)
    exact Ev.ret rfl rfl ⟨_, _, _, rfl, rfl, h⟩
  · have h := h.2 hc
    dsimp only
    refine Ev.steps 8 (ip' := 41) (ls' := [some (.inr (.inr (some (7, v0)))), some (.inl v1), some (.inr (.inl v2)), none, some (.inl v4)]) (st' := [.inl (((40 : Int32) * v1) + v4), .inr (.inr (some (30, v0))), .inr (.inl v2)]) (M' := mem E mu la) rfl ?_
    refine Ev.ial rfl rfl (by decide) h.1 ?_
    have h := h.2
    refine Ev.steps 5 (ip' := 27) (ls' := [some (.inr (.inr (some (7, v0)))), some (.inl v1), some (.inr (.inl (v2 + ((mu 30 v0 (((40 : Int32) * v1) + v4).toNatClampNeg).toInt64)))), none, some (.inl (v4 + (1 : Int32)))]) (st' := []) (M' := mem E mu la) rfl ?_
    exact h
set_option maxRecDepth 100000 in
/-- AnnCupsModel.text(II)I -/
theorem vc_X7_text {E : mEv} {d : Nat} {c : Nat} (a0 : Int32) (a1 : Int32) {mu : fMu} {la : fLa} {Q : Int32 → fMu → fLa → Prop} (h : FnI E d mi_136 [.inl a0] mu la (fun x1 mu2 la3 => (x1 = 0 → (Q (-1 : Int32) mu2 la3)) ∧ (¬ (x1 = 0) → ((a1 ≤ (60 : Int32) → ((0 ≤ a1 → (vp_in a0 4 ∧ ∀ mu4 : fMu, mu4 = up3 mu2 31 c a0.toNatClampNeg a1 → (Ev E (d + 1) mi_143 21 [some (.inr (.inr (some (7, c)))), some (.inl a0), some (.inl a1), some (.inl (0 : Int32))] [] (mem E mu4 la3) (qI E Q)))) ∧ (¬ (0 ≤ a1) → (FnI E d mi_132 [.inr (.inr (some (7, c))), .inl (5 : Int32)] mu2 la3 (fun x5 mu6 la7 => Q x5 mu6 la7))))) ∧ (¬ (a1 ≤ (60 : Int32)) → (Q (-1 : Int32) mu2 la3)))))) : FnI E (d + 1) mi_143 [.inr (.inr (some (7, c))), .inl a0, .inl a1] mu la Q := by
  unfold FnI
  show Ev E (d + 1) mi_143 0 [some (.inr (.inr (some (7, c)))), some (.inl a0), some (.inl a1), none] [] (mem E mu la) (qI E Q)
  refine Ev.steps 1 (ip' := 1) (ls' := [some (.inr (.inr (some (7, c)))), some (.inl a0), some (.inl a1), none]) (st' := [.inl a0]) (M' := mem E mu la) rfl ?_
  refine Ev.ci (J := mi_136) (as := [.inl a0]) (rest := []) rfl rfl rfl (Nat.le_of_ble_eq_true rfl) h (fun x1 mu2 la3 h => ?_)
  refine Ev.br (c := x1 = 0) (s1 := (6, [some (.inr (.inr (some (7, c)))), some (.inl a0), some (.inl a1), none], [], mem E mu2 la3)) (s2 := (3, [some (.inr (.inr (some (7, c)))), some (.inl a0), some (.inl a1), none], [], mem E mu2 la3)) rfl rfl rfl rfl (fun hc => ?_) (fun hc => ?_)
  · have h := h.1 hc
    dsimp only
    refine Ev.steps 1 (ip' := 7) (ls' := [some (.inr (.inr (some (7, c)))), some (.inl a0), some (.inl a1), none]) (st' := [.inl (-1 : Int32)]) (M' := mem E mu2 la3) rfl ?_
    exact Ev.ret rfl rfl ⟨_, _, _, rfl, rfl, h⟩
  · have h := h.2 hc
    dsimp only
    refine Ev.steps 2 (ip' := 5) (ls' := [some (.inr (.inr (some (7, c)))), some (.inl a0), some (.inl a1), none]) (st' := [.inl (60 : Int32), .inl a1]) (M' := mem E mu2 la3) rfl ?_
    refine Ev.br (c := a1 ≤ (60 : Int32)) (s1 := (8, [some (.inr (.inr (some (7, c)))), some (.inl a0), some (.inl a1), none], [], mem E mu2 la3)) (s2 := (6, [some (.inr (.inr (some (7, c)))), some (.inl a0), some (.inl a1), none], [], mem E mu2 la3)) rfl rfl rfl rfl (fun hc => ?_) (fun hc => ?_)
    · have h := h.1 hc
      dsimp only
      refine Ev.steps 1 (ip' := 9) (ls' := [some (.inr (.inr (some (7, c)))), some (.inl a0), some (.inl a1), none]) (st' := [.inl a1]) (M' := mem E mu2 la3) rfl ?_
      refine Ev.br (c := 0 ≤ a1) (s1 := (14, [some (.inr (.inr (some (7, c)))), some (.inl a0), some (.inl a1), none], [], mem E mu2 la3)) (s2 := (10, [some (.inr (.inr (some (7, c)))), some (.inl a0), some (.inl a1), none], [], mem E mu2 la3)) rfl rfl rfl rfl (fun hc => ?_) (fun hc => ?_)
      · have h := h.1 hc
        dsimp only
        refine Ev.steps 4 (ip' := 18) (ls' := [some (.inr (.inr (some (7, c)))), some (.inl a0), some (.inl a1), none]) (st' := [.inl a1, .inl a0, .inr (.inr (some (31, c)))]) (M' := mem E mu2 la3) rfl ?_
        refine Ev.ias rfl rfl h.1 ?_
        have h := h.2
        generalize hgmu4 : up3 mu2 31 c a0.toNatClampNeg a1 = mu4
        have h := h mu4 hgmu4.symm
        refine Ev.steps 2 (ip' := 21) (ls' := [some (.inr (.inr (some (7, c)))), some (.inl a0), some (.inl a1), some (.inl (0 : Int32))]) (st' := []) (M' := mem E mu4 la3) rfl ?_
        exact h
      · have h := h.2 hc
        dsimp only
        refine Ev.steps 2 (ip' := 12) (ls' := [some (.inr (.inr (some (7, c)))), some (.inl a0), some (.inl a1), none]) (st' := [.inl (5 : Int32), .inr (.inr (some (7, c)))]) (M' := mem E mu2 la3) rfl ?_
        refine Ev.ci (J := mi_132) (as := [.inr (.inr (some (7, c))), .inl (5 : Int32)]) (rest := []) rfl rfl rfl (Nat.le_of_ble_eq_true rfl) h (fun x5 mu6 la7 h => ?_)
        exact Ev.ret rfl rfl ⟨_, _, _, rfl, rfl, h⟩
    · have h := h.2 hc
      dsimp only
      refine Ev.steps 1 (ip' := 7) (ls' := [some (.inr (.inr (some (7, c)))), some (.inl a0), some (.inl a1), none]) (st' := [.inl (-1 : Int32)]) (M' := mem E mu2 la3) rfl ?_
      exact Ev.ret rfl rfl ⟨_, _, _, rfl, rfl, h⟩
set_option maxRecDepth 100000 in
theorem vc_X7_text_21 {E : mEv} {d : Nat}  (v0 : Nat) (v1 : Int32) (v2 : Int32) (v3 : Int32) {mu : fMu} {la : fLa} {Q : Int32 → fMu → fLa → Prop} (h : ((60 : Int32) ≤ v3 → (Q v2 mu la)) ∧ (¬ ((60 : Int32) ≤ v3) → (vp_in (((60 : Int32) * v1) + v3) 240 ∧ ∀ mu8 : fMu, mu8 = up3 mu 32 v0 (((60 : Int32) * v1) + v3).toNatClampNeg (32 : Int32) → (Ev E (d + 1) mi_143 21 [some (.inr (.inr (some (7, v0)))), some (.inl v1), some (.inl v2), some (.inl (v3 + (1 : Int32)))] [] (mem E mu8 la) (qI E Q))))) : Ev E (d + 1) mi_143 21 [some (.inr (.inr (some (7, v0)))), some (.inl v1), some (.inl v2), some (.inl v3)] [] (mem E mu la) (qI E Q) := by
  refine Ev.steps 2 (ip' := 23) (ls' := [some (.inr (.inr (some (7, v0)))), some (.inl v1), some (.inl v2), some (.inl v3)]) (st' := [.inl (60 : Int32), .inl v3]) (M' := mem E mu la) rfl ?_
  refine Ev.br (c := (60 : Int32) ≤ v3) (s1 := (35, [some (.inr (.inr (some (7, v0)))), some (.inl v1), some (.inl v2), some (.inl v3)], [], mem E mu la)) (s2 := (24, [some (.inr (.inr (some (7, v0)))), some (.inl v1), some (.inl v2), some (.inl v3)], [], mem E mu la)) rfl rfl rfl rfl (fun hc => ?_) (fun hc => ?_)
  · have h := h.1 hc
    dsimp only
    refine Ev.steps 1 (ip' := 36) (ls' := [some (.inr (.inr (some (7, v0)))), some (.inl v1), some (.inl v2), some (.inl v3)]) (st' := [.inl v2]) (M' := mem E mu la) rfl ?_
    exact Ev.ret rfl rfl ⟨_, _, _, rfl, rfl, h⟩
  · have h := h.2 hc
    dsimp only
    refine Ev.steps 8 (ip' := 32) (ls' := [some (.inr (.inr (some (7, v0)))), some (.inl v1), some (.inl v2), some (.inl v3)]) (st' := [.inl (32 : Int32), .inl (((60 : Int32) * v1) + v3), .inr (.inr (some (32, v0)))]) (M' := mem E mu la) rfl ?_
    refine Ev.ias rfl rfl h.1 ?_
    have h := h.2
    generalize hgmu8 : up3 mu 32 v0 (((60 : Int32) * v1) + v3).toNatClampNeg (32 : Int32) = mu8
    have h := h mu8 hgmu8.symm
    refine Ev.steps 2 (ip' := 21) (ls' := [some (.inr (.inr (some (7, v0)))), some (.inl v1), some (.inl v2), some (.inl (v3 + (1 : Int32)))]) (st' := []) (M' := mem E mu8 la) rfl ?_
    exact h
set_option maxRecDepth 100000 in
/-- AnnCupsModel.put(III)I -/
theorem vc_X7_put {E : mEv} {d : Nat} {c : Nat} (a0 : Int32) (a1 : Int32) (a2 : Int32) {mu : fMu} {la : fLa} {Q : Int32 → fMu → fLa → Prop} (h : FnI E d mi_136 [.inl a0] mu la (fun x1 mu2 la3 => (¬ x1 = 0 → (vp_in a0 4 ∧ ((0 ≤ (mu2 31 c a0.toNatClampNeg) → (vp_in a0 4 ∧ (FnI E d mi_129 [.inr (.inl a1.toInt64), .inr (.inl (0 : Int64)), .inr (.inl (((mu2 31 c a0.toNatClampNeg) - (1 : Int32)).toInt64))] mu2 la3 (fun x4 mu5 la6 => (¬ x4 = 0 → (vp_in (((60 : Int32) * a0) + a1) 240 ∧ (vp_in (((60 : Int32) * a0) + a1) 240 ∧ ∀ mu7 : fMu, mu7 = up3 mu5 32 c (((60 : Int32) * a0) + a1).toNatClampNeg a2.toInt8.toInt32 → (Q ((mu5 32 c (((60 : Int32) * a0) + a1).toNatClampNeg) + (1000 : Int32)) mu7 la6)))) ∧ (¬ (¬ x4 = 0) → (FnI E d mi_132 [.inr (.inr (some (7, c))), .inl (2 : Int32)] mu5 la6 (fun x8 mu9 la10 => Q x8 mu9 la10))))))) ∧ (¬ (0 ≤ (mu2 31 c a0.toNatClampNeg)) → (FnI E d mi_132 [.inr (.inr (some (7, c))), .inl (1 : Int32)] mu2 la3 (fun x11 mu12 la13 => Q x11 mu12 la13)))))) ∧ (¬ (¬ x1 = 0) → (Q (-1 : Int32) mu2 la3)))) : FnI E (d + 1) mi_144 [.inr (.inr (some (7, c))), .inl a0, .inl a1, .inl a2] mu la Q := by
  unfold FnI
  show Ev E (d + 1) mi_144 0 [some (.inr (.inr (some (7, c)))), some (.inl a0), some (.inl a1), some (.inl a2), none] [] (mem E mu la) (qI E Q)
  refine Ev.steps 1 (ip' := 1) (ls' := [some (.inr (.inr (some (7, c)))), some (.inl a0), some (.inl a1), some (.inl a2), none]) (st' := [.inl a0]) (M' := mem E mu la) rfl ?_
  refine Ev.ci (J := mi_136) (as := [.inl a0]) (rest := []) rfl rfl rfl (Nat.le_of_ble_eq_true rfl) h (fun x1 mu2 la3 h => ?_)
  refine Ev.br (c := ¬ x1 = 0) (s1 := (5, [some (.inr (.inr (some (7, c)))), some (.inl a0), some (.inl a1), some (.inl a2), none], [], mem E mu2 la3)) (s2 := (3, [some (.inr (.inr (some (7, c)))), some (.inl a0), some (.inl a1), some (.inl a2), none], [], mem E mu2 la3)) rfl rfl rfl rfl (fun hc => ?_) (fun hc => ?_)
  · have h := h.1 hc
    dsimp only
    refine Ev.steps 3 (ip' := 8) (ls' := [some (.inr (.inr (some (7, c)))), some (.inl a0), some (.inl a1), some (.inl a2), none]) (st' := [.inl a0, .inr (.inr (some (31, c)))]) (M' := mem E mu2 la3) rfl ?_
    refine Ev.ial rfl rfl (by decide) h.1 ?_
    have h := h.2
    refine Ev.br (c := 0 ≤ (mu2 31 c a0.toNatClampNeg)) (s1 := (14, [some (.inr (.inr (some (7, c)))), some (.inl a0), some (.inl a1), some (.inl a2), none], [], mem E mu2 la3)) (s2 := (10, [some (.inr (.inr (some (7, c)))), some (.inl a0), some (.inl a1), some (.inl a2), none], [], mem E mu2 la3)) rfl rfl rfl rfl (fun hc => ?_) (fun hc => ?_)
    · have h := h.1 hc
      dsimp only
      refine Ev.steps 6 (ip' := 20) (ls' := [some (.inr (.inr (some (7, c)))), some (.inl a0), some (.inl a1), some (.inl a2), none]) (st' := [.inl a0, .inr (.inr (some (31, c))), .inr (.inl (0 : Int64)), .inr (.inl a1.toInt64)]) (M' := mem E mu2 la3) rfl ?_
      refine Ev.ial rfl rfl (by decide) h.1 ?_
      have h := h.2
      refine Ev.steps 3 (ip' := 24) (ls' := [some (.inr (.inr (some (7, c)))), some (.inl a0), some (.inl a1), some (.inl a2), none]) (st' := [.inr (.inl (((mu2 31 c a0.toNatClampNeg) - (1 : Int32)).toInt64)), .inr (.inl (0 : Int64)), .inr (.inl a1.toInt64)]) (M' := mem E mu2 la3) rfl ?_
      refine Ev.ci (J := mi_129) (as := [.inr (.inl a1.toInt64), .inr (.inl (0 : Int64)), .inr (.inl (((mu2 31 c a0.toNatClampNeg) - (1 : Int32)).toInt64))]) (rest := []) rfl rfl rfl (Nat.le_of_ble_eq_true rfl) h (fun x4 mu5 la6 h => ?_)
      refine Ev.br (c := ¬ x4 = 0) (s1 := (30, [some (.inr (.inr (some (7, c)))), some (.inl a0), some (.inl a1), some (.inl a2), none], [], mem E mu5 la6)) (s2 := (26, [some (.inr (.inr (some (7, c)))), some (.inl a0), some (.inl a1), some (.inl a2), none], [], mem E mu5 la6)) rfl rfl rfl rfl (fun hc => ?_) (fun hc => ?_)
      · have h := h.1 hc
        dsimp only
        refine Ev.steps 7 (ip' := 37) (ls' := [some (.inr (.inr (some (7, c)))), some (.inl a0), some (.inl a1), some (.inl a2), none]) (st' := [.inl (((60 : Int32) * a0) + a1), .inr (.inr (some (32, c)))]) (M' := mem E mu5 la6) rfl ?_
        refine Ev.ial rfl rfl (by decide) h.1 ?_
        have h := h.2
        refine Ev.steps 10 (ip' := 48) (ls' := [some (.inr (.inr (some (7, c)))), some (.inl a0), some (.inl a1), some (.inl a2), some (.inl (mu5 32 c (((60 : Int32) * a0) + a1).toNatClampNeg))]) (st' := [.inl a2.toInt8.toInt32, .inl (((60 : Int32) * a0) + a1), .inr (.inr (some (32, c)))]) (M' := mem E mu5 la6) rfl ?_
        refine Ev.ias rfl rfl h.1 ?_
        have h := h.2
        generalize hgmu7 : up3 mu5 32 c (((60 : Int32) * a0) + a1).toNatClampNeg a2.toInt8.toInt32 = mu7
        have h := h mu7 hgmu7.symm
        refine Ev.steps 3 (ip' := 52) (ls' := [some (.inr (.inr (some (7, c)))), some (.inl a0), some (.inl a1), some (.inl a2), some (.inl (mu5 32 c (((60 : Int32) * a0) + a1).toNatClampNeg))]) (st' := [.inl ((mu5 32 c (((60 : Int32) * a0) + a1).toNatClampNeg) + (1000 : Int32))]) (M' := mem E mu7 la6) rfl ?_
        exact Ev.ret rfl rfl ⟨_, _, _, rfl, rfl, h⟩
      · have h := h.2 hc
        dsimp only
        refine Ev.steps 2 (ip' := 28) (ls' := [some (.inr (.inr (some (7, c)))), some (.inl a0), some (.inl a1), some (.inl a2), none]) (st' := [.inl (2 : Int32), .inr (.inr (some (7, c)))]) (M' := mem E mu5 la6) rfl ?_
        refine Ev.ci (J := mi_132) (as := [.inr (.inr (some (7, c))), .inl (2 : Int32)]) (rest := []) rfl rfl rfl (Nat.le_of_ble_eq_true rfl) h (fun x8 mu9 la10 h => ?_)
        exact Ev.ret rfl rfl ⟨_, _, _, rfl, rfl, h⟩
    · have h := h.2 hc
      dsimp only
      refine Ev.steps 2 (ip' := 12) (ls' := [some (.inr (.inr (some (7, c)))), some (.inl a0), some (.inl a1), some (.inl a2), none]) (st' := [.inl (1 : Int32), .inr (.inr (some (7, c)))]) (M' := mem E mu2 la3) rfl ?_
      refine Ev.ci (J := mi_132) (as := [.inr (.inr (some (7, c))), .inl (1 : Int32)]) (rest := []) rfl rfl rfl (Nat.le_of_ble_eq_true rfl) h (fun x11 mu12 la13 h => ?_)
      exact Ev.ret rfl rfl ⟨_, _, _, rfl, rfl, h⟩
  · have h := h.2 hc
    dsimp only
    refine Ev.steps 1 (ip' := 4) (ls' := [some (.inr (.inr (some (7, c)))), some (.inl a0), some (.inl a1), some (.inl a2), none]) (st' := [.inl (-1 : Int32)]) (M' := mem E mu2 la3) rfl ?_
    exact Ev.ret rfl rfl ⟨_, _, _, rfl, rfl, h⟩
set_option maxRecDepth 100000 in
/-- AnnCupsModel.byteAt(I)I -/
theorem vc_X7_byteAt {E : mEv} {d : Nat} {c : Nat} (a0 : Int32) {mu : fMu} {la : fLa} {Q : Int32 → fMu → fLa → Prop} (h : vp_in a0 4 ∧ (((mu 31 c a0.toNatClampNeg) ≤ (mu 7 c 22) → (Q (-1000 : Int32) mu la)) ∧ (¬ ((mu 31 c a0.toNatClampNeg) ≤ (mu 7 c 22)) → (vp_in (((60 : Int32) * a0) + (mu 7 c 22)) 240 ∧ (Q (mu 32 c (((60 : Int32) * a0) + (mu 7 c 22)).toNatClampNeg) mu la))))) : FnI E d mi_145 [.inr (.inr (some (7, c))), .inl a0] mu la Q := by
  unfold FnI
  show Ev E d mi_145 0 [some (.inr (.inr (some (7, c)))), some (.inl a0)] [] (mem E mu la) (qI E Q)
  refine Ev.steps 5 (ip' := 5) (ls' := [some (.inr (.inr (some (7, c)))), some (.inl a0)]) (st' := [.inl a0, .inr (.inr (some (31, c))), .inl (mu 7 c 22)]) (M' := mem E mu la) rfl ?_
  refine Ev.ial rfl rfl (by decide) h.1 ?_
  have h := h.2
  refine Ev.br (c := (mu 31 c a0.toNatClampNeg) ≤ (mu 7 c 22)) (s1 := (17, [some (.inr (.inr (some (7, c)))), some (.inl a0)], [], mem E mu la)) (s2 := (7, [some (.inr (.inr (some (7, c)))), some (.inl a0)], [], mem E mu la)) rfl rfl rfl rfl (fun hc => ?_) (fun hc => ?_)
  · have h := h.1 hc
    dsimp only
    refine Ev.steps 1 (ip' := 18) (ls' := [some (.inr (.inr (some (7, c)))), some (.inl a0)]) (st' := [.inl (-1000 : Int32)]) (M' := mem E mu la) rfl ?_
    exact Ev.ret rfl rfl ⟨_, _, _, rfl, rfl, h⟩
  · have h := h.2 hc
    dsimp only
    refine Ev.steps 8 (ip' := 15) (ls' := [some (.inr (.inr (some (7, c)))), some (.inl a0)]) (st' := [.inl (((60 : Int32) * a0) + (mu 7 c 22)), .inr (.inr (some (32, c)))]) (M' := mem E mu la) rfl ?_
    refine Ev.ial rfl rfl (by decide) h.1 ?_
    have h := h.2
    refine Ev.steps 1 (ip' := 18) (ls' := [some (.inr (.inr (some (7, c)))), some (.inl a0)]) (st' := [.inl (mu 32 c (((60 : Int32) * a0) + (mu 7 c 22)).toNatClampNeg)]) (M' := mem E mu la) rfl ?_
    exact Ev.ret rfl rfl ⟨_, _, _, rfl, rfl, h⟩
set_option maxRecDepth 100000 in
/-- AnnCupsModel.blanks(I)V -/
theorem vc_X7_blanks {E : mEv} {d : Nat} {c : Nat} (a0 : Int32) {mu : fMu} {la : fLa} {Q : fMu → fLa → Prop} (h : Ev E (d + 1) mi_146 0 [some (.inr (.inr (some (7, c)))), some (.inl a0)] [] (mem E mu la) (qV E Q)) : FnV E (d + 1) mi_146 [.inr (.inr (some (7, c))), .inl a0] mu la Q := by
  unfold FnV
  show Ev E (d + 1) mi_146 0 [some (.inr (.inr (some (7, c)))), some (.inl a0)] [] (mem E mu la) (qV E Q)
  exact h
set_option maxRecDepth 100000 in
theorem vc_X7_blanks_0 {E : mEv} {d : Nat}  (v0 : Nat) (v1 : Int32) {mu : fMu} {la : fLa} {Q : fMu → fLa → Prop} (h : FnI E d mi_145 [.inr (.inr (some (7, v0))), .inl v1] mu la (fun x1 mu2 la3 => (¬ x1 = (32 : Int32) → (Q mu2 la3)) ∧ (¬ (¬ x1 = (32 : Int32)) → (∀ mu4 : fMu, mu4 = up3 mu2 7 v0 22 ((mu2 7 v0 22) + (1 : Int32)) → (Ev E (d + 1) mi_146 0 [some (.inr (.inr (some (7, v0)))), some (.inl v1)] [] (mem E mu4 la3) (qV E Q)))))) : Ev E (d + 1) mi_146 0 [some (.inr (.inr (some (7, v0)))), some (.inl v1)] [] (mem E mu la) (qV E Q) := by
  refine Ev.steps 2 (ip' := 2) (ls' := [some (.inr (.inr (some (7, v0)))), some (.inl v1)]) (st' := [.inl v1, .inr (.inr (some (7, v0)))]) (M' := mem E mu la) rfl ?_
  refine Ev.ci (J := mi_145) (as := [.inr (.inr (some (7, v0))), .inl v1]) (rest := []) rfl rfl rfl (Nat.le_of_ble_eq_true rfl) h (fun x1 mu2 la3 h => ?_)
  refine Ev.steps 1 (ip' := 4) (ls' := [some (.inr (.inr (some (7, v0)))), some (.inl v1)]) (st' := [.inl (32 : Int32), .inl x1]) (M' := mem E mu2 la3) rfl ?_
  refine Ev.br (c := ¬ x1 = (32 : Int32)) (s1 := (12, [some (.inr (.inr (some (7, v0)))), some (.inl v1)], [], mem E mu2 la3)) (s2 := (5, [some (.inr (.inr (some (7, v0)))), some (.inl v1)], [], mem E mu2 la3)) rfl rfl rfl rfl (fun hc => ?_) (fun hc => ?_)
  · have h := h.1 hc
    dsimp only
    exact Ev.ret rfl rfl ⟨_, _, rfl, rfl, h⟩
  · have h := h.2 hc
    dsimp only
    refine Ev.steps 6 (ip' := 11) (ls' := [some (.inr (.inr (some (7, v0)))), some (.inl v1)]) (st' := []) (M' := mem E (up3 mu2 7 v0 22 ((mu2 7 v0 22) + (1 : Int32))) la3) rfl ?_
    generalize hgmu4 : up3 mu2 7 v0 22 ((mu2 7 v0 22) + (1 : Int32)) = mu4
    have h := h mu4 hgmu4.symm
    refine Ev.steps 1 (ip' := 0) (ls' := [some (.inr (.inr (some (7, v0)))), some (.inl v1)]) (st' := []) (M' := mem E mu4 la3) rfl ?_
    exact h
set_option maxRecDepth 100000 in
/-- AnnCupsModel.kindOf(I)I -/
theorem vc_X7_kindOf {E : mEv} {d : Nat} (a0 : Int32) {mu : fMu} {la : fLa} {Q : Int32 → fMu → fLa → Prop} (h : (¬ a0 = (99 : Int32) → ((¬ a0 = (106 : Int32) → ((¬ a0 = (116 : Int32) → ((¬ a0 = (103 : Int32) → ((¬ a0 = (102 : Int32) → ((¬ a0 = (100 : Int32) → (Q (-1 : Int32) mu la)) ∧ (¬ (¬ a0 = (100 : Int32)) → (Q (5 : Int32) mu la)))) ∧ (¬ (¬ a0 = (102 : Int32)) → (Q (4 : Int32) mu la)))) ∧ (¬ (¬ a0 = (103 : Int32)) → (Q (3 : Int32) mu la)))) ∧ (¬ (¬ a0 = (116 : Int32)) → (Q (2 : Int32) mu la)))) ∧ (¬ (¬ a0 = (106 : Int32)) → (Q (1 : Int32) mu la)))) ∧ (¬ (¬ a0 = (99 : Int32)) → (Q (0 : Int32) mu la))) : FnI E d mi_147 [.inl a0] mu la Q := by
  unfold FnI
  show Ev E d mi_147 0 [some (.inl a0)] [] (mem E mu la) (qI E Q)
  refine Ev.steps 2 (ip' := 2) (ls' := [some (.inl a0)]) (st' := [.inl (99 : Int32), .inl a0]) (M' := mem E mu la) rfl ?_
  refine Ev.br (c := ¬ a0 = (99 : Int32)) (s1 := (5, [some (.inl a0)], [], mem E mu la)) (s2 := (3, [some (.inl a0)], [], mem E mu la)) rfl rfl rfl rfl (fun hc => ?_) (fun hc => ?_)
  · have h := h.1 hc
    dsimp only
    refine Ev.steps 2 (ip' := 7) (ls' := [some (.inl a0)]) (st' := [.inl (106 : Int32), .inl a0]) (M' := mem E mu la) rfl ?_
    refine Ev.br (c := ¬ a0 = (106 : Int32)) (s1 := (10, [some (.inl a0)], [], mem E mu la)) (s2 := (8, [some (.inl a0)], [], mem E mu la)) rfl rfl rfl rfl (fun hc => ?_) (fun hc => ?_)
    · have h := h.1 hc
      dsimp only
      refine Ev.steps 2 (ip' := 12) (ls' := [some (.inl a0)]) (st' := [.inl (116 : Int32), .inl a0]) (M' := mem E mu la) rfl ?_
      refine Ev.br (c := ¬ a0 = (116 : Int32)) (s1 := (15, [some (.inl a0)], [], mem E mu la)) (s2 := (13, [some (.inl a0)], [], mem E mu la)) rfl rfl rfl rfl (fun hc => ?_) (fun hc => ?_)
      · have h := h.1 hc
        dsimp only
        refine Ev.steps 2 (ip' := 17) (ls' := [some (.inl a0)]) (st' := [.inl (103 : Int32), .inl a0]) (M' := mem E mu la) rfl ?_
        refine Ev.br (c := ¬ a0 = (103 : Int32)) (s1 := (20, [some (.inl a0)], [], mem E mu la)) (s2 := (18, [some (.inl a0)], [], mem E mu la)) rfl rfl rfl rfl (fun hc => ?_) (fun hc => ?_)
        · have h := h.1 hc
          dsimp only
          refine Ev.steps 2 (ip' := 22) (ls' := [some (.inl a0)]) (st' := [.inl (102 : Int32), .inl a0]) (M' := mem E mu la) rfl ?_
          refine Ev.br (c := ¬ a0 = (102 : Int32)) (s1 := (25, [some (.inl a0)], [], mem E mu la)) (s2 := (23, [some (.inl a0)], [], mem E mu la)) rfl rfl rfl rfl (fun hc => ?_) (fun hc => ?_)
          · have h := h.1 hc
            dsimp only
            refine Ev.steps 2 (ip' := 27) (ls' := [some (.inl a0)]) (st' := [.inl (100 : Int32), .inl a0]) (M' := mem E mu la) rfl ?_
            refine Ev.br (c := ¬ a0 = (100 : Int32)) (s1 := (30, [some (.inl a0)], [], mem E mu la)) (s2 := (28, [some (.inl a0)], [], mem E mu la)) rfl rfl rfl rfl (fun hc => ?_) (fun hc => ?_)
            · have h := h.1 hc
              dsimp only
              refine Ev.steps 1 (ip' := 31) (ls' := [some (.inl a0)]) (st' := [.inl (-1 : Int32)]) (M' := mem E mu la) rfl ?_
              exact Ev.ret rfl rfl ⟨_, _, _, rfl, rfl, h⟩
            · have h := h.2 hc
              dsimp only
              refine Ev.steps 2 (ip' := 31) (ls' := [some (.inl a0)]) (st' := [.inl (5 : Int32)]) (M' := mem E mu la) rfl ?_
              exact Ev.ret rfl rfl ⟨_, _, _, rfl, rfl, h⟩
          · have h := h.2 hc
            dsimp only
            refine Ev.steps 2 (ip' := 31) (ls' := [some (.inl a0)]) (st' := [.inl (4 : Int32)]) (M' := mem E mu la) rfl ?_
            exact Ev.ret rfl rfl ⟨_, _, _, rfl, rfl, h⟩
        · have h := h.2 hc
          dsimp only
          refine Ev.steps 2 (ip' := 31) (ls' := [some (.inl a0)]) (st' := [.inl (3 : Int32)]) (M' := mem E mu la) rfl ?_
          exact Ev.ret rfl rfl ⟨_, _, _, rfl, rfl, h⟩
      · have h := h.2 hc
        dsimp only
        refine Ev.steps 2 (ip' := 31) (ls' := [some (.inl a0)]) (st' := [.inl (2 : Int32)]) (M' := mem E mu la) rfl ?_
        exact Ev.ret rfl rfl ⟨_, _, _, rfl, rfl, h⟩
    · have h := h.2 hc
      dsimp only
      refine Ev.steps 2 (ip' := 31) (ls' := [some (.inl a0)]) (st' := [.inl (1 : Int32)]) (M' := mem E mu la) rfl ?_
      exact Ev.ret rfl rfl ⟨_, _, _, rfl, rfl, h⟩
  · have h := h.2 hc
    dsimp only
    refine Ev.steps 2 (ip' := 31) (ls' := [some (.inl a0)]) (st' := [.inl (0 : Int32)]) (M' := mem E mu la) rfl ?_
    exact Ev.ret rfl rfl ⟨_, _, _, rfl, rfl, h⟩
set_option maxRecDepth 100000 in
/-- AnnCupsModel.takes(III)Z -/
theorem vc_X7_takes {E : mEv} {d : Nat} {c : Nat} (a0 : Int32) (a1 : Int32) (a2 : Int32) {mu : fMu} {la : fLa} {Q : Int32 → fMu → fLa → Prop} (h : FnI E d mi_145 [.inr (.inr (some (7, c))), .inl a0] mu la (fun x1 mu2 la3 => ∀ mu4 : fMu, mu4 = up3 mu2 7 c 26 (x1 - (48 : Int32)) → (FnI E d mi_129 [.inr (.inl ((mu4 7 c 26).toInt64)), .inr (.inl a1.toInt64), .inr (.inl a2.toInt64)] mu4 la3 (fun x5 mu6 la7 => (¬ x5 = 0 → (∀ mu8 : fMu, mu8 = up3 mu6 7 c 22 ((mu6 7 c 22) + (1 : Int32)) → (Q (1 : Int32) mu8 la7))) ∧ (¬ (¬ x5 = 0) → (Q (0 : Int32) mu6 la7)))))) : FnI E (d + 1) mi_148 [.inr (.inr (some (7, c))), .inl a0, .inl a1, .inl a2] mu la Q := by
  unfold FnI
  show Ev E (d + 1) mi_148 0 [some (.inr (.inr (some (7, c)))), some (.inl a0), some (.inl a1), some (.inl a2)] [] (mem E mu la) (qI E Q)
  refine Ev.steps 3 (ip' := 3) (ls' := [some (.inr (.inr (some (7, c)))), some (.inl a0), some (.inl a1), some (.inl a2)]) (st' := [.inl a0, .inr (.inr (some (7, c))), .inr (.inr (some (7, c)))]) (M' := mem E mu la) rfl ?_
  refine Ev.ci (J := mi_145) (as := [.inr (.inr (some (7, c))), .inl a0]) (rest := [.inr (.inr (some (7, c)))]) rfl rfl rfl (Nat.le_of_ble_eq_true rfl) h (fun x1 mu2 la3 h => ?_)
  refine Ev.steps 3 (ip' := 7) (ls' := [some (.inr (.inr (some (7, c)))), some (.inl a0), some (.inl a1), some (.inl a2)]) (st' := []) (M' := mem E (up3 mu2 7 c 26 (x1 - (48 : Int32))) la3) rfl ?_
  generalize hgmu4 : up3 mu2 7 c 26 (x1 - (48 : Int32)) = mu4
  have h := h mu4 hgmu4.symm
  refine Ev.steps 7 (ip' := 14) (ls' := [some (.inr (.inr (some (7, c)))), some (.inl a0), some (.inl a1), some (.inl a2)]) (st' := [.inr (.inl a2.toInt64), .inr (.inl a1.toInt64), .inr (.inl ((mu4 7 c 26).toInt64))]) (M' := mem E mu4 la3) rfl ?_
  refine Ev.ci (J := mi_129) (as := [.inr (.inl ((mu4 7 c 26).toInt64)), .inr (.inl a1.toInt64), .inr (.inl a2.toInt64)]) (rest := []) rfl rfl rfl (Nat.le_of_ble_eq_true rfl) h (fun x5 mu6 la7 h => ?_)
  refine Ev.br (c := ¬ x5 = 0) (s1 := (18, [some (.inr (.inr (some (7, c)))), some (.inl a0), some (.inl a1), some (.inl a2)], [], mem E mu6 la7)) (s2 := (16, [some (.inr (.inr (some (7, c)))), some (.inl a0), some (.inl a1), some (.inl a2)], [], mem E mu6 la7)) rfl rfl rfl rfl (fun hc => ?_) (fun hc => ?_)
  · have h := h.1 hc
    dsimp only
    refine Ev.steps 6 (ip' := 24) (ls' := [some (.inr (.inr (some (7, c)))), some (.inl a0), some (.inl a1), some (.inl a2)]) (st' := []) (M' := mem E (up3 mu6 7 c 22 ((mu6 7 c 22) + (1 : Int32))) la7) rfl ?_
    generalize hgmu8 : up3 mu6 7 c 22 ((mu6 7 c 22) + (1 : Int32)) = mu8
    have h := h mu8 hgmu8.symm
    refine Ev.steps 1 (ip' := 25) (ls' := [some (.inr (.inr (some (7, c)))), some (.inl a0), some (.inl a1), some (.inl a2)]) (st' := [.inl (1 : Int32)]) (M' := mem E mu8 la7) rfl ?_
    exact Ev.retZ rfl rfl (Or.inr rfl) ⟨_, _, _, rfl, rfl, h⟩
  · have h := h.2 hc
    dsimp only
    refine Ev.steps 1 (ip' := 17) (ls' := [some (.inr (.inr (some (7, c)))), some (.inl a0), some (.inl a1), some (.inl a2)]) (st' := [.inl (0 : Int32)]) (M' := mem E mu6 la7) rfl ?_
    exact Ev.retZ rfl rfl (Or.inl rfl) ⟨_, _, _, rfl, rfl, h⟩
set_option maxRecDepth 100000 in
/-- AnnCupsModel.readsEars(I)Z -/
theorem vc_X7_readsEars {E : mEv} {d : Nat} {c : Nat} (a0 : Int32) {mu : fMu} {la : fLa} {Q : Int32 → fMu → fLa → Prop} (h : FnI E d mi_145 [.inr (.inr (some (7, c))), .inl a0] mu la (fun x1 mu2 la3 => (x1 = (101 : Int32) → (∀ mu4 : fMu, mu4 = up3 mu2 7 c 22 ((mu2 7 c 22) + (1 : Int32)) → (FnI E d mi_148 [.inr (.inr (some (7, c))), .inl a0, .inl (0 : Int32), .inl (9 : Int32)] mu4 la3 (fun x5 mu6 la7 => (¬ x5 = 0 → (∀ mu8 : fMu, mu8 = up3 mu6 7 c 23 (mu6 7 c 26) → (Q (1 : Int32) mu8 la7))) ∧ (¬ (¬ x5 = 0) → (Q (0 : Int32) mu6 la7)))))) ∧ (¬ (x1 = (101 : Int32)) → (Q (0 : Int32) mu2 la3)))) : FnI E (d + 1) mi_149 [.inr (.inr (some (7, c))), .inl a0] mu la Q := by
  unfold FnI
  show Ev E (d + 1) mi_149 0 [some (.inr (.inr (some (7, c)))), some (.inl a0)] [] (mem E mu la) (qI E Q)
  refine Ev.steps 2 (ip' := 2) (ls' := [some (.inr (.inr (some (7, c)))), some (.inl a0)]) (st' := [.inl a0, .inr (.inr (some (7, c)))]) (M' := mem E mu la) rfl ?_
  refine Ev.ci (J := mi_145) (as := [.inr (.inr (some (7, c))), .inl a0]) (rest := []) rfl rfl rfl (Nat.le_of_ble_eq_true rfl) h (fun x1 mu2 la3 h => ?_)
  refine Ev.steps 1 (ip' := 4) (ls' := [some (.inr (.inr (some (7, c)))), some (.inl a0)]) (st' := [.inl (101 : Int32), .inl x1]) (M' := mem E mu2 la3) rfl ?_
  refine Ev.br (c := x1 = (101 : Int32)) (s1 := (7, [some (.inr (.inr (some (7, c)))), some (.inl a0)], [], mem E mu2 la3)) (s2 := (5, [some (.inr (.inr (some (7, c)))), some (.inl a0)], [], mem E mu2 la3)) rfl rfl rfl rfl (fun hc => ?_) (fun hc => ?_)
  · have h := h.1 hc
    dsimp only
    refine Ev.steps 6 (ip' := 13) (ls' := [some (.inr (.inr (some (7, c)))), some (.inl a0)]) (st' := []) (M' := mem E (up3 mu2 7 c 22 ((mu2 7 c 22) + (1 : Int32))) la3) rfl ?_
    generalize hgmu4 : up3 mu2 7 c 22 ((mu2 7 c 22) + (1 : Int32)) = mu4
    have h := h mu4 hgmu4.symm
    refine Ev.steps 4 (ip' := 17) (ls' := [some (.inr (.inr (some (7, c)))), some (.inl a0)]) (st' := [.inl (9 : Int32), .inl (0 : Int32), .inl a0, .inr (.inr (some (7, c)))]) (M' := mem E mu4 la3) rfl ?_
    refine Ev.ci (J := mi_148) (as := [.inr (.inr (some (7, c))), .inl a0, .inl (0 : Int32), .inl (9 : Int32)]) (rest := []) rfl rfl rfl (Nat.le_of_ble_eq_true rfl) h (fun x5 mu6 la7 h => ?_)
    refine Ev.br (c := ¬ x5 = 0) (s1 := (21, [some (.inr (.inr (some (7, c)))), some (.inl a0)], [], mem E mu6 la7)) (s2 := (19, [some (.inr (.inr (some (7, c)))), some (.inl a0)], [], mem E mu6 la7)) rfl rfl rfl rfl (fun hc => ?_) (fun hc => ?_)
    · have h := h.1 hc
      dsimp only
      refine Ev.steps 4 (ip' := 25) (ls' := [some (.inr (.inr (some (7, c)))), some (.inl a0)]) (st' := []) (M' := mem E (up3 mu6 7 c 23 (mu6 7 c 26)) la7) rfl ?_
      generalize hgmu8 : up3 mu6 7 c 23 (mu6 7 c 26) = mu8
      have h := h mu8 hgmu8.symm
      refine Ev.steps 1 (ip' := 26) (ls' := [some (.inr (.inr (some (7, c)))), some (.inl a0)]) (st' := [.inl (1 : Int32)]) (M' := mem E mu8 la7) rfl ?_
      exact Ev.retZ rfl rfl (Or.inr rfl) ⟨_, _, _, rfl, rfl, h⟩
    · have h := h.2 hc
      dsimp only
      refine Ev.steps 1 (ip' := 20) (ls' := [some (.inr (.inr (some (7, c)))), some (.inl a0)]) (st' := [.inl (0 : Int32)]) (M' := mem E mu6 la7) rfl ?_
      exact Ev.retZ rfl rfl (Or.inl rfl) ⟨_, _, _, rfl, rfl, h⟩
  · have h := h.2 hc
    dsimp only
    refine Ev.steps 1 (ip' := 6) (ls' := [some (.inr (.inr (some (7, c)))), some (.inl a0)]) (st' := [.inl (0 : Int32)]) (M' := mem E mu2 la3) rfl ?_
    exact Ev.retZ rfl rfl (Or.inl rfl) ⟨_, _, _, rfl, rfl, h⟩
set_option maxRecDepth 100000 in
/-- AnnCupsModel.readsCup(I)Z -/
theorem vc_X7_readsCup {E : mEv} {d : Nat} {c : Nat} (a0 : Int32) {mu : fMu} {la : fLa} {Q : Int32 → fMu → fLa → Prop} (h : FnI E d mi_145 [.inr (.inr (some (7, c))), .inl a0] mu la (fun x1 mu2 la3 => FnI E d mi_147 [.inl x1] mu2 la3 (fun x4 mu5 la6 => (x4 < 0 → (Q (0 : Int32) mu5 la6)) ∧ (¬ (x4 < 0) → ((¬ (mu5 7 c 24) = (6 : Int32) → (∀ mu7 : fMu, mu7 = up3 mu5 7 c 22 ((mu5 7 c 22) + (1 : Int32)) → (vp_in ((5 : Int32) * (mu7 7 c 24)) 30 ∧ ∀ mu8 : fMu, mu8 = up3 mu7 44 c ((5 : Int32) * (mu7 7 c 24)).toNatClampNeg x4 → (Ev E (d + 1) mi_150 31 [some (.inr (.inr (some (7, c)))), some (.inl a0), none, some (.inl ((5 : Int32) * (mu7 7 c 24))), some (.inl (1 : Int32))] [] (mem E mu8 la6) (qI E Q))))) ∧ (¬ (¬ (mu5 7 c 24) = (6 : Int32)) → (Q (0 : Int32) mu5 la6))))))) : FnI E (d + 1) mi_150 [.inr (.inr (some (7, c))), .inl a0] mu la Q := by
  unfold FnI
  show Ev E (d + 1) mi_150 0 [some (.inr (.inr (some (7, c)))), some (.inl a0), none, none, none] [] (mem E mu la) (qI E Q)
  refine Ev.steps 2 (ip' := 2) (ls' := [some (.inr (.inr (some (7, c)))), some (.inl a0), none, none, none]) (st' := [.inl a0, .inr (.inr (some (7, c)))]) (M' := mem E mu la) rfl ?_
  refine Ev.ci (J := mi_145) (as := [.inr (.inr (some (7, c))), .inl a0]) (rest := []) rfl rfl rfl (Nat.le_of_ble_eq_true rfl) h (fun x1 mu2 la3 h => ?_)
  refine Ev.ci (J := mi_147) (as := [.inl x1]) (rest := []) rfl rfl rfl (Nat.le_of_ble_eq_true rfl) h (fun x4 mu5 la6 h => ?_)
  refine Ev.steps 2 (ip' := 6) (ls' := [some (.inr (.inr (some (7, c)))), some (.inl a0), some (.inl x4), none, none]) (st' := [.inl x4]) (M' := mem E mu5 la6) rfl ?_
  refine Ev.br (c := x4 < 0) (s1 := (11, [some (.inr (.inr (some (7, c)))), some (.inl a0), some (.inl x4), none, none], [], mem E mu5 la6)) (s2 := (7, [some (.inr (.inr (some (7, c)))), some (.inl a0), some (.inl x4), none, none], [], mem E mu5 la6)) rfl rfl rfl rfl (fun hc => ?_) (fun hc => ?_)
  · have h := h.1 hc
    dsimp only
    refine Ev.steps 1 (ip' := 12) (ls' := [some (.inr (.inr (some (7, c)))), some (.inl a0), some (.inl x4), none, none]) (st' := [.inl (0 : Int32)]) (M' := mem E mu5 la6) rfl ?_
    exact Ev.retZ rfl rfl (Or.inl rfl) ⟨_, _, _, rfl, rfl, h⟩
  · have h := h.2 hc
    dsimp only
    refine Ev.steps 3 (ip' := 10) (ls' := [some (.inr (.inr (some (7, c)))), some (.inl a0), some (.inl x4), none, none]) (st' := [.inl (6 : Int32), .inl (mu5 7 c 24)]) (M' := mem E mu5 la6) rfl ?_
    refine Ev.br (c := ¬ (mu5 7 c 24) = (6 : Int32)) (s1 := (13, [some (.inr (.inr (some (7, c)))), some (.inl a0), some (.inl x4), none, none], [], mem E mu5 la6)) (s2 := (11, [some (.inr (.inr (some (7, c)))), some (.inl a0), some (.inl x4), none, none], [], mem E mu5 la6)) rfl rfl rfl rfl (fun hc => ?_) (fun hc => ?_)
    · have h := h.1 hc
      dsimp only
      refine Ev.steps 6 (ip' := 19) (ls' := [some (.inr (.inr (some (7, c)))), some (.inl a0), some (.inl x4), none, none]) (st' := []) (M' := mem E (up3 mu5 7 c 22 ((mu5 7 c 22) + (1 : Int32))) la6) rfl ?_
      generalize hgmu7 : up3 mu5 7 c 22 ((mu5 7 c 22) + (1 : Int32)) = mu7
      have h := h mu7 hgmu7.symm
      refine Ev.steps 9 (ip' := 28) (ls' := [some (.inr (.inr (some (7, c)))), some (.inl a0), some (.inl x4), some (.inl ((5 : Int32) * (mu7 7 c 24))), none]) (st' := [.inl x4, .inl ((5 : Int32) * (mu7 7 c 24)), .inr (.inr (some (44, c)))]) (M' := mem E mu7 la6) rfl ?_
      refine Ev.ias rfl rfl h.1 ?_
      have h := h.2
      generalize hgmu8 : up3 mu7 44 c ((5 : Int32) * (mu7 7 c 24)).toNatClampNeg x4 = mu8
      have h := h mu8 hgmu8.symm
      refine Ev.steps 2 (ip' := 31) (ls' := [some (.inr (.inr (some (7, c)))), some (.inl a0), some (.inl x4), some (.inl ((5 : Int32) * (mu7 7 c 24))), some (.inl (1 : Int32))]) (st' := []) (M' := mem E mu8 la6) rfl ?_
      refine Ev.drop (ls := [some (.inr (.inr (some (7, c)))), some (.inl a0), none, some (.inl ((5 : Int32) * (mu7 7 c 24))), some (.inl (1 : Int32))]) ⟨Or.inr rfl, Or.inr rfl, Or.inl rfl, Or.inr rfl, Or.inr rfl, trivial⟩ ?_
      exact h
    · have h := h.2 hc
      dsimp only
      refine Ev.steps 1 (ip' := 12) (ls' := [some (.inr (.inr (some (7, c)))), some (.inl a0), some (.inl x4), none, none]) (st' := [.inl (0 : Int32)]) (M' := mem E mu5 la6) rfl ?_
      exact Ev.retZ rfl rfl (Or.inl rfl) ⟨_, _, _, rfl, rfl, h⟩
set_option maxRecDepth 100000 in
theorem vc_X7_readsCup_31 {E : mEv} {d : Nat}  (v0 : Nat) (v1 : Int32) (v3 : Int32) (v4 : Int32) {mu : fMu} {la : fLa} {Q : Int32 → fMu → fLa → Prop} (h : ((5 : Int32) ≤ v4 → (∀ mu9 : fMu, mu9 = up3 mu 7 v0 24 ((mu 7 v0 24) + (1 : Int32)) → (Q (1 : Int32) mu9 la))) ∧ (¬ ((5 : Int32) ≤ v4) → ((¬ v4 = (1 : Int32) → ((¬ v4 = (2 : Int32) → (FnI E d mi_148 [.inr (.inr (some (7, v0))), .inl v1, .inl (0 : Int32), .inl (9 : Int32)] mu la (fun x10 mu11 la12 => (¬ x10 = 0 → (vp_in (v3 + v4) 30 ∧ ∀ mu13 : fMu, mu13 = up3 mu11 44 v0 (v3 + v4).toNatClampNeg (mu11 7 v0 26) → (Ev E (d + 1) mi_150 31 [some (.inr (.inr (some (7, v0)))), some (.inl v1), none, some (.inl v3), some (.inl (v4 + (1 : Int32)))] [] (mem E mu13 la12) (qI E Q)))) ∧ (¬ (¬ x10 = 0) → (Q (0 : Int32) mu11 la12))))) ∧ (¬ (¬ v4 = (2 : Int32)) → (FnI E d mi_148 [.inr (.inr (some (7, v0))), .inl v1, .inl (0 : Int32), .inl (3 : Int32)] mu la (fun x14 mu15 la16 => (¬ x14 = 0 → (vp_in (v3 + v4) 30 ∧ ∀ mu17 : fMu, mu17 = up3 mu15 44 v0 (v3 + v4).toNatClampNeg (mu15 7 v0 26) → (Ev E (d + 1) mi_150 31 [some (.inr (.inr (some (7, v0)))), some (.inl v1), none, some (.inl v3), some (.inl (v4 + (1 : Int32)))] [] (mem E mu17 la16) (qI E Q)))) ∧ (¬ (¬ x14 = 0) → (Q (0 : Int32) mu15 la16))))))) ∧ (¬ (¬ v4 = (1 : Int32)) → ((¬ v4 = (2 : Int32) → (FnI E d mi_148 [.inr (.inr (some (7, v0))), .inl v1, .inl (1 : Int32), .inl (9 : Int32)] mu la (fun x18 mu19 la20 => (¬ x18 = 0 → (vp_in (v3 + v4) 30 ∧ ∀ mu21 : fMu, mu21 = up3 mu19 44 v0 (v3 + v4).toNatClampNeg (mu19 7 v0 26) → (Ev E (d + 1) mi_150 31 [some (.inr (.inr (some (7, v0)))), some (.inl v1), none, some (.inl v3), some (.inl (v4 + (1 : Int32)))] [] (mem E mu21 la20) (qI E Q)))) ∧ (¬ (¬ x18 = 0) → (Q (0 : Int32) mu19 la20))))) ∧ (¬ (¬ v4 = (2 : Int32)) → (FnI E d mi_148 [.inr (.inr (some (7, v0))), .inl v1, .inl (1 : Int32), .inl (3 : Int32)] mu la (fun x22 mu23 la24 => (¬ x22 = 0 → (vp_in (v3 + v4) 30 ∧ ∀ mu25 : fMu, mu25 = up3 mu23 44 v0 (v3 + v4).toNatClampNeg (mu23 7 v0 26) → (Ev E (d + 1) mi_150 31 [some (.inr (.inr (some (7, v0)))), some (.inl v1), none, some (.inl v3), some (.inl (v4 + (1 : Int32)))] [] (mem E mu25 la24) (qI E Q)))) ∧ (¬ (¬ x22 = 0) → (Q (0 : Int32) mu23 la24)))))))))) : Ev E (d + 1) mi_150 31 [some (.inr (.inr (some (7, v0)))), some (.inl v1), none, some (.inl v3), some (.inl v4)] [] (mem E mu la) (qI E Q) := by
  refine Ev.steps 2 (ip' := 33) (ls' := [some (.inr (.inr (some (7, v0)))), some (.inl v1), none, some (.inl v3), some (.inl v4)]) (st' := [.inl (5 : Int32), .inl v4]) (M' := mem E mu la) rfl ?_
  refine Ev.br (c := (5 : Int32) ≤ v4) (s1 := (62, [some (.inr (.inr (some (7, v0)))), some (.inl v1), none, some (.inl v3), some (.inl v4)], [], mem E mu la)) (s2 := (34, [some (.inr (.inr (some (7, v0)))), some (.inl v1), none, some (.inl v3), some (.inl v4)], [], mem E mu la)) rfl rfl rfl rfl (fun hc => ?_) (fun hc => ?_)
  · have h := h.1 hc
    dsimp only
    refine Ev.steps 6 (ip' := 68) (ls' := [some (.inr (.inr (some (7, v0)))), some (.inl v1), none, some (.inl v3), some (.inl v4)]) (st' := []) (M' := mem E (up3 mu 7 v0 24 ((mu 7 v0 24) + (1 : Int32))) la) rfl ?_
    generalize hgmu9 : up3 mu 7 v0 24 ((mu 7 v0 24) + (1 : Int32)) = mu9
    have h := h mu9 hgmu9.symm
    refine Ev.steps 1 (ip' := 69) (ls' := [some (.inr (.inr (some (7, v0)))), some (.inl v1), none, some (.inl v3), some (.inl v4)]) (st' := [.inl (1 : Int32)]) (M' := mem E mu9 la) rfl ?_
    exact Ev.retZ rfl rfl (Or.inr rfl) ⟨_, _, _, rfl, rfl, h⟩
  · have h := h.2 hc
    dsimp only
    refine Ev.steps 4 (ip' := 38) (ls' := [some (.inr (.inr (some (7, v0)))), some (.inl v1), none, some (.inl v3), some (.inl v4)]) (st' := [.inl (1 : Int32), .inl v4, .inl v1, .inr (.inr (some (7, v0)))]) (M' := mem E mu la) rfl ?_
    refine Ev.br (c := ¬ v4 = (1 : Int32)) (s1 := (41, [some (.inr (.inr (some (7, v0)))), some (.inl v1), none, some (.inl v3), some (.inl v4)], [.inl v1, .inr (.inr (some (7, v0)))], mem E mu la)) (s2 := (39, [some (.inr (.inr (some (7, v0)))), some (.inl v1), none, some (.inl v3), some (.inl v4)], [.inl v1, .inr (.inr (some (7, v0)))], mem E mu la)) rfl rfl rfl rfl (fun hc => ?_) (fun hc => ?_)
    · have h := h.1 hc
      dsimp only
      refine Ev.steps 3 (ip' := 44) (ls' := [some (.inr (.inr (some (7, v0)))), some (.inl v1), none, some (.inl v3), some (.inl v4)]) (st' := [.inl (2 : Int32), .inl v4, .inl (0 : Int32), .inl v1, .inr (.inr (some (7, v0)))]) (M' := mem E mu la) rfl ?_
      refine Ev.br (c := ¬ v4 = (2 : Int32)) (s1 := (47, [some (.inr (.inr (some (7, v0)))), some (.inl v1), none, some (.inl v3), some (.inl v4)], [.inl (0 : Int32), .inl v1, .inr (.inr (some (7, v0)))], mem E mu la)) (s2 := (45, [some (.inr (.inr (some (7, v0)))), some (.inl v1), none, some (.inl v3), some (.inl v4)], [.inl (0 : Int32), .inl v1, .inr (.inr (some (7, v0)))], mem E mu la)) rfl rfl rfl rfl (fun hc => ?_) (fun hc => ?_)
      · have h := h.1 hc
        dsimp only
        refine Ev.steps 1 (ip' := 48) (ls' := [some (.inr (.inr (some (7, v0)))), some (.inl v1), none, some (.inl v3), some (.inl v4)]) (st' := [.inl (9 : Int32), .inl (0 : Int32), .inl v1, .inr (.inr (some (7, v0)))]) (M' := mem E mu la) rfl ?_
        refine Ev.ci (J := mi_148) (as := [.inr (.inr (some (7, v0))), .inl v1, .inl (0 : Int32), .inl (9 : Int32)]) (rest := []) rfl rfl rfl (Nat.le_of_ble_eq_true rfl) h (fun x10 mu11 la12 h => ?_)
        refine Ev.br (c := ¬ x10 = 0) (s1 := (52, [some (.inr (.inr (some (7, v0)))), some (.inl v1), none, some (.inl v3), some (.inl v4)], [], mem E mu11 la12)) (s2 := (50, [some (.inr (.inr (some (7, v0)))), some (.inl v1), none, some (.inl v3), some (.inl v4)], [], mem E mu11 la12)) rfl rfl rfl rfl (fun hc => ?_) (fun hc => ?_)
        · have h := h.1 hc
          dsimp only
          refine Ev.steps 7 (ip' := 59) (ls' := [some (.inr (.inr (some (7, v0)))), some (.inl v1), none, some (.inl v3), some (.inl v4)]) (st' := [.inl (mu11 7 v0 26), .inl (v3 + v4), .inr (.inr (some (44, v0)))]) (M' := mem E mu11 la12) rfl ?_
          refine Ev.ias rfl rfl h.1 ?_
          have h := h.2
          generalize hgmu13 : up3 mu11 44 v0 (v3 + v4).toNatClampNeg (mu11 7 v0 26) = mu13
          have h := h mu13 hgmu13.symm
          refine Ev.steps 2 (ip' := 31) (ls' := [some (.inr (.inr (some (7, v0)))), some (.inl v1), none, some (.inl v3), some (.inl (v4 + (1 : Int32)))]) (st' := []) (M' := mem E mu13 la12) rfl ?_
          exact h
        · have h := h.2 hc
          dsimp only
          refine Ev.steps 1 (ip' := 51) (ls' := [some (.inr (.inr (some (7, v0)))), some (.inl v1), none, some (.inl v3), some (.inl v4)]) (st' := [.inl (0 : Int32)]) (M' := mem E mu11 la12) rfl ?_
          exact Ev.retZ rfl rfl (Or.inl rfl) ⟨_, _, _, rfl, rfl, h⟩
      · have h := h.2 hc
        dsimp only
        refine Ev.steps 2 (ip' := 48) (ls' := [some (.inr (.inr (some (7, v0)))), some (.inl v1), none, some (.inl v3), some (.inl v4)]) (st' := [.inl (3 : Int32), .inl (0 : Int32), .inl v1, .inr (.inr (some (7, v0)))]) (M' := mem E mu la) rfl ?_
        refine Ev.ci (J := mi_148) (as := [.inr (.inr (some (7, v0))), .inl v1, .inl (0 : Int32), .inl (3 : Int32)]) (rest := []) rfl rfl rfl (Nat.le_of_ble_eq_true rfl) h (fun x14 mu15 la16 h => ?_)
        refine Ev.br (c := ¬ x14 = 0) (s1 := (52, [some (.inr (.inr (some (7, v0)))), some (.inl v1), none, some (.inl v3), some (.inl v4)], [], mem E mu15 la16)) (s2 := (50, [some (.inr (.inr (some (7, v0)))), some (.inl v1), none, some (.inl v3), some (.inl v4)], [], mem E mu15 la16)) rfl rfl rfl rfl (fun hc => ?_) (fun hc => ?_)
        · have h := h.1 hc
          dsimp only
          refine Ev.steps 7 (ip' := 59) (ls' := [some (.inr (.inr (some (7, v0)))), some (.inl v1), none, some (.inl v3), some (.inl v4)]) (st' := [.inl (mu15 7 v0 26), .inl (v3 + v4), .inr (.inr (some (44, v0)))]) (M' := mem E mu15 la16) rfl ?_
          refine Ev.ias rfl rfl h.1 ?_
          have h := h.2
          generalize hgmu17 : up3 mu15 44 v0 (v3 + v4).toNatClampNeg (mu15 7 v0 26) = mu17
          have h := h mu17 hgmu17.symm
          refine Ev.steps 2 (ip' := 31) (ls' := [some (.inr (.inr (some (7, v0)))), some (.inl v1), none, some (.inl v3), some (.inl (v4 + (1 : Int32)))]) (st' := []) (M' := mem E mu17 la16) rfl ?_
          exact h
        · have h := h.2 hc
          dsimp only
          refine Ev.steps 1 (ip' := 51) (ls' := [some (.inr (.inr (some (7, v0)))), some (.inl v1), none, some (.inl v3), some (.inl v4)]) (st' := [.inl (0 : Int32)]) (M' := mem E mu15 la16) rfl ?_
          exact Ev.retZ rfl rfl (Or.inl rfl) ⟨_, _, _, rfl, rfl, h⟩
    · have h := h.2 hc
      dsimp only
      refine Ev.steps 4 (ip' := 44) (ls' := [some (.inr (.inr (some (7, v0)))), some (.inl v1), none, some (.inl v3), some (.inl v4)]) (st' := [.inl (2 : Int32), .inl v4, .inl (1 : Int32), .inl v1, .inr (.inr (some (7, v0)))]) (M' := mem E mu la) rfl ?_
      refine Ev.br (c := ¬ v4 = (2 : Int32)) (s1 := (47, [some (.inr (.inr (some (7, v0)))), some (.inl v1), none, some (.inl v3), some (.inl v4)], [.inl (1 : Int32), .inl v1, .inr (.inr (some (7, v0)))], mem E mu la)) (s2 := (45, [some (.inr (.inr (some (7, v0)))), some (.inl v1), none, some (.inl v3), some (.inl v4)], [.inl (1 : Int32), .inl v1, .inr (.inr (some (7, v0)))], mem E mu la)) rfl rfl rfl rfl (fun hc => ?_) (fun hc => ?_)
      · have h := h.1 hc
        dsimp only
        refine Ev.steps 1 (ip' := 48) (ls' := [some (.inr (.inr (some (7, v0)))), some (.inl v1), none, some (.inl v3), some (.inl v4)]) (st' := [.inl (9 : Int32), .inl (1 : Int32), .inl v1, .inr (.inr (some (7, v0)))]) (M' := mem E mu la) rfl ?_
        refine Ev.ci (J := mi_148) (as := [.inr (.inr (some (7, v0))), .inl v1, .inl (1 : Int32), .inl (9 : Int32)]) (rest := []) rfl rfl rfl (Nat.le_of_ble_eq_true rfl) h (fun x18 mu19 la20 h => ?_)
        refine Ev.br (c := ¬ x18 = 0) (s1 := (52, [some (.inr (.inr (some (7, v0)))), some (.inl v1), none, some (.inl v3), some (.inl v4)], [], mem E mu19 la20)) (s2 := (50, [some (.inr (.inr (some (7, v0)))), some (.inl v1), none, some (.inl v3), some (.inl v4)], [], mem E mu19 la20)) rfl rfl rfl rfl (fun hc => ?_) (fun hc => ?_)
        · have h := h.1 hc
          dsimp only
          refine Ev.steps 7 (ip' := 59) (ls' := [some (.inr (.inr (some (7, v0)))), some (.inl v1), none, some (.inl v3), some (.inl v4)]) (st' := [.inl (mu19 7 v0 26), .inl (v3 + v4), .inr (.inr (some (44, v0)))]) (M' := mem E mu19 la20) rfl ?_
          refine Ev.ias rfl rfl h.1 ?_
          have h := h.2
          generalize hgmu21 : up3 mu19 44 v0 (v3 + v4).toNatClampNeg (mu19 7 v0 26) = mu21
          have h := h mu21 hgmu21.symm
          refine Ev.steps 2 (ip' := 31) (ls' := [some (.inr (.inr (some (7, v0)))), some (.inl v1), none, some (.inl v3), some (.inl (v4 + (1 : Int32)))]) (st' := []) (M' := mem E mu21 la20) rfl ?_
          exact h
        · have h := h.2 hc
          dsimp only
          refine Ev.steps 1 (ip' := 51) (ls' := [some (.inr (.inr (some (7, v0)))), some (.inl v1), none, some (.inl v3), some (.inl v4)]) (st' := [.inl (0 : Int32)]) (M' := mem E mu19 la20) rfl ?_
          exact Ev.retZ rfl rfl (Or.inl rfl) ⟨_, _, _, rfl, rfl, h⟩
      · have h := h.2 hc
        dsimp only
        refine Ev.steps 2 (ip' := 48) (ls' := [some (.inr (.inr (some (7, v0)))), some (.inl v1), none, some (.inl v3), some (.inl v4)]) (st' := [.inl (3 : Int32), .inl (1 : Int32), .inl v1, .inr (.inr (some (7, v0)))]) (M' := mem E mu la) rfl ?_
        refine Ev.ci (J := mi_148) (as := [.inr (.inr (some (7, v0))), .inl v1, .inl (1 : Int32), .inl (3 : Int32)]) (rest := []) rfl rfl rfl (Nat.le_of_ble_eq_true rfl) h (fun x22 mu23 la24 h => ?_)
        refine Ev.br (c := ¬ x22 = 0) (s1 := (52, [some (.inr (.inr (some (7, v0)))), some (.inl v1), none, some (.inl v3), some (.inl v4)], [], mem E mu23 la24)) (s2 := (50, [some (.inr (.inr (some (7, v0)))), some (.inl v1), none, some (.inl v3), some (.inl v4)], [], mem E mu23 la24)) rfl rfl rfl rfl (fun hc => ?_) (fun hc => ?_)
        · have h := h.1 hc
          dsimp only
          refine Ev.steps 7 (ip' := 59) (ls' := [some (.inr (.inr (some (7, v0)))), some (.inl v1), none, some (.inl v3), some (.inl v4)]) (st' := [.inl (mu23 7 v0 26), .inl (v3 + v4), .inr (.inr (some (44, v0)))]) (M' := mem E mu23 la24) rfl ?_
          refine Ev.ias rfl rfl h.1 ?_
          have h := h.2
          generalize hgmu25 : up3 mu23 44 v0 (v3 + v4).toNatClampNeg (mu23 7 v0 26) = mu25
          have h := h mu25 hgmu25.symm
          refine Ev.steps 2 (ip' := 31) (ls' := [some (.inr (.inr (some (7, v0)))), some (.inl v1), none, some (.inl v3), some (.inl (v4 + (1 : Int32)))]) (st' := []) (M' := mem E mu25 la24) rfl ?_
          exact h
        · have h := h.2 hc
          dsimp only
          refine Ev.steps 1 (ip' := 51) (ls' := [some (.inr (.inr (some (7, v0)))), some (.inl v1), none, some (.inl v3), some (.inl v4)]) (st' := [.inl (0 : Int32)]) (M' := mem E mu23 la24) rfl ?_
          exact Ev.retZ rfl rfl (Or.inl rfl) ⟨_, _, _, rfl, rfl, h⟩
set_option maxRecDepth 100000 in
/-- AnnCupsModel.faultOf(I)I -/
theorem vc_X7_faultOf {E : mEv} {d : Nat} {c : Nat} (a0 : Int32) {mu : fMu} {la : fLa} {Q : Int32 → fMu → fLa → Prop} (h : ∀ mu1 : fMu, mu1 = up3 mu 7 c 22 (0 : Int32) → (∀ mu2 : fMu, mu2 = up3 mu1 7 c 24 (0 : Int32) → (FnV E d mi_146 [.inr (.inr (some (7, c))), .inl a0] mu2 la (fun mu4 la5 => FnI E d mi_149 [.inr (.inr (some (7, c))), .inl a0] mu4 la5 (fun x6 mu7 la8 => Ev E (d + 1) mi_151 13 [some (.inr (.inr (some (7, c)))), some (.inl a0), some (.inl x6)] [] (mem E mu7 la8) (qI E Q)))))) : FnI E (d + 1) mi_151 [.inr (.inr (some (7, c))), .inl a0] mu la Q := by
  unfold FnI
  show Ev E (d + 1) mi_151 0 [some (.inr (.inr (some (7, c)))), some (.inl a0), none] [] (mem E mu la) (qI E Q)
  refine Ev.steps 3 (ip' := 3) (ls' := [some (.inr (.inr (some (7, c)))), some (.inl a0), none]) (st' := []) (M' := mem E (up3 mu 7 c 22 (0 : Int32)) la) rfl ?_
  generalize hgmu1 : up3 mu 7 c 22 (0 : Int32) = mu1
  have h := h mu1 hgmu1.symm
  refine Ev.steps 3 (ip' := 6) (ls' := [some (.inr (.inr (some (7, c)))), some (.inl a0), none]) (st' := []) (M' := mem E (up3 mu1 7 c 24 (0 : Int32)) la) rfl ?_
  generalize hgmu2 : up3 mu1 7 c 24 (0 : Int32) = mu2
  have h := h mu2 hgmu2.symm
  refine Ev.steps 2 (ip' := 8) (ls' := [some (.inr (.inr (some (7, c)))), some (.inl a0), none]) (st' := [.inl a0, .inr (.inr (some (7, c)))]) (M' := mem E mu2 la) rfl ?_
  refine Ev.cv (J := mi_146) (as := [.inr (.inr (some (7, c))), .inl a0]) (rest := []) rfl rfl rfl (Nat.le_of_ble_eq_true rfl) h (fun mu4 la5 h => ?_)
  refine Ev.steps 2 (ip' := 11) (ls' := [some (.inr (.inr (some (7, c)))), some (.inl a0), none]) (st' := [.inl a0, .inr (.inr (some (7, c)))]) (M' := mem E mu4 la5) rfl ?_
  refine Ev.ci (J := mi_149) (as := [.inr (.inr (some (7, c))), .inl a0]) (rest := []) rfl rfl rfl (Nat.le_of_ble_eq_true rfl) h (fun x6 mu7 la8 h => ?_)
  refine Ev.steps 1 (ip' := 13) (ls' := [some (.inr (.inr (some (7, c)))), some (.inl a0), some (.inl x6)]) (st' := []) (M' := mem E mu7 la8) rfl ?_
  exact h
set_option maxRecDepth 100000 in
theorem vc_X7_faultOf_13 {E : mEv} {d : Nat}  (v0 : Nat) (v1 : Int32) (v2 : Int32) {mu : fMu} {la : fLa} {Q : Int32 → fMu → fLa → Prop} (h : (v2 = 0 → (Q (mu 7 v0 22) mu la)) ∧ (¬ (v2 = 0) → (FnV E d mi_146 [.inr (.inr (some (7, v0))), .inl v1] mu la (fun mu10 la11 => vp_in v1 4 ∧ ((¬ (mu10 7 v0 22) = (mu10 31 v0 v1.toNatClampNeg) → (FnI E d mi_150 [.inr (.inr (some (7, v0))), .inl v1] mu10 la11 (fun x12 mu13 la14 => Ev E (d + 1) mi_151 13 [some (.inr (.inr (some (7, v0)))), some (.inl v1), some (.inl x12)] [] (mem E mu13 la14) (qI E Q)))) ∧ (¬ (¬ (mu10 7 v0 22) = (mu10 31 v0 v1.toNatClampNeg)) → (((mu10 7 v0 24) ≤ 0 → (FnI E d mi_150 [.inr (.inr (some (7, v0))), .inl v1] mu10 la11 (fun x15 mu16 la17 => Ev E (d + 1) mi_151 13 [some (.inr (.inr (some (7, v0)))), some (.inl v1), some (.inl x15)] [] (mem E mu16 la17) (qI E Q)))) ∧ (¬ ((mu10 7 v0 24) ≤ 0) → (Q (-9 : Int32) mu10 la11))))))))) : Ev E (d + 1) mi_151 13 [some (.inr (.inr (some (7, v0)))), some (.inl v1), some (.inl v2)] [] (mem E mu la) (qI E Q) := by
  refine Ev.steps 1 (ip' := 14) (ls' := [some (.inr (.inr (some (7, v0)))), some (.inl v1), some (.inl v2)]) (st' := [.inl v2]) (M' := mem E mu la) rfl ?_
  refine Ev.br (c := v2 = 0) (s1 := (35, [some (.inr (.inr (some (7, v0)))), some (.inl v1), some (.inl v2)], [], mem E mu la)) (s2 := (15, [some (.inr (.inr (some (7, v0)))), some (.inl v1), some (.inl v2)], [], mem E mu la)) rfl rfl rfl rfl (fun hc => ?_) (fun hc => ?_)
  · have h := h.1 hc
    dsimp only
    refine Ev.steps 2 (ip' := 37) (ls' := [some (.inr (.inr (some (7, v0)))), some (.inl v1), some (.inl v2)]) (st' := [.inl (mu 7 v0 22)]) (M' := mem E mu la) rfl ?_
    exact Ev.ret rfl rfl ⟨_, _, _, rfl, rfl, h⟩
  · have h := h.2 hc
    dsimp only
    refine Ev.steps 2 (ip' := 17) (ls' := [some (.inr (.inr (some (7, v0)))), some (.inl v1), some (.inl v2)]) (st' := [.inl v1, .inr (.inr (some (7, v0)))]) (M' := mem E mu la) rfl ?_
    refine Ev.cv (J := mi_146) (as := [.inr (.inr (some (7, v0))), .inl v1]) (rest := []) rfl rfl rfl (Nat.le_of_ble_eq_true rfl) h (fun mu10 la11 h => ?_)
    refine Ev.steps 5 (ip' := 23) (ls' := [some (.inr (.inr (some (7, v0)))), some (.inl v1), some (.inl v2)]) (st' := [.inl v1, .inr (.inr (some (31, v0))), .inl (mu10 7 v0 22)]) (M' := mem E mu10 la11) rfl ?_
    refine Ev.ial rfl rfl (by decide) h.1 ?_
    have h := h.2
    refine Ev.br (c := ¬ (mu10 7 v0 22) = (mu10 31 v0 v1.toNatClampNeg)) (s1 := (30, [some (.inr (.inr (some (7, v0)))), some (.inl v1), some (.inl v2)], [], mem E mu10 la11)) (s2 := (25, [some (.inr (.inr (some (7, v0)))), some (.inl v1), some (.inl v2)], [], mem E mu10 la11)) rfl rfl rfl rfl (fun hc => ?_) (fun hc => ?_)
    · have h := h.1 hc
      dsimp only
      refine Ev.steps 2 (ip' := 32) (ls' := [some (.inr (.inr (some (7, v0)))), some (.inl v1), some (.inl v2)]) (st' := [.inl v1, .inr (.inr (some (7, v0)))]) (M' := mem E mu10 la11) rfl ?_
      refine Ev.ci (J := mi_150) (as := [.inr (.inr (some (7, v0))), .inl v1]) (rest := []) rfl rfl rfl (Nat.le_of_ble_eq_true rfl) h (fun x12 mu13 la14 h => ?_)
      refine Ev.steps 2 (ip' := 13) (ls' := [some (.inr (.inr (some (7, v0)))), some (.inl v1), some (.inl x12)]) (st' := []) (M' := mem E mu13 la14) rfl ?_
      exact h
    · have h := h.2 hc
      dsimp only
      refine Ev.steps 2 (ip' := 27) (ls' := [some (.inr (.inr (some (7, v0)))), some (.inl v1), some (.inl v2)]) (st' := [.inl (mu10 7 v0 24)]) (M' := mem E mu10 la11) rfl ?_
      refine Ev.br (c := (mu10 7 v0 24) ≤ 0) (s1 := (30, [some (.inr (.inr (some (7, v0)))), some (.inl v1), some (.inl v2)], [], mem E mu10 la11)) (s2 := (28, [some (.inr (.inr (some (7, v0)))), some (.inl v1), some (.inl v2)], [], mem E mu10 la11)) rfl rfl rfl rfl (fun hc => ?_) (fun hc => ?_)
      · have h := h.1 hc
        dsimp only
        refine Ev.steps 2 (ip' := 32) (ls' := [some (.inr (.inr (some (7, v0)))), some (.inl v1), some (.inl v2)]) (st' := [.inl v1, .inr (.inr (some (7, v0)))]) (M' := mem E mu10 la11) rfl ?_
        refine Ev.ci (J := mi_150) (as := [.inr (.inr (some (7, v0))), .inl v1]) (rest := []) rfl rfl rfl (Nat.le_of_ble_eq_true rfl) h (fun x15 mu16 la17 h => ?_)
        refine Ev.steps 2 (ip' := 13) (ls' := [some (.inr (.inr (some (7, v0)))), some (.inl v1), some (.inl x15)]) (st' := []) (M' := mem E mu16 la17) rfl ?_
        exact h
      · have h := h.2 hc
        dsimp only
        refine Ev.steps 1 (ip' := 29) (ls' := [some (.inr (.inr (some (7, v0)))), some (.inl v1), some (.inl v2)]) (st' := [.inl (-9 : Int32)]) (M' := mem E mu10 la11) rfl ?_
        exact Ev.ret rfl rfl ⟨_, _, _, rfl, rfl, h⟩
set_option maxRecDepth 100000 in
/-- AnnCupsModel.fault(I)I -/
theorem vc_X7_fault {E : mEv} {d : Nat} {c : Nat} (a0 : Int32) {mu : fMu} {la : fLa} {Q : Int32 → fMu → fLa → Prop} (h : FnI E d mi_136 [.inl a0] mu la (fun x1 mu2 la3 => (¬ x1 = 0 → (vp_in a0 4 ∧ ((0 ≤ (mu2 31 c a0.toNatClampNeg) → (FnI E d mi_151 [.inr (.inr (some (7, c))), .inl a0] mu2 la3 (fun x4 mu5 la6 => Q x4 mu5 la6))) ∧ (¬ (0 ≤ (mu2 31 c a0.toNatClampNeg)) → (FnI E d mi_132 [.inr (.inr (some (7, c))), .inl (1 : Int32)] mu2 la3 (fun x7 mu8 la9 => Q x7 mu8 la9)))))) ∧ (¬ (¬ x1 = 0) → (Q (-1 : Int32) mu2 la3)))) : FnI E (d + 1) mi_152 [.inr (.inr (some (7, c))), .inl a0] mu la Q := by
  unfold FnI
  show Ev E (d + 1) mi_152 0 [some (.inr (.inr (some (7, c)))), some (.inl a0)] [] (mem E mu la) (qI E Q)
  refine Ev.steps 1 (ip' := 1) (ls' := [some (.inr (.inr (some (7, c)))), some (.inl a0)]) (st' := [.inl a0]) (M' := mem E mu la) rfl ?_
  refine Ev.ci (J := mi_136) (as := [.inl a0]) (rest := []) rfl rfl rfl (Nat.le_of_ble_eq_true rfl) h (fun x1 mu2 la3 h => ?_)
  refine Ev.br (c := ¬ x1 = 0) (s1 := (5, [some (.inr (.inr (some (7, c)))), some (.inl a0)], [], mem E mu2 la3)) (s2 := (3, [some (.inr (.inr (some (7, c)))), some (.inl a0)], [], mem E mu2 la3)) rfl rfl rfl rfl (fun hc => ?_) (fun hc => ?_)
  · have h := h.1 hc
    dsimp only
    refine Ev.steps 3 (ip' := 8) (ls' := [some (.inr (.inr (some (7, c)))), some (.inl a0)]) (st' := [.inl a0, .inr (.inr (some (31, c)))]) (M' := mem E mu2 la3) rfl ?_
    refine Ev.ial rfl rfl (by decide) h.1 ?_
    have h := h.2
    refine Ev.br (c := 0 ≤ (mu2 31 c a0.toNatClampNeg)) (s1 := (14, [some (.inr (.inr (some (7, c)))), some (.inl a0)], [], mem E mu2 la3)) (s2 := (10, [some (.inr (.inr (some (7, c)))), some (.inl a0)], [], mem E mu2 la3)) rfl rfl rfl rfl (fun hc => ?_) (fun hc => ?_)
    · have h := h.1 hc
      dsimp only
      refine Ev.steps 2 (ip' := 16) (ls' := [some (.inr (.inr (some (7, c)))), some (.inl a0)]) (st' := [.inl a0, .inr (.inr (some (7, c)))]) (M' := mem E mu2 la3) rfl ?_
      refine Ev.ci (J := mi_151) (as := [.inr (.inr (some (7, c))), .inl a0]) (rest := []) rfl rfl rfl (Nat.le_of_ble_eq_true rfl) h (fun x4 mu5 la6 h => ?_)
      exact Ev.ret rfl rfl ⟨_, _, _, rfl, rfl, h⟩
    · have h := h.2 hc
      dsimp only
      refine Ev.steps 2 (ip' := 12) (ls' := [some (.inr (.inr (some (7, c)))), some (.inl a0)]) (st' := [.inl (1 : Int32), .inr (.inr (some (7, c)))]) (M' := mem E mu2 la3) rfl ?_
      refine Ev.ci (J := mi_132) (as := [.inr (.inr (some (7, c))), .inl (1 : Int32)]) (rest := []) rfl rfl rfl (Nat.le_of_ble_eq_true rfl) h (fun x7 mu8 la9 h => ?_)
      refine Ev.steps 1 (ip' := 17) (ls' := [some (.inr (.inr (some (7, c)))), some (.inl a0)]) (st' := [.inl x7]) (M' := mem E mu8 la9) rfl ?_
      exact Ev.ret rfl rfl ⟨_, _, _, rfl, rfl, h⟩
  · have h := h.2 hc
    dsimp only
    refine Ev.steps 1 (ip' := 4) (ls' := [some (.inr (.inr (some (7, c)))), some (.inl a0)]) (st' := [.inl (-1 : Int32)]) (M' := mem E mu2 la3) rfl ?_
    exact Ev.ret rfl rfl ⟨_, _, _, rfl, rfl, h⟩
set_option maxRecDepth 100000 in
/-- AnnCupsModel.begins()V -/
theorem vc_X7_begins {E : mEv} {d : Nat} {c : Nat} {mu : fMu} {la : fLa} {Q : fMu → fLa → Prop} (h : Ev E d mi_153 2 [some (.inr (.inr (some (7, c)))), some (.inl (0 : Int32))] [] (mem E mu la) (qV E Q)) : FnV E d mi_153 [.inr (.inr (some (7, c)))] mu la Q := by
  unfold FnV
  show Ev E d mi_153 0 [some (.inr (.inr (some (7, c)))), none] [] (mem E mu la) (qV E Q)
  refine Ev.steps 2 (ip' := 2) (ls' := [some (.inr (.inr (some (7, c)))), some (.inl (0 : Int32))]) (st' := []) (M' := mem E mu la) rfl ?_
  exact h
set_option maxRecDepth 100000 in
theorem vc_X7_begins_2 {E : mEv} {d : Nat}  (v0 : Nat) (v1 : Int32) {mu : fMu} {la : fLa} {Q : fMu → fLa → Prop} (h : ((6 : Int32) ≤ v1 → (vp_in (6 : Int32) 9 ∧ ∀ mu1 : fMu, mu1 = up3 mu 38 v0 (6 : Int32).toNatClampNeg (0 : Int32) → (vp_in (7 : Int32) 9 ∧ ∀ mu2 : fMu, mu2 = up3 mu1 38 v0 (7 : Int32).toNatClampNeg (0 : Int32) → (vp_in (8 : Int32) 9 ∧ ∀ mu3 : fMu, mu3 = up3 mu2 38 v0 (8 : Int32).toNatClampNeg (-9 : Int32) → (∀ mu4 : fMu, mu4 = up3 mu3 7 v0 13 (0 : Int32) → (Ev E d mi_153 34 [some (.inr (.inr (some (7, v0)))), some (.inl (0 : Int32))] [] (mem E mu4 la) (qV E Q))))))) ∧ (¬ ((6 : Int32) ≤ v1) → (vp_in ((0 : Int32) + v1) 9 ∧ ∀ mu5 : fMu, mu5 = up3 mu 38 v0 ((0 : Int32) + v1).toNatClampNeg (-9 : Int32) → (Ev E d mi_153 2 [some (.inr (.inr (some (7, v0)))), some (.inl (v1 + (1 : Int32)))] [] (mem E mu5 la) (qV E Q))))) : Ev E d mi_153 2 [some (.inr (.inr (some (7, v0)))), some (.inl v1)] [] (mem E mu la) (qV E Q) := by
  refine Ev.steps 2 (ip' := 4) (ls' := [some (.inr (.inr (some (7, v0)))), some (.inl v1)]) (st' := [.inl (6 : Int32), .inl v1]) (M' := mem E mu la) rfl ?_
  refine Ev.br (c := (6 : Int32) ≤ v1) (s1 := (14, [some (.inr (.inr (some (7, v0)))), some (.inl v1)], [], mem E mu la)) (s2 := (5, [some (.inr (.inr (some (7, v0)))), some (.inl v1)], [], mem E mu la)) rfl rfl rfl rfl (fun hc => ?_) (fun hc => ?_)
  · have h := h.1 hc
    dsimp only
    refine Ev.steps 4 (ip' := 18) (ls' := [some (.inr (.inr (some (7, v0)))), some (.inl v1)]) (st' := [.inl (0 : Int32), .inl (6 : Int32), .inr (.inr (some (38, v0)))]) (M' := mem E mu la) rfl ?_
    refine Ev.ias rfl rfl h.1 ?_
    have h := h.2
    generalize hgmu1 : up3 mu 38 v0 (6 : Int32).toNatClampNeg (0 : Int32) = mu1
    have h := h mu1 hgmu1.symm
    refine Ev.steps 4 (ip' := 23) (ls' := [some (.inr (.inr (some (7, v0)))), some (.inl v1)]) (st' := [.inl (0 : Int32), .inl (7 : Int32), .inr (.inr (some (38, v0)))]) (M' := mem E mu1 la) rfl ?_
    refine Ev.ias rfl rfl h.1 ?_
    have h := h.2
    generalize hgmu2 : up3 mu1 38 v0 (7 : Int32).toNatClampNeg (0 : Int32) = mu2
    have h := h mu2 hgmu2.symm
    refine Ev.steps 4 (ip' := 28) (ls' := [some (.inr (.inr (some (7, v0)))), some (.inl v1)]) (st' := [.inl (-9 : Int32), .inl (8 : Int32), .inr (.inr (some (38, v0)))]) (M' := mem E mu2 la) rfl ?_
    refine Ev.ias rfl rfl h.1 ?_
    have h := h.2
    generalize hgmu3 : up3 mu2 38 v0 (8 : Int32).toNatClampNeg (-9 : Int32) = mu3
    have h := h mu3 hgmu3.symm
    refine Ev.steps 3 (ip' := 32) (ls' := [some (.inr (.inr (some (7, v0)))), some (.inl v1)]) (st' := []) (M' := mem E (up3 mu3 7 v0 13 (0 : Int32)) la) rfl ?_
    generalize hgmu4 : up3 mu3 7 v0 13 (0 : Int32) = mu4
    have h := h mu4 hgmu4.symm
    refine Ev.steps 2 (ip' := 34) (ls' := [some (.inr (.inr (some (7, v0)))), some (.inl (0 : Int32))]) (st' := []) (M' := mem E mu4 la) rfl ?_
    exact h
  · have h := h.2 hc
    dsimp only
    refine Ev.steps 6 (ip' := 11) (ls' := [some (.inr (.inr (some (7, v0)))), some (.inl v1)]) (st' := [.inl (-9 : Int32), .inl ((0 : Int32) + v1), .inr (.inr (some (38, v0)))]) (M' := mem E mu la) rfl ?_
    refine Ev.ias rfl rfl h.1 ?_
    have h := h.2
    generalize hgmu5 : up3 mu 38 v0 ((0 : Int32) + v1).toNatClampNeg (-9 : Int32) = mu5
    have h := h mu5 hgmu5.symm
    refine Ev.steps 2 (ip' := 2) (ls' := [some (.inr (.inr (some (7, v0)))), some (.inl (v1 + (1 : Int32)))]) (st' := []) (M' := mem E mu5 la) rfl ?_
    exact h
set_option maxRecDepth 100000 in
theorem vc_X7_begins_34 {E : mEv} {d : Nat}  (v0 : Nat) (v1 : Int32) {mu : fMu} {la : fLa} {Q : fMu → fLa → Prop} (h : ((3 : Int32) ≤ v1 → (Q mu la)) ∧ (¬ ((3 : Int32) ≤ v1) → (vp_in v1 3 ∧ ∀ mu6 : fMu, mu6 = up3 mu 42 v0 v1.toNatClampNeg (vp_nar .boolean (0 : Int32)) → (Ev E d mi_153 34 [some (.inr (.inr (some (7, v0)))), some (.inl (v1 + (1 : Int32)))] [] (mem E mu6 la) (qV E Q))))) : Ev E d mi_153 34 [some (.inr (.inr (some (7, v0)))), some (.inl v1)] [] (mem E mu la) (qV E Q) := by
  refine Ev.steps 2 (ip' := 36) (ls' := [some (.inr (.inr (some (7, v0)))), some (.inl v1)]) (st' := [.inl (3 : Int32), .inl v1]) (M' := mem E mu la) rfl ?_
  refine Ev.br (c := (3 : Int32) ≤ v1) (s1 := (44, [some (.inr (.inr (some (7, v0)))), some (.inl v1)], [], mem E mu la)) (s2 := (37, [some (.inr (.inr (some (7, v0)))), some (.inl v1)], [], mem E mu la)) rfl rfl rfl rfl (fun hc => ?_) (fun hc => ?_)
  · have h := h.1 hc
    dsimp only
    exact Ev.ret rfl rfl ⟨_, _, rfl, rfl, h⟩
  · have h := h.2 hc
    dsimp only
    refine Ev.steps 4 (ip' := 41) (ls' := [some (.inr (.inr (some (7, v0)))), some (.inl v1)]) (st' := [.inl (0 : Int32), .inl v1, .inr (.inr (some (42, v0)))]) (M' := mem E mu la) rfl ?_
    refine Ev.zas rfl rfl h.1 ?_
    have h := h.2
    generalize hgmu6 : up3 mu 42 v0 v1.toNatClampNeg (vp_nar .boolean (0 : Int32)) = mu6
    have h := h mu6 hgmu6.symm
    refine Ev.steps 2 (ip' := 34) (ls' := [some (.inr (.inr (some (7, v0)))), some (.inl (v1 + (1 : Int32)))]) (st' := []) (M' := mem E mu6 la) rfl ?_
    exact h
set_option maxRecDepth 100000 in
/-- AnnCupsModel.bar(I)I -/
theorem vc_X7_bar {E : mEv} {d : Nat} {c : Nat} (a0 : Int32) {mu : fMu} {la : fLa} {Q : Int32 → fMu → fLa → Prop} (h : FnI E d mi_136 [.inl a0] mu la (fun x1 mu2 la3 => (¬ x1 = 0 → (vp_in a0 4 ∧ ((0 ≤ (mu2 31 c a0.toNatClampNeg) → (FnI E d mi_151 [.inr (.inr (some (7, c))), .inl a0] mu2 la3 (fun x4 mu5 la6 => (x4 = (-9 : Int32) → (∀ mu7 : fMu, mu7 = up3 mu5 7 c 4 (mu5 7 c 24) → (∀ mu8 : fMu, mu8 = up3 mu7 7 c 5 (mu7 7 c 23) → (Ev E (d + 1) mi_154 31 [some (.inr (.inr (some (7, c)))), none, some (.inl (0 : Int32))] [] (mem E mu8 la6) (qI E Q))))) ∧ (¬ (x4 = (-9 : Int32)) → (Q (-4 : Int32) mu5 la6))))) ∧ (¬ (0 ≤ (mu2 31 c a0.toNatClampNeg)) → (FnI E d mi_132 [.inr (.inr (some (7, c))), .inl (1 : Int32)] mu2 la3 (fun x9 mu10 la11 => Q x9 mu10 la11)))))) ∧ (¬ (¬ x1 = 0) → (Q (-1 : Int32) mu2 la3)))) : FnI E (d + 1) mi_154 [.inr (.inr (some (7, c))), .inl a0] mu la Q := by
  unfold FnI
  show Ev E (d + 1) mi_154 0 [some (.inr (.inr (some (7, c)))), some (.inl a0), none] [] (mem E mu la) (qI E Q)
  refine Ev.steps 1 (ip' := 1) (ls' := [some (.inr (.inr (some (7, c)))), some (.inl a0), none]) (st' := [.inl a0]) (M' := mem E mu la) rfl ?_
  refine Ev.ci (J := mi_136) (as := [.inl a0]) (rest := []) rfl rfl rfl (Nat.le_of_ble_eq_true rfl) h (fun x1 mu2 la3 h => ?_)
  refine Ev.br (c := ¬ x1 = 0) (s1 := (5, [some (.inr (.inr (some (7, c)))), some (.inl a0), none], [], mem E mu2 la3)) (s2 := (3, [some (.inr (.inr (some (7, c)))), some (.inl a0), none], [], mem E mu2 la3)) rfl rfl rfl rfl (fun hc => ?_) (fun hc => ?_)
  · have h := h.1 hc
    dsimp only
    refine Ev.steps 3 (ip' := 8) (ls' := [some (.inr (.inr (some (7, c)))), some (.inl a0), none]) (st' := [.inl a0, .inr (.inr (some (31, c)))]) (M' := mem E mu2 la3) rfl ?_
    refine Ev.ial rfl rfl (by decide) h.1 ?_
    have h := h.2
    refine Ev.br (c := 0 ≤ (mu2 31 c a0.toNatClampNeg)) (s1 := (14, [some (.inr (.inr (some (7, c)))), some (.inl a0), none], [], mem E mu2 la3)) (s2 := (10, [some (.inr (.inr (some (7, c)))), some (.inl a0), none], [], mem E mu2 la3)) rfl rfl rfl rfl (fun hc => ?_) (fun hc => ?_)
    · have h := h.1 hc
      dsimp only
      refine Ev.steps 2 (ip' := 16) (ls' := [some (.inr (.inr (some (7, c)))), some (.inl a0), none]) (st' := [.inl a0, .inr (.inr (some (7, c)))]) (M' := mem E mu2 la3) rfl ?_
      refine Ev.ci (J := mi_151) (as := [.inr (.inr (some (7, c))), .inl a0]) (rest := []) rfl rfl rfl (Nat.le_of_ble_eq_true rfl) h (fun x4 mu5 la6 h => ?_)
      refine Ev.steps 1 (ip' := 18) (ls' := [some (.inr (.inr (some (7, c)))), some (.inl a0), none]) (st' := [.inl (-9 : Int32), .inl x4]) (M' := mem E mu5 la6) rfl ?_
      refine Ev.br (c := x4 = (-9 : Int32)) (s1 := (21, [some (.inr (.inr (some (7, c)))), some (.inl a0), none], [], mem E mu5 la6)) (s2 := (19, [some (.inr (.inr (some (7, c)))), some (.inl a0), none], [], mem E mu5 la6)) rfl rfl rfl rfl (fun hc => ?_) (fun hc => ?_)
      · have h := h.1 hc
        dsimp only
        refine Ev.steps 4 (ip' := 25) (ls' := [some (.inr (.inr (some (7, c)))), some (.inl a0), none]) (st' := []) (M' := mem E (up3 mu5 7 c 4 (mu5 7 c 24)) la6) rfl ?_
        generalize hgmu7 : up3 mu5 7 c 4 (mu5 7 c 24) = mu7
        have h := h mu7 hgmu7.symm
        refine Ev.steps 4 (ip' := 29) (ls' := [some (.inr (.inr (some (7, c)))), some (.inl a0), none]) (st' := []) (M' := mem E (up3 mu7 7 c 5 (mu7 7 c 23)) la6) rfl ?_
        generalize hgmu8 : up3 mu7 7 c 5 (mu7 7 c 23) = mu8
        have h := h mu8 hgmu8.symm
        refine Ev.steps 2 (ip' := 31) (ls' := [some (.inr (.inr (some (7, c)))), some (.inl a0), some (.inl (0 : Int32))]) (st' := []) (M' := mem E mu8 la6) rfl ?_
        refine Ev.drop (ls := [some (.inr (.inr (some (7, c)))), none, some (.inl (0 : Int32))]) ⟨Or.inr rfl, Or.inl rfl, Or.inr rfl, trivial⟩ ?_
        exact h
      · have h := h.2 hc
        dsimp only
        refine Ev.steps 1 (ip' := 20) (ls' := [some (.inr (.inr (some (7, c)))), some (.inl a0), none]) (st' := [.inl (-4 : Int32)]) (M' := mem E mu5 la6) rfl ?_
        exact Ev.ret rfl rfl ⟨_, _, _, rfl, rfl, h⟩
    · have h := h.2 hc
      dsimp only
      refine Ev.steps 2 (ip' := 12) (ls' := [some (.inr (.inr (some (7, c)))), some (.inl a0), none]) (st' := [.inl (1 : Int32), .inr (.inr (some (7, c)))]) (M' := mem E mu2 la3) rfl ?_
      refine Ev.ci (J := mi_132) (as := [.inr (.inr (some (7, c))), .inl (1 : Int32)]) (rest := []) rfl rfl rfl (Nat.le_of_ble_eq_true rfl) h (fun x9 mu10 la11 h => ?_)
      exact Ev.ret rfl rfl ⟨_, _, _, rfl, rfl, h⟩
  · have h := h.2 hc
    dsimp only
    refine Ev.steps 1 (ip' := 4) (ls' := [some (.inr (.inr (some (7, c)))), some (.inl a0), none]) (st' := [.inl (-1 : Int32)]) (M' := mem E mu2 la3) rfl ?_
    exact Ev.ret rfl rfl ⟨_, _, _, rfl, rfl, h⟩
set_option maxRecDepth 100000 in
theorem vc_X7_bar_31 {E : mEv} {d : Nat}  (v0 : Nat) (v2 : Int32) {mu : fMu} {la : fLa} {Q : Int32 → fMu → fLa → Prop} (h : ((mu 7 v0 4) ≤ v2 → (FnV E d mi_153 [.inr (.inr (some (7, v0)))] mu la (fun mu13 la14 => Q (mu13 7 v0 4) mu13 la14))) ∧ (¬ ((mu 7 v0 4) ≤ v2) → (vp_in ((5 : Int32) * v2) 30 ∧ (vp_in v2 6 ∧ ∀ mu15 : fMu, mu15 = up3 mu 33 v0 v2.toNatClampNeg (mu 44 v0 ((5 : Int32) * v2).toNatClampNeg) → (vp_in (((5 : Int32) * v2) + (1 : Int32)) 30 ∧ (vp_in v2 6 ∧ ∀ mu16 : fMu, mu16 = up3 mu15 34 v0 v2.toNatClampNeg (mu15 44 v0 (((5 : Int32) * v2) + (1 : Int32)).toNatClampNeg) → (vp_in (((5 : Int32) * v2) + (2 : Int32)) 30 ∧ (vp_in v2 6 ∧ ∀ mu17 : fMu, mu17 = up3 mu16 35 v0 v2.toNatClampNeg (mu16 44 v0 (((5 : Int32) * v2) + (2 : Int32)).toNatClampNeg) → (vp_in (((5 : Int32) * v2) + (3 : Int32)) 30 ∧ (vp_in v2 6 ∧ ∀ mu18 : fMu, mu18 = up3 mu17 36 v0 v2.toNatClampNeg (mu17 44 v0 (((5 : Int32) * v2) + (3 : Int32)).toNatClampNeg) → (vp_in (((5 : Int32) * v2) + (4 : Int32)) 30 ∧ (vp_in v2 6 ∧ ∀ mu19 : fMu, mu19 = up3 mu18 37 v0 v2.toNatClampNeg (mu18 44 v0 (((5 : Int32) * v2) + (4 : Int32)).toNatClampNeg) → (Ev E (d + 1) mi_154 31 [some (.inr (.inr (some (7, v0)))), none, some (.inl (v2 + (1 : Int32)))] [] (mem E mu19 la) (qI E Q)))))))))))))) : Ev E (d + 1) mi_154 31 [some (.inr (.inr (some (7, v0)))), none, some (.inl v2)] [] (mem E mu la) (qI E Q) := by
  refine Ev.steps 3 (ip' := 34) (ls' := [some (.inr (.inr (some (7, v0)))), none, some (.inl v2)]) (st' := [.inl (mu 7 v0 4), .inl v2]) (M' := mem E mu la) rfl ?_
  refine Ev.br (c := (mu 7 v0 4) ≤ v2) (s1 := (95, [some (.inr (.inr (some (7, v0)))), none, some (.inl v2)], [], mem E mu la)) (s2 := (35, [some (.inr (.inr (some (7, v0)))), none, some (.inl v2)], [], mem E mu la)) rfl rfl rfl rfl (fun hc => ?_) (fun hc => ?_)
  · have h := h.1 hc
    dsimp only
    refine Ev.steps 1 (ip' := 96) (ls' := [some (.inr (.inr (some (7, v0)))), none, some (.inl v2)]) (st' := [.inr (.inr (some (7, v0)))]) (M' := mem E mu la) rfl ?_
    refine Ev.cv (J := mi_153) (as := [.inr (.inr (some (7, v0)))]) (rest := []) rfl rfl rfl (Nat.le_of_ble_eq_true rfl) h (fun mu13 la14 h => ?_)
    refine Ev.steps 2 (ip' := 99) (ls' := [some (.inr (.inr (some (7, v0)))), none, some (.inl v2)]) (st' := [.inl (mu13 7 v0 4)]) (M' := mem E mu13 la14) rfl ?_
    exact Ev.ret rfl rfl ⟨_, _, _, rfl, rfl, h⟩
  · have h := h.2 hc
    dsimp only
    refine Ev.steps 8 (ip' := 43) (ls' := [some (.inr (.inr (some (7, v0)))), none, some (.inl v2)]) (st' := [.inl ((5 : Int32) * v2), .inr (.inr (some (44, v0))), .inl v2, .inr (.inr (some (33, v0)))]) (M' := mem E mu la) rfl ?_
    refine Ev.ial rfl rfl (by decide) h.1 ?_
    have h := h.2
    refine Ev.ias rfl rfl h.1 ?_
    have h := h.2
    generalize hgmu15 : up3 mu 33 v0 v2.toNatClampNeg (mu 44 v0 ((5 : Int32) * v2).toNatClampNeg) = mu15
    have h := h mu15 hgmu15.symm
    refine Ev.steps 10 (ip' := 55) (ls' := [some (.inr (.inr (some (7, v0)))), none, some (.inl v2)]) (st' := [.inl (((5 : Int32) * v2) + (1 : Int32)), .inr (.inr (some (44, v0))), .inl v2, .inr (.inr (some (34, v0)))]) (M' := mem E mu15 la) rfl ?_
    refine Ev.ial rfl rfl (by decide) h.1 ?_
    have h := h.2
    refine Ev.ias rfl rfl h.1 ?_
    have h := h.2
    generalize hgmu16 : up3 mu15 34 v0 v2.toNatClampNeg (mu15 44 v0 (((5 : Int32) * v2) + (1 : Int32)).toNatClampNeg) = mu16
    have h := h mu16 hgmu16.symm
    refine Ev.steps 10 (ip' := 67) (ls' := [some (.inr (.inr (some (7, v0)))), none, some (.inl v2)]) (st' := [.inl (((5 : Int32) * v2) + (2 : Int32)), .inr (.inr (some (44, v0))), .inl v2, .inr (.inr (some (35, v0)))]) (M' := mem E mu16 la) rfl ?_
    refine Ev.ial rfl rfl (by decide) h.1 ?_
    have h := h.2
    refine Ev.ias rfl rfl h.1 ?_
    have h := h.2
    generalize hgmu17 : up3 mu16 35 v0 v2.toNatClampNeg (mu16 44 v0 (((5 : Int32) * v2) + (2 : Int32)).toNatClampNeg) = mu17
    have h := h mu17 hgmu17.symm
    refine Ev.steps 10 (ip' := 79) (ls' := [some (.inr (.inr (some (7, v0)))), none, some (.inl v2)]) (st' := [.inl (((5 : Int32) * v2) + (3 : Int32)), .inr (.inr (some (44, v0))), .inl v2, .inr (.inr (some (36, v0)))]) (M' := mem E mu17 la) rfl ?_
    refine Ev.ial rfl rfl (by decide) h.1 ?_
    have h := h.2
    refine Ev.ias rfl rfl h.1 ?_
    have h := h.2
    generalize hgmu18 : up3 mu17 36 v0 v2.toNatClampNeg (mu17 44 v0 (((5 : Int32) * v2) + (3 : Int32)).toNatClampNeg) = mu18
    have h := h mu18 hgmu18.symm
    refine Ev.steps 10 (ip' := 91) (ls' := [some (.inr (.inr (some (7, v0)))), none, some (.inl v2)]) (st' := [.inl (((5 : Int32) * v2) + (4 : Int32)), .inr (.inr (some (44, v0))), .inl v2, .inr (.inr (some (37, v0)))]) (M' := mem E mu18 la) rfl ?_
    refine Ev.ial rfl rfl (by decide) h.1 ?_
    have h := h.2
    refine Ev.ias rfl rfl h.1 ?_
    have h := h.2
    generalize hgmu19 : up3 mu18 37 v0 v2.toNatClampNeg (mu18 44 v0 (((5 : Int32) * v2) + (4 : Int32)).toNatClampNeg) = mu19
    have h := h mu19 hgmu19.symm
    refine Ev.steps 2 (ip' := 31) (ls' := [some (.inr (.inr (some (7, v0)))), none, some (.inl (v2 + (1 : Int32)))]) (st' := []) (M' := mem E mu19 la) rfl ?_
    exact h
set_option maxRecDepth 100000 in
/-- AnnCupsModel.isCup(I)Z -/
theorem vc_X7_isCup {E : mEv} {d : Nat} {c : Nat} (a0 : Int32) {mu : fMu} {la : fLa} {Q : Int32 → fMu → fLa → Prop} (h : FnI E d mi_129 [.inr (.inl a0.toInt64), .inr (.inl (0 : Int64)), .inr (.inl (((mu 7 c 4) - (1 : Int32)).toInt64))] mu la (fun x1 mu2 la3 => (x1 = 0 ∨ x1 = 1) ∧ Q x1 mu2 la3)) : FnI E (d + 1) mi_155 [.inr (.inr (some (7, c))), .inl a0] mu la Q := by
  unfold FnI
  show Ev E (d + 1) mi_155 0 [some (.inr (.inr (some (7, c)))), some (.inl a0)] [] (mem E mu la) (qI E Q)
  refine Ev.steps 8 (ip' := 8) (ls' := [some (.inr (.inr (some (7, c)))), some (.inl a0)]) (st' := [.inr (.inl (((mu 7 c 4) - (1 : Int32)).toInt64)), .inr (.inl (0 : Int64)), .inr (.inl a0.toInt64)]) (M' := mem E mu la) rfl ?_
  refine Ev.ci (J := mi_129) (as := [.inr (.inl a0.toInt64), .inr (.inl (0 : Int64)), .inr (.inl (((mu 7 c 4) - (1 : Int32)).toInt64))]) (rest := []) rfl rfl rfl (Nat.le_of_ble_eq_true rfl) h (fun x1 mu2 la3 h => ?_)
  exact Ev.retZ rfl rfl h.1 ⟨_, _, _, rfl, rfl, h.2⟩
set_option maxRecDepth 100000 in
/-- AnnCupsModel.isThere(I)Z -/
theorem vc_X7_isThere {E : mEv} {d : Nat} {c : Nat} (a0 : Int32) {mu : fMu} {la : fLa} {Q : Int32 → fMu → fLa → Prop} (h : vp_in a0 6 ∧ (((mu 33 c a0.toNatClampNeg) = (3 : Int32) → (Q (0 : Int32) mu la)) ∧ (¬ ((mu 33 c a0.toNatClampNeg) = (3 : Int32)) → (Q (1 : Int32) mu la)))) : FnI E d mi_156 [.inr (.inr (some (7, c))), .inl a0] mu la Q := by
  unfold FnI
  show Ev E d mi_156 0 [some (.inr (.inr (some (7, c)))), some (.inl a0)] [] (mem E mu la) (qI E Q)
  refine Ev.steps 3 (ip' := 3) (ls' := [some (.inr (.inr (some (7, c)))), some (.inl a0)]) (st' := [.inl a0, .inr (.inr (some (33, c)))]) (M' := mem E mu la) rfl ?_
  refine Ev.ial rfl rfl (by decide) h.1 ?_
  have h := h.2
  refine Ev.steps 1 (ip' := 5) (ls' := [some (.inr (.inr (some (7, c)))), some (.inl a0)]) (st' := [.inl (3 : Int32), .inl (mu 33 c a0.toNatClampNeg)]) (M' := mem E mu la) rfl ?_
  refine Ev.br (c := (mu 33 c a0.toNatClampNeg) = (3 : Int32)) (s1 := (8, [some (.inr (.inr (some (7, c)))), some (.inl a0)], [], mem E mu la)) (s2 := (6, [some (.inr (.inr (some (7, c)))), some (.inl a0)], [], mem E mu la)) rfl rfl rfl rfl (fun hc => ?_) (fun hc => ?_)
  · have h := h.1 hc
    dsimp only
    refine Ev.steps 1 (ip' := 9) (ls' := [some (.inr (.inr (some (7, c)))), some (.inl a0)]) (st' := [.inl (0 : Int32)]) (M' := mem E mu la) rfl ?_
    exact Ev.retZ rfl rfl (Or.inl rfl) ⟨_, _, _, rfl, rfl, h⟩
  · have h := h.2 hc
    dsimp only
    refine Ev.steps 2 (ip' := 9) (ls' := [some (.inr (.inr (some (7, c)))), some (.inl a0)]) (st' := [.inl (1 : Int32)]) (M' := mem E mu la) rfl ?_
    exact Ev.retZ rfl rfl (Or.inr rfl) ⟨_, _, _, rfl, rfl, h⟩
