set_option maxRecDepth 100000 in
/-- AnnCupsModel.isOf(II)Z -/
theorem vc_X7_isOf {E : mEv} {d : Nat} (a0 : Int32) (a1 : Int32) {mu : fMu} {la : fLa} {Q : Int32 → fMu → fLa → Prop} (h : (a0 = a1 → (Q (1 : Int32) mu la)) ∧ (¬ (a0 = a1) → ((¬ a1 = (1 : Int32) → ((¬ a1 = (2 : Int32) → (Q (0 : Int32) mu la)) ∧ (¬ (¬ a1 = (2 : Int32)) → ((¬ a0 = (5 : Int32) → (Q (0 : Int32) mu la)) ∧ (¬ (¬ a0 = (5 : Int32)) → (Q (1 : Int32) mu la)))))) ∧ (¬ (¬ a1 = (1 : Int32)) → ((a0 = (4 : Int32) → (Q (1 : Int32) mu la)) ∧ (¬ (a0 = (4 : Int32)) → ((¬ a1 = (2 : Int32) → (Q (0 : Int32) mu la)) ∧ (¬ (¬ a1 = (2 : Int32)) → ((¬ a0 = (5 : Int32) → (Q (0 : Int32) mu la)) ∧ (¬ (¬ a0 = (5 : Int32)) → (Q (1 : Int32) mu la))))))))))) : FnI E d mi_169 [.inl a0, .inl a1] mu la Q := by
  unfold FnI
  show Ev E d mi_169 0 [some (.inl a0), some (.inl a1)] [] (mem E mu la) (qI E Q)
  refine Ev.steps 2 (ip' := 2) (ls' := [some (.inl a0), some (.inl a1)]) (st' := [.inl a1, .inl a0]) (M' := mem E mu la) rfl ?_
  refine Ev.br (c := a0 = a1) (s1 := (15, [some (.inl a0), some (.inl a1)], [], mem E mu la)) (s2 := (3, [some (.inl a0), some (.inl a1)], [], mem E mu la)) rfl rfl rfl rfl (fun hc => ?_) (fun hc => ?_)
  · have h := h.1 hc
    dsimp only
    refine Ev.steps 2 (ip' := 18) (ls' := [some (.inl a0), some (.inl a1)]) (st' := [.inl (1 : Int32)]) (M' := mem E mu la) rfl ?_
    exact Ev.retZ rfl rfl (Or.inr rfl) ⟨_, _, _, rfl, rfl, h⟩
  · have h := h.2 hc
    dsimp only
    refine Ev.steps 2 (ip' := 5) (ls' := [some (.inl a0), some (.inl a1)]) (st' := [.inl (1 : Int32), .inl a1]) (M' := mem E mu la) rfl ?_
    refine Ev.br (c := ¬ a1 = (1 : Int32)) (s1 := (9, [some (.inl a0), some (.inl a1)], [], mem E mu la)) (s2 := (6, [some (.inl a0), some (.inl a1)], [], mem E mu la)) rfl rfl rfl rfl (fun hc => ?_) (fun hc => ?_)
    · have h := h.1 hc
      dsimp only
      refine Ev.steps 2 (ip' := 11) (ls' := [some (.inl a0), some (.inl a1)]) (st' := [.inl (2 : Int32), .inl a1]) (M' := mem E mu la) rfl ?_
      refine Ev.br (c := ¬ a1 = (2 : Int32)) (s1 := (17, [some (.inl a0), some (.inl a1)], [], mem E mu la)) (s2 := (12, [some (.inl a0), some (.inl a1)], [], mem E mu la)) rfl rfl rfl rfl (fun hc => ?_) (fun hc => ?_)
      · have h := h.1 hc
        dsimp only
        refine Ev.steps 1 (ip' := 18) (ls' := [some (.inl a0), some (.inl a1)]) (st' := [.inl (0 : Int32)]) (M' := mem E mu la) rfl ?_
        exact Ev.retZ rfl rfl (Or.inl rfl) ⟨_, _, _, rfl, rfl, h⟩
      · have h := h.2 hc
        dsimp only
        refine Ev.steps 2 (ip' := 14) (ls' := [some (.inl a0), some (.inl a1)]) (st' := [.inl (5 : Int32), .inl a0]) (M' := mem E mu la) rfl ?_
        refine Ev.br (c := ¬ a0 = (5 : Int32)) (s1 := (17, [some (.inl a0), some (.inl a1)], [], mem E mu la)) (s2 := (15, [some (.inl a0), some (.inl a1)], [], mem E mu la)) rfl rfl rfl rfl (fun hc => ?_) (fun hc => ?_)
        · have h := h.1 hc
          dsimp only
          refine Ev.steps 1 (ip' := 18) (ls' := [some (.inl a0), some (.inl a1)]) (st' := [.inl (0 : Int32)]) (M' := mem E mu la) rfl ?_
          exact Ev.retZ rfl rfl (Or.inl rfl) ⟨_, _, _, rfl, rfl, h⟩
        · have h := h.2 hc
          dsimp only
          refine Ev.steps 2 (ip' := 18) (ls' := [some (.inl a0), some (.inl a1)]) (st' := [.inl (1 : Int32)]) (M' := mem E mu la) rfl ?_
          exact Ev.retZ rfl rfl (Or.inr rfl) ⟨_, _, _, rfl, rfl, h⟩
    · have h := h.2 hc
      dsimp only
      refine Ev.steps 2 (ip' := 8) (ls' := [some (.inl a0), some (.inl a1)]) (st' := [.inl (4 : Int32), .inl a0]) (M' := mem E mu la) rfl ?_
      refine Ev.br (c := a0 = (4 : Int32)) (s1 := (15, [some (.inl a0), some (.inl a1)], [], mem E mu la)) (s2 := (9, [some (.inl a0), some (.inl a1)], [], mem E mu la)) rfl rfl rfl rfl (fun hc => ?_) (fun hc => ?_)
      · have h := h.1 hc
        dsimp only
        refine Ev.steps 2 (ip' := 18) (ls' := [some (.inl a0), some (.inl a1)]) (st' := [.inl (1 : Int32)]) (M' := mem E mu la) rfl ?_
        exact Ev.retZ rfl rfl (Or.inr rfl) ⟨_, _, _, rfl, rfl, h⟩
      · have h := h.2 hc
        dsimp only
        refine Ev.steps 2 (ip' := 11) (ls' := [some (.inl a0), some (.inl a1)]) (st' := [.inl (2 : Int32), .inl a1]) (M' := mem E mu la) rfl ?_
        refine Ev.br (c := ¬ a1 = (2 : Int32)) (s1 := (17, [some (.inl a0), some (.inl a1)], [], mem E mu la)) (s2 := (12, [some (.inl a0), some (.inl a1)], [], mem E mu la)) rfl rfl rfl rfl (fun hc => ?_) (fun hc => ?_)
        · have h := h.1 hc
          dsimp only
          refine Ev.steps 1 (ip' := 18) (ls' := [some (.inl a0), some (.inl a1)]) (st' := [.inl (0 : Int32)]) (M' := mem E mu la) rfl ?_
          exact Ev.retZ rfl rfl (Or.inl rfl) ⟨_, _, _, rfl, rfl, h⟩
        · have h := h.2 hc
          dsimp only
          refine Ev.steps 2 (ip' := 14) (ls' := [some (.inl a0), some (.inl a1)]) (st' := [.inl (5 : Int32), .inl a0]) (M' := mem E mu la) rfl ?_
          refine Ev.br (c := ¬ a0 = (5 : Int32)) (s1 := (17, [some (.inl a0), some (.inl a1)], [], mem E mu la)) (s2 := (15, [some (.inl a0), some (.inl a1)], [], mem E mu la)) rfl rfl rfl rfl (fun hc => ?_) (fun hc => ?_)
          · have h := h.1 hc
            dsimp only
            refine Ev.steps 1 (ip' := 18) (ls' := [some (.inl a0), some (.inl a1)]) (st' := [.inl (0 : Int32)]) (M' := mem E mu la) rfl ?_
            exact Ev.retZ rfl rfl (Or.inl rfl) ⟨_, _, _, rfl, rfl, h⟩
          · have h := h.2 hc
            dsimp only
            refine Ev.steps 2 (ip' := 18) (ls' := [some (.inl a0), some (.inl a1)]) (st' := [.inl (1 : Int32)]) (M' := mem E mu la) rfl ?_
            exact Ev.retZ rfl rfl (Or.inr rfl) ⟨_, _, _, rfl, rfl, h⟩
set_option maxRecDepth 100000 in
/-- AnnCupsModel.whoseOf(I)I -/
theorem vc_X7_whoseOf {E : mEv} {d : Nat} {c : Nat} (a0 : Int32) {mu : fMu} {la : fLa} {Q : Int32 → fMu → fLa → Prop} (h : Ev E (d + 1) mi_170 4 [some (.inr (.inr (some (7, c)))), some (.inl a0), some (.inl (0 : Int32)), some (.inl (0 : Int32))] [] (mem E mu la) (qI E Q)) : FnI E (d + 1) mi_170 [.inr (.inr (some (7, c))), .inl a0] mu la Q := by
  unfold FnI
  show Ev E (d + 1) mi_170 0 [some (.inr (.inr (some (7, c)))), some (.inl a0), none, none] [] (mem E mu la) (qI E Q)
  refine Ev.steps 4 (ip' := 4) (ls' := [some (.inr (.inr (some (7, c)))), some (.inl a0), some (.inl (0 : Int32)), some (.inl (0 : Int32))]) (st' := []) (M' := mem E mu la) rfl ?_
  exact h
set_option maxRecDepth 100000 in
theorem vc_X7_whoseOf_4 {E : mEv} {d : Nat}  (v0 : Nat) (v1 : Int32) (v2 : Int32) (v3 : Int32) {mu : fMu} {la : fLa} {Q : Int32 → fMu → fLa → Prop} (h : ((mu 7 v0 4) ≤ v3 → (Q v2 mu la)) ∧ (¬ ((mu 7 v0 4) ≤ v3) → (FnI E d mi_156 [.inr (.inr (some (7, v0))), .inl v3] mu la (fun x1 mu2 la3 => (x1 = 0 → (Ev E (d + 1) mi_170 4 [some (.inr (.inr (some (7, v0)))), some (.inl v1), some (.inl (v2 ||| (0 : Int32))), some (.inl (v3 + (1 : Int32)))] [] (mem E mu2 la3) (qI E Q))) ∧ (¬ (x1 = 0) → (vp_in v3 6 ∧ (vp_in v1 6 ∧ (FnI E d mi_159 [.inl ((mu2 36 v0 v3.toNatClampNeg) - (mu2 37 v0 v1.toNatClampNeg))] mu2 la3 (fun x4 mu5 la6 => ((mu5 7 v0 5) < x4 → (Ev E (d + 1) mi_170 4 [some (.inr (.inr (some (7, v0)))), some (.inl v1), some (.inl (v2 ||| (0 : Int32))), some (.inl (v3 + (1 : Int32)))] [] (mem E mu5 la6) (qI E Q))) ∧ (¬ ((mu5 7 v0 5) < x4) → (Ev E (d + 1) mi_170 4 [some (.inr (.inr (some (7, v0)))), some (.inl v1), some (.inl (v2 ||| ((1 : Int32) <<< (v3 &&& 31)))), some (.inl (v3 + (1 : Int32)))] [] (mem E mu5 la6) (qI E Q)))))))))))) : Ev E (d + 1) mi_170 4 [some (.inr (.inr (some (7, v0)))), some (.inl v1), some (.inl v2), some (.inl v3)] [] (mem E mu la) (qI E Q) := by
  refine Ev.steps 3 (ip' := 7) (ls' := [some (.inr (.inr (some (7, v0)))), some (.inl v1), some (.inl v2), some (.inl v3)]) (st' := [.inl (mu 7 v0 4), .inl v3]) (M' := mem E mu la) rfl ?_
  refine Ev.br (c := (mu 7 v0 4) ≤ v3) (s1 := (35, [some (.inr (.inr (some (7, v0)))), some (.inl v1), some (.inl v2), some (.inl v3)], [], mem E mu la)) (s2 := (8, [some (.inr (.inr (some (7, v0)))), some (.inl v1), some (.inl v2), some (.inl v3)], [], mem E mu la)) rfl rfl rfl rfl (fun hc => ?_) (fun hc => ?_)
  · have h := h.1 hc
    dsimp only
    refine Ev.steps 1 (ip' := 36) (ls' := [some (.inr (.inr (some (7, v0)))), some (.inl v1), some (.inl v2), some (.inl v3)]) (st' := [.inl v2]) (M' := mem E mu la) rfl ?_
    exact Ev.ret rfl rfl ⟨_, _, _, rfl, rfl, h⟩
  · have h := h.2 hc
    dsimp only
    refine Ev.steps 3 (ip' := 11) (ls' := [some (.inr (.inr (some (7, v0)))), some (.inl v1), some (.inl v2), some (.inl v3)]) (st' := [.inl v3, .inr (.inr (some (7, v0))), .inl v2]) (M' := mem E mu la) rfl ?_
    refine Ev.ci (J := mi_156) (as := [.inr (.inr (some (7, v0))), .inl v3]) (rest := [.inl v2]) rfl rfl rfl (Nat.le_of_ble_eq_true rfl) h (fun x1 mu2 la3 h => ?_)
    refine Ev.br (c := x1 = 0) (s1 := (30, [some (.inr (.inr (some (7, v0)))), some (.inl v1), some (.inl v2), some (.inl v3)], [.inl v2], mem E mu2 la3)) (s2 := (13, [some (.inr (.inr (some (7, v0)))), some (.inl v1), some (.inl v2), some (.inl v3)], [.inl v2], mem E mu2 la3)) rfl rfl rfl rfl (fun hc => ?_) (fun hc => ?_)
    · have h := h.1 hc
      dsimp only
      refine Ev.steps 5 (ip' := 4) (ls' := [some (.inr (.inr (some (7, v0)))), some (.inl v1), some (.inl (v2 ||| (0 : Int32))), some (.inl (v3 + (1 : Int32)))]) (st' := []) (M' := mem E mu2 la3) rfl ?_
      exact h
    · have h := h.2 hc
      dsimp only
      refine Ev.steps 3 (ip' := 16) (ls' := [some (.inr (.inr (some (7, v0)))), some (.inl v1), some (.inl v2), some (.inl v3)]) (st' := [.inl v3, .inr (.inr (some (36, v0))), .inl v2]) (M' := mem E mu2 la3) rfl ?_
      refine Ev.ial rfl rfl (by decide) h.1 ?_
      have h := h.2
      refine Ev.steps 3 (ip' := 20) (ls' := [some (.inr (.inr (some (7, v0)))), some (.inl v1), some (.inl v2), some (.inl v3)]) (st' := [.inl v1, .inr (.inr (some (37, v0))), .inl (mu2 36 v0 v3.toNatClampNeg), .inl v2]) (M' := mem E mu2 la3) rfl ?_
      refine Ev.ial rfl rfl (by decide) h.1 ?_
      have h := h.2
      refine Ev.steps 1 (ip' := 22) (ls' := [some (.inr (.inr (some (7, v0)))), some (.inl v1), some (.inl v2), some (.inl v3)]) (st' := [.inl ((mu2 36 v0 v3.toNatClampNeg) - (mu2 37 v0 v1.toNatClampNeg)), .inl v2]) (M' := mem E mu2 la3) rfl ?_
      refine Ev.ci (J := mi_159) (as := [.inl ((mu2 36 v0 v3.toNatClampNeg) - (mu2 37 v0 v1.toNatClampNeg))]) (rest := [.inl v2]) rfl rfl rfl (Nat.le_of_ble_eq_true rfl) h (fun x4 mu5 la6 h => ?_)
      refine Ev.steps 2 (ip' := 25) (ls' := [some (.inr (.inr (some (7, v0)))), some (.inl v1), some (.inl v2), some (.inl v3)]) (st' := [.inl (mu5 7 v0 5), .inl x4, .inl v2]) (M' := mem E mu5 la6) rfl ?_
      refine Ev.br (c := (mu5 7 v0 5) < x4) (s1 := (30, [some (.inr (.inr (some (7, v0)))), some (.inl v1), some (.inl v2), some (.inl v3)], [.inl v2], mem E mu5 la6)) (s2 := (26, [some (.inr (.inr (some (7, v0)))), some (.inl v1), some (.inl v2), some (.inl v3)], [.inl v2], mem E mu5 la6)) rfl rfl rfl rfl (fun hc => ?_) (fun hc => ?_)
      · have h := h.1 hc
        dsimp only
        refine Ev.steps 5 (ip' := 4) (ls' := [some (.inr (.inr (some (7, v0)))), some (.inl v1), some (.inl (v2 ||| (0 : Int32))), some (.inl (v3 + (1 : Int32)))]) (st' := []) (M' := mem E mu5 la6) rfl ?_
        exact h
      · have h := h.2 hc
        dsimp only
        refine Ev.steps 8 (ip' := 4) (ls' := [some (.inr (.inr (some (7, v0)))), some (.inl v1), some (.inl (v2 ||| ((1 : Int32) <<< (v3 &&& 31)))), some (.inl (v3 + (1 : Int32)))]) (st' := []) (M' := mem E mu5 la6) rfl ?_
        exact h
set_option maxRecDepth 100000 in
/-- AnnCupsModel.others(IZ)I -/
theorem vc_X7_others {E : mEv} {d : Nat} {c : Nat} (a0 : Int32) (a1 : Int32) {mu : fMu} {la : fLa} {Q : Int32 → fMu → fLa → Prop} (h : Ev E (d + 1) mi_171 4 [some (.inr (.inr (some (7, c)))), some (.inl a0), some (.inl a1), some (.inl (0 : Int32)), some (.inl (0 : Int32)), none] [] (mem E mu la) (qI E Q)) : FnI E (d + 1) mi_171 [.inr (.inr (some (7, c))), .inl a0, .inl a1] mu la Q := by
  unfold FnI
  show Ev E (d + 1) mi_171 0 [some (.inr (.inr (some (7, c)))), some (.inl a0), some (.inl a1), none, none, none] [] (mem E mu la) (qI E Q)
  refine Ev.steps 4 (ip' := 4) (ls' := [some (.inr (.inr (some (7, c)))), some (.inl a0), some (.inl a1), some (.inl (0 : Int32)), some (.inl (0 : Int32)), none]) (st' := []) (M' := mem E mu la) rfl ?_
  exact h
set_option maxRecDepth 100000 in
theorem vc_X7_others_4 {E : mEv} {d : Nat}  (v0 : Nat) (v1 : Int32) (v2 : Int32) (v3 : Int32) (v4 : Int32) {mu : fMu} {la : fLa} {Q : Int32 → fMu → fLa → Prop} (h : ((mu 7 v0 4) ≤ v4 → (Q v3 mu la)) ∧ (¬ ((mu 7 v0 4) ≤ v4) → ((v2 = 0 → (FnI E d mi_158 [.inr (.inr (some (7, v0))), .inr (.inr (some (38, v0))), .inl v4] mu la (fun x1 mu2 la3 => FnI E d mi_158 [.inr (.inr (some (7, v0))), .inr (.inr (some (38, v0))), .inl v1] mu2 la3 (fun x4 mu5 la6 => (x1 ≤ x4 → ((v4 = v1 → (Ev E (d + 1) mi_171 4 [some (.inr (.inr (some (7, v0)))), some (.inl v1), some (.inl v2), some (.inl (v3 + (0 : Int32))), some (.inl (v4 + (1 : Int32))), none] [] (mem E mu5 la6) (qI E Q))) ∧ (¬ (v4 = v1) → (FnI E d mi_162 [.inr (.inr (some (38, v0))), .inl v4] mu5 la6 (fun x7 mu8 la9 => (¬ x7 = 0 → (Ev E (d + 1) mi_171 4 [some (.inr (.inr (some (7, v0)))), some (.inl v1), some (.inl v2), some (.inl (v3 + (0 : Int32))), some (.inl (v4 + (1 : Int32))), none] [] (mem E mu8 la9) (qI E Q))) ∧ (¬ (¬ x7 = 0) → (((0 : Int32) = 0 → (Ev E (d + 1) mi_171 4 [some (.inr (.inr (some (7, v0)))), some (.inl v1), some (.inl v2), some (.inl (v3 + (0 : Int32))), some (.inl (v4 + (1 : Int32))), none] [] (mem E mu8 la9) (qI E Q))) ∧ (¬ ((0 : Int32) = 0) → (Ev E (d + 1) mi_171 4 [some (.inr (.inr (some (7, v0)))), some (.inl v1), some (.inl v2), some (.inl (v3 + (1 : Int32))), some (.inl (v4 + (1 : Int32))), none] [] (mem E mu8 la9) (qI E Q)))))))))) ∧ (¬ (x1 ≤ x4) → ((v4 = v1 → (Ev E (d + 1) mi_171 4 [some (.inr (.inr (some (7, v0)))), some (.inl v1), some (.inl v2), some (.inl (v3 + (0 : Int32))), some (.inl (v4 + (1 : Int32))), none] [] (mem E mu5 la6) (qI E Q))) ∧ (¬ (v4 = v1) → (FnI E d mi_162 [.inr (.inr (some (38, v0))), .inl v4] mu5 la6 (fun x10 mu11 la12 => (¬ x10 = 0 → (Ev E (d + 1) mi_171 4 [some (.inr (.inr (some (7, v0)))), some (.inl v1), some (.inl v2), some (.inl (v3 + (0 : Int32))), some (.inl (v4 + (1 : Int32))), none] [] (mem E mu11 la12) (qI E Q))) ∧ (¬ (¬ x10 = 0) → (((1 : Int32) = 0 → (Ev E (d + 1) mi_171 4 [some (.inr (.inr (some (7, v0)))), some (.inl v1), some (.inl v2), some (.inl (v3 + (0 : Int32))), some (.inl (v4 + (1 : Int32))), none] [] (mem E mu11 la12) (qI E Q))) ∧ (¬ ((1 : Int32) = 0) → (Ev E (d + 1) mi_171 4 [some (.inr (.inr (some (7, v0)))), some (.inl v1), some (.inl v2), some (.inl (v3 + (1 : Int32))), some (.inl (v4 + (1 : Int32))), none] [] (mem E mu11 la12) (qI E Q)))))))))))))) ∧ (¬ (v2 = 0) → (vp_in v4 6 ∧ (vp_in v1 6 ∧ ((¬ (mu 35 v0 v4.toNatClampNeg) = (mu 35 v0 v1.toNatClampNeg) → ((v4 = v1 → (Ev E (d + 1) mi_171 4 [some (.inr (.inr (some (7, v0)))), some (.inl v1), some (.inl v2), some (.inl (v3 + (0 : Int32))), some (.inl (v4 + (1 : Int32))), none] [] (mem E mu la) (qI E Q))) ∧ (¬ (v4 = v1) → (FnI E d mi_162 [.inr (.inr (some (38, v0))), .inl v4] mu la (fun x13 mu14 la15 => (¬ x13 = 0 → (Ev E (d + 1) mi_171 4 [some (.inr (.inr (some (7, v0)))), some (.inl v1), some (.inl v2), some (.inl (v3 + (0 : Int32))), some (.inl (v4 + (1 : Int32))), none] [] (mem E mu14 la15) (qI E Q))) ∧ (¬ (¬ x13 = 0) → (((0 : Int32) = 0 → (Ev E (d + 1) mi_171 4 [some (.inr (.inr (some (7, v0)))), some (.inl v1), some (.inl v2), some (.inl (v3 + (0 : Int32))), some (.inl (v4 + (1 : Int32))), none] [] (mem E mu14 la15) (qI E Q))) ∧ (¬ ((0 : Int32) = 0) → (Ev E (d + 1) mi_171 4 [some (.inr (.inr (some (7, v0)))), some (.inl v1), some (.inl v2), some (.inl (v3 + (1 : Int32))), some (.inl (v4 + (1 : Int32))), none] [] (mem E mu14 la15) (qI E Q)))))))))) ∧ (¬ (¬ (mu 35 v0 v4.toNatClampNeg) = (mu 35 v0 v1.toNatClampNeg)) → ((v4 = v1 → (Ev E (d + 1) mi_171 4 [some (.inr (.inr (some (7, v0)))), some (.inl v1), some (.inl v2), some (.inl (v3 + (0 : Int32))), some (.inl (v4 + (1 : Int32))), none] [] (mem E mu la) (qI E Q))) ∧ (¬ (v4 = v1) → (FnI E d mi_162 [.inr (.inr (some (38, v0))), .inl v4] mu la (fun x16 mu17 la18 => (¬ x16 = 0 → (Ev E (d + 1) mi_171 4 [some (.inr (.inr (some (7, v0)))), some (.inl v1), some (.inl v2), some (.inl (v3 + (0 : Int32))), some (.inl (v4 + (1 : Int32))), none] [] (mem E mu17 la18) (qI E Q))) ∧ (¬ (¬ x16 = 0) → (((1 : Int32) = 0 → (Ev E (d + 1) mi_171 4 [some (.inr (.inr (some (7, v0)))), some (.inl v1), some (.inl v2), some (.inl (v3 + (0 : Int32))), some (.inl (v4 + (1 : Int32))), none] [] (mem E mu17 la18) (qI E Q))) ∧ (¬ ((1 : Int32) = 0) → (Ev E (d + 1) mi_171 4 [some (.inr (.inr (some (7, v0)))), some (.inl v1), some (.inl v2), some (.inl (v3 + (1 : Int32))), some (.inl (v4 + (1 : Int32))), none] [] (mem E mu17 la18) (qI E Q))))))))))))))))) : Ev E (d + 1) mi_171 4 [some (.inr (.inr (some (7, v0)))), some (.inl v1), some (.inl v2), some (.inl v3), some (.inl v4), none] [] (mem E mu la) (qI E Q) := by
  refine Ev.steps 3 (ip' := 7) (ls' := [some (.inr (.inr (some (7, v0)))), some (.inl v1), some (.inl v2), some (.inl v3), some (.inl v4), none]) (st' := [.inl (mu 7 v0 4), .inl v4]) (M' := mem E mu la) rfl ?_
  refine Ev.br (c := (mu 7 v0 4) ≤ v4) (s1 := (56, [some (.inr (.inr (some (7, v0)))), some (.inl v1), some (.inl v2), some (.inl v3), some (.inl v4), none], [], mem E mu la)) (s2 := (8, [some (.inr (.inr (some (7, v0)))), some (.inl v1), some (.inl v2), some (.inl v3), some (.inl v4), none], [], mem E mu la)) rfl rfl rfl rfl (fun hc => ?_) (fun hc => ?_)
  · have h := h.1 hc
    dsimp only
    refine Ev.steps 1 (ip' := 57) (ls' := [some (.inr (.inr (some (7, v0)))), some (.inl v1), some (.inl v2), some (.inl v3), some (.inl v4), none]) (st' := [.inl v3]) (M' := mem E mu la) rfl ?_
    exact Ev.ret rfl rfl ⟨_, _, _, rfl, rfl, h⟩
  · have h := h.2 hc
    dsimp only
    refine Ev.steps 1 (ip' := 9) (ls' := [some (.inr (.inr (some (7, v0)))), some (.inl v1), some (.inl v2), some (.inl v3), some (.inl v4), none]) (st' := [.inl v2]) (M' := mem E mu la) rfl ?_
    refine Ev.br (c := v2 = 0) (s1 := (23, [some (.inr (.inr (some (7, v0)))), some (.inl v1), some (.inl v2), some (.inl v3), some (.inl v4), none], [], mem E mu la)) (s2 := (10, [some (.inr (.inr (some (7, v0)))), some (.inl v1), some (.inl v2), some (.inl v3), some (.inl v4), none], [], mem E mu la)) rfl rfl rfl rfl (fun hc => ?_) (fun hc => ?_)
    · have h := h.1 hc
      dsimp only
      refine Ev.steps 4 (ip' := 27) (ls' := [some (.inr (.inr (some (7, v0)))), some (.inl v1), some (.inl v2), some (.inl v3), some (.inl v4), none]) (st' := [.inl v4, .inr (.inr (some (38, v0))), .inr (.inr (some (7, v0)))]) (M' := mem E mu la) rfl ?_
      refine Ev.ci (J := mi_158) (as := [.inr (.inr (some (7, v0))), .inr (.inr (some (38, v0))), .inl v4]) (rest := []) rfl rfl rfl (Nat.le_of_ble_eq_true rfl) h (fun x1 mu2 la3 h => ?_)
      refine Ev.steps 4 (ip' := 32) (ls' := [some (.inr (.inr (some (7, v0)))), some (.inl v1), some (.inl v2), some (.inl v3), some (.inl v4), none]) (st' := [.inl v1, .inr (.inr (some (38, v0))), .inr (.inr (some (7, v0))), .inl x1]) (M' := mem E mu2 la3) rfl ?_
      refine Ev.ci (J := mi_158) (as := [.inr (.inr (some (7, v0))), .inr (.inr (some (38, v0))), .inl v1]) (rest := [.inl x1]) rfl rfl rfl (Nat.le_of_ble_eq_true rfl) h (fun x4 mu5 la6 h => ?_)
      refine Ev.br (c := x1 ≤ x4) (s1 := (36, [some (.inr (.inr (some (7, v0)))), some (.inl v1), some (.inl v2), some (.inl v3), some (.inl v4), none], [], mem E mu5 la6)) (s2 := (34, [some (.inr (.inr (some (7, v0)))), some (.inl v1), some (.inl v2), some (.inl v3), some (.inl v4), none], [], mem E mu5 la6)) rfl rfl rfl rfl (fun hc => ?_) (fun hc => ?_)
      · have h := h.1 hc
        dsimp only
        refine Ev.steps 5 (ip' := 41) (ls' := [some (.inr (.inr (some (7, v0)))), some (.inl v1), some (.inl v2), some (.inl v3), some (.inl v4), some (.inl (0 : Int32))]) (st' := [.inl v1, .inl v4, .inl v3]) (M' := mem E mu5 la6) rfl ?_
        refine Ev.br (c := v4 = v1) (s1 := (51, [some (.inr (.inr (some (7, v0)))), some (.inl v1), some (.inl v2), some (.inl v3), some (.inl v4), some (.inl (0 : Int32))], [.inl v3], mem E mu5 la6)) (s2 := (42, [some (.inr (.inr (some (7, v0)))), some (.inl v1), some (.inl v2), some (.inl v3), some (.inl v4), some (.inl (0 : Int32))], [.inl v3], mem E mu5 la6)) rfl rfl rfl rfl (fun hc => ?_) (fun hc => ?_)
        · have h := h.1 hc
          dsimp only
          refine Ev.steps 5 (ip' := 4) (ls' := [some (.inr (.inr (some (7, v0)))), some (.inl v1), some (.inl v2), some (.inl (v3 + (0 : Int32))), some (.inl (v4 + (1 : Int32))), some (.inl (0 : Int32))]) (st' := []) (M' := mem E mu5 la6) rfl ?_
          refine Ev.drop (ls := [some (.inr (.inr (some (7, v0)))), some (.inl v1), some (.inl v2), some (.inl (v3 + (0 : Int32))), some (.inl (v4 + (1 : Int32))), none]) ⟨Or.inr rfl, Or.inr rfl, Or.inr rfl, Or.inr rfl, Or.inr rfl, Or.inl rfl, trivial⟩ ?_
          exact h
        · have h := h.2 hc
          dsimp only
          refine Ev.steps 3 (ip' := 45) (ls' := [some (.inr (.inr (some (7, v0)))), some (.inl v1), some (.inl v2), some (.inl v3), some (.inl v4), some (.inl (0 : Int32))]) (st' := [.inl v4, .inr (.inr (some (38, v0))), .inl v3]) (M' := mem E mu5 la6) rfl ?_
          refine Ev.ci (J := mi_162) (as := [.inr (.inr (some (38, v0))), .inl v4]) (rest := [.inl v3]) rfl rfl rfl (Nat.le_of_ble_eq_true rfl) h (fun x7 mu8 la9 h => ?_)
          refine Ev.br (c := ¬ x7 = 0) (s1 := (51, [some (.inr (.inr (some (7, v0)))), some (.inl v1), some (.inl v2), some (.inl v3), some (.inl v4), some (.inl (0 : Int32))], [.inl v3], mem E mu8 la9)) (s2 := (47, [some (.inr (.inr (some (7, v0)))), some (.inl v1), some (.inl v2), some (.inl v3), some (.inl v4), some (.inl (0 : Int32))], [.inl v3], mem E mu8 la9)) rfl rfl rfl rfl (fun hc => ?_) (fun hc => ?_)
          · have h := h.1 hc
            dsimp only
            refine Ev.steps 5 (ip' := 4) (ls' := [some (.inr (.inr (some (7, v0)))), some (.inl v1), some (.inl v2), some (.inl (v3 + (0 : Int32))), some (.inl (v4 + (1 : Int32))), some (.inl (0 : Int32))]) (st' := []) (M' := mem E mu8 la9) rfl ?_
            refine Ev.drop (ls := [some (.inr (.inr (some (7, v0)))), some (.inl v1), some (.inl v2), some (.inl (v3 + (0 : Int32))), some (.inl (v4 + (1 : Int32))), none]) ⟨Or.inr rfl, Or.inr rfl, Or.inr rfl, Or.inr rfl, Or.inr rfl, Or.inl rfl, trivial⟩ ?_
            exact h
          · have h := h.2 hc
            dsimp only
            refine Ev.steps 1 (ip' := 48) (ls' := [some (.inr (.inr (some (7, v0)))), some (.inl v1), some (.inl v2), some (.inl v3), some (.inl v4), some (.inl (0 : Int32))]) (st' := [.inl (0 : Int32), .inl v3]) (M' := mem E mu8 la9) rfl ?_
            refine Ev.br (c := (0 : Int32) = 0) (s1 := (51, [some (.inr (.inr (some (7, v0)))), some (.inl v1), some (.inl v2), some (.inl v3), some (.inl v4), some (.inl (0 : Int32))], [.inl v3], mem E mu8 la9)) (s2 := (49, [some (.inr (.inr (some (7, v0)))), some (.inl v1), some (.inl v2), some (.inl v3), some (.inl v4), some (.inl (0 : Int32))], [.inl v3], mem E mu8 la9)) rfl rfl rfl rfl (fun hc => ?_) (fun hc => ?_)
            · have h := h.1 hc
              dsimp only
              refine Ev.steps 5 (ip' := 4) (ls' := [some (.inr (.inr (some (7, v0)))), some (.inl v1), some (.inl v2), some (.inl (v3 + (0 : Int32))), some (.inl (v4 + (1 : Int32))), some (.inl (0 : Int32))]) (st' := []) (M' := mem E mu8 la9) rfl ?_
              refine Ev.drop (ls := [some (.inr (.inr (some (7, v0)))), some (.inl v1), some (.inl v2), some (.inl (v3 + (0 : Int32))), some (.inl (v4 + (1 : Int32))), none]) ⟨Or.inr rfl, Or.inr rfl, Or.inr rfl, Or.inr rfl, Or.inr rfl, Or.inl rfl, trivial⟩ ?_
              exact h
            · have h := h.2 hc
              dsimp only
              refine Ev.steps 6 (ip' := 4) (ls' := [some (.inr (.inr (some (7, v0)))), some (.inl v1), some (.inl v2), some (.inl (v3 + (1 : Int32))), some (.inl (v4 + (1 : Int32))), some (.inl (0 : Int32))]) (st' := []) (M' := mem E mu8 la9) rfl ?_
              refine Ev.drop (ls := [some (.inr (.inr (some (7, v0)))), some (.inl v1), some (.inl v2), some (.inl (v3 + (1 : Int32))), some (.inl (v4 + (1 : Int32))), none]) ⟨Or.inr rfl, Or.inr rfl, Or.inr rfl, Or.inr rfl, Or.inr rfl, Or.inl rfl, trivial⟩ ?_
              exact h
      · have h := h.2 hc
        dsimp only
        refine Ev.steps 6 (ip' := 41) (ls' := [some (.inr (.inr (some (7, v0)))), some (.inl v1), some (.inl v2), some (.inl v3), some (.inl v4), some (.inl (1 : Int32))]) (st' := [.inl v1, .inl v4, .inl v3]) (M' := mem E mu5 la6) rfl ?_
        refine Ev.br (c := v4 = v1) (s1 := (51, [some (.inr (.inr (some (7, v0)))), some (.inl v1), some (.inl v2), some (.inl v3), some (.inl v4), some (.inl (1 : Int32))], [.inl v3], mem E mu5 la6)) (s2 := (42, [some (.inr (.inr (some (7, v0)))), some (.inl v1), some (.inl v2), some (.inl v3), some (.inl v4), some (.inl (1 : Int32))], [.inl v3], mem E mu5 la6)) rfl rfl rfl rfl (fun hc => ?_) (fun hc => ?_)
        · have h := h.1 hc
          dsimp only
          refine Ev.steps 5 (ip' := 4) (ls' := [some (.inr (.inr (some (7, v0)))), some (.inl v1), some (.inl v2), some (.inl (v3 + (0 : Int32))), some (.inl (v4 + (1 : Int32))), some (.inl (1 : Int32))]) (st' := []) (M' := mem E mu5 la6) rfl ?_
          refine Ev.drop (ls := [some (.inr (.inr (some (7, v0)))), some (.inl v1), some (.inl v2), some (.inl (v3 + (0 : Int32))), some (.inl (v4 + (1 : Int32))), none]) ⟨Or.inr rfl, Or.inr rfl, Or.inr rfl, Or.inr rfl, Or.inr rfl, Or.inl rfl, trivial⟩ ?_
          exact h
        · have h := h.2 hc
          dsimp only
          refine Ev.steps 3 (ip' := 45) (ls' := [some (.inr (.inr (some (7, v0)))), some (.inl v1), some (.inl v2), some (.inl v3), some (.inl v4), some (.inl (1 : Int32))]) (st' := [.inl v4, .inr (.inr (some (38, v0))), .inl v3]) (M' := mem E mu5 la6) rfl ?_
          refine Ev.ci (J := mi_162) (as := [.inr (.inr (some (38, v0))), .inl v4]) (rest := [.inl v3]) rfl rfl rfl (Nat.le_of_ble_eq_true rfl) h (fun x10 mu11 la12 h => ?_)
          refine Ev.br (c := ¬ x10 = 0) (s1 := (51, [some (.inr (.inr (some (7, v0)))), some (.inl v1), some (.inl v2), some (.inl v3), some (.inl v4), some (.inl (1 : Int32))], [.inl v3], mem E mu11 la12)) (s2 := (47, [some (.inr (.inr (some (7, v0)))), some (.inl v1), some (.inl v2), some (.inl v3), some (.inl v4), some (.inl (1 : Int32))], [.inl v3], mem E mu11 la12)) rfl rfl rfl rfl (fun hc => ?_) (fun hc => ?_)
          · have h := h.1 hc
            dsimp only
            refine Ev.steps 5 (ip' := 4) (ls' := [some (.inr (.inr (some (7, v0)))), some (.inl v1), some (.inl v2), some (.inl (v3 + (0 : Int32))), some (.inl (v4 + (1 : Int32))), some (.inl (1 : Int32))]) (st' := []) (M' := mem E mu11 la12) rfl ?_
            refine Ev.drop (ls := [some (.inr (.inr (some (7, v0)))), some (.inl v1), some (.inl v2), some (.inl (v3 + (0 : Int32))), some (.inl (v4 + (1 : Int32))), none]) ⟨Or.inr rfl, Or.inr rfl, Or.inr rfl, Or.inr rfl, Or.inr rfl, Or.inl rfl, trivial⟩ ?_
            exact h
          · have h := h.2 hc
            dsimp only
            refine Ev.steps 1 (ip' := 48) (ls' := [some (.inr (.inr (some (7, v0)))), some (.inl v1), some (.inl v2), some (.inl v3), some (.inl v4), some (.inl (1 : Int32))]) (st' := [.inl (1 : Int32), .inl v3]) (M' := mem E mu11 la12) rfl ?_
            refine Ev.br (c := (1 : Int32) = 0) (s1 := (51, [some (.inr (.inr (some (7, v0)))), some (.inl v1), some (.inl v2), some (.inl v3), some (.inl v4), some (.inl (1 : Int32))], [.inl v3], mem E mu11 la12)) (s2 := (49, [some (.inr (.inr (some (7, v0)))), some (.inl v1), some (.inl v2), some (.inl v3), some (.inl v4), some (.inl (1 : Int32))], [.inl v3], mem E mu11 la12)) rfl rfl rfl rfl (fun hc => ?_) (fun hc => ?_)
            · have h := h.1 hc
              dsimp only
              refine Ev.steps 5 (ip' := 4) (ls' := [some (.inr (.inr (some (7, v0)))), some (.inl v1), some (.inl v2), some (.inl (v3 + (0 : Int32))), some (.inl (v4 + (1 : Int32))), some (.inl (1 : Int32))]) (st' := []) (M' := mem E mu11 la12) rfl ?_
              refine Ev.drop (ls := [some (.inr (.inr (some (7, v0)))), some (.inl v1), some (.inl v2), some (.inl (v3 + (0 : Int32))), some (.inl (v4 + (1 : Int32))), none]) ⟨Or.inr rfl, Or.inr rfl, Or.inr rfl, Or.inr rfl, Or.inr rfl, Or.inl rfl, trivial⟩ ?_
              exact h
            · have h := h.2 hc
              dsimp only
              refine Ev.steps 6 (ip' := 4) (ls' := [some (.inr (.inr (some (7, v0)))), some (.inl v1), some (.inl v2), some (.inl (v3 + (1 : Int32))), some (.inl (v4 + (1 : Int32))), some (.inl (1 : Int32))]) (st' := []) (M' := mem E mu11 la12) rfl ?_
              refine Ev.drop (ls := [some (.inr (.inr (some (7, v0)))), some (.inl v1), some (.inl v2), some (.inl (v3 + (1 : Int32))), some (.inl (v4 + (1 : Int32))), none]) ⟨Or.inr rfl, Or.inr rfl, Or.inr rfl, Or.inr rfl, Or.inr rfl, Or.inl rfl, trivial⟩ ?_
              exact h
    · have h := h.2 hc
      dsimp only
      refine Ev.steps 3 (ip' := 13) (ls' := [some (.inr (.inr (some (7, v0)))), some (.inl v1), some (.inl v2), some (.inl v3), some (.inl v4), none]) (st' := [.inl v4, .inr (.inr (some (35, v0)))]) (M' := mem E mu la) rfl ?_
      refine Ev.ial rfl rfl (by decide) h.1 ?_
      have h := h.2
      refine Ev.steps 3 (ip' := 17) (ls' := [some (.inr (.inr (some (7, v0)))), some (.inl v1), some (.inl v2), some (.inl v3), some (.inl v4), none]) (st' := [.inl v1, .inr (.inr (some (35, v0))), .inl (mu 35 v0 v4.toNatClampNeg)]) (M' := mem E mu la) rfl ?_
      refine Ev.ial rfl rfl (by decide) h.1 ?_
      have h := h.2
      refine Ev.br (c := ¬ (mu 35 v0 v4.toNatClampNeg) = (mu 35 v0 v1.toNatClampNeg)) (s1 := (21, [some (.inr (.inr (some (7, v0)))), some (.inl v1), some (.inl v2), some (.inl v3), some (.inl v4), none], [], mem E mu la)) (s2 := (19, [some (.inr (.inr (some (7, v0)))), some (.inl v1), some (.inl v2), some (.inl v3), some (.inl v4), none], [], mem E mu la)) rfl rfl rfl rfl (fun hc => ?_) (fun hc => ?_)
      · have h := h.1 hc
        dsimp only
        refine Ev.steps 6 (ip' := 41) (ls' := [some (.inr (.inr (some (7, v0)))), some (.inl v1), some (.inl v2), some (.inl v3), some (.inl v4), some (.inl (0 : Int32))]) (st' := [.inl v1, .inl v4, .inl v3]) (M' := mem E mu la) rfl ?_
        refine Ev.br (c := v4 = v1) (s1 := (51, [some (.inr (.inr (some (7, v0)))), some (.inl v1), some (.inl v2), some (.inl v3), some (.inl v4), some (.inl (0 : Int32))], [.inl v3], mem E mu la)) (s2 := (42, [some (.inr (.inr (some (7, v0)))), some (.inl v1), some (.inl v2), some (.inl v3), some (.inl v4), some (.inl (0 : Int32))], [.inl v3], mem E mu la)) rfl rfl rfl rfl (fun hc => ?_) (fun hc => ?_)
        · have h := h.1 hc
          dsimp only
          refine Ev.steps 5 (ip' := 4) (ls' := [some (.inr (.inr (some (7, v0)))), some (.inl v1), some (.inl v2), some (.inl (v3 + (0 : Int32))), some (.inl (v4 + (1 : Int32))), some (.inl (0 : Int32))]) (st' := []) (M' := mem E mu la) rfl ?_
          refine Ev.drop (ls := [some (.inr (.inr (some (7, v0)))), some (.inl v1), some (.inl v2), some (.inl (v3 + (0 : Int32))), some (.inl (v4 + (1 : Int32))), none]) ⟨Or.inr rfl, Or.inr rfl, Or.inr rfl, Or.inr rfl, Or.inr rfl, Or.inl rfl, trivial⟩ ?_
          exact h
        · have h := h.2 hc
          dsimp only
          refine Ev.steps 3 (ip' := 45) (ls' := [some (.inr (.inr (some (7, v0)))), some (.inl v1), some (.inl v2), some (.inl v3), some (.inl v4), some (.inl (0 : Int32))]) (st' := [.inl v4, .inr (.inr (some (38, v0))), .inl v3]) (M' := mem E mu la) rfl ?_
          refine Ev.ci (J := mi_162) (as := [.inr (.inr (some (38, v0))), .inl v4]) (rest := [.inl v3]) rfl rfl rfl (Nat.le_of_ble_eq_true rfl) h (fun x13 mu14 la15 h => ?_)
          refine Ev.br (c := ¬ x13 = 0) (s1 := (51, [some (.inr (.inr (some (7, v0)))), some (.inl v1), some (.inl v2), some (.inl v3), some (.inl v4), some (.inl (0 : Int32))], [.inl v3], mem E mu14 la15)) (s2 := (47, [some (.inr (.inr (some (7, v0)))), some (.inl v1), some (.inl v2), some (.inl v3), some (.inl v4), some (.inl (0 : Int32))], [.inl v3], mem E mu14 la15)) rfl rfl rfl rfl (fun hc => ?_) (fun hc => ?_)
          · have h := h.1 hc
            dsimp only
            refine Ev.steps 5 (ip' := 4) (ls' := [some (.inr (.inr (some (7, v0)))), some (.inl v1), some (.inl v2), some (.inl (v3 + (0 : Int32))), some (.inl (v4 + (1 : Int32))), some (.inl (0 : Int32))]) (st' := []) (M' := mem E mu14 la15) rfl ?_
            refine Ev.drop (ls := [some (.inr (.inr (some (7, v0)))), some (.inl v1), some (.inl v2), some (.inl (v3 + (0 : Int32))), some (.inl (v4 + (1 : Int32))), none]) ⟨Or.inr rfl, Or.inr rfl, Or.inr rfl, Or.inr rfl, Or.inr rfl, Or.inl rfl, trivial⟩ ?_
            exact h
          · have h := h.2 hc
            dsimp only
            refine Ev.steps 1 (ip' := 48) (ls' := [some (.inr (.inr (some (7, v0)))), some (.inl v1), some (.inl v2), some (.inl v3), some (.inl v4), some (.inl (0 : Int32))]) (st' := [.inl (0 : Int32), .inl v3]) (M' := mem E mu14 la15) rfl ?_
            refine Ev.br (c := (0 : Int32) = 0) (s1 := (51, [some (.inr (.inr (some (7, v0)))), some (.inl v1), some (.inl v2), some (.inl v3), some (.inl v4), some (.inl (0 : Int32))], [.inl v3], mem E mu14 la15)) (s2 := (49, [some (.inr (.inr (some (7, v0)))), some (.inl v1), some (.inl v2), some (.inl v3), some (.inl v4), some (.inl (0 : Int32))], [.inl v3], mem E mu14 la15)) rfl rfl rfl rfl (fun hc => ?_) (fun hc => ?_)
            · have h := h.1 hc
              dsimp only
              refine Ev.steps 5 (ip' := 4) (ls' := [some (.inr (.inr (some (7, v0)))), some (.inl v1), some (.inl v2), some (.inl (v3 + (0 : Int32))), some (.inl (v4 + (1 : Int32))), some (.inl (0 : Int32))]) (st' := []) (M' := mem E mu14 la15) rfl ?_
              refine Ev.drop (ls := [some (.inr (.inr (some (7, v0)))), some (.inl v1), some (.inl v2), some (.inl (v3 + (0 : Int32))), some (.inl (v4 + (1 : Int32))), none]) ⟨Or.inr rfl, Or.inr rfl, Or.inr rfl, Or.inr rfl, Or.inr rfl, Or.inl rfl, trivial⟩ ?_
              exact h
            · have h := h.2 hc
              dsimp only
              refine Ev.steps 6 (ip' := 4) (ls' := [some (.inr (.inr (some (7, v0)))), some (.inl v1), some (.inl v2), some (.inl (v3 + (1 : Int32))), some (.inl (v4 + (1 : Int32))), some (.inl (0 : Int32))]) (st' := []) (M' := mem E mu14 la15) rfl ?_
              refine Ev.drop (ls := [some (.inr (.inr (some (7, v0)))), some (.inl v1), some (.inl v2), some (.inl (v3 + (1 : Int32))), some (.inl (v4 + (1 : Int32))), none]) ⟨Or.inr rfl, Or.inr rfl, Or.inr rfl, Or.inr rfl, Or.inr rfl, Or.inl rfl, trivial⟩ ?_
              exact h
      · have h := h.2 hc
        dsimp only
        refine Ev.steps 6 (ip' := 41) (ls' := [some (.inr (.inr (some (7, v0)))), some (.inl v1), some (.inl v2), some (.inl v3), some (.inl v4), some (.inl (1 : Int32))]) (st' := [.inl v1, .inl v4, .inl v3]) (M' := mem E mu la) rfl ?_
        refine Ev.br (c := v4 = v1) (s1 := (51, [some (.inr (.inr (some (7, v0)))), some (.inl v1), some (.inl v2), some (.inl v3), some (.inl v4), some (.inl (1 : Int32))], [.inl v3], mem E mu la)) (s2 := (42, [some (.inr (.inr (some (7, v0)))), some (.inl v1), some (.inl v2), some (.inl v3), some (.inl v4), some (.inl (1 : Int32))], [.inl v3], mem E mu la)) rfl rfl rfl rfl (fun hc => ?_) (fun hc => ?_)
        · have h := h.1 hc
          dsimp only
          refine Ev.steps 5 (ip' := 4) (ls' := [some (.inr (.inr (some (7, v0)))), some (.inl v1), some (.inl v2), some (.inl (v3 + (0 : Int32))), some (.inl (v4 + (1 : Int32))), some (.inl (1 : Int32))]) (st' := []) (M' := mem E mu la) rfl ?_
          refine Ev.drop (ls := [some (.inr (.inr (some (7, v0)))), some (.inl v1), some (.inl v2), some (.inl (v3 + (0 : Int32))), some (.inl (v4 + (1 : Int32))), none]) ⟨Or.inr rfl, Or.inr rfl, Or.inr rfl, Or.inr rfl, Or.inr rfl, Or.inl rfl, trivial⟩ ?_
          exact h
        · have h := h.2 hc
          dsimp only
          refine Ev.steps 3 (ip' := 45) (ls' := [some (.inr (.inr (some (7, v0)))), some (.inl v1), some (.inl v2), some (.inl v3), some (.inl v4), some (.inl (1 : Int32))]) (st' := [.inl v4, .inr (.inr (some (38, v0))), .inl v3]) (M' := mem E mu la) rfl ?_
          refine Ev.ci (J := mi_162) (as := [.inr (.inr (some (38, v0))), .inl v4]) (rest := [.inl v3]) rfl rfl rfl (Nat.le_of_ble_eq_true rfl) h (fun x16 mu17 la18 h => ?_)
          refine Ev.br (c := ¬ x16 = 0) (s1 := (51, [some (.inr (.inr (some (7, v0)))), some (.inl v1), some (.inl v2), some (.inl v3), some (.inl v4), some (.inl (1 : Int32))], [.inl v3], mem E mu17 la18)) (s2 := (47, [some (.inr (.inr (some (7, v0)))), some (.inl v1), some (.inl v2), some (.inl v3), some (.inl v4), some (.inl (1 : Int32))], [.inl v3], mem E mu17 la18)) rfl rfl rfl rfl (fun hc => ?_) (fun hc => ?_)
          · have h := h.1 hc
            dsimp only
            refine Ev.steps 5 (ip' := 4) (ls' := [some (.inr (.inr (some (7, v0)))), some (.inl v1), some (.inl v2), some (.inl (v3 + (0 : Int32))), some (.inl (v4 + (1 : Int32))), some (.inl (1 : Int32))]) (st' := []) (M' := mem E mu17 la18) rfl ?_
            refine Ev.drop (ls := [some (.inr (.inr (some (7, v0)))), some (.inl v1), some (.inl v2), some (.inl (v3 + (0 : Int32))), some (.inl (v4 + (1 : Int32))), none]) ⟨Or.inr rfl, Or.inr rfl, Or.inr rfl, Or.inr rfl, Or.inr rfl, Or.inl rfl, trivial⟩ ?_
            exact h
          · have h := h.2 hc
            dsimp only
            refine Ev.steps 1 (ip' := 48) (ls' := [some (.inr (.inr (some (7, v0)))), some (.inl v1), some (.inl v2), some (.inl v3), some (.inl v4), some (.inl (1 : Int32))]) (st' := [.inl (1 : Int32), .inl v3]) (M' := mem E mu17 la18) rfl ?_
            refine Ev.br (c := (1 : Int32) = 0) (s1 := (51, [some (.inr (.inr (some (7, v0)))), some (.inl v1), some (.inl v2), some (.inl v3), some (.inl v4), some (.inl (1 : Int32))], [.inl v3], mem E mu17 la18)) (s2 := (49, [some (.inr (.inr (some (7, v0)))), some (.inl v1), some (.inl v2), some (.inl v3), some (.inl v4), some (.inl (1 : Int32))], [.inl v3], mem E mu17 la18)) rfl rfl rfl rfl (fun hc => ?_) (fun hc => ?_)
            · have h := h.1 hc
              dsimp only
              refine Ev.steps 5 (ip' := 4) (ls' := [some (.inr (.inr (some (7, v0)))), some (.inl v1), some (.inl v2), some (.inl (v3 + (0 : Int32))), some (.inl (v4 + (1 : Int32))), some (.inl (1 : Int32))]) (st' := []) (M' := mem E mu17 la18) rfl ?_
              refine Ev.drop (ls := [some (.inr (.inr (some (7, v0)))), some (.inl v1), some (.inl v2), some (.inl (v3 + (0 : Int32))), some (.inl (v4 + (1 : Int32))), none]) ⟨Or.inr rfl, Or.inr rfl, Or.inr rfl, Or.inr rfl, Or.inr rfl, Or.inl rfl, trivial⟩ ?_
              exact h
            · have h := h.2 hc
              dsimp only
              refine Ev.steps 6 (ip' := 4) (ls' := [some (.inr (.inr (some (7, v0)))), some (.inl v1), some (.inl v2), some (.inl (v3 + (1 : Int32))), some (.inl (v4 + (1 : Int32))), some (.inl (1 : Int32))]) (st' := []) (M' := mem E mu17 la18) rfl ?_
              refine Ev.drop (ls := [some (.inr (.inr (some (7, v0)))), some (.inl v1), some (.inl v2), some (.inl (v3 + (1 : Int32))), some (.inl (v4 + (1 : Int32))), none]) ⟨Or.inr rfl, Or.inr rfl, Or.inr rfl, Or.inr rfl, Or.inr rfl, Or.inl rfl, trivial⟩ ?_
              exact h
set_option maxRecDepth 100000 in
/-- AnnCupsModel.mark(II)I -/
theorem vc_X7_mark {E : mEv} {d : Nat} {c : Nat} (a0 : Int32) (a1 : Int32) {mu : fMu} {la : fLa} {Q : Int32 → fMu → fLa → Prop} (h : FnI E d mi_155 [.inr (.inr (some (7, c))), .inl a0] mu la (fun x1 mu2 la3 => (x1 = 0 → (Q (-1 : Int32) mu2 la3)) ∧ (¬ (x1 = 0) → (FnI E d mi_129 [.inr (.inl a1.toInt64), .inr (.inl (1 : Int64)), .inr (.inl (5 : Int64))] mu2 la3 (fun x4 mu5 la6 => (¬ x4 = 0 → (vp_in a0 6 ∧ (FnI E d mi_169 [.inl (mu5 33 c a0.toNatClampNeg), .inl a1] mu5 la6 (fun x7 mu8 la9 => (¬ x7 = 0 → ((a1 = 1 → (FnI E d mi_171 [.inr (.inr (some (7, c))), .inl a0, .inl (1 : Int32)] mu8 la9 (fun x10 mu11 la12 => Q x10 mu11 la12))) ∧ (¬ a1 = 1 → ((a1 = 2 → (FnI E d mi_171 [.inr (.inr (some (7, c))), .inl a0, .inl (0 : Int32)] mu8 la9 (fun x13 mu14 la15 => Q x13 mu14 la15))) ∧ (¬ a1 = 2 → ((a1 = 3 → (FnI E d mi_170 [.inr (.inr (some (7, c))), .inl a0] mu8 la9 (fun x16 mu17 la18 => FnI E d mi_131 [.inl x16] mu17 la18 (fun x19 mu20 la21 => Q x19 mu20 la21)))) ∧ (¬ a1 = 3 → ((a1 = 4 → (vp_in a0 6 ∧ (FnI E d mi_157 [.inl (4 : Int32), .inl (mu8 34 c a0.toNatClampNeg), .inl (1 : Int32)] mu8 la9 (fun x22 mu23 la24 => Q x22 mu23 la24)))) ∧ (¬ a1 = 4 → (vp_in a0 6 ∧ (FnI E d mi_157 [.inl (2 : Int32), .inl (mu8 34 c a0.toNatClampNeg), .inl (0 : Int32)] mu8 la9 (fun x25 mu26 la27 => Q x25 mu26 la27)))))))))))) ∧ (¬ (¬ x7 = 0) → (FnI E d mi_132 [.inr (.inr (some (7, c))), .inl (3 : Int32)] mu8 la9 (fun x28 mu29 la30 => Q x28 mu29 la30))))))) ∧ (¬ (¬ x4 = 0) → (Q (-1 : Int32) mu5 la6))))))) : FnI E (d + 1) mi_172 [.inr (.inr (some (7, c))), .inl a0, .inl a1] mu la Q := by
  unfold FnI
  show Ev E (d + 1) mi_172 0 [some (.inr (.inr (some (7, c)))), some (.inl a0), some (.inl a1)] [] (mem E mu la) (qI E Q)
  refine Ev.steps 2 (ip' := 2) (ls' := [some (.inr (.inr (some (7, c)))), some (.inl a0), some (.inl a1)]) (st' := [.inl a0, .inr (.inr (some (7, c)))]) (M' := mem E mu la) rfl ?_
  refine Ev.ci (J := mi_155) (as := [.inr (.inr (some (7, c))), .inl a0]) (rest := []) rfl rfl rfl (Nat.le_of_ble_eq_true rfl) h (fun x1 mu2 la3 h => ?_)
  refine Ev.br (c := x1 = 0) (s1 := (10, [some (.inr (.inr (some (7, c)))), some (.inl a0), some (.inl a1)], [], mem E mu2 la3)) (s2 := (4, [some (.inr (.inr (some (7, c)))), some (.inl a0), some (.inl a1)], [], mem E mu2 la3)) rfl rfl rfl rfl (fun hc => ?_) (fun hc => ?_)
  · have h := h.1 hc
    dsimp only
    refine Ev.steps 1 (ip' := 11) (ls' := [some (.inr (.inr (some (7, c)))), some (.inl a0), some (.inl a1)]) (st' := [.inl (-1 : Int32)]) (M' := mem E mu2 la3) rfl ?_
    exact Ev.ret rfl rfl ⟨_, _, _, rfl, rfl, h⟩
  · have h := h.2 hc
    dsimp only
    refine Ev.steps 4 (ip' := 8) (ls' := [some (.inr (.inr (some (7, c)))), some (.inl a0), some (.inl a1)]) (st' := [.inr (.inl (5 : Int64)), .inr (.inl (1 : Int64)), .inr (.inl a1.toInt64)]) (M' := mem E mu2 la3) rfl ?_
    refine Ev.ci (J := mi_129) (as := [.inr (.inl a1.toInt64), .inr (.inl (1 : Int64)), .inr (.inl (5 : Int64))]) (rest := []) rfl rfl rfl (Nat.le_of_ble_eq_true rfl) h (fun x4 mu5 la6 h => ?_)
    refine Ev.br (c := ¬ x4 = 0) (s1 := (12, [some (.inr (.inr (some (7, c)))), some (.inl a0), some (.inl a1)], [], mem E mu5 la6)) (s2 := (10, [some (.inr (.inr (some (7, c)))), some (.inl a0), some (.inl a1)], [], mem E mu5 la6)) rfl rfl rfl rfl (fun hc => ?_) (fun hc => ?_)
    · have h := h.1 hc
      dsimp only
      refine Ev.steps 3 (ip' := 15) (ls' := [some (.inr (.inr (some (7, c)))), some (.inl a0), some (.inl a1)]) (st' := [.inl a0, .inr (.inr (some (33, c)))]) (M' := mem E mu5 la6) rfl ?_
      refine Ev.ial rfl rfl (by decide) h.1 ?_
      have h := h.2
      refine Ev.steps 1 (ip' := 17) (ls' := [some (.inr (.inr (some (7, c)))), some (.inl a0), some (.inl a1)]) (st' := [.inl a1, .inl (mu5 33 c a0.toNatClampNeg)]) (M' := mem E mu5 la6) rfl ?_
      refine Ev.ci (J := mi_169) (as := [.inl (mu5 33 c a0.toNatClampNeg), .inl a1]) (rest := []) rfl rfl rfl (Nat.le_of_ble_eq_true rfl) h (fun x7 mu8 la9 h => ?_)
      refine Ev.br (c := ¬ x7 = 0) (s1 := (23, [some (.inr (.inr (some (7, c)))), some (.inl a0), some (.inl a1)], [], mem E mu8 la9)) (s2 := (19, [some (.inr (.inr (some (7, c)))), some (.inl a0), some (.inl a1)], [], mem E mu8 la9)) rfl rfl rfl rfl (fun hc => ?_) (fun hc => ?_)
      · have h := h.1 hc
        dsimp only
        refine Ev.steps 1 (ip' := 24) (ls' := [some (.inr (.inr (some (7, c)))), some (.inl a0), some (.inl a1)]) (st' := [.inl a1]) (M' := mem E mu8 la9) rfl ?_
        by_cases hc0 : a1 = 1
        · refine Ev.one (s' := (25, [some (.inr (.inr (some (7, c)))), some (.inl a0), some (.inl a1)], [], mem E mu8 la9)) rfl rfl rfl (by rw [hc0]; rfl) ?_
          have h := h.1 hc0
          dsimp only
          refine Ev.steps 3 (ip' := 28) (ls' := [some (.inr (.inr (some (7, c)))), some (.inl a0), some (.inl a1)]) (st' := [.inl (1 : Int32), .inl a0, .inr (.inr (some (7, c)))]) (M' := mem E mu8 la9) rfl ?_
          refine Ev.ci (J := mi_171) (as := [.inr (.inr (some (7, c))), .inl a0, .inl (1 : Int32)]) (rest := []) rfl rfl rfl (Nat.le_of_ble_eq_true rfl) h (fun x10 mu11 la12 h => ?_)
          exact Ev.ret rfl rfl ⟨_, _, _, rfl, rfl, h⟩
        · have h := h.2 hc0
          by_cases hc1 : a1 = 2
          · refine Ev.one (s' := (30, [some (.inr (.inr (some (7, c)))), some (.inl a0), some (.inl a1)], [], mem E mu8 la9)) rfl rfl rfl (by rw [hc1]; rfl) ?_
            have h := h.1 hc1
            dsimp only
            refine Ev.steps 3 (ip' := 33) (ls' := [some (.inr (.inr (some (7, c)))), some (.inl a0), some (.inl a1)]) (st' := [.inl (0 : Int32), .inl a0, .inr (.inr (some (7, c)))]) (M' := mem E mu8 la9) rfl ?_
            refine Ev.ci (J := mi_171) (as := [.inr (.inr (some (7, c))), .inl a0, .inl (0 : Int32)]) (rest := []) rfl rfl rfl (Nat.le_of_ble_eq_true rfl) h (fun x13 mu14 la15 h => ?_)
            exact Ev.ret rfl rfl ⟨_, _, _, rfl, rfl, h⟩
          · have h := h.2 hc1
            by_cases hc2 : a1 = 3
            · refine Ev.one (s' := (35, [some (.inr (.inr (some (7, c)))), some (.inl a0), some (.inl a1)], [], mem E mu8 la9)) rfl rfl rfl (by rw [hc2]; rfl) ?_
              have h := h.1 hc2
              dsimp only
              refine Ev.steps 2 (ip' := 37) (ls' := [some (.inr (.inr (some (7, c)))), some (.inl a0), some (.inl a1)]) (st' := [.inl a0, .inr (.inr (some (7, c)))]) (M' := mem E mu8 la9) rfl ?_
              refine Ev.ci (J := mi_170) (as := [.inr (.inr (some (7, c))), .inl a0]) (rest := []) rfl rfl rfl (Nat.le_of_ble_eq_true rfl) h (fun x16 mu17 la18 h => ?_)
              refine Ev.ci (J := mi_131) (as := [.inl x16]) (rest := []) rfl rfl rfl (Nat.le_of_ble_eq_true rfl) h (fun x19 mu20 la21 h => ?_)
              exact Ev.ret rfl rfl ⟨_, _, _, rfl, rfl, h⟩
            · have h := h.2 hc2
              by_cases hc3 : a1 = 4
              · refine Ev.one (s' := (40, [some (.inr (.inr (some (7, c)))), some (.inl a0), some (.inl a1)], [], mem E mu8 la9)) rfl rfl rfl (by rw [hc3]; rfl) ?_
                have h := h.1 hc3
                dsimp only
                refine Ev.steps 4 (ip' := 44) (ls' := [some (.inr (.inr (some (7, c)))), some (.inl a0), some (.inl a1)]) (st' := [.inl a0, .inr (.inr (some (34, c))), .inl (4 : Int32)]) (M' := mem E mu8 la9) rfl ?_
                refine Ev.ial rfl rfl (by decide) h.1 ?_
                have h := h.2
                refine Ev.steps 1 (ip' := 46) (ls' := [some (.inr (.inr (some (7, c)))), some (.inl a0), some (.inl a1)]) (st' := [.inl (1 : Int32), .inl (mu8 34 c a0.toNatClampNeg), .inl (4 : Int32)]) (M' := mem E mu8 la9) rfl ?_
                refine Ev.ci (J := mi_157) (as := [.inl (4 : Int32), .inl (mu8 34 c a0.toNatClampNeg), .inl (1 : Int32)]) (rest := []) rfl rfl rfl (Nat.le_of_ble_eq_true rfl) h (fun x22 mu23 la24 h => ?_)
                exact Ev.ret rfl rfl ⟨_, _, _, rfl, rfl, h⟩
              · have h := h.2 hc3
                refine Ev.one (s' := (48, [some (.inr (.inr (some (7, c)))), some (.inl a0), some (.inl a1)], [], mem E mu8 la9)) rfl rfl rfl (if_pos (tsw_out a1 1 4 (fun z h1 h2 => by
                  rcases (show z = 1 ∨ z = 2 ∨ z = 3 ∨ z = 4 by omega) with rfl | rfl | rfl | rfl
                  · exact fun e => hc0 (Int32.toInt_inj.mp e)
                  · exact fun e => hc1 (Int32.toInt_inj.mp e)
                  · exact fun e => hc2 (Int32.toInt_inj.mp e)
                  · exact fun e => hc3 (Int32.toInt_inj.mp e)))) ?_
                dsimp only
                refine Ev.steps 4 (ip' := 52) (ls' := [some (.inr (.inr (some (7, c)))), some (.inl a0), some (.inl a1)]) (st' := [.inl a0, .inr (.inr (some (34, c))), .inl (2 : Int32)]) (M' := mem E mu8 la9) rfl ?_
                refine Ev.ial rfl rfl (by decide) h.1 ?_
                have h := h.2
                refine Ev.steps 1 (ip' := 54) (ls' := [some (.inr (.inr (some (7, c)))), some (.inl a0), some (.inl a1)]) (st' := [.inl (0 : Int32), .inl (mu8 34 c a0.toNatClampNeg), .inl (2 : Int32)]) (M' := mem E mu8 la9) rfl ?_
                refine Ev.ci (J := mi_157) (as := [.inl (2 : Int32), .inl (mu8 34 c a0.toNatClampNeg), .inl (0 : Int32)]) (rest := []) rfl rfl rfl (Nat.le_of_ble_eq_true rfl) h (fun x25 mu26 la27 h => ?_)
                exact Ev.ret rfl rfl ⟨_, _, _, rfl, rfl, h⟩
      · have h := h.2 hc
        dsimp only
        refine Ev.steps 2 (ip' := 21) (ls' := [some (.inr (.inr (some (7, c)))), some (.inl a0), some (.inl a1)]) (st' := [.inl (3 : Int32), .inr (.inr (some (7, c)))]) (M' := mem E mu8 la9) rfl ?_
        refine Ev.ci (J := mi_132) (as := [.inr (.inr (some (7, c))), .inl (3 : Int32)]) (rest := []) rfl rfl rfl (Nat.le_of_ble_eq_true rfl) h (fun x28 mu29 la30 h => ?_)
        exact Ev.ret rfl rfl ⟨_, _, _, rfl, rfl, h⟩
    · have h := h.2 hc
      dsimp only
      refine Ev.steps 1 (ip' := 11) (ls' := [some (.inr (.inr (some (7, c)))), some (.inl a0), some (.inl a1)]) (st' := [.inl (-1 : Int32)]) (M' := mem E mu5 la6) rfl ?_
      exact Ev.ret rfl rfl ⟨_, _, _, rfl, rfl, h⟩
set_option maxRecDepth 100000 in
/-- AnnCupsModel.holds(I)I -/
theorem vc_X7_holds {E : mEv} {d : Nat} {c : Nat} (a0 : Int32) {mu : fMu} {la : fLa} {Q : Int32 → fMu → fLa → Prop} (h : FnI E d mi_155 [.inr (.inr (some (7, c))), .inl a0] mu la (fun x1 mu2 la3 => (x1 = 0 → (Q (-1 : Int32) mu2 la3)) ∧ (¬ (x1 = 0) → (FnI E d mi_164 [.inr (.inr (some (7, c))), .inr (.inr (some (38, c))), .inl a0] mu2 la3 (fun x4 mu5 la6 => Q x4 mu5 la6))))) : FnI E (d + 1) mi_173 [.inr (.inr (some (7, c))), .inl a0] mu la Q := by
  unfold FnI
  show Ev E (d + 1) mi_173 0 [some (.inr (.inr (some (7, c)))), some (.inl a0)] [] (mem E mu la) (qI E Q)
  refine Ev.steps 2 (ip' := 2) (ls' := [some (.inr (.inr (some (7, c)))), some (.inl a0)]) (st' := [.inl a0, .inr (.inr (some (7, c)))]) (M' := mem E mu la) rfl ?_
  refine Ev.ci (J := mi_155) (as := [.inr (.inr (some (7, c))), .inl a0]) (rest := []) rfl rfl rfl (Nat.le_of_ble_eq_true rfl) h (fun x1 mu2 la3 h => ?_)
  refine Ev.br (c := x1 = 0) (s1 := (10, [some (.inr (.inr (some (7, c)))), some (.inl a0)], [], mem E mu2 la3)) (s2 := (4, [some (.inr (.inr (some (7, c)))), some (.inl a0)], [], mem E mu2 la3)) rfl rfl rfl rfl (fun hc => ?_) (fun hc => ?_)
  · have h := h.1 hc
    dsimp only
    refine Ev.steps 1 (ip' := 11) (ls' := [some (.inr (.inr (some (7, c)))), some (.inl a0)]) (st' := [.inl (-1 : Int32)]) (M' := mem E mu2 la3) rfl ?_
    exact Ev.ret rfl rfl ⟨_, _, _, rfl, rfl, h⟩
  · have h := h.2 hc
    dsimp only
    refine Ev.steps 4 (ip' := 8) (ls' := [some (.inr (.inr (some (7, c)))), some (.inl a0)]) (st' := [.inl a0, .inr (.inr (some (38, c))), .inr (.inr (some (7, c)))]) (M' := mem E mu2 la3) rfl ?_
    refine Ev.ci (J := mi_164) (as := [.inr (.inr (some (7, c))), .inr (.inr (some (38, c))), .inl a0]) (rest := []) rfl rfl rfl (Nat.le_of_ble_eq_true rfl) h (fun x4 mu5 la6 h => ?_)
    refine Ev.steps 1 (ip' := 11) (ls' := [some (.inr (.inr (some (7, c)))), some (.inl a0)]) (st' := [.inl x4]) (M' := mem E mu5 la6) rfl ?_
    exact Ev.ret rfl rfl ⟨_, _, _, rfl, rfl, h⟩
set_option maxRecDepth 100000 in
/-- AnnCupsModel.copies([II[III)V -/
theorem vc_X7_copies {E : mEv} {d : Nat} (k0 n0 a0 : Nat) (hk0 : nth mKs k0 = some (.inr (.int, n0))) (hz0 : k0 ≠ 100) (a1 : Int32) (k2 n2 a2 : Nat) (hk2 : nth mKs k2 = some (.inr (.int, n2))) (hz2 : k2 ≠ 100) (a3 : Int32) (a4 : Int32) {mu : fMu} {la : fLa} {Q : fMu → fLa → Prop} (h : Ev E d mi_174 2 [some (.inr (.inr (some (k0, a0)))), some (.inl a1), some (.inr (.inr (some (k2, a2)))), some (.inl a3), some (.inl a4), some (.inl (0 : Int32))] [] (mem E mu la) (qV E Q)) : FnV E d mi_174 [.inr (.inr (some (k0, a0))), .inl a1, .inr (.inr (some (k2, a2))), .inl a3, .inl a4] mu la Q := by
  unfold FnV
  show Ev E d mi_174 0 [some (.inr (.inr (some (k0, a0)))), some (.inl a1), some (.inr (.inr (some (k2, a2)))), some (.inl a3), some (.inl a4), none] [] (mem E mu la) (qV E Q)
  refine Ev.steps 2 (ip' := 2) (ls' := [some (.inr (.inr (some (k0, a0)))), some (.inl a1), some (.inr (.inr (some (k2, a2)))), some (.inl a3), some (.inl a4), some (.inl (0 : Int32))]) (st' := []) (M' := mem E mu la) rfl ?_
  exact h
set_option maxRecDepth 100000 in
theorem vc_X7_copies_2 {E : mEv} {d : Nat} (k0 n0 a0 : Nat) (hk0 : nth mKs k0 = some (.inr (.int, n0))) (hz0 : k0 ≠ 100) (k2 n2 a2 : Nat) (hk2 : nth mKs k2 = some (.inr (.int, n2))) (hz2 : k2 ≠ 100) (v1 : Int32) (v3 : Int32) (v4 : Int32) (v5 : Int32) {mu : fMu} {la : fLa} {Q : fMu → fLa → Prop} (h : (v4 ≤ v5 → (Q mu la)) ∧ (¬ (v4 ≤ v5) → (vp_in (v1 + v5) n0 ∧ (vp_in (v3 + v5) n2 ∧ ∀ mu1 : fMu, mu1 = up3 mu k2 a2 (v3 + v5).toNatClampNeg (mu k0 a0 (v1 + v5).toNatClampNeg) → (Ev E d mi_174 2 [some (.inr (.inr (some (k0, a0)))), some (.inl v1), some (.inr (.inr (some (k2, a2)))), some (.inl v3), some (.inl v4), some (.inl (v5 + (1 : Int32)))] [] (mem E mu1 la) (qV E Q)))))) : Ev E d mi_174 2 [some (.inr (.inr (some (k0, a0)))), some (.inl v1), some (.inr (.inr (some (k2, a2)))), some (.inl v3), some (.inl v4), some (.inl v5)] [] (mem E mu la) (qV E Q) := by
  refine Ev.steps 2 (ip' := 4) (ls' := [some (.inr (.inr (some (k0, a0)))), some (.inl v1), some (.inr (.inr (some (k2, a2)))), some (.inl v3), some (.inl v4), some (.inl v5)]) (st' := [.inl v4, .inl v5]) (M' := mem E mu la) rfl ?_
  refine Ev.br (c := v4 ≤ v5) (s1 := (17, [some (.inr (.inr (some (k0, a0)))), some (.inl v1), some (.inr (.inr (some (k2, a2)))), some (.inl v3), some (.inl v4), some (.inl v5)], [], mem E mu la)) (s2 := (5, [some (.inr (.inr (some (k0, a0)))), some (.inl v1), some (.inr (.inr (some (k2, a2)))), some (.inl v3), some (.inl v4), some (.inl v5)], [], mem E mu la)) rfl rfl rfl rfl (fun hc => ?_) (fun hc => ?_)
  · have h := h.1 hc
    dsimp only
    exact Ev.ret rfl rfl ⟨_, _, rfl, rfl, h⟩
  · have h := h.2 hc
    dsimp only
    refine Ev.steps 8 (ip' := 13) (ls' := [some (.inr (.inr (some (k0, a0)))), some (.inl v1), some (.inr (.inr (some (k2, a2)))), some (.inl v3), some (.inl v4), some (.inl v5)]) (st' := [.inl (v1 + v5), .inr (.inr (some (k0, a0))), .inl (v3 + v5), .inr (.inr (some (k2, a2)))]) (M' := mem E mu la) rfl ?_
    refine Ev.ial rfl hk0 hz0 h.1 ?_
    have h := h.2
    refine Ev.ias rfl hk2 h.1 ?_
    have h := h.2
    generalize hgmu1 : up3 mu k2 a2 (v3 + v5).toNatClampNeg (mu k0 a0 (v1 + v5).toNatClampNeg) = mu1
    have h := h mu1 hgmu1.symm
    refine Ev.steps 2 (ip' := 2) (ls' := [some (.inr (.inr (some (k0, a0)))), some (.inl v1), some (.inr (.inr (some (k2, a2)))), some (.inl v3), some (.inl v4), some (.inl (v5 + (1 : Int32)))]) (st' := []) (M' := mem E mu1 la) rfl ?_
    exact h
set_option maxRecDepth 100000 in
/-- AnnCupsModel.remember()V -/
theorem vc_X7_remember {E : mEv} {d : Nat} {c : Nat} {mu : fMu} {la : fLa} {Q : fMu → fLa → Prop} (h : FnV E d mi_174 [.inr (.inr (some (38, c))), .inl (0 : Int32), .inr (.inr (some (40, c))), .inl ((9 : Int32) * (mu 7 c 13)), .inl (9 : Int32)] mu la (fun mu2 la3 => ∀ mu4 : fMu, mu4 = up3 mu2 7 c 13 ((mu2 7 c 13) + (1 : Int32)) → (Q mu4 la3))) : FnV E (d + 1) mi_175 [.inr (.inr (some (7, c)))] mu la Q := by
  unfold FnV
  show Ev E (d + 1) mi_175 0 [some (.inr (.inr (some (7, c))))] [] (mem E mu la) (qV E Q)
  refine Ev.steps 10 (ip' := 10) (ls' := [some (.inr (.inr (some (7, c))))]) (st' := [.inl (9 : Int32), .inl ((9 : Int32) * (mu 7 c 13)), .inr (.inr (some (40, c))), .inl (0 : Int32), .inr (.inr (some (38, c)))]) (M' := mem E mu la) rfl ?_
  refine Ev.cv (J := mi_174) (as := [.inr (.inr (some (38, c))), .inl (0 : Int32), .inr (.inr (some (40, c))), .inl ((9 : Int32) * (mu 7 c 13)), .inl (9 : Int32)]) (rest := []) rfl rfl rfl (Nat.le_of_ble_eq_true rfl) h (fun mu2 la3 h => ?_)
  refine Ev.steps 6 (ip' := 17) (ls' := [some (.inr (.inr (some (7, c))))]) (st' := []) (M' := mem E (up3 mu2 7 c 13 ((mu2 7 c 13) + (1 : Int32))) la3) rfl ?_
  generalize hgmu4 : up3 mu2 7 c 13 ((mu2 7 c 13) + (1 : Int32)) = mu4
  have h := h mu4 hgmu4.symm
  exact Ev.ret rfl rfl ⟨_, _, rfl, rfl, h⟩
set_option maxRecDepth 100000 in
/-- AnnCupsModel.make(I)I -/
theorem vc_X7_make {E : mEv} {d : Nat} {c : Nat} (a0 : Int32) {mu : fMu} {la : fLa} {Q : Int32 → fMu → fLa → Prop} (h : FnI E d mi_155 [.inr (.inr (some (7, c))), .inl a0] mu la (fun x1 mu2 la3 => (¬ x1 = 0 → (FnI E d mi_162 [.inr (.inr (some (38, c))), .inl a0] mu2 la3 (fun x4 mu5 la6 => (x4 = 0 → ((¬ (mu5 7 c 13) = (40 : Int32) → (FnV E d mi_175 [.inr (.inr (some (7, c)))] mu5 la6 (fun mu8 la9 => FnV E d mi_161 [.inr (.inr (some (7, c))), .inr (.inr (some (38, c))), .inl a0, .inl (mu8 7 c 5)] mu8 la9 (fun mu11 la12 => vp_in ((0 : Int32) + a0) 9 ∧ ((¬ (mu11 38 c ((0 : Int32) + a0).toNatClampNeg) = (6 : Int32) → (vp_in ((0 : Int32) + a0) 9 ∧ (Q (mu11 38 c ((0 : Int32) + a0).toNatClampNeg) mu11 la12))) ∧ (¬ (¬ (mu11 38 c ((0 : Int32) + a0).toNatClampNeg) = (6 : Int32)) → (Q (-9 : Int32) mu11 la12))))))) ∧ (¬ (¬ (mu5 7 c 13) = (40 : Int32)) → (Q (-2 : Int32) mu5 la6)))) ∧ (¬ (x4 = 0) → (Q (-4 : Int32) mu5 la6))))) ∧ (¬ (¬ x1 = 0) → (Q (-1 : Int32) mu2 la3)))) : FnI E (d + 1) mi_176 [.inr (.inr (some (7, c))), .inl a0] mu la Q := by
  unfold FnI
  show Ev E (d + 1) mi_176 0 [some (.inr (.inr (some (7, c)))), some (.inl a0)] [] (mem E mu la) (qI E Q)
  refine Ev.steps 2 (ip' := 2) (ls' := [some (.inr (.inr (some (7, c)))), some (.inl a0)]) (st' := [.inl a0, .inr (.inr (some (7, c)))]) (M' := mem E mu la) rfl ?_
  refine Ev.ci (J := mi_155) (as := [.inr (.inr (some (7, c))), .inl a0]) (rest := []) rfl rfl rfl (Nat.le_of_ble_eq_true rfl) h (fun x1 mu2 la3 h => ?_)
  refine Ev.br (c := ¬ x1 = 0) (s1 := (6, [some (.inr (.inr (some (7, c)))), some (.inl a0)], [], mem E mu2 la3)) (s2 := (4, [some (.inr (.inr (some (7, c)))), some (.inl a0)], [], mem E mu2 la3)) rfl rfl rfl rfl (fun hc => ?_) (fun hc => ?_)
  · have h := h.1 hc
    dsimp only
    refine Ev.steps 3 (ip' := 9) (ls' := [some (.inr (.inr (some (7, c)))), some (.inl a0)]) (st' := [.inl a0, .inr (.inr (some (38, c)))]) (M' := mem E mu2 la3) rfl ?_
    refine Ev.ci (J := mi_162) (as := [.inr (.inr (some (38, c))), .inl a0]) (rest := []) rfl rfl rfl (Nat.le_of_ble_eq_true rfl) h (fun x4 mu5 la6 h => ?_)
    refine Ev.br (c := x4 = 0) (s1 := (13, [some (.inr (.inr (some (7, c)))), some (.inl a0)], [], mem E mu5 la6)) (s2 := (11, [some (.inr (.inr (some (7, c)))), some (.inl a0)], [], mem E mu5 la6)) rfl rfl rfl rfl (fun hc => ?_) (fun hc => ?_)
    · have h := h.1 hc
      dsimp only
      refine Ev.steps 3 (ip' := 16) (ls' := [some (.inr (.inr (some (7, c)))), some (.inl a0)]) (st' := [.inl (40 : Int32), .inl (mu5 7 c 13)]) (M' := mem E mu5 la6) rfl ?_
      refine Ev.br (c := ¬ (mu5 7 c 13) = (40 : Int32)) (s1 := (19, [some (.inr (.inr (some (7, c)))), some (.inl a0)], [], mem E mu5 la6)) (s2 := (17, [some (.inr (.inr (some (7, c)))), some (.inl a0)], [], mem E mu5 la6)) rfl rfl rfl rfl (fun hc => ?_) (fun hc => ?_)
      · have h := h.1 hc
        dsimp only
        refine Ev.steps 1 (ip' := 20) (ls' := [some (.inr (.inr (some (7, c)))), some (.inl a0)]) (st' := [.inr (.inr (some (7, c)))]) (M' := mem E mu5 la6) rfl ?_
        refine Ev.cv (J := mi_175) (as := [.inr (.inr (some (7, c)))]) (rest := []) rfl rfl rfl (Nat.le_of_ble_eq_true rfl) h (fun mu8 la9 h => ?_)
        refine Ev.steps 6 (ip' := 27) (ls' := [some (.inr (.inr (some (7, c)))), some (.inl a0)]) (st' := [.inl (mu8 7 c 5), .inl a0, .inr (.inr (some (38, c))), .inr (.inr (some (7, c)))]) (M' := mem E mu8 la9) rfl ?_
        refine Ev.cv (J := mi_161) (as := [.inr (.inr (some (7, c))), .inr (.inr (some (38, c))), .inl a0, .inl (mu8 7 c 5)]) (rest := []) rfl rfl rfl (Nat.le_of_ble_eq_true rfl) h (fun mu11 la12 h => ?_)
        refine Ev.steps 5 (ip' := 33) (ls' := [some (.inr (.inr (some (7, c)))), some (.inl a0)]) (st' := [.inl ((0 : Int32) + a0), .inr (.inr (some (38, c)))]) (M' := mem E mu11 la12) rfl ?_
        refine Ev.ial rfl rfl (by decide) h.1 ?_
        have h := h.2
        refine Ev.steps 1 (ip' := 35) (ls' := [some (.inr (.inr (some (7, c)))), some (.inl a0)]) (st' := [.inl (6 : Int32), .inl (mu11 38 c ((0 : Int32) + a0).toNatClampNeg)]) (M' := mem E mu11 la12) rfl ?_
        refine Ev.br (c := ¬ (mu11 38 c ((0 : Int32) + a0).toNatClampNeg) = (6 : Int32)) (s1 := (38, [some (.inr (.inr (some (7, c)))), some (.inl a0)], [], mem E mu11 la12)) (s2 := (36, [some (.inr (.inr (some (7, c)))), some (.inl a0)], [], mem E mu11 la12)) rfl rfl rfl rfl (fun hc => ?_) (fun hc => ?_)
        · have h := h.1 hc
          dsimp only
          refine Ev.steps 5 (ip' := 43) (ls' := [some (.inr (.inr (some (7, c)))), some (.inl a0)]) (st' := [.inl ((0 : Int32) + a0), .inr (.inr (some (38, c)))]) (M' := mem E mu11 la12) rfl ?_
          refine Ev.ial rfl rfl (by decide) h.1 ?_
          have h := h.2
          exact Ev.ret rfl rfl ⟨_, _, _, rfl, rfl, h⟩
        · have h := h.2 hc
          dsimp only
          refine Ev.steps 2 (ip' := 44) (ls' := [some (.inr (.inr (some (7, c)))), some (.inl a0)]) (st' := [.inl (-9 : Int32)]) (M' := mem E mu11 la12) rfl ?_
          exact Ev.ret rfl rfl ⟨_, _, _, rfl, rfl, h⟩
      · have h := h.2 hc
        dsimp only
        refine Ev.steps 1 (ip' := 18) (ls' := [some (.inr (.inr (some (7, c)))), some (.inl a0)]) (st' := [.inl (-2 : Int32)]) (M' := mem E mu5 la6) rfl ?_
        exact Ev.ret rfl rfl ⟨_, _, _, rfl, rfl, h⟩
    · have h := h.2 hc
      dsimp only
      refine Ev.steps 1 (ip' := 12) (ls' := [some (.inr (.inr (some (7, c)))), some (.inl a0)]) (st' := [.inl (-4 : Int32)]) (M' := mem E mu5 la6) rfl ?_
      exact Ev.ret rfl rfl ⟨_, _, _, rfl, rfl, h⟩
  · have h := h.2 hc
    dsimp only
    refine Ev.steps 1 (ip' := 5) (ls' := [some (.inr (.inr (some (7, c)))), some (.inl a0)]) (st' := [.inl (-1 : Int32)]) (M' := mem E mu2 la3) rfl ?_
    exact Ev.ret rfl rfl ⟨_, _, _, rfl, rfl, h⟩
set_option maxRecDepth 100000 in
/-- AnnCupsModel.changes([III)V -/
theorem vc_X7_changes {E : mEv} {d : Nat} {c : Nat} (k0 n0 a0 : Nat) (hk0 : nth mKs k0 = some (.inr (.int, n0))) (hz0 : k0 ≠ 100) (a1 : Int32) (a2 : Int32) {mu : fMu} {la : fLa} {Q : fMu → fLa → Prop} (h : FnI E d mi_164 [.inr (.inr (some (7, c))), .inr (.inr (some (k0, a0))), .inl a1] mu la (fun x1 mu2 la3 => FnI E d mi_164 [.inr (.inr (some (7, c))), .inr (.inr (some (k0, a0))), .inl a2] mu2 la3 (fun x4 mu5 la6 => (x1 = (-9 : Int32) → ((x4 = (-9 : Int32) → (Q mu5 la6)) ∧ (¬ (x4 = (-9 : Int32)) → (vp_in ((0 : Int32) + x4) n0 ∧ ∀ mu7 : fMu, mu7 = up3 mu5 k0 a0 ((0 : Int32) + x4).toNatClampNeg a1 → (vp_in (7 : Int32) n0 ∧ (vp_in (7 : Int32) n0 ∧ ∀ mu8 : fMu, mu8 = up3 mu7 k0 a0 (7 : Int32).toNatClampNeg ((mu7 k0 a0 (7 : Int32).toNatClampNeg) ||| ((1 : Int32) <<< (a1 &&& 31))) → (Q mu8 la6))))))) ∧ (¬ (x1 = (-9 : Int32)) → (vp_in ((0 : Int32) + x1) n0 ∧ ∀ mu9 : fMu, mu9 = up3 mu5 k0 a0 ((0 : Int32) + x1).toNatClampNeg a2 → (vp_in (7 : Int32) n0 ∧ (vp_in (7 : Int32) n0 ∧ ∀ mu10 : fMu, mu10 = up3 mu9 k0 a0 (7 : Int32).toNatClampNeg ((mu9 k0 a0 (7 : Int32).toNatClampNeg) ||| ((1 : Int32) <<< (a2 &&& 31))) → ((x4 = (-9 : Int32) → (Q mu10 la6)) ∧ (¬ (x4 = (-9 : Int32)) → (vp_in ((0 : Int32) + x4) n0 ∧ ∀ mu11 : fMu, mu11 = up3 mu10 k0 a0 ((0 : Int32) + x4).toNatClampNeg a1 → (vp_in (7 : Int32) n0 ∧ (vp_in (7 : Int32) n0 ∧ ∀ mu12 : fMu, mu12 = up3 mu11 k0 a0 (7 : Int32).toNatClampNeg ((mu11 k0 a0 (7 : Int32).toNatClampNeg) ||| ((1 : Int32) <<< (a1 &&& 31))) → (Q mu12 la6))))))))))))) : FnV E (d + 1) mi_177 [.inr (.inr (some (7, c))), .inr (.inr (some (k0, a0))), .inl a1, .inl a2] mu la Q := by
  unfold FnV
  show Ev E (d + 1) mi_177 0 [some (.inr (.inr (some (7, c)))), some (.inr (.inr (some (k0, a0)))), some (.inl a1), some (.inl a2), none, none] [] (mem E mu la) (qV E Q)
  refine Ev.steps 3 (ip' := 3) (ls' := [some (.inr (.inr (some (7, c)))), some (.inr (.inr (some (k0, a0)))), some (.inl a1), some (.inl a2), none, none]) (st' := [.inl a1, .inr (.inr (some (k0, a0))), .inr (.inr (some (7, c)))]) (M' := mem E mu la) rfl ?_
  refine Ev.ci (J := mi_164) (as := [.inr (.inr (some (7, c))), .inr (.inr (some (k0, a0))), .inl a1]) (rest := []) rfl rfl rfl (Nat.le_of_ble_eq_true rfl) h (fun x1 mu2 la3 h => ?_)
  refine Ev.steps 4 (ip' := 8) (ls' := [some (.inr (.inr (some (7, c)))), some (.inr (.inr (some (k0, a0)))), some (.inl a1), some (.inl a2), some (.inl x1), none]) (st' := [.inl a2, .inr (.inr (some (k0, a0))), .inr (.inr (some (7, c)))]) (M' := mem E mu2 la3) rfl ?_
  refine Ev.ci (J := mi_164) (as := [.inr (.inr (some (7, c))), .inr (.inr (some (k0, a0))), .inl a2]) (rest := []) rfl rfl rfl (Nat.le_of_ble_eq_true rfl) h (fun x4 mu5 la6 h => ?_)
  refine Ev.steps 3 (ip' := 12) (ls' := [some (.inr (.inr (some (7, c)))), some (.inr (.inr (some (k0, a0)))), some (.inl a1), some (.inl a2), some (.inl x1), some (.inl x4)]) (st' := [.inl (-9 : Int32), .inl x1]) (M' := mem E mu5 la6) rfl ?_
  refine Ev.br (c := x1 = (-9 : Int32)) (s1 := (28, [some (.inr (.inr (some (7, c)))), some (.inr (.inr (some (k0, a0)))), some (.inl a1), some (.inl a2), some (.inl x1), some (.inl x4)], [], mem E mu5 la6)) (s2 := (13, [some (.inr (.inr (some (7, c)))), some (.inr (.inr (some (k0, a0)))), some (.inl a1), some (.inl a2), some (.inl x1), some (.inl x4)], [], mem E mu5 la6)) rfl rfl rfl rfl (fun hc => ?_) (fun hc => ?_)
  · have h := h.1 hc
    dsimp only
    refine Ev.steps 2 (ip' := 30) (ls' := [some (.inr (.inr (some (7, c)))), some (.inr (.inr (some (k0, a0)))), some (.inl a1), some (.inl a2), some (.inl x1), some (.inl x4)]) (st' := [.inl (-9 : Int32), .inl x4]) (M' := mem E mu5 la6) rfl ?_
    refine Ev.br (c := x4 = (-9 : Int32)) (s1 := (46, [some (.inr (.inr (some (7, c)))), some (.inr (.inr (some (k0, a0)))), some (.inl a1), some (.inl a2), some (.inl x1), some (.inl x4)], [], mem E mu5 la6)) (s2 := (31, [some (.inr (.inr (some (7, c)))), some (.inr (.inr (some (k0, a0)))), some (.inl a1), some (.inl a2), some (.inl x1), some (.inl x4)], [], mem E mu5 la6)) rfl rfl rfl rfl (fun hc => ?_) (fun hc => ?_)
    · have h := h.1 hc
      dsimp only
      exact Ev.ret rfl rfl ⟨_, _, rfl, rfl, h⟩
    · have h := h.2 hc
      dsimp only
      refine Ev.steps 5 (ip' := 36) (ls' := [some (.inr (.inr (some (7, c)))), some (.inr (.inr (some (k0, a0)))), some (.inl a1), some (.inl a2), some (.inl x1), some (.inl x4)]) (st' := [.inl a1, .inl ((0 : Int32) + x4), .inr (.inr (some (k0, a0)))]) (M' := mem E mu5 la6) rfl ?_
      refine Ev.ias rfl hk0 h.1 ?_
      have h := h.2
      generalize hgmu7 : up3 mu5 k0 a0 ((0 : Int32) + x4).toNatClampNeg a1 = mu7
      have h := h mu7 hgmu7.symm
      refine Ev.steps 3 (ip' := 40) (ls' := [some (.inr (.inr (some (7, c)))), some (.inr (.inr (some (k0, a0)))), some (.inl a1), some (.inl a2), some (.inl x1), some (.inl x4)]) (st' := [.inl (7 : Int32), .inr (.inr (some (k0, a0))), .inl (7 : Int32), .inr (.inr (some (k0, a0)))]) (M' := mem E mu7 la6) rfl ?_
      refine Ev.ial rfl hk0 hz0 h.1 ?_
      have h := h.2
      refine Ev.steps 4 (ip' := 45) (ls' := [some (.inr (.inr (some (7, c)))), some (.inr (.inr (some (k0, a0)))), some (.inl a1), some (.inl a2), some (.inl x1), some (.inl x4)]) (st' := [.inl ((mu7 k0 a0 (7 : Int32).toNatClampNeg) ||| ((1 : Int32) <<< (a1 &&& 31))), .inl (7 : Int32), .inr (.inr (some (k0, a0)))]) (M' := mem E mu7 la6) rfl ?_
      refine Ev.ias rfl hk0 h.1 ?_
      have h := h.2
      generalize hgmu8 : up3 mu7 k0 a0 (7 : Int32).toNatClampNeg ((mu7 k0 a0 (7 : Int32).toNatClampNeg) ||| ((1 : Int32) <<< (a1 &&& 31))) = mu8
      have h := h mu8 hgmu8.symm
      exact Ev.ret rfl rfl ⟨_, _, rfl, rfl, h⟩
  · have h := h.2 hc
    dsimp only
    refine Ev.steps 5 (ip' := 18) (ls' := [some (.inr (.inr (some (7, c)))), some (.inr (.inr (some (k0, a0)))), some (.inl a1), some (.inl a2), some (.inl x1), some (.inl x4)]) (st' := [.inl a2, .inl ((0 : Int32) + x1), .inr (.inr (some (k0, a0)))]) (M' := mem E mu5 la6) rfl ?_
    refine Ev.ias rfl hk0 h.1 ?_
    have h := h.2
    generalize hgmu9 : up3 mu5 k0 a0 ((0 : Int32) + x1).toNatClampNeg a2 = mu9
    have h := h mu9 hgmu9.symm
    refine Ev.steps 3 (ip' := 22) (ls' := [some (.inr (.inr (some (7, c)))), some (.inr (.inr (some (k0, a0)))), some (.inl a1), some (.inl a2), some (.inl x1), some (.inl x4)]) (st' := [.inl (7 : Int32), .inr (.inr (some (k0, a0))), .inl (7 : Int32), .inr (.inr (some (k0, a0)))]) (M' := mem E mu9 la6) rfl ?_
    refine Ev.ial rfl hk0 hz0 h.1 ?_
    have h := h.2
    refine Ev.steps 4 (ip' := 27) (ls' := [some (.inr (.inr (some (7, c)))), some (.inr (.inr (some (k0, a0)))), some (.inl a1), some (.inl a2), some (.inl x1), some (.inl x4)]) (st' := [.inl ((mu9 k0 a0 (7 : Int32).toNatClampNeg) ||| ((1 : Int32) <<< (a2 &&& 31))), .inl (7 : Int32), .inr (.inr (some (k0, a0)))]) (M' := mem E mu9 la6) rfl ?_
    refine Ev.ias rfl hk0 h.1 ?_
    have h := h.2
    generalize hgmu10 : up3 mu9 k0 a0 (7 : Int32).toNatClampNeg ((mu9 k0 a0 (7 : Int32).toNatClampNeg) ||| ((1 : Int32) <<< (a2 &&& 31))) = mu10
    have h := h mu10 hgmu10.symm
    refine Ev.steps 2 (ip' := 30) (ls' := [some (.inr (.inr (some (7, c)))), some (.inr (.inr (some (k0, a0)))), some (.inl a1), some (.inl a2), some (.inl x1), some (.inl x4)]) (st' := [.inl (-9 : Int32), .inl x4]) (M' := mem E mu10 la6) rfl ?_
    refine Ev.br (c := x4 = (-9 : Int32)) (s1 := (46, [some (.inr (.inr (some (7, c)))), some (.inr (.inr (some (k0, a0)))), some (.inl a1), some (.inl a2), some (.inl x1), some (.inl x4)], [], mem E mu10 la6)) (s2 := (31, [some (.inr (.inr (some (7, c)))), some (.inr (.inr (some (k0, a0)))), some (.inl a1), some (.inl a2), some (.inl x1), some (.inl x4)], [], mem E mu10 la6)) rfl rfl rfl rfl (fun hc => ?_) (fun hc => ?_)
    · have h := h.1 hc
      dsimp only
      exact Ev.ret rfl rfl ⟨_, _, rfl, rfl, h⟩
    · have h := h.2 hc
      dsimp only
      refine Ev.steps 5 (ip' := 36) (ls' := [some (.inr (.inr (some (7, c)))), some (.inr (.inr (some (k0, a0)))), some (.inl a1), some (.inl a2), some (.inl x1), some (.inl x4)]) (st' := [.inl a1, .inl ((0 : Int32) + x4), .inr (.inr (some (k0, a0)))]) (M' := mem E mu10 la6) rfl ?_
      refine Ev.ias rfl hk0 h.1 ?_
      have h := h.2
      generalize hgmu11 : up3 mu10 k0 a0 ((0 : Int32) + x4).toNatClampNeg a1 = mu11
      have h := h mu11 hgmu11.symm
      refine Ev.steps 3 (ip' := 40) (ls' := [some (.inr (.inr (some (7, c)))), some (.inr (.inr (some (k0, a0)))), some (.inl a1), some (.inl a2), some (.inl x1), some (.inl x4)]) (st' := [.inl (7 : Int32), .inr (.inr (some (k0, a0))), .inl (7 : Int32), .inr (.inr (some (k0, a0)))]) (M' := mem E mu11 la6) rfl ?_
      refine Ev.ial rfl hk0 hz0 h.1 ?_
      have h := h.2
      refine Ev.steps 4 (ip' := 45) (ls' := [some (.inr (.inr (some (7, c)))), some (.inr (.inr (some (k0, a0)))), some (.inl a1), some (.inl a2), some (.inl x1), some (.inl x4)]) (st' := [.inl ((mu11 k0 a0 (7 : Int32).toNatClampNeg) ||| ((1 : Int32) <<< (a1 &&& 31))), .inl (7 : Int32), .inr (.inr (some (k0, a0)))]) (M' := mem E mu11 la6) rfl ?_
      refine Ev.ias rfl hk0 h.1 ?_
      have h := h.2
      generalize hgmu12 : up3 mu11 k0 a0 (7 : Int32).toNatClampNeg ((mu11 k0 a0 (7 : Int32).toNatClampNeg) ||| ((1 : Int32) <<< (a1 &&& 31))) = mu12
      have h := h mu12 hgmu12.symm
      exact Ev.ret rfl rfl ⟨_, _, rfl, rfl, h⟩
set_option maxRecDepth 100000 in
/-- AnnCupsModel.change(II)I -/
theorem vc_X7_change {E : mEv} {d : Nat} {c : Nat} (a0 : Int32) (a1 : Int32) {mu : fMu} {la : fLa} {Q : Int32 → fMu → fLa → Prop} (h : FnI E d mi_155 [.inr (.inr (some (7, c))), .inl a0] mu la (fun x1 mu2 la3 => (x1 = 0 → (Q (-1 : Int32) mu2 la3)) ∧ (¬ (x1 = 0) → (FnI E d mi_155 [.inr (.inr (some (7, c))), .inl a1] mu2 la3 (fun x4 mu5 la6 => (x4 = 0 → (Q (-1 : Int32) mu5 la6)) ∧ (¬ (x4 = 0) → ((a0 = a1 → (Q (-1 : Int32) mu5 la6)) ∧ (¬ (a0 = a1) → (FnI E d mi_156 [.inr (.inr (some (7, c))), .inl a0] mu5 la6 (fun x7 mu8 la9 => (x7 = 0 → (Q (-1 : Int32) mu8 la9)) ∧ (¬ (x7 = 0) → (FnI E d mi_156 [.inr (.inr (some (7, c))), .inl a1] mu8 la9 (fun x10 mu11 la12 => (¬ x10 = 0 → (FnI E d mi_164 [.inr (.inr (some (7, c))), .inr (.inr (some (38, c))), .inl a0] mu11 la12 (fun x13 mu14 la15 => (¬ x13 = (-9 : Int32) → ((¬ (mu14 7 c 13) = (40 : Int32) → (FnV E d mi_175 [.inr (.inr (some (7, c)))] mu14 la15 (fun mu17 la18 => FnV E d mi_177 [.inr (.inr (some (7, c))), .inr (.inr (some (38, c))), .inl a0, .inl a1] mu17 la18 (fun mu20 la21 => FnI E d mi_163 [.inr (.inr (some (7, c))), .inr (.inr (some (38, c)))] mu20 la21 (fun x22 mu23 la24 => FnI E d mi_131 [.inl x22] mu23 la24 (fun x25 mu26 la27 => Q x25 mu26 la27)))))) ∧ (¬ (¬ (mu14 7 c 13) = (40 : Int32)) → (Q (-2 : Int32) mu14 la15)))) ∧ (¬ (¬ x13 = (-9 : Int32)) → (FnI E d mi_164 [.inr (.inr (some (7, c))), .inr (.inr (some (38, c))), .inl a1] mu14 la15 (fun x28 mu29 la30 => (¬ x28 = (-9 : Int32) → ((¬ (mu29 7 c 13) = (40 : Int32) → (FnV E d mi_175 [.inr (.inr (some (7, c)))] mu29 la30 (fun mu32 la33 => FnV E d mi_177 [.inr (.inr (some (7, c))), .inr (.inr (some (38, c))), .inl a0, .inl a1] mu32 la33 (fun mu35 la36 => FnI E d mi_163 [.inr (.inr (some (7, c))), .inr (.inr (some (38, c)))] mu35 la36 (fun x37 mu38 la39 => FnI E d mi_131 [.inl x37] mu38 la39 (fun x40 mu41 la42 => Q x40 mu41 la42)))))) ∧ (¬ (¬ (mu29 7 c 13) = (40 : Int32)) → (Q (-2 : Int32) mu29 la30)))) ∧ (¬ (¬ x28 = (-9 : Int32)) → (Q (-4 : Int32) mu29 la30)))))))) ∧ (¬ (¬ x10 = 0) → (Q (-1 : Int32) mu11 la12))))))))))))))) : FnI E (d + 1) mi_178 [.inr (.inr (some (7, c))), .inl a0, .inl a1] mu la Q := by
  unfold FnI
  show Ev E (d + 1) mi_178 0 [some (.inr (.inr (some (7, c)))), some (.inl a0), some (.inl a1)] [] (mem E mu la) (qI E Q)
  refine Ev.steps 2 (ip' := 2) (ls' := [some (.inr (.inr (some (7, c)))), some (.inl a0), some (.inl a1)]) (st' := [.inl a0, .inr (.inr (some (7, c)))]) (M' := mem E mu la) rfl ?_
  refine Ev.ci (J := mi_155) (as := [.inr (.inr (some (7, c))), .inl a0]) (rest := []) rfl rfl rfl (Nat.le_of_ble_eq_true rfl) h (fun x1 mu2 la3 h => ?_)
  refine Ev.br (c := x1 = 0) (s1 := (19, [some (.inr (.inr (some (7, c)))), some (.inl a0), some (.inl a1)], [], mem E mu2 la3)) (s2 := (4, [some (.inr (.inr (some (7, c)))), some (.inl a0), some (.inl a1)], [], mem E mu2 la3)) rfl rfl rfl rfl (fun hc => ?_) (fun hc => ?_)
  · have h := h.1 hc
    dsimp only
    refine Ev.steps 1 (ip' := 20) (ls' := [some (.inr (.inr (some (7, c)))), some (.inl a0), some (.inl a1)]) (st' := [.inl (-1 : Int32)]) (M' := mem E mu2 la3) rfl ?_
    exact Ev.ret rfl rfl ⟨_, _, _, rfl, rfl, h⟩
  · have h := h.2 hc
    dsimp only
    refine Ev.steps 2 (ip' := 6) (ls' := [some (.inr (.inr (some (7, c)))), some (.inl a0), some (.inl a1)]) (st' := [.inl a1, .inr (.inr (some (7, c)))]) (M' := mem E mu2 la3) rfl ?_
    refine Ev.ci (J := mi_155) (as := [.inr (.inr (some (7, c))), .inl a1]) (rest := []) rfl rfl rfl (Nat.le_of_ble_eq_true rfl) h (fun x4 mu5 la6 h => ?_)
    refine Ev.br (c := x4 = 0) (s1 := (19, [some (.inr (.inr (some (7, c)))), some (.inl a0), some (.inl a1)], [], mem E mu5 la6)) (s2 := (8, [some (.inr (.inr (some (7, c)))), some (.inl a0), some (.inl a1)], [], mem E mu5 la6)) rfl rfl rfl rfl (fun hc => ?_) (fun hc => ?_)
    · have h := h.1 hc
      dsimp only
      refine Ev.steps 1 (ip' := 20) (ls' := [some (.inr (.inr (some (7, c)))), some (.inl a0), some (.inl a1)]) (st' := [.inl (-1 : Int32)]) (M' := mem E mu5 la6) rfl ?_
      exact Ev.ret rfl rfl ⟨_, _, _, rfl, rfl, h⟩
    · have h := h.2 hc
      dsimp only
      refine Ev.steps 2 (ip' := 10) (ls' := [some (.inr (.inr (some (7, c)))), some (.inl a0), some (.inl a1)]) (st' := [.inl a1, .inl a0]) (M' := mem E mu5 la6) rfl ?_
      refine Ev.br (c := a0 = a1) (s1 := (19, [some (.inr (.inr (some (7, c)))), some (.inl a0), some (.inl a1)], [], mem E mu5 la6)) (s2 := (11, [some (.inr (.inr (some (7, c)))), some (.inl a0), some (.inl a1)], [], mem E mu5 la6)) rfl rfl rfl rfl (fun hc => ?_) (fun hc => ?_)
      · have h := h.1 hc
        dsimp only
        refine Ev.steps 1 (ip' := 20) (ls' := [some (.inr (.inr (some (7, c)))), some (.inl a0), some (.inl a1)]) (st' := [.inl (-1 : Int32)]) (M' := mem E mu5 la6) rfl ?_
        exact Ev.ret rfl rfl ⟨_, _, _, rfl, rfl, h⟩
      · have h := h.2 hc
        dsimp only
        refine Ev.steps 2 (ip' := 13) (ls' := [some (.inr (.inr (some (7, c)))), some (.inl a0), some (.inl a1)]) (st' := [.inl a0, .inr (.inr (some (7, c)))]) (M' := mem E mu5 la6) rfl ?_
        refine Ev.ci (J := mi_156) (as := [.inr (.inr (some (7, c))), .inl a0]) (rest := []) rfl rfl rfl (Nat.le_of_ble_eq_true rfl) h (fun x7 mu8 la9 h => ?_)
        refine Ev.br (c := x7 = 0) (s1 := (19, [some (.inr (.inr (some (7, c)))), some (.inl a0), some (.inl a1)], [], mem E mu8 la9)) (s2 := (15, [some (.inr (.inr (some (7, c)))), some (.inl a0), some (.inl a1)], [], mem E mu8 la9)) rfl rfl rfl rfl (fun hc => ?_) (fun hc => ?_)
        · have h := h.1 hc
          dsimp only
          refine Ev.steps 1 (ip' := 20) (ls' := [some (.inr (.inr (some (7, c)))), some (.inl a0), some (.inl a1)]) (st' := [.inl (-1 : Int32)]) (M' := mem E mu8 la9) rfl ?_
          exact Ev.ret rfl rfl ⟨_, _, _, rfl, rfl, h⟩
        · have h := h.2 hc
          dsimp only
          refine Ev.steps 2 (ip' := 17) (ls' := [some (.inr (.inr (some (7, c)))), some (.inl a0), some (.inl a1)]) (st' := [.inl a1, .inr (.inr (some (7, c)))]) (M' := mem E mu8 la9) rfl ?_
          refine Ev.ci (J := mi_156) (as := [.inr (.inr (some (7, c))), .inl a1]) (rest := []) rfl rfl rfl (Nat.le_of_ble_eq_true rfl) h (fun x10 mu11 la12 h => ?_)
          refine Ev.br (c := ¬ x10 = 0) (s1 := (21, [some (.inr (.inr (some (7, c)))), some (.inl a0), some (.inl a1)], [], mem E mu11 la12)) (s2 := (19, [some (.inr (.inr (some (7, c)))), some (.inl a0), some (.inl a1)], [], mem E mu11 la12)) rfl rfl rfl rfl (fun hc => ?_) (fun hc => ?_)
          · have h := h.1 hc
            dsimp only
            refine Ev.steps 4 (ip' := 25) (ls' := [some (.inr (.inr (some (7, c)))), some (.inl a0), some (.inl a1)]) (st' := [.inl a0, .inr (.inr (some (38, c))), .inr (.inr (some (7, c)))]) (M' := mem E mu11 la12) rfl ?_
            refine Ev.ci (J := mi_164) (as := [.inr (.inr (some (7, c))), .inr (.inr (some (38, c))), .inl a0]) (rest := []) rfl rfl rfl (Nat.le_of_ble_eq_true rfl) h (fun x13 mu14 la15 h => ?_)
            refine Ev.steps 1 (ip' := 27) (ls' := [some (.inr (.inr (some (7, c)))), some (.inl a0), some (.inl a1)]) (st' := [.inl (-9 : Int32), .inl x13]) (M' := mem E mu14 la15) rfl ?_
            refine Ev.br (c := ¬ x13 = (-9 : Int32)) (s1 := (37, [some (.inr (.inr (some (7, c)))), some (.inl a0), some (.inl a1)], [], mem E mu14 la15)) (s2 := (28, [some (.inr (.inr (some (7, c)))), some (.inl a0), some (.inl a1)], [], mem E mu14 la15)) rfl rfl rfl rfl (fun hc => ?_) (fun hc => ?_)
            · have h := h.1 hc
              dsimp only
              refine Ev.steps 3 (ip' := 40) (ls' := [some (.inr (.inr (some (7, c)))), some (.inl a0), some (.inl a1)]) (st' := [.inl (40 : Int32), .inl (mu14 7 c 13)]) (M' := mem E mu14 la15) rfl ?_
              refine Ev.br (c := ¬ (mu14 7 c 13) = (40 : Int32)) (s1 := (43, [some (.inr (.inr (some (7, c)))), some (.inl a0), some (.inl a1)], [], mem E mu14 la15)) (s2 := (41, [some (.inr (.inr (some (7, c)))), some (.inl a0), some (.inl a1)], [], mem E mu14 la15)) rfl rfl rfl rfl (fun hc => ?_) (fun hc => ?_)
              · have h := h.1 hc
                dsimp only
                refine Ev.steps 1 (ip' := 44) (ls' := [some (.inr (.inr (some (7, c)))), some (.inl a0), some (.inl a1)]) (st' := [.inr (.inr (some (7, c)))]) (M' := mem E mu14 la15) rfl ?_
                refine Ev.cv (J := mi_175) (as := [.inr (.inr (some (7, c)))]) (rest := []) rfl rfl rfl (Nat.le_of_ble_eq_true rfl) h (fun mu17 la18 h => ?_)
                refine Ev.steps 5 (ip' := 50) (ls' := [some (.inr (.inr (some (7, c)))), some (.inl a0), some (.inl a1)]) (st' := [.inl a1, .inl a0, .inr (.inr (some (38, c))), .inr (.inr (some (7, c)))]) (M' := mem E mu17 la18) rfl ?_
                refine Ev.cv (J := mi_177) (as := [.inr (.inr (some (7, c))), .inr (.inr (some (38, c))), .inl a0, .inl a1]) (rest := []) rfl rfl rfl (Nat.le_of_ble_eq_true rfl) h (fun mu20 la21 h => ?_)
                refine Ev.steps 3 (ip' := 54) (ls' := [some (.inr (.inr (some (7, c)))), some (.inl a0), some (.inl a1)]) (st' := [.inr (.inr (some (38, c))), .inr (.inr (some (7, c)))]) (M' := mem E mu20 la21) rfl ?_
                refine Ev.ci (J := mi_163) (as := [.inr (.inr (some (7, c))), .inr (.inr (some (38, c)))]) (rest := []) rfl rfl rfl (Nat.le_of_ble_eq_true rfl) h (fun x22 mu23 la24 h => ?_)
                refine Ev.ci (J := mi_131) (as := [.inl x22]) (rest := []) rfl rfl rfl (Nat.le_of_ble_eq_true rfl) h (fun x25 mu26 la27 h => ?_)
                exact Ev.ret rfl rfl ⟨_, _, _, rfl, rfl, h⟩
              · have h := h.2 hc
                dsimp only
                refine Ev.steps 1 (ip' := 42) (ls' := [some (.inr (.inr (some (7, c)))), some (.inl a0), some (.inl a1)]) (st' := [.inl (-2 : Int32)]) (M' := mem E mu14 la15) rfl ?_
                exact Ev.ret rfl rfl ⟨_, _, _, rfl, rfl, h⟩
            · have h := h.2 hc
              dsimp only
              refine Ev.steps 4 (ip' := 32) (ls' := [some (.inr (.inr (some (7, c)))), some (.inl a0), some (.inl a1)]) (st' := [.inl a1, .inr (.inr (some (38, c))), .inr (.inr (some (7, c)))]) (M' := mem E mu14 la15) rfl ?_
              refine Ev.ci (J := mi_164) (as := [.inr (.inr (some (7, c))), .inr (.inr (some (38, c))), .inl a1]) (rest := []) rfl rfl rfl (Nat.le_of_ble_eq_true rfl) h (fun x28 mu29 la30 h => ?_)
              refine Ev.steps 1 (ip' := 34) (ls' := [some (.inr (.inr (some (7, c)))), some (.inl a0), some (.inl a1)]) (st' := [.inl (-9 : Int32), .inl x28]) (M' := mem E mu29 la30) rfl ?_
              refine Ev.br (c := ¬ x28 = (-9 : Int32)) (s1 := (37, [some (.inr (.inr (some (7, c)))), some (.inl a0), some (.inl a1)], [], mem E mu29 la30)) (s2 := (35, [some (.inr (.inr (some (7, c)))), some (.inl a0), some (.inl a1)], [], mem E mu29 la30)) rfl rfl rfl rfl (fun hc => ?_) (fun hc => ?_)
              · have h := h.1 hc
                dsimp only
                refine Ev.steps 3 (ip' := 40) (ls' := [some (.inr (.inr (some (7, c)))), some (.inl a0), some (.inl a1)]) (st' := [.inl (40 : Int32), .inl (mu29 7 c 13)]) (M' := mem E mu29 la30) rfl ?_
                refine Ev.br (c := ¬ (mu29 7 c 13) = (40 : Int32)) (s1 := (43, [some (.inr (.inr (some (7, c)))), some (.inl a0), some (.inl a1)], [], mem E mu29 la30)) (s2 := (41, [some (.inr (.inr (some (7, c)))), some (.inl a0), some (.inl a1)], [], mem E mu29 la30)) rfl rfl rfl rfl (fun hc => ?_) (fun hc => ?_)
                · have h := h.1 hc
                  dsimp only
                  refine Ev.steps 1 (ip' := 44) (ls' := [some (.inr (.inr (some (7, c)))), some (.inl a0), some (.inl a1)]) (st' := [.inr (.inr (some (7, c)))]) (M' := mem E mu29 la30) rfl ?_
                  refine Ev.cv (J := mi_175) (as := [.inr (.inr (some (7, c)))]) (rest := []) rfl rfl rfl (Nat.le_of_ble_eq_true rfl) h (fun mu32 la33 h => ?_)
                  refine Ev.steps 5 (ip' := 50) (ls' := [some (.inr (.inr (some (7, c)))), some (.inl a0), some (.inl a1)]) (st' := [.inl a1, .inl a0, .inr (.inr (some (38, c))), .inr (.inr (some (7, c)))]) (M' := mem E mu32 la33) rfl ?_
                  refine Ev.cv (J := mi_177) (as := [.inr (.inr (some (7, c))), .inr (.inr (some (38, c))), .inl a0, .inl a1]) (rest := []) rfl rfl rfl (Nat.le_of_ble_eq_true rfl) h (fun mu35 la36 h => ?_)
                  refine Ev.steps 3 (ip' := 54) (ls' := [some (.inr (.inr (some (7, c)))), some (.inl a0), some (.inl a1)]) (st' := [.inr (.inr (some (38, c))), .inr (.inr (some (7, c)))]) (M' := mem E mu35 la36) rfl ?_
                  refine Ev.ci (J := mi_163) (as := [.inr (.inr (some (7, c))), .inr (.inr (some (38, c)))]) (rest := []) rfl rfl rfl (Nat.le_of_ble_eq_true rfl) h (fun x37 mu38 la39 h => ?_)
                  refine Ev.ci (J := mi_131) (as := [.inl x37]) (rest := []) rfl rfl rfl (Nat.le_of_ble_eq_true rfl) h (fun x40 mu41 la42 h => ?_)
                  exact Ev.ret rfl rfl ⟨_, _, _, rfl, rfl, h⟩
                · have h := h.2 hc
                  dsimp only
                  refine Ev.steps 1 (ip' := 42) (ls' := [some (.inr (.inr (some (7, c)))), some (.inl a0), some (.inl a1)]) (st' := [.inl (-2 : Int32)]) (M' := mem E mu29 la30) rfl ?_
                  exact Ev.ret rfl rfl ⟨_, _, _, rfl, rfl, h⟩
              · have h := h.2 hc
                dsimp only
                refine Ev.steps 1 (ip' := 36) (ls' := [some (.inr (.inr (some (7, c)))), some (.inl a0), some (.inl a1)]) (st' := [.inl (-4 : Int32)]) (M' := mem E mu29 la30) rfl ?_
                exact Ev.ret rfl rfl ⟨_, _, _, rfl, rfl, h⟩
          · have h := h.2 hc
            dsimp only
            refine Ev.steps 1 (ip' := 20) (ls' := [some (.inr (.inr (some (7, c)))), some (.inl a0), some (.inl a1)]) (st' := [.inl (-1 : Int32)]) (M' := mem E mu11 la12) rfl ?_
            exact Ev.ret rfl rfl ⟨_, _, _, rfl, rfl, h⟩
