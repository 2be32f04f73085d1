set_option maxRecDepth 100000 in
/-- AnnCupsModel.give()I -/
theorem vc_X7_give {E : mEv} {d : Nat} {c : Nat} {mu : fMu} {la : fLa} {Q : Int32 → fMu → fLa → Prop} (h : (¬ (mu 7 c 4) = 0 → (Ev E (d + 1) mi_201 11 [some (.inr (.inr (some (7, c)))), some (.inl (0 : Int32)), some (.inl (1000000 : Int32)), some (.inl (0 : Int32)), none, none] [] (mem E mu la) (qI E Q))) ∧ (¬ (¬ (mu 7 c 4) = 0) → (Q (-4 : Int32) mu la))) : FnI E (d + 1) mi_201 [.inr (.inr (some (7, c)))] mu la Q := by
  unfold FnI
  show Ev E (d + 1) mi_201 0 [some (.inr (.inr (some (7, c)))), none, none, none, none, none] [] (mem E mu la) (qI E Q)
  refine Ev.steps 2 (ip' := 2) (ls' := [some (.inr (.inr (some (7, c)))), none, none, none, none, none]) (st' := [.inl (mu 7 c 4)]) (M' := mem E mu la) rfl ?_
  refine Ev.br (c := ¬ (mu 7 c 4) = 0) (s1 := (5, [some (.inr (.inr (some (7, c)))), none, none, none, none, none], [], mem E mu la)) (s2 := (3, [some (.inr (.inr (some (7, c)))), none, none, none, none, none], [], mem E mu la)) rfl rfl rfl rfl (fun hc => ?_) (fun hc => ?_)
  · have h := h.1 hc
    dsimp only
    refine Ev.steps 6 (ip' := 11) (ls' := [some (.inr (.inr (some (7, c)))), some (.inl (0 : Int32)), some (.inl (1000000 : Int32)), some (.inl (0 : Int32)), none, none]) (st' := []) (M' := mem E mu la) rfl ?_
    exact h
  · have h := h.2 hc
    dsimp only
    refine Ev.steps 1 (ip' := 4) (ls' := [some (.inr (.inr (some (7, c)))), none, none, none, none, none]) (st' := [.inl (-4 : Int32)]) (M' := mem E mu la) rfl ?_
    exact Ev.ret rfl rfl ⟨_, _, _, rfl, rfl, h⟩
set_option maxRecDepth 100000 in
theorem vc_X7_give_11 {E : mEv} {d : Nat}  (v0 : Nat) (v1 : Int32) (v2 : Int32) (v3 : Int32) {mu : fMu} {la : fLa} {Q : Int32 → fMu → fLa → Prop} (h : ((10 : Int32) ≤ v3 → (FnI E d mi_134 [.inr (.inr (some (7, v0))), .inl v1, .inl v2] mu la (fun x1 mu2 la3 => Q x1 mu2 la3))) ∧ (¬ ((10 : Int32) ≤ v3) → (Ev E (d + 1) mi_201 18 [some (.inr (.inr (some (7, v0)))), some (.inl v1), some (.inl v2), some (.inl v3), some (.inl (0 : Int32)), some (.inl (0 : Int32))] [] (mem E mu la) (qI E Q)))) : Ev E (d + 1) mi_201 11 [some (.inr (.inr (some (7, v0)))), some (.inl v1), some (.inl v2), some (.inl v3), none, none] [] (mem E mu la) (qI E Q) := by
  refine Ev.steps 2 (ip' := 13) (ls' := [some (.inr (.inr (some (7, v0)))), some (.inl v1), some (.inl v2), some (.inl v3), none, none]) (st' := [.inl (10 : Int32), .inl v3]) (M' := mem E mu la) rfl ?_
  refine Ev.br (c := (10 : Int32) ≤ v3) (s1 := (60, [some (.inr (.inr (some (7, v0)))), some (.inl v1), some (.inl v2), some (.inl v3), none, none], [], mem E mu la)) (s2 := (14, [some (.inr (.inr (some (7, v0)))), some (.inl v1), some (.inl v2), some (.inl v3), none, none], [], mem E mu la)) rfl rfl rfl rfl (fun hc => ?_) (fun hc => ?_)
  · have h := h.1 hc
    dsimp only
    refine Ev.steps 3 (ip' := 63) (ls' := [some (.inr (.inr (some (7, v0)))), some (.inl v1), some (.inl v2), some (.inl v3), none, none]) (st' := [.inl v2, .inl v1, .inr (.inr (some (7, v0)))]) (M' := mem E mu la) rfl ?_
    refine Ev.ci (J := mi_134) (as := [.inr (.inr (some (7, v0))), .inl v1, .inl v2]) (rest := []) rfl rfl rfl (Nat.le_of_ble_eq_true rfl) h (fun x1 mu2 la3 h => ?_)
    exact Ev.ret rfl rfl ⟨_, _, _, rfl, rfl, h⟩
  · have h := h.2 hc
    dsimp only
    refine Ev.steps 4 (ip' := 18) (ls' := [some (.inr (.inr (some (7, v0)))), some (.inl v1), some (.inl v2), some (.inl v3), some (.inl (0 : Int32)), some (.inl (0 : Int32))]) (st' := []) (M' := mem E mu la) rfl ?_
    exact h
set_option maxRecDepth 100000 in
theorem vc_X7_give_18 {E : mEv} {d : Nat}  (v0 : Nat) (v1 : Int32) (v2 : Int32) (v3 : Int32) (v4 : Int32) (v5 : Int32) {mu : fMu} {la : fLa} {Q : Int32 → fMu → fLa → Prop} (h : ((mu 7 v0 4) ≤ v5 → ((v2 ≤ v4 → ((v2 ≤ v4 → (Ev E (d + 1) mi_201 11 [some (.inr (.inr (some (7, v0)))), some (.inl v1), some (.inl v2), some (.inl (v3 + (1 : Int32))), none, none] [] (mem E mu la) (qI E Q))) ∧ (¬ (v2 ≤ v4) → (Ev E (d + 1) mi_201 11 [some (.inr (.inr (some (7, v0)))), some (.inl v1), some (.inl v4), some (.inl (v3 + (1 : Int32))), none, none] [] (mem E mu la) (qI E Q))))) ∧ (¬ (v2 ≤ v4) → ((v2 ≤ v4 → (Ev E (d + 1) mi_201 11 [some (.inr (.inr (some (7, v0)))), some (.inl v3), some (.inl v2), some (.inl (v3 + (1 : Int32))), none, none] [] (mem E mu la) (qI E Q))) ∧ (¬ (v2 ≤ v4) → (Ev E (d + 1) mi_201 11 [some (.inr (.inr (some (7, v0)))), some (.inl v3), some (.inl v4), some (.inl (v3 + (1 : Int32))), none, none] [] (mem E mu la) (qI E Q))))))) ∧ (¬ ((mu 7 v0 4) ≤ v5) → (FnI E d mi_156 [.inr (.inr (some (7, v0))), .inl v5] mu la (fun x4 mu5 la6 => (x4 = 0 → (Ev E (d + 1) mi_201 18 [some (.inr (.inr (some (7, v0)))), some (.inl v1), some (.inl v2), some (.inl v3), some (.inl (v4 + (0 : Int32))), some (.inl (v5 + (1 : Int32)))] [] (mem E mu5 la6) (qI E Q))) ∧ (¬ (x4 = 0) → (vp_in v5 6 ∧ (FnI E d mi_159 [.inl ((mu5 36 v0 v5.toNatClampNeg) - v3)] mu5 la6 (fun x7 mu8 la9 => ((mu8 7 v0 5) < x7 → (Ev E (d + 1) mi_201 18 [some (.inr (.inr (some (7, v0)))), some (.inl v1), some (.inl v2), some (.inl v3), some (.inl (v4 + (0 : Int32))), some (.inl (v5 + (1 : Int32)))] [] (mem E mu8 la9) (qI E Q))) ∧ (¬ ((mu8 7 v0 5) < x7) → (Ev E (d + 1) mi_201 18 [some (.inr (.inr (some (7, v0)))), some (.inl v1), some (.inl v2), some (.inl v3), some (.inl (v4 + (1 : Int32))), some (.inl (v5 + (1 : Int32)))] [] (mem E mu8 la9) (qI E Q))))))))))) : Ev E (d + 1) mi_201 18 [some (.inr (.inr (some (7, v0)))), some (.inl v1), some (.inl v2), some (.inl v3), some (.inl v4), some (.inl v5)] [] (mem E mu la) (qI E Q) := by
  refine Ev.steps 3 (ip' := 21) (ls' := [some (.inr (.inr (some (7, v0)))), some (.inl v1), some (.inl v2), some (.inl v3), some (.inl v4), some (.inl v5)]) (st' := [.inl (mu 7 v0 4), .inl v5]) (M' := mem E mu la) rfl ?_
  refine Ev.br (c := (mu 7 v0 4) ≤ v5) (s1 := (44, [some (.inr (.inr (some (7, v0)))), some (.inl v1), some (.inl v2), some (.inl v3), some (.inl v4), some (.inl v5)], [], mem E mu la)) (s2 := (22, [some (.inr (.inr (some (7, v0)))), some (.inl v1), some (.inl v2), some (.inl v3), some (.inl v4), some (.inl v5)], [], mem E mu la)) rfl rfl rfl rfl (fun hc => ?_) (fun hc => ?_)
  · have h := h.1 hc
    dsimp only
    refine Ev.steps 2 (ip' := 46) (ls' := [some (.inr (.inr (some (7, v0)))), some (.inl v1), some (.inl v2), some (.inl v3), some (.inl v4), some (.inl v5)]) (st' := [.inl v2, .inl v4]) (M' := mem E mu la) rfl ?_
    refine Ev.br (c := v2 ≤ v4) (s1 := (49, [some (.inr (.inr (some (7, v0)))), some (.inl v1), some (.inl v2), some (.inl v3), some (.inl v4), some (.inl v5)], [], mem E mu la)) (s2 := (47, [some (.inr (.inr (some (7, v0)))), some (.inl v1), some (.inl v2), some (.inl v3), some (.inl v4), some (.inl v5)], [], mem E mu la)) rfl rfl rfl rfl (fun hc => ?_) (fun hc => ?_)
    · have h := h.1 hc
      dsimp only
      refine Ev.steps 4 (ip' := 53) (ls' := [some (.inr (.inr (some (7, v0)))), some (.inl v1), some (.inl v2), some (.inl v3), some (.inl v4), some (.inl v5)]) (st' := [.inl v2, .inl v4]) (M' := mem E mu la) rfl ?_
      refine Ev.br (c := v2 ≤ v4) (s1 := (56, [some (.inr (.inr (some (7, v0)))), some (.inl v1), some (.inl v2), some (.inl v3), some (.inl v4), some (.inl v5)], [], mem E mu la)) (s2 := (54, [some (.inr (.inr (some (7, v0)))), some (.inl v1), some (.inl v2), some (.inl v3), some (.inl v4), some (.inl v5)], [], mem E mu la)) rfl rfl rfl rfl (fun hc => ?_) (fun hc => ?_)
      · have h := h.1 hc
        dsimp only
        refine Ev.steps 4 (ip' := 11) (ls' := [some (.inr (.inr (some (7, v0)))), some (.inl v1), some (.inl v2), some (.inl (v3 + (1 : Int32))), some (.inl v4), some (.inl v5)]) (st' := []) (M' := mem E mu la) rfl ?_
        refine Ev.drop (ls := [some (.inr (.inr (some (7, v0)))), some (.inl v1), some (.inl v2), some (.inl (v3 + (1 : Int32))), none, none]) ⟨Or.inr rfl, Or.inr rfl, Or.inr rfl, Or.inr rfl, Or.inl rfl, Or.inl rfl, trivial⟩ ?_
        exact h
      · have h := h.2 hc
        dsimp only
        refine Ev.steps 5 (ip' := 11) (ls' := [some (.inr (.inr (some (7, v0)))), some (.inl v1), some (.inl v4), some (.inl (v3 + (1 : Int32))), some (.inl v4), some (.inl v5)]) (st' := []) (M' := mem E mu la) rfl ?_
        refine Ev.drop (ls := [some (.inr (.inr (some (7, v0)))), some (.inl v1), some (.inl v4), some (.inl (v3 + (1 : Int32))), none, none]) ⟨Or.inr rfl, Or.inr rfl, Or.inr rfl, Or.inr rfl, Or.inl rfl, Or.inl rfl, trivial⟩ ?_
        exact h
    · have h := h.2 hc
      dsimp only
      refine Ev.steps 5 (ip' := 53) (ls' := [some (.inr (.inr (some (7, v0)))), some (.inl v3), some (.inl v2), some (.inl v3), some (.inl v4), some (.inl v5)]) (st' := [.inl v2, .inl v4]) (M' := mem E mu la) rfl ?_
      refine Ev.br (c := v2 ≤ v4) (s1 := (56, [some (.inr (.inr (some (7, v0)))), some (.inl v3), some (.inl v2), some (.inl v3), some (.inl v4), some (.inl v5)], [], mem E mu la)) (s2 := (54, [some (.inr (.inr (some (7, v0)))), some (.inl v3), some (.inl v2), some (.inl v3), some (.inl v4), some (.inl v5)], [], mem E mu la)) rfl rfl rfl rfl (fun hc => ?_) (fun hc => ?_)
      · have h := h.1 hc
        dsimp only
        refine Ev.steps 4 (ip' := 11) (ls' := [some (.inr (.inr (some (7, v0)))), some (.inl v3), some (.inl v2), some (.inl (v3 + (1 : Int32))), some (.inl v4), some (.inl v5)]) (st' := []) (M' := mem E mu la) rfl ?_
        refine Ev.drop (ls := [some (.inr (.inr (some (7, v0)))), some (.inl v3), some (.inl v2), some (.inl (v3 + (1 : Int32))), none, none]) ⟨Or.inr rfl, Or.inr rfl, Or.inr rfl, Or.inr rfl, Or.inl rfl, Or.inl rfl, trivial⟩ ?_
        exact h
      · have h := h.2 hc
        dsimp only
        refine Ev.steps 5 (ip' := 11) (ls' := [some (.inr (.inr (some (7, v0)))), some (.inl v3), some (.inl v4), some (.inl (v3 + (1 : Int32))), some (.inl v4), some (.inl v5)]) (st' := []) (M' := mem E mu la) rfl ?_
        refine Ev.drop (ls := [some (.inr (.inr (some (7, v0)))), some (.inl v3), some (.inl v4), some (.inl (v3 + (1 : Int32))), none, none]) ⟨Or.inr rfl, Or.inr rfl, Or.inr rfl, Or.inr rfl, Or.inl rfl, Or.inl rfl, trivial⟩ ?_
        exact h
  · have h := h.2 hc
    dsimp only
    refine Ev.steps 3 (ip' := 25) (ls' := [some (.inr (.inr (some (7, v0)))), some (.inl v1), some (.inl v2), some (.inl v3), some (.inl v4), some (.inl v5)]) (st' := [.inl v5, .inr (.inr (some (7, v0))), .inl v4]) (M' := mem E mu la) rfl ?_
    refine Ev.ci (J := mi_156) (as := [.inr (.inr (some (7, v0))), .inl v5]) (rest := [.inl v4]) rfl rfl rfl (Nat.le_of_ble_eq_true rfl) h (fun x4 mu5 la6 h => ?_)
    refine Ev.br (c := x4 = 0) (s1 := (39, [some (.inr (.inr (some (7, v0)))), some (.inl v1), some (.inl v2), some (.inl v3), some (.inl v4), some (.inl v5)], [.inl v4], mem E mu5 la6)) (s2 := (27, [some (.inr (.inr (some (7, v0)))), some (.inl v1), some (.inl v2), some (.inl v3), some (.inl v4), some (.inl v5)], [.inl v4], mem E mu5 la6)) rfl rfl rfl rfl (fun hc => ?_) (fun hc => ?_)
    · have h := h.1 hc
      dsimp only
      refine Ev.steps 5 (ip' := 18) (ls' := [some (.inr (.inr (some (7, v0)))), some (.inl v1), some (.inl v2), some (.inl v3), some (.inl (v4 + (0 : Int32))), some (.inl (v5 + (1 : Int32)))]) (st' := []) (M' := mem E mu5 la6) rfl ?_
      exact h
    · have h := h.2 hc
      dsimp only
      refine Ev.steps 3 (ip' := 30) (ls' := [some (.inr (.inr (some (7, v0)))), some (.inl v1), some (.inl v2), some (.inl v3), some (.inl v4), some (.inl v5)]) (st' := [.inl v5, .inr (.inr (some (36, v0))), .inl v4]) (M' := mem E mu5 la6) rfl ?_
      refine Ev.ial rfl rfl (by decide) h.1 ?_
      have h := h.2
      refine Ev.steps 2 (ip' := 33) (ls' := [some (.inr (.inr (some (7, v0)))), some (.inl v1), some (.inl v2), some (.inl v3), some (.inl v4), some (.inl v5)]) (st' := [.inl ((mu5 36 v0 v5.toNatClampNeg) - v3), .inl v4]) (M' := mem E mu5 la6) rfl ?_
      refine Ev.ci (J := mi_159) (as := [.inl ((mu5 36 v0 v5.toNatClampNeg) - v3)]) (rest := [.inl v4]) rfl rfl rfl (Nat.le_of_ble_eq_true rfl) h (fun x7 mu8 la9 h => ?_)
      refine Ev.steps 2 (ip' := 36) (ls' := [some (.inr (.inr (some (7, v0)))), some (.inl v1), some (.inl v2), some (.inl v3), some (.inl v4), some (.inl v5)]) (st' := [.inl (mu8 7 v0 5), .inl x7, .inl v4]) (M' := mem E mu8 la9) rfl ?_
      refine Ev.br (c := (mu8 7 v0 5) < x7) (s1 := (39, [some (.inr (.inr (some (7, v0)))), some (.inl v1), some (.inl v2), some (.inl v3), some (.inl v4), some (.inl v5)], [.inl v4], mem E mu8 la9)) (s2 := (37, [some (.inr (.inr (some (7, v0)))), some (.inl v1), some (.inl v2), some (.inl v3), some (.inl v4), some (.inl v5)], [.inl v4], mem E mu8 la9)) rfl rfl rfl rfl (fun hc => ?_) (fun hc => ?_)
      · have h := h.1 hc
        dsimp only
        refine Ev.steps 5 (ip' := 18) (ls' := [some (.inr (.inr (some (7, v0)))), some (.inl v1), some (.inl v2), some (.inl v3), some (.inl (v4 + (0 : Int32))), some (.inl (v5 + (1 : Int32)))]) (st' := []) (M' := mem E mu8 la9) rfl ?_
        exact h
      · have h := h.2 hc
        dsimp only
        refine Ev.steps 6 (ip' := 18) (ls' := [some (.inr (.inr (some (7, v0)))), some (.inl v1), some (.inl v2), some (.inl v3), some (.inl (v4 + (1 : Int32))), some (.inl (v5 + (1 : Int32)))]) (st' := []) (M' := mem E mu8 la9) rfl ?_
        exact h
set_option maxRecDepth 100000 in
/-- AnnCupsModel.reach(I)I -/
theorem vc_X7_reach {E : mEv} {d : Nat} {c : Nat} (a0 : Int32) {mu : fMu} {la : fLa} {Q : Int32 → fMu → fLa → Prop} (h : FnI E d mi_155 [.inr (.inr (some (7, c))), .inl a0] mu la (fun x1 mu2 la3 => (x1 = 0 → (Q (-1 : Int32) mu2 la3)) ∧ (¬ (x1 = 0) → (FnI E d mi_160 [.inr (.inr (some (7, c))), .inr (.inr (some (38, c))), .inl a0, .inl (mu2 7 c 5)] mu2 la3 (fun x4 mu5 la6 => Q x4 mu5 la6))))) : FnI E (d + 1) mi_202 [.inr (.inr (some (7, c))), .inl a0] mu la Q := by
  unfold FnI
  show Ev E (d + 1) mi_202 0 [some (.inr (.inr (some (7, c)))), some (.inl a0)] [] (mem E mu la) (qI E Q)
  refine Ev.steps 2 (ip' := 2) (ls' := [some (.inr (.inr (some (7, c)))), some (.inl a0)]) (st' := [.inl a0, .inr (.inr (some (7, c)))]) (M' := mem E mu la) rfl ?_
  refine Ev.ci (J := mi_155) (as := [.inr (.inr (some (7, c))), .inl a0]) (rest := []) rfl rfl rfl (Nat.le_of_ble_eq_true rfl) h (fun x1 mu2 la3 h => ?_)
  refine Ev.br (c := x1 = 0) (s1 := (12, [some (.inr (.inr (some (7, c)))), some (.inl a0)], [], mem E mu2 la3)) (s2 := (4, [some (.inr (.inr (some (7, c)))), some (.inl a0)], [], mem E mu2 la3)) rfl rfl rfl rfl (fun hc => ?_) (fun hc => ?_)
  · have h := h.1 hc
    dsimp only
    refine Ev.steps 1 (ip' := 13) (ls' := [some (.inr (.inr (some (7, c)))), some (.inl a0)]) (st' := [.inl (-1 : Int32)]) (M' := mem E mu2 la3) rfl ?_
    exact Ev.ret rfl rfl ⟨_, _, _, rfl, rfl, h⟩
  · have h := h.2 hc
    dsimp only
    refine Ev.steps 6 (ip' := 10) (ls' := [some (.inr (.inr (some (7, c)))), some (.inl a0)]) (st' := [.inl (mu2 7 c 5), .inl a0, .inr (.inr (some (38, c))), .inr (.inr (some (7, c)))]) (M' := mem E mu2 la3) rfl ?_
    refine Ev.ci (J := mi_160) (as := [.inr (.inr (some (7, c))), .inr (.inr (some (38, c))), .inl a0, .inl (mu2 7 c 5)]) (rest := []) rfl rfl rfl (Nat.le_of_ble_eq_true rfl) h (fun x4 mu5 la6 h => ?_)
    refine Ev.steps 1 (ip' := 13) (ls' := [some (.inr (.inr (some (7, c)))), some (.inl a0)]) (st' := [.inl x4]) (M' := mem E mu5 la6) rfl ?_
    exact Ev.ret rfl rfl ⟨_, _, _, rfl, rfl, h⟩
set_option maxRecDepth 100000 in
/-- AnnCupsModel.arePairs(I)Z -/
theorem vc_X7_arePairs {E : mEv} {d : Nat} {c : Nat} (a0 : Int32) {mu : fMu} {la : fLa} {Q : Int32 → fMu → fLa → Prop} (h : FnI E d mi_165 [.inr (.inr (some (7, c))), .inr (.inr (some (38, c)))] mu la (fun x1 mu2 la3 => Ev E (d + 1) mi_203 9 [some (.inr (.inr (some (7, c)))), some (.inl a0), some (.inl x1), some (.inl (1 : Int32)), some (.inl (0 : Int32)), none, none] [] (mem E mu2 la3) (qI E Q))) : FnI E (d + 1) mi_203 [.inr (.inr (some (7, c))), .inl a0] mu la Q := by
  unfold FnI
  show Ev E (d + 1) mi_203 0 [some (.inr (.inr (some (7, c)))), some (.inl a0), none, none, none, none, none] [] (mem E mu la) (qI E Q)
  refine Ev.steps 3 (ip' := 3) (ls' := [some (.inr (.inr (some (7, c)))), some (.inl a0), none, none, none, none, none]) (st' := [.inr (.inr (some (38, c))), .inr (.inr (some (7, c)))]) (M' := mem E mu la) rfl ?_
  refine Ev.ci (J := mi_165) (as := [.inr (.inr (some (7, c))), .inr (.inr (some (38, c)))]) (rest := []) rfl rfl rfl (Nat.le_of_ble_eq_true rfl) h (fun x1 mu2 la3 h => ?_)
  refine Ev.steps 5 (ip' := 9) (ls' := [some (.inr (.inr (some (7, c)))), some (.inl a0), some (.inl x1), some (.inl (1 : Int32)), some (.inl (0 : Int32)), none, none]) (st' := []) (M' := mem E mu2 la3) rfl ?_
  exact h
set_option maxRecDepth 100000 in
theorem vc_X7_arePairs_9 {E : mEv} {d : Nat}  (v0 : Nat) (v1 : Int32) (v2 : Int32) (v3 : Int32) (v4 : Int32) {mu : fMu} {la : fLa} {Q : Int32 → fMu → fLa → Prop} (h : vp_in v1 6 ∧ (((mu 29 v0 v1.toNatClampNeg) ≤ v4 → ((v3 = 0 ∨ v3 = 1) ∧ Q v3 mu la)) ∧ (¬ ((mu 29 v0 v1.toNatClampNeg) ≤ v4) → ((v3 = 0 → ((v3 = 0 ∨ v3 = 1) ∧ Q v3 mu la)) ∧ (¬ (v3 = 0) → (vp_in (((40 : Int32) * v1) + v4) 240 ∧ (vp_in ((((40 : Int32) * v1) + v4) + (1 : Int32)) 240 ∧ (FnI E d mi_155 [.inr (.inr (some (7, v0))), .inl (mu 30 v0 (((40 : Int32) * v1) + v4).toNatClampNeg)] mu la (fun x4 mu5 la6 => (x4 = 0 → (((0 : Int32) = 0 → (Ev E (d + 1) mi_203 9 [some (.inr (.inr (some (7, v0)))), some (.inl v1), some (.inl (v2 ||| (0 : Int32))), some (.inl (0 : Int32)), some (.inl (v4 + (2 : Int32))), none, none] [] (mem E mu5 la6) (qI E Q))) ∧ (¬ ((0 : Int32) = 0) → (Ev E (d + 1) mi_203 9 [some (.inr (.inr (some (7, v0)))), some (.inl v1), some (.inl (v2 ||| ((1 : Int32) <<< ((mu 30 v0 (((40 : Int32) * v1) + v4).toNatClampNeg) &&& 31)))), some (.inl (0 : Int32)), some (.inl (v4 + (2 : Int32))), none, none] [] (mem E mu5 la6) (qI E Q))))) ∧ (¬ (x4 = 0) → (FnI E d mi_130 [.inl v2, .inl (mu 30 v0 (((40 : Int32) * v1) + v4).toNatClampNeg)] mu5 la6 (fun x7 mu8 la9 => (¬ x7 = 0 → (((0 : Int32) = 0 → (Ev E (d + 1) mi_203 9 [some (.inr (.inr (some (7, v0)))), some (.inl v1), some (.inl (v2 ||| (0 : Int32))), some (.inl (0 : Int32)), some (.inl (v4 + (2 : Int32))), none, none] [] (mem E mu8 la9) (qI E Q))) ∧ (¬ ((0 : Int32) = 0) → (Ev E (d + 1) mi_203 9 [some (.inr (.inr (some (7, v0)))), some (.inl v1), some (.inl (v2 ||| ((1 : Int32) <<< ((mu 30 v0 (((40 : Int32) * v1) + v4).toNatClampNeg) &&& 31)))), some (.inl (0 : Int32)), some (.inl (v4 + (2 : Int32))), none, none] [] (mem E mu8 la9) (qI E Q))))) ∧ (¬ (¬ x7 = 0) → (((mu 30 v0 ((((40 : Int32) * v1) + v4) + (1 : Int32)).toNatClampNeg) = (-9 : Int32) → (((1 : Int32) = 0 → (Ev E (d + 1) mi_203 9 [some (.inr (.inr (some (7, v0)))), some (.inl v1), some (.inl (v2 ||| (0 : Int32))), some (.inl (1 : Int32)), some (.inl (v4 + (2 : Int32))), none, none] [] (mem E mu8 la9) (qI E Q))) ∧ (¬ ((1 : Int32) = 0) → (Ev E (d + 1) mi_203 9 [some (.inr (.inr (some (7, v0)))), some (.inl v1), some (.inl (v2 ||| ((1 : Int32) <<< ((mu 30 v0 (((40 : Int32) * v1) + v4).toNatClampNeg) &&& 31)))), some (.inl (1 : Int32)), some (.inl (v4 + (2 : Int32))), none, none] [] (mem E mu8 la9) (qI E Q))))) ∧ (¬ ((mu 30 v0 ((((40 : Int32) * v1) + v4) + (1 : Int32)).toNatClampNeg) = (-9 : Int32)) → (FnI E d mi_155 [.inr (.inr (some (7, v0))), .inl (mu 30 v0 ((((40 : Int32) * v1) + v4) + (1 : Int32)).toNatClampNeg)] mu8 la9 (fun x10 mu11 la12 => (x10 = 0 → (((0 : Int32) = 0 → (Ev E (d + 1) mi_203 9 [some (.inr (.inr (some (7, v0)))), some (.inl v1), some (.inl (v2 ||| (0 : Int32))), some (.inl (0 : Int32)), some (.inl (v4 + (2 : Int32))), none, none] [] (mem E mu11 la12) (qI E Q))) ∧ (¬ ((0 : Int32) = 0) → (Ev E (d + 1) mi_203 9 [some (.inr (.inr (some (7, v0)))), some (.inl v1), some (.inl (v2 ||| ((1 : Int32) <<< ((mu 30 v0 (((40 : Int32) * v1) + v4).toNatClampNeg) &&& 31)))), some (.inl (0 : Int32)), some (.inl (v4 + (2 : Int32))), none, none] [] (mem E mu11 la12) (qI E Q))))) ∧ (¬ (x10 = 0) → (((1 : Int32) = 0 → (Ev E (d + 1) mi_203 9 [some (.inr (.inr (some (7, v0)))), some (.inl v1), some (.inl (v2 ||| (0 : Int32))), some (.inl (1 : Int32)), some (.inl (v4 + (2 : Int32))), none, none] [] (mem E mu11 la12) (qI E Q))) ∧ (¬ ((1 : Int32) = 0) → (Ev E (d + 1) mi_203 9 [some (.inr (.inr (some (7, v0)))), some (.inl v1), some (.inl (v2 ||| ((1 : Int32) <<< ((mu 30 v0 (((40 : Int32) * v1) + v4).toNatClampNeg) &&& 31)))), some (.inl (1 : Int32)), some (.inl (v4 + (2 : Int32))), none, none] [] (mem E mu11 la12) (qI E Q)))))))))))))))))))))) : Ev E (d + 1) mi_203 9 [some (.inr (.inr (some (7, v0)))), some (.inl v1), some (.inl v2), some (.inl v3), some (.inl v4), none, none] [] (mem E mu la) (qI E Q) := by
  refine Ev.steps 4 (ip' := 13) (ls' := [some (.inr (.inr (some (7, v0)))), some (.inl v1), some (.inl v2), some (.inl v3), some (.inl v4), none, none]) (st' := [.inl v1, .inr (.inr (some (29, v0))), .inl v4]) (M' := mem E mu la) rfl ?_
  refine Ev.ial rfl rfl (by decide) h.1 ?_
  have h := h.2
  refine Ev.br (c := (mu 29 v0 v1.toNatClampNeg) ≤ v4) (s1 := (68, [some (.inr (.inr (some (7, v0)))), some (.inl v1), some (.inl v2), some (.inl v3), some (.inl v4), none, none], [], mem E mu la)) (s2 := (15, [some (.inr (.inr (some (7, v0)))), some (.inl v1), some (.inl v2), some (.inl v3), some (.inl v4), none, none], [], mem E mu la)) rfl rfl rfl rfl (fun hc => ?_) (fun hc => ?_)
  · have h := h.1 hc
    dsimp only
    refine Ev.steps 1 (ip' := 69) (ls' := [some (.inr (.inr (some (7, v0)))), some (.inl v1), some (.inl v2), some (.inl v3), some (.inl v4), none, none]) (st' := [.inl v3]) (M' := mem E mu la) rfl ?_
    exact Ev.retZ rfl rfl h.1 ⟨_, _, _, rfl, rfl, h.2⟩
  · have h := h.2 hc
    dsimp only
    refine Ev.steps 1 (ip' := 16) (ls' := [some (.inr (.inr (some (7, v0)))), some (.inl v1), some (.inl v2), some (.inl v3), some (.inl v4), none, none]) (st' := [.inl v3]) (M' := mem E mu la) rfl ?_
    refine Ev.br (c := v3 = 0) (s1 := (68, [some (.inr (.inr (some (7, v0)))), some (.inl v1), some (.inl v2), some (.inl v3), some (.inl v4), none, none], [], mem E mu la)) (s2 := (17, [some (.inr (.inr (some (7, v0)))), some (.inl v1), some (.inl v2), some (.inl v3), some (.inl v4), none, none], [], mem E mu la)) rfl rfl rfl rfl (fun hc => ?_) (fun hc => ?_)
    · have h := h.1 hc
      dsimp only
      refine Ev.steps 1 (ip' := 69) (ls' := [some (.inr (.inr (some (7, v0)))), some (.inl v1), some (.inl v2), some (.inl v3), some (.inl v4), none, none]) (st' := [.inl v3]) (M' := mem E mu la) rfl ?_
      exact Ev.retZ rfl rfl h.1 ⟨_, _, _, rfl, rfl, h.2⟩
    · have h := h.2 hc
      dsimp only
      refine Ev.steps 7 (ip' := 24) (ls' := [some (.inr (.inr (some (7, v0)))), some (.inl v1), some (.inl v2), some (.inl v3), some (.inl v4), none, none]) (st' := [.inl (((40 : Int32) * v1) + v4), .inr (.inr (some (30, v0)))]) (M' := mem E mu la) rfl ?_
      refine Ev.ial rfl rfl (by decide) h.1 ?_
      have h := h.2
      refine Ev.steps 10 (ip' := 35) (ls' := [some (.inr (.inr (some (7, v0)))), some (.inl v1), some (.inl v2), some (.inl v3), some (.inl v4), some (.inl (mu 30 v0 (((40 : Int32) * v1) + v4).toNatClampNeg)), none]) (st' := [.inl ((((40 : Int32) * v1) + v4) + (1 : Int32)), .inr (.inr (some (30, v0)))]) (M' := mem E mu la) rfl ?_
      refine Ev.ial rfl rfl (by decide) h.1 ?_
      have h := h.2
      refine Ev.steps 3 (ip' := 39) (ls' := [some (.inr (.inr (some (7, v0)))), some (.inl v1), some (.inl v2), some (.inl v3), some (.inl v4), some (.inl (mu 30 v0 (((40 : Int32) * v1) + v4).toNatClampNeg)), some (.inl (mu 30 v0 ((((40 : Int32) * v1) + v4) + (1 : Int32)).toNatClampNeg))]) (st' := [.inl (mu 30 v0 (((40 : Int32) * v1) + v4).toNatClampNeg), .inr (.inr (some (7, v0)))]) (M' := mem E mu la) rfl ?_
      refine Ev.ci (J := mi_155) (as := [.inr (.inr (some (7, v0))), .inl (mu 30 v0 (((40 : Int32) * v1) + v4).toNatClampNeg)]) (rest := []) rfl rfl rfl (Nat.le_of_ble_eq_true rfl) h (fun x4 mu5 la6 h => ?_)
      refine Ev.br (c := x4 = 0) (s1 := (54, [some (.inr (.inr (some (7, v0)))), some (.inl v1), some (.inl v2), some (.inl v3), some (.inl v4), some (.inl (mu 30 v0 (((40 : Int32) * v1) + v4).toNatClampNeg)), some (.inl (mu 30 v0 ((((40 : Int32) * v1) + v4) + (1 : Int32)).toNatClampNeg))], [], mem E mu5 la6)) (s2 := (41, [some (.inr (.inr (some (7, v0)))), some (.inl v1), some (.inl v2), some (.inl v3), some (.inl v4), some (.inl (mu 30 v0 (((40 : Int32) * v1) + v4).toNatClampNeg)), some (.inl (mu 30 v0 ((((40 : Int32) * v1) + v4) + (1 : Int32)).toNatClampNeg))], [], mem E mu5 la6)) rfl rfl rfl rfl (fun hc => ?_) (fun hc => ?_)
      · have h := h.1 hc
        dsimp only
        refine Ev.steps 4 (ip' := 58) (ls' := [some (.inr (.inr (some (7, v0)))), some (.inl v1), some (.inl v2), some (.inl (0 : Int32)), some (.inl v4), some (.inl (mu 30 v0 (((40 : Int32) * v1) + v4).toNatClampNeg)), some (.inl (mu 30 v0 ((((40 : Int32) * v1) + v4) + (1 : Int32)).toNatClampNeg))]) (st' := [.inl (0 : Int32), .inl v2]) (M' := mem E mu5 la6) rfl ?_
        refine Ev.br (c := (0 : Int32) = 0) (s1 := (63, [some (.inr (.inr (some (7, v0)))), some (.inl v1), some (.inl v2), some (.inl (0 : Int32)), some (.inl v4), some (.inl (mu 30 v0 (((40 : Int32) * v1) + v4).toNatClampNeg)), some (.inl (mu 30 v0 ((((40 : Int32) * v1) + v4) + (1 : Int32)).toNatClampNeg))], [.inl v2], mem E mu5 la6)) (s2 := (59, [some (.inr (.inr (some (7, v0)))), some (.inl v1), some (.inl v2), some (.inl (0 : Int32)), some (.inl v4), some (.inl (mu 30 v0 (((40 : Int32) * v1) + v4).toNatClampNeg)), some (.inl (mu 30 v0 ((((40 : Int32) * v1) + v4) + (1 : Int32)).toNatClampNeg))], [.inl v2], mem E mu5 la6)) rfl rfl rfl rfl (fun hc => ?_) (fun hc => ?_)
        · have h := h.1 hc
          dsimp only
          refine Ev.steps 5 (ip' := 9) (ls' := [some (.inr (.inr (some (7, v0)))), some (.inl v1), some (.inl (v2 ||| (0 : Int32))), some (.inl (0 : Int32)), some (.inl (v4 + (2 : Int32))), some (.inl (mu 30 v0 (((40 : Int32) * v1) + v4).toNatClampNeg)), some (.inl (mu 30 v0 ((((40 : Int32) * v1) + v4) + (1 : Int32)).toNatClampNeg))]) (st' := []) (M' := mem E mu5 la6) rfl ?_
          refine Ev.drop (ls := [some (.inr (.inr (some (7, v0)))), some (.inl v1), some (.inl (v2 ||| (0 : Int32))), some (.inl (0 : Int32)), some (.inl (v4 + (2 : Int32))), none, none]) ⟨Or.inr rfl, Or.inr rfl, Or.inr rfl, Or.inr rfl, Or.inr rfl, Or.inl rfl, Or.inl rfl, trivial⟩ ?_
          exact h
        · have h := h.2 hc
          dsimp only
          refine Ev.steps 8 (ip' := 9) (ls' := [some (.inr (.inr (some (7, v0)))), some (.inl v1), some (.inl (v2 ||| ((1 : Int32) <<< ((mu 30 v0 (((40 : Int32) * v1) + v4).toNatClampNeg) &&& 31)))), some (.inl (0 : Int32)), some (.inl (v4 + (2 : Int32))), some (.inl (mu 30 v0 (((40 : Int32) * v1) + v4).toNatClampNeg)), some (.inl (mu 30 v0 ((((40 : Int32) * v1) + v4) + (1 : Int32)).toNatClampNeg))]) (st' := []) (M' := mem E mu5 la6) rfl ?_
          refine Ev.drop (ls := [some (.inr (.inr (some (7, v0)))), some (.inl v1), some (.inl (v2 ||| ((1 : Int32) <<< ((mu 30 v0 (((40 : Int32) * v1) + v4).toNatClampNeg) &&& 31)))), some (.inl (0 : Int32)), some (.inl (v4 + (2 : Int32))), none, none]) ⟨Or.inr rfl, Or.inr rfl, Or.inr rfl, Or.inr rfl, Or.inr rfl, Or.inl rfl, Or.inl rfl, trivial⟩ ?_
          exact h
      · have h := h.2 hc
        dsimp only
        refine Ev.steps 2 (ip' := 43) (ls' := [some (.inr (.inr (some (7, v0)))), some (.inl v1), some (.inl v2), some (.inl v3), some (.inl v4), some (.inl (mu 30 v0 (((40 : Int32) * v1) + v4).toNatClampNeg)), some (.inl (mu 30 v0 ((((40 : Int32) * v1) + v4) + (1 : Int32)).toNatClampNeg))]) (st' := [.inl (mu 30 v0 (((40 : Int32) * v1) + v4).toNatClampNeg), .inl v2]) (M' := mem E mu5 la6) rfl ?_
        refine Ev.ci (J := mi_130) (as := [.inl v2, .inl (mu 30 v0 (((40 : Int32) * v1) + v4).toNatClampNeg)]) (rest := []) rfl rfl rfl (Nat.le_of_ble_eq_true rfl) h (fun x7 mu8 la9 h => ?_)
        refine Ev.br (c := ¬ x7 = 0) (s1 := (54, [some (.inr (.inr (some (7, v0)))), some (.inl v1), some (.inl v2), some (.inl v3), some (.inl v4), some (.inl (mu 30 v0 (((40 : Int32) * v1) + v4).toNatClampNeg)), some (.inl (mu 30 v0 ((((40 : Int32) * v1) + v4) + (1 : Int32)).toNatClampNeg))], [], mem E mu8 la9)) (s2 := (45, [some (.inr (.inr (some (7, v0)))), some (.inl v1), some (.inl v2), some (.inl v3), some (.inl v4), some (.inl (mu 30 v0 (((40 : Int32) * v1) + v4).toNatClampNeg)), some (.inl (mu 30 v0 ((((40 : Int32) * v1) + v4) + (1 : Int32)).toNatClampNeg))], [], mem E mu8 la9)) rfl rfl rfl rfl (fun hc => ?_) (fun hc => ?_)
        · have h := h.1 hc
          dsimp only
          refine Ev.steps 4 (ip' := 58) (ls' := [some (.inr (.inr (some (7, v0)))), some (.inl v1), some (.inl v2), some (.inl (0 : Int32)), some (.inl v4), some (.inl (mu 30 v0 (((40 : Int32) * v1) + v4).toNatClampNeg)), some (.inl (mu 30 v0 ((((40 : Int32) * v1) + v4) + (1 : Int32)).toNatClampNeg))]) (st' := [.inl (0 : Int32), .inl v2]) (M' := mem E mu8 la9) rfl ?_
          refine Ev.br (c := (0 : Int32) = 0) (s1 := (63, [some (.inr (.inr (some (7, v0)))), some (.inl v1), some (.inl v2), some (.inl (0 : Int32)), some (.inl v4), some (.inl (mu 30 v0 (((40 : Int32) * v1) + v4).toNatClampNeg)), some (.inl (mu 30 v0 ((((40 : Int32) * v1) + v4) + (1 : Int32)).toNatClampNeg))], [.inl v2], mem E mu8 la9)) (s2 := (59, [some (.inr (.inr (some (7, v0)))), some (.inl v1), some (.inl v2), some (.inl (0 : Int32)), some (.inl v4), some (.inl (mu 30 v0 (((40 : Int32) * v1) + v4).toNatClampNeg)), some (.inl (mu 30 v0 ((((40 : Int32) * v1) + v4) + (1 : Int32)).toNatClampNeg))], [.inl v2], mem E mu8 la9)) rfl rfl rfl rfl (fun hc => ?_) (fun hc => ?_)
          · have h := h.1 hc
            dsimp only
            refine Ev.steps 5 (ip' := 9) (ls' := [some (.inr (.inr (some (7, v0)))), some (.inl v1), some (.inl (v2 ||| (0 : Int32))), some (.inl (0 : Int32)), some (.inl (v4 + (2 : Int32))), some (.inl (mu 30 v0 (((40 : Int32) * v1) + v4).toNatClampNeg)), some (.inl (mu 30 v0 ((((40 : Int32) * v1) + v4) + (1 : Int32)).toNatClampNeg))]) (st' := []) (M' := mem E mu8 la9) rfl ?_
            refine Ev.drop (ls := [some (.inr (.inr (some (7, v0)))), some (.inl v1), some (.inl (v2 ||| (0 : Int32))), some (.inl (0 : Int32)), some (.inl (v4 + (2 : Int32))), none, none]) ⟨Or.inr rfl, Or.inr rfl, Or.inr rfl, Or.inr rfl, Or.inr rfl, Or.inl rfl, Or.inl rfl, trivial⟩ ?_
            exact h
          · have h := h.2 hc
            dsimp only
            refine Ev.steps 8 (ip' := 9) (ls' := [some (.inr (.inr (some (7, v0)))), some (.inl v1), some (.inl (v2 ||| ((1 : Int32) <<< ((mu 30 v0 (((40 : Int32) * v1) + v4).toNatClampNeg) &&& 31)))), some (.inl (0 : Int32)), some (.inl (v4 + (2 : Int32))), some (.inl (mu 30 v0 (((40 : Int32) * v1) + v4).toNatClampNeg)), some (.inl (mu 30 v0 ((((40 : Int32) * v1) + v4) + (1 : Int32)).toNatClampNeg))]) (st' := []) (M' := mem E mu8 la9) rfl ?_
            refine Ev.drop (ls := [some (.inr (.inr (some (7, v0)))), some (.inl v1), some (.inl (v2 ||| ((1 : Int32) <<< ((mu 30 v0 (((40 : Int32) * v1) + v4).toNatClampNeg) &&& 31)))), some (.inl (0 : Int32)), some (.inl (v4 + (2 : Int32))), none, none]) ⟨Or.inr rfl, Or.inr rfl, Or.inr rfl, Or.inr rfl, Or.inr rfl, Or.inl rfl, Or.inl rfl, trivial⟩ ?_
            exact h
        · have h := h.2 hc
          dsimp only
          refine Ev.steps 2 (ip' := 47) (ls' := [some (.inr (.inr (some (7, v0)))), some (.inl v1), some (.inl v2), some (.inl v3), some (.inl v4), some (.inl (mu 30 v0 (((40 : Int32) * v1) + v4).toNatClampNeg)), some (.inl (mu 30 v0 ((((40 : Int32) * v1) + v4) + (1 : Int32)).toNatClampNeg))]) (st' := [.inl (-9 : Int32), .inl (mu 30 v0 ((((40 : Int32) * v1) + v4) + (1 : Int32)).toNatClampNeg)]) (M' := mem E mu8 la9) rfl ?_
          refine Ev.br (c := (mu 30 v0 ((((40 : Int32) * v1) + v4) + (1 : Int32)).toNatClampNeg) = (-9 : Int32)) (s1 := (52, [some (.inr (.inr (some (7, v0)))), some (.inl v1), some (.inl v2), some (.inl v3), some (.inl v4), some (.inl (mu 30 v0 (((40 : Int32) * v1) + v4).toNatClampNeg)), some (.inl (mu 30 v0 ((((40 : Int32) * v1) + v4) + (1 : Int32)).toNatClampNeg))], [], mem E mu8 la9)) (s2 := (48, [some (.inr (.inr (some (7, v0)))), some (.inl v1), some (.inl v2), some (.inl v3), some (.inl v4), some (.inl (mu 30 v0 (((40 : Int32) * v1) + v4).toNatClampNeg)), some (.inl (mu 30 v0 ((((40 : Int32) * v1) + v4) + (1 : Int32)).toNatClampNeg))], [], mem E mu8 la9)) rfl rfl rfl rfl (fun hc => ?_) (fun hc => ?_)
          · have h := h.1 hc
            dsimp only
            refine Ev.steps 5 (ip' := 58) (ls' := [some (.inr (.inr (some (7, v0)))), some (.inl v1), some (.inl v2), some (.inl (1 : Int32)), some (.inl v4), some (.inl (mu 30 v0 (((40 : Int32) * v1) + v4).toNatClampNeg)), some (.inl (mu 30 v0 ((((40 : Int32) * v1) + v4) + (1 : Int32)).toNatClampNeg))]) (st' := [.inl (1 : Int32), .inl v2]) (M' := mem E mu8 la9) rfl ?_
            refine Ev.br (c := (1 : Int32) = 0) (s1 := (63, [some (.inr (.inr (some (7, v0)))), some (.inl v1), some (.inl v2), some (.inl (1 : Int32)), some (.inl v4), some (.inl (mu 30 v0 (((40 : Int32) * v1) + v4).toNatClampNeg)), some (.inl (mu 30 v0 ((((40 : Int32) * v1) + v4) + (1 : Int32)).toNatClampNeg))], [.inl v2], mem E mu8 la9)) (s2 := (59, [some (.inr (.inr (some (7, v0)))), some (.inl v1), some (.inl v2), some (.inl (1 : Int32)), some (.inl v4), some (.inl (mu 30 v0 (((40 : Int32) * v1) + v4).toNatClampNeg)), some (.inl (mu 30 v0 ((((40 : Int32) * v1) + v4) + (1 : Int32)).toNatClampNeg))], [.inl v2], mem E mu8 la9)) rfl rfl rfl rfl (fun hc => ?_) (fun hc => ?_)
            · have h := h.1 hc
              dsimp only
              refine Ev.steps 5 (ip' := 9) (ls' := [some (.inr (.inr (some (7, v0)))), some (.inl v1), some (.inl (v2 ||| (0 : Int32))), some (.inl (1 : Int32)), some (.inl (v4 + (2 : Int32))), some (.inl (mu 30 v0 (((40 : Int32) * v1) + v4).toNatClampNeg)), some (.inl (mu 30 v0 ((((40 : Int32) * v1) + v4) + (1 : Int32)).toNatClampNeg))]) (st' := []) (M' := mem E mu8 la9) rfl ?_
              refine Ev.drop (ls := [some (.inr (.inr (some (7, v0)))), some (.inl v1), some (.inl (v2 ||| (0 : Int32))), some (.inl (1 : Int32)), some (.inl (v4 + (2 : Int32))), none, none]) ⟨Or.inr rfl, Or.inr rfl, Or.inr rfl, Or.inr rfl, Or.inr rfl, Or.inl rfl, Or.inl rfl, trivial⟩ ?_
              exact h
            · have h := h.2 hc
              dsimp only
              refine Ev.steps 8 (ip' := 9) (ls' := [some (.inr (.inr (some (7, v0)))), some (.inl v1), some (.inl (v2 ||| ((1 : Int32) <<< ((mu 30 v0 (((40 : Int32) * v1) + v4).toNatClampNeg) &&& 31)))), some (.inl (1 : Int32)), some (.inl (v4 + (2 : Int32))), some (.inl (mu 30 v0 (((40 : Int32) * v1) + v4).toNatClampNeg)), some (.inl (mu 30 v0 ((((40 : Int32) * v1) + v4) + (1 : Int32)).toNatClampNeg))]) (st' := []) (M' := mem E mu8 la9) rfl ?_
              refine Ev.drop (ls := [some (.inr (.inr (some (7, v0)))), some (.inl v1), some (.inl (v2 ||| ((1 : Int32) <<< ((mu 30 v0 (((40 : Int32) * v1) + v4).toNatClampNeg) &&& 31)))), some (.inl (1 : Int32)), some (.inl (v4 + (2 : Int32))), none, none]) ⟨Or.inr rfl, Or.inr rfl, Or.inr rfl, Or.inr rfl, Or.inr rfl, Or.inl rfl, Or.inl rfl, trivial⟩ ?_
              exact h
          · have h := h.2 hc
            dsimp only
            refine Ev.steps 2 (ip' := 50) (ls' := [some (.inr (.inr (some (7, v0)))), some (.inl v1), some (.inl v2), some (.inl v3), some (.inl v4), some (.inl (mu 30 v0 (((40 : Int32) * v1) + v4).toNatClampNeg)), some (.inl (mu 30 v0 ((((40 : Int32) * v1) + v4) + (1 : Int32)).toNatClampNeg))]) (st' := [.inl (mu 30 v0 ((((40 : Int32) * v1) + v4) + (1 : Int32)).toNatClampNeg), .inr (.inr (some (7, v0)))]) (M' := mem E mu8 la9) rfl ?_
            refine Ev.ci (J := mi_155) (as := [.inr (.inr (some (7, v0))), .inl (mu 30 v0 ((((40 : Int32) * v1) + v4) + (1 : Int32)).toNatClampNeg)]) (rest := []) rfl rfl rfl (Nat.le_of_ble_eq_true rfl) h (fun x10 mu11 la12 h => ?_)
            refine Ev.br (c := x10 = 0) (s1 := (54, [some (.inr (.inr (some (7, v0)))), some (.inl v1), some (.inl v2), some (.inl v3), some (.inl v4), some (.inl (mu 30 v0 (((40 : Int32) * v1) + v4).toNatClampNeg)), some (.inl (mu 30 v0 ((((40 : Int32) * v1) + v4) + (1 : Int32)).toNatClampNeg))], [], mem E mu11 la12)) (s2 := (52, [some (.inr (.inr (some (7, v0)))), some (.inl v1), some (.inl v2), some (.inl v3), some (.inl v4), some (.inl (mu 30 v0 (((40 : Int32) * v1) + v4).toNatClampNeg)), some (.inl (mu 30 v0 ((((40 : Int32) * v1) + v4) + (1 : Int32)).toNatClampNeg))], [], mem E mu11 la12)) rfl rfl rfl rfl (fun hc => ?_) (fun hc => ?_)
            · have h := h.1 hc
              dsimp only
              refine Ev.steps 4 (ip' := 58) (ls' := [some (.inr (.inr (some (7, v0)))), some (.inl v1), some (.inl v2), some (.inl (0 : Int32)), some (.inl v4), some (.inl (mu 30 v0 (((40 : Int32) * v1) + v4).toNatClampNeg)), some (.inl (mu 30 v0 ((((40 : Int32) * v1) + v4) + (1 : Int32)).toNatClampNeg))]) (st' := [.inl (0 : Int32), .inl v2]) (M' := mem E mu11 la12) rfl ?_
              refine Ev.br (c := (0 : Int32) = 0) (s1 := (63, [some (.inr (.inr (some (7, v0)))), some (.inl v1), some (.inl v2), some (.inl (0 : Int32)), some (.inl v4), some (.inl (mu 30 v0 (((40 : Int32) * v1) + v4).toNatClampNeg)), some (.inl (mu 30 v0 ((((40 : Int32) * v1) + v4) + (1 : Int32)).toNatClampNeg))], [.inl v2], mem E mu11 la12)) (s2 := (59, [some (.inr (.inr (some (7, v0)))), some (.inl v1), some (.inl v2), some (.inl (0 : Int32)), some (.inl v4), some (.inl (mu 30 v0 (((40 : Int32) * v1) + v4).toNatClampNeg)), some (.inl (mu 30 v0 ((((40 : Int32) * v1) + v4) + (1 : Int32)).toNatClampNeg))], [.inl v2], mem E mu11 la12)) rfl rfl rfl rfl (fun hc => ?_) (fun hc => ?_)
              · have h := h.1 hc
                dsimp only
                refine Ev.steps 5 (ip' := 9) (ls' := [some (.inr (.inr (some (7, v0)))), some (.inl v1), some (.inl (v2 ||| (0 : Int32))), some (.inl (0 : Int32)), some (.inl (v4 + (2 : Int32))), some (.inl (mu 30 v0 (((40 : Int32) * v1) + v4).toNatClampNeg)), some (.inl (mu 30 v0 ((((40 : Int32) * v1) + v4) + (1 : Int32)).toNatClampNeg))]) (st' := []) (M' := mem E mu11 la12) rfl ?_
                refine Ev.drop (ls := [some (.inr (.inr (some (7, v0)))), some (.inl v1), some (.inl (v2 ||| (0 : Int32))), some (.inl (0 : Int32)), some (.inl (v4 + (2 : Int32))), none, none]) ⟨Or.inr rfl, Or.inr rfl, Or.inr rfl, Or.inr rfl, Or.inr rfl, Or.inl rfl, Or.inl rfl, trivial⟩ ?_
                exact h
              · have h := h.2 hc
                dsimp only
                refine Ev.steps 8 (ip' := 9) (ls' := [some (.inr (.inr (some (7, v0)))), some (.inl v1), some (.inl (v2 ||| ((1 : Int32) <<< ((mu 30 v0 (((40 : Int32) * v1) + v4).toNatClampNeg) &&& 31)))), some (.inl (0 : Int32)), some (.inl (v4 + (2 : Int32))), some (.inl (mu 30 v0 (((40 : Int32) * v1) + v4).toNatClampNeg)), some (.inl (mu 30 v0 ((((40 : Int32) * v1) + v4) + (1 : Int32)).toNatClampNeg))]) (st' := []) (M' := mem E mu11 la12) rfl ?_
                refine Ev.drop (ls := [some (.inr (.inr (some (7, v0)))), some (.inl v1), some (.inl (v2 ||| ((1 : Int32) <<< ((mu 30 v0 (((40 : Int32) * v1) + v4).toNatClampNeg) &&& 31)))), some (.inl (0 : Int32)), some (.inl (v4 + (2 : Int32))), none, none]) ⟨Or.inr rfl, Or.inr rfl, Or.inr rfl, Or.inr rfl, Or.inr rfl, Or.inl rfl, Or.inl rfl, trivial⟩ ?_
                exact h
            · have h := h.2 hc
              dsimp only
              refine Ev.steps 5 (ip' := 58) (ls' := [some (.inr (.inr (some (7, v0)))), some (.inl v1), some (.inl v2), some (.inl (1 : Int32)), some (.inl v4), some (.inl (mu 30 v0 (((40 : Int32) * v1) + v4).toNatClampNeg)), some (.inl (mu 30 v0 ((((40 : Int32) * v1) + v4) + (1 : Int32)).toNatClampNeg))]) (st' := [.inl (1 : Int32), .inl v2]) (M' := mem E mu11 la12) rfl ?_
              refine Ev.br (c := (1 : Int32) = 0) (s1 := (63, [some (.inr (.inr (some (7, v0)))), some (.inl v1), some (.inl v2), some (.inl (1 : Int32)), some (.inl v4), some (.inl (mu 30 v0 (((40 : Int32) * v1) + v4).toNatClampNeg)), some (.inl (mu 30 v0 ((((40 : Int32) * v1) + v4) + (1 : Int32)).toNatClampNeg))], [.inl v2], mem E mu11 la12)) (s2 := (59, [some (.inr (.inr (some (7, v0)))), some (.inl v1), some (.inl v2), some (.inl (1 : Int32)), some (.inl v4), some (.inl (mu 30 v0 (((40 : Int32) * v1) + v4).toNatClampNeg)), some (.inl (mu 30 v0 ((((40 : Int32) * v1) + v4) + (1 : Int32)).toNatClampNeg))], [.inl v2], mem E mu11 la12)) rfl rfl rfl rfl (fun hc => ?_) (fun hc => ?_)
              · have h := h.1 hc
                dsimp only
                refine Ev.steps 5 (ip' := 9) (ls' := [some (.inr (.inr (some (7, v0)))), some (.inl v1), some (.inl (v2 ||| (0 : Int32))), some (.inl (1 : Int32)), some (.inl (v4 + (2 : Int32))), some (.inl (mu 30 v0 (((40 : Int32) * v1) + v4).toNatClampNeg)), some (.inl (mu 30 v0 ((((40 : Int32) * v1) + v4) + (1 : Int32)).toNatClampNeg))]) (st' := []) (M' := mem E mu11 la12) rfl ?_
                refine Ev.drop (ls := [some (.inr (.inr (some (7, v0)))), some (.inl v1), some (.inl (v2 ||| (0 : Int32))), some (.inl (1 : Int32)), some (.inl (v4 + (2 : Int32))), none, none]) ⟨Or.inr rfl, Or.inr rfl, Or.inr rfl, Or.inr rfl, Or.inr rfl, Or.inl rfl, Or.inl rfl, trivial⟩ ?_
                exact h
              · have h := h.2 hc
                dsimp only
                refine Ev.steps 8 (ip' := 9) (ls' := [some (.inr (.inr (some (7, v0)))), some (.inl v1), some (.inl (v2 ||| ((1 : Int32) <<< ((mu 30 v0 (((40 : Int32) * v1) + v4).toNatClampNeg) &&& 31)))), some (.inl (1 : Int32)), some (.inl (v4 + (2 : Int32))), some (.inl (mu 30 v0 (((40 : Int32) * v1) + v4).toNatClampNeg)), some (.inl (mu 30 v0 ((((40 : Int32) * v1) + v4) + (1 : Int32)).toNatClampNeg))]) (st' := []) (M' := mem E mu11 la12) rfl ?_
                refine Ev.drop (ls := [some (.inr (.inr (some (7, v0)))), some (.inl v1), some (.inl (v2 ||| ((1 : Int32) <<< ((mu 30 v0 (((40 : Int32) * v1) + v4).toNatClampNeg) &&& 31)))), some (.inl (1 : Int32)), some (.inl (v4 + (2 : Int32))), none, none]) ⟨Or.inr rfl, Or.inr rfl, Or.inr rfl, Or.inr rfl, Or.inr rfl, Or.inl rfl, Or.inl rfl, trivial⟩ ?_
                exact h
set_option maxRecDepth 100000 in
/-- AnnCupsModel.ears(I)I -/
theorem vc_X7_ears {E : mEv} {d : Nat} {c : Nat} (a0 : Int32) {mu : fMu} {la : fLa} {Q : Int32 → fMu → fLa → Prop} (h : FnI E d mi_135 [.inl a0] mu la (fun x1 mu2 la3 => (¬ x1 = 0 → ((¬ (mu2 7 c 4) = 0 → (vp_in a0 6 ∧ ((0 ≤ (mu2 29 c a0.toNatClampNeg) → (vp_in a0 6 ∧ ((¬ (2 : Int32) = 0) ∧ ((((mu2 29 c a0.toNatClampNeg) - (mu2 29 c a0.toNatClampNeg) / (2 : Int32) * (2 : Int32)) = (1 : Int32) → (FnI E d mi_132 [.inr (.inr (some (7, c))), .inl (5 : Int32)] mu2 la3 (fun x4 mu5 la6 => Q x4 mu5 la6))) ∧ (¬ (((mu2 29 c a0.toNatClampNeg) - (mu2 29 c a0.toNatClampNeg) / (2 : Int32) * (2 : Int32)) = (1 : Int32)) → (vp_in a0 6 ∧ (((mu2 29 c a0.toNatClampNeg) ≤ (12 : Int32) → (FnI E d mi_203 [.inr (.inr (some (7, c))), .inl a0] mu2 la3 (fun x7 mu8 la9 => (¬ x7 = 0 → (Ev E (d + 1) mi_204 49 [some (.inr (.inr (some (7, c)))), some (.inl a0), some (.inl (0 : Int32)), some (.inl (0 : Int32)), none, none, none, none] [] (mem E mu8 la9) (qI E Q))) ∧ (¬ (¬ x7 = 0) → (FnI E d mi_132 [.inr (.inr (some (7, c))), .inl (3 : Int32)] mu8 la9 (fun x10 mu11 la12 => Q x10 mu11 la12)))))) ∧ (¬ ((mu2 29 c a0.toNatClampNeg) ≤ (12 : Int32)) → (FnI E d mi_132 [.inr (.inr (some (7, c))), .inl (5 : Int32)] mu2 la3 (fun x13 mu14 la15 => Q x13 mu14 la15)))))))))) ∧ (¬ (0 ≤ (mu2 29 c a0.toNatClampNeg)) → (FnI E d mi_132 [.inr (.inr (some (7, c))), .inl (1 : Int32)] mu2 la3 (fun x16 mu17 la18 => Q x16 mu17 la18)))))) ∧ (¬ (¬ (mu2 7 c 4) = 0) → (Q (-4 : Int32) mu2 la3)))) ∧ (¬ (¬ x1 = 0) → (Q (-1 : Int32) mu2 la3)))) : FnI E (d + 1) mi_204 [.inr (.inr (some (7, c))), .inl a0] mu la Q := by
  unfold FnI
  show Ev E (d + 1) mi_204 0 [some (.inr (.inr (some (7, c)))), some (.inl a0), none, none, none, none, none, none] [] (mem E mu la) (qI E Q)
  refine Ev.steps 1 (ip' := 1) (ls' := [some (.inr (.inr (some (7, c)))), some (.inl a0), none, none, none, none, none, none]) (st' := [.inl a0]) (M' := mem E mu la) rfl ?_
  refine Ev.ci (J := mi_135) (as := [.inl a0]) (rest := []) rfl rfl rfl (Nat.le_of_ble_eq_true rfl) h (fun x1 mu2 la3 h => ?_)
  refine Ev.br (c := ¬ x1 = 0) (s1 := (5, [some (.inr (.inr (some (7, c)))), some (.inl a0), none, none, none, none, none, none], [], mem E mu2 la3)) (s2 := (3, [some (.inr (.inr (some (7, c)))), some (.inl a0), none, none, none, none, none, none], [], mem E mu2 la3)) rfl rfl rfl rfl (fun hc => ?_) (fun hc => ?_)
  · have h := h.1 hc
    dsimp only
    refine Ev.steps 2 (ip' := 7) (ls' := [some (.inr (.inr (some (7, c)))), some (.inl a0), none, none, none, none, none, none]) (st' := [.inl (mu2 7 c 4)]) (M' := mem E mu2 la3) rfl ?_
    refine Ev.br (c := ¬ (mu2 7 c 4) = 0) (s1 := (10, [some (.inr (.inr (some (7, c)))), some (.inl a0), none, none, none, none, none, none], [], mem E mu2 la3)) (s2 := (8, [some (.inr (.inr (some (7, c)))), some (.inl a0), none, none, none, none, none, none], [], mem E mu2 la3)) rfl rfl rfl rfl (fun hc => ?_) (fun hc => ?_)
    · have h := h.1 hc
      dsimp only
      refine Ev.steps 3 (ip' := 13) (ls' := [some (.inr (.inr (some (7, c)))), some (.inl a0), none, none, none, none, none, none]) (st' := [.inl a0, .inr (.inr (some (29, c)))]) (M' := mem E mu2 la3) rfl ?_
      refine Ev.ial rfl rfl (by decide) h.1 ?_
      have h := h.2
      refine Ev.br (c := 0 ≤ (mu2 29 c a0.toNatClampNeg)) (s1 := (19, [some (.inr (.inr (some (7, c)))), some (.inl a0), none, none, none, none, none, none], [], mem E mu2 la3)) (s2 := (15, [some (.inr (.inr (some (7, c)))), some (.inl a0), none, none, none, none, none, none], [], mem E mu2 la3)) rfl rfl rfl rfl (fun hc => ?_) (fun hc => ?_)
      · have h := h.1 hc
        dsimp only
        refine Ev.steps 3 (ip' := 22) (ls' := [some (.inr (.inr (some (7, c)))), some (.inl a0), none, none, none, none, none, none]) (st' := [.inl a0, .inr (.inr (some (29, c)))]) (M' := mem E mu2 la3) rfl ?_
        refine Ev.ial rfl rfl (by decide) h.1 ?_
        have h := h.2
        refine Ev.steps 1 (ip' := 24) (ls' := [some (.inr (.inr (some (7, c)))), some (.inl a0), none, none, none, none, none, none]) (st' := [.inl (2 : Int32), .inl (mu2 29 c a0.toNatClampNeg)]) (M' := mem E mu2 la3) rfl ?_
        refine Ev.want (c := (2 : Int32) = 0) (s2 := (25, [some (.inr (.inr (some (7, c)))), some (.inl a0), none, none, none, none, none, none], [.inl ((mu2 29 c a0.toNatClampNeg) - (mu2 29 c a0.toNatClampNeg) / (2 : Int32) * (2 : Int32))], mem E mu2 la3)) rfl rfl rfl rfl h.1 ?_
        have h := h.2
        refine Ev.steps 1 (ip' := 26) (ls' := [some (.inr (.inr (some (7, c)))), some (.inl a0), none, none, none, none, none, none]) (st' := [.inl (1 : Int32), .inl ((mu2 29 c a0.toNatClampNeg) - (mu2 29 c a0.toNatClampNeg) / (2 : Int32) * (2 : Int32))]) (M' := mem E mu2 la3) rfl ?_
        refine Ev.br (c := ((mu2 29 c a0.toNatClampNeg) - (mu2 29 c a0.toNatClampNeg) / (2 : Int32) * (2 : Int32)) = (1 : Int32)) (s1 := (33, [some (.inr (.inr (some (7, c)))), some (.inl a0), none, none, none, none, none, none], [], mem E mu2 la3)) (s2 := (27, [some (.inr (.inr (some (7, c)))), some (.inl a0), none, none, none, none, none, none], [], mem E mu2 la3)) rfl rfl rfl rfl (fun hc => ?_) (fun hc => ?_)
        · have h := h.1 hc
          dsimp only
          refine Ev.steps 2 (ip' := 35) (ls' := [some (.inr (.inr (some (7, c)))), some (.inl a0), none, none, none, none, none, none]) (st' := [.inl (5 : Int32), .inr (.inr (some (7, c)))]) (M' := mem E mu2 la3) rfl ?_
          refine Ev.ci (J := mi_132) (as := [.inr (.inr (some (7, c))), .inl (5 : Int32)]) (rest := []) rfl rfl rfl (Nat.le_of_ble_eq_true rfl) h (fun x4 mu5 la6 h => ?_)
          exact Ev.ret rfl rfl ⟨_, _, _, rfl, rfl, h⟩
        · have h := h.2 hc
          dsimp only
          refine Ev.steps 3 (ip' := 30) (ls' := [some (.inr (.inr (some (7, c)))), some (.inl a0), none, none, none, none, none, none]) (st' := [.inl a0, .inr (.inr (some (29, c)))]) (M' := mem E mu2 la3) rfl ?_
          refine Ev.ial rfl rfl (by decide) h.1 ?_
          have h := h.2
          refine Ev.steps 1 (ip' := 32) (ls' := [some (.inr (.inr (some (7, c)))), some (.inl a0), none, none, none, none, none, none]) (st' := [.inl (12 : Int32), .inl (mu2 29 c a0.toNatClampNeg)]) (M' := mem E mu2 la3) rfl ?_
          refine Ev.br (c := (mu2 29 c a0.toNatClampNeg) ≤ (12 : Int32)) (s1 := (37, [some (.inr (.inr (some (7, c)))), some (.inl a0), none, none, none, none, none, none], [], mem E mu2 la3)) (s2 := (33, [some (.inr (.inr (some (7, c)))), some (.inl a0), none, none, none, none, none, none], [], mem E mu2 la3)) rfl rfl rfl rfl (fun hc => ?_) (fun hc => ?_)
          · have h := h.1 hc
            dsimp only
            refine Ev.steps 2 (ip' := 39) (ls' := [some (.inr (.inr (some (7, c)))), some (.inl a0), none, none, none, none, none, none]) (st' := [.inl a0, .inr (.inr (some (7, c)))]) (M' := mem E mu2 la3) rfl ?_
            refine Ev.ci (J := mi_203) (as := [.inr (.inr (some (7, c))), .inl a0]) (rest := []) rfl rfl rfl (Nat.le_of_ble_eq_true rfl) h (fun x7 mu8 la9 h => ?_)
            refine Ev.br (c := ¬ x7 = 0) (s1 := (45, [some (.inr (.inr (some (7, c)))), some (.inl a0), none, none, none, none, none, none], [], mem E mu8 la9)) (s2 := (41, [some (.inr (.inr (some (7, c)))), some (.inl a0), none, none, none, none, none, none], [], mem E mu8 la9)) rfl rfl rfl rfl (fun hc => ?_) (fun hc => ?_)
            · have h := h.1 hc
              dsimp only
              refine Ev.steps 4 (ip' := 49) (ls' := [some (.inr (.inr (some (7, c)))), some (.inl a0), some (.inl (0 : Int32)), some (.inl (0 : Int32)), none, none, none, none]) (st' := []) (M' := mem E mu8 la9) rfl ?_
              exact h
            · have h := h.2 hc
              dsimp only
              refine Ev.steps 2 (ip' := 43) (ls' := [some (.inr (.inr (some (7, c)))), some (.inl a0), none, none, none, none, none, none]) (st' := [.inl (3 : Int32), .inr (.inr (some (7, c)))]) (M' := mem E mu8 la9) rfl ?_
              refine Ev.ci (J := mi_132) (as := [.inr (.inr (some (7, c))), .inl (3 : Int32)]) (rest := []) rfl rfl rfl (Nat.le_of_ble_eq_true rfl) h (fun x10 mu11 la12 h => ?_)
              exact Ev.ret rfl rfl ⟨_, _, _, rfl, rfl, h⟩
          · have h := h.2 hc
            dsimp only
            refine Ev.steps 2 (ip' := 35) (ls' := [some (.inr (.inr (some (7, c)))), some (.inl a0), none, none, none, none, none, none]) (st' := [.inl (5 : Int32), .inr (.inr (some (7, c)))]) (M' := mem E mu2 la3) rfl ?_
            refine Ev.ci (J := mi_132) (as := [.inr (.inr (some (7, c))), .inl (5 : Int32)]) (rest := []) rfl rfl rfl (Nat.le_of_ble_eq_true rfl) h (fun x13 mu14 la15 h => ?_)
            exact Ev.ret rfl rfl ⟨_, _, _, rfl, rfl, h⟩
      · have h := h.2 hc
        dsimp only
        refine Ev.steps 2 (ip' := 17) (ls' := [some (.inr (.inr (some (7, c)))), some (.inl a0), none, none, none, none, none, none]) (st' := [.inl (1 : Int32), .inr (.inr (some (7, c)))]) (M' := mem E mu2 la3) rfl ?_
        refine Ev.ci (J := mi_132) (as := [.inr (.inr (some (7, c))), .inl (1 : Int32)]) (rest := []) rfl rfl rfl (Nat.le_of_ble_eq_true rfl) h (fun x16 mu17 la18 h => ?_)
        exact Ev.ret rfl rfl ⟨_, _, _, rfl, rfl, h⟩
    · have h := h.2 hc
      dsimp only
      refine Ev.steps 1 (ip' := 9) (ls' := [some (.inr (.inr (some (7, c)))), some (.inl a0), none, none, none, none, none, none]) (st' := [.inl (-4 : Int32)]) (M' := mem E mu2 la3) rfl ?_
      exact Ev.ret rfl rfl ⟨_, _, _, rfl, rfl, h⟩
  · have h := h.2 hc
    dsimp only
    refine Ev.steps 1 (ip' := 4) (ls' := [some (.inr (.inr (some (7, c)))), some (.inl a0), none, none, none, none, none, none]) (st' := [.inl (-1 : Int32)]) (M' := mem E mu2 la3) rfl ?_
    exact Ev.ret rfl rfl ⟨_, _, _, rfl, rfl, h⟩
set_option maxRecDepth 100000 in
theorem vc_X7_ears_49 {E : mEv} {d : Nat}  (v0 : Nat) (v1 : Int32) (v2 : Int32) (v3 : Int32) {mu : fMu} {la : fLa} {Q : Int32 → fMu → fLa → Prop} (h : ((10 : Int32) ≤ v3 → (Q v2 mu la)) ∧ (¬ ((10 : Int32) ≤ v3) → (FnV E d mi_186 [.inr (.inr (some (7, v0)))] mu la (fun mu20 la21 => Ev E (d + 1) mi_204 58 [some (.inr (.inr (some (7, v0)))), some (.inl v1), some (.inl v2), some (.inl v3), some (.inl (1 : Int32)), some (.inl (0 : Int32)), none, none] [] (mem E mu20 la21) (qI E Q))))) : Ev E (d + 1) mi_204 49 [some (.inr (.inr (some (7, v0)))), some (.inl v1), some (.inl v2), some (.inl v3), none, none, none, none] [] (mem E mu la) (qI E Q) := by
  refine Ev.steps 2 (ip' := 51) (ls' := [some (.inr (.inr (some (7, v0)))), some (.inl v1), some (.inl v2), some (.inl v3), none, none, none, none]) (st' := [.inl (10 : Int32), .inl v3]) (M' := mem E mu la) rfl ?_
  refine Ev.br (c := (10 : Int32) ≤ v3) (s1 := (128, [some (.inr (.inr (some (7, v0)))), some (.inl v1), some (.inl v2), some (.inl v3), none, none, none, none], [], mem E mu la)) (s2 := (52, [some (.inr (.inr (some (7, v0)))), some (.inl v1), some (.inl v2), some (.inl v3), none, none, none, none], [], mem E mu la)) rfl rfl rfl rfl (fun hc => ?_) (fun hc => ?_)
  · have h := h.1 hc
    dsimp only
    refine Ev.steps 1 (ip' := 129) (ls' := [some (.inr (.inr (some (7, v0)))), some (.inl v1), some (.inl v2), some (.inl v3), none, none, none, none]) (st' := [.inl v2]) (M' := mem E mu la) rfl ?_
    exact Ev.ret rfl rfl ⟨_, _, _, rfl, rfl, h⟩
  · have h := h.2 hc
    dsimp only
    refine Ev.steps 1 (ip' := 53) (ls' := [some (.inr (.inr (some (7, v0)))), some (.inl v1), some (.inl v2), some (.inl v3), none, none, none, none]) (st' := [.inr (.inr (some (7, v0)))]) (M' := mem E mu la) rfl ?_
    refine Ev.cv (J := mi_186) (as := [.inr (.inr (some (7, v0)))]) (rest := []) rfl rfl rfl (Nat.le_of_ble_eq_true rfl) h (fun mu20 la21 h => ?_)
    refine Ev.steps 4 (ip' := 58) (ls' := [some (.inr (.inr (some (7, v0)))), some (.inl v1), some (.inl v2), some (.inl v3), some (.inl (1 : Int32)), some (.inl (0 : Int32)), none, none]) (st' := []) (M' := mem E mu20 la21) rfl ?_
    exact h
set_option maxRecDepth 100000 in
theorem vc_X7_ears_58 {E : mEv} {d : Nat}  (v0 : Nat) (v1 : Int32) (v2 : Int32) (v3 : Int32) (v4 : Int32) (v5 : Int32) {mu : fMu} {la : fLa} {Q : Int32 → fMu → fLa → Prop} (h : vp_in v1 6 ∧ (((mu 29 v0 v1.toNatClampNeg) ≤ v5 → ((v4 = 0 → (Ev E (d + 1) mi_204 49 [some (.inr (.inr (some (7, v0)))), some (.inl v1), some (.inl (v2 ||| (0 : Int32))), some (.inl (v3 + (1 : Int32))), none, none, none, none] [] (mem E mu la) (qI E Q))) ∧ (¬ (v4 = 0) → (Ev E (d + 1) mi_204 49 [some (.inr (.inr (some (7, v0)))), some (.inl v1), some (.inl (v2 ||| ((1 : Int32) <<< (v3 &&& 31)))), some (.inl (v3 + (1 : Int32))), none, none, none, none] [] (mem E mu la) (qI E Q))))) ∧ (¬ ((mu 29 v0 v1.toNatClampNeg) ≤ v5) → (vp_in (((40 : Int32) * v1) + v5) 240 ∧ (FnV E d mi_161 [.inr (.inr (some (7, v0))), .inr (.inr (some (39, v0))), .inl (mu 30 v0 (((40 : Int32) * v1) + v5).toNatClampNeg), .inl v3] mu la (fun mu23 la24 => vp_in ((0 : Int32) + (mu 30 v0 (((40 : Int32) * v1) + v5).toNatClampNeg)) 9 ∧ ((¬ (mu23 39 v0 ((0 : Int32) + (mu 30 v0 (((40 : Int32) * v1) + v5).toNatClampNeg)).toNatClampNeg) = (6 : Int32) → (vp_in ((0 : Int32) + (mu 30 v0 (((40 : Int32) * v1) + v5).toNatClampNeg)) 9 ∧ ((v4 = 0 → (Ev E (d + 1) mi_204 58 [some (.inr (.inr (some (7, v0)))), some (.inl v1), some (.inl v2), some (.inl v3), some (.inl (0 : Int32)), some (.inl (v5 + (2 : Int32))), none, none] [] (mem E mu23 la24) (qI E Q))) ∧ (¬ (v4 = 0) → (vp_in ((((40 : Int32) * v1) + v5) + (1 : Int32)) 240 ∧ ((¬ (mu23 39 v0 ((0 : Int32) + (mu 30 v0 (((40 : Int32) * v1) + v5).toNatClampNeg)).toNatClampNeg) = (mu23 30 v0 ((((40 : Int32) * v1) + v5) + (1 : Int32)).toNatClampNeg) → (Ev E (d + 1) mi_204 58 [some (.inr (.inr (some (7, v0)))), some (.inl v1), some (.inl v2), some (.inl v3), some (.inl (0 : Int32)), some (.inl (v5 + (2 : Int32))), none, none] [] (mem E mu23 la24) (qI E Q))) ∧ (¬ (¬ (mu23 39 v0 ((0 : Int32) + (mu 30 v0 (((40 : Int32) * v1) + v5).toNatClampNeg)).toNatClampNeg) = (mu23 30 v0 ((((40 : Int32) * v1) + v5) + (1 : Int32)).toNatClampNeg)) → (Ev E (d + 1) mi_204 58 [some (.inr (.inr (some (7, v0)))), some (.inl v1), some (.inl v2), some (.inl v3), some (.inl (1 : Int32)), some (.inl (v5 + (2 : Int32))), none, none] [] (mem E mu23 la24) (qI E Q))))))))) ∧ (¬ (¬ (mu23 39 v0 ((0 : Int32) + (mu 30 v0 (((40 : Int32) * v1) + v5).toNatClampNeg)).toNatClampNeg) = (6 : Int32)) → ((v4 = 0 → (Ev E (d + 1) mi_204 58 [some (.inr (.inr (some (7, v0)))), some (.inl v1), some (.inl v2), some (.inl v3), some (.inl (0 : Int32)), some (.inl (v5 + (2 : Int32))), none, none] [] (mem E mu23 la24) (qI E Q))) ∧ (¬ (v4 = 0) → (vp_in ((((40 : Int32) * v1) + v5) + (1 : Int32)) 240 ∧ ((¬ (-9 : Int32) = (mu23 30 v0 ((((40 : Int32) * v1) + v5) + (1 : Int32)).toNatClampNeg) → (Ev E (d + 1) mi_204 58 [some (.inr (.inr (some (7, v0)))), some (.inl v1), some (.inl v2), some (.inl v3), some (.inl (0 : Int32)), some (.inl (v5 + (2 : Int32))), none, none] [] (mem E mu23 la24) (qI E Q))) ∧ (¬ (¬ (-9 : Int32) = (mu23 30 v0 ((((40 : Int32) * v1) + v5) + (1 : Int32)).toNatClampNeg)) → (Ev E (d + 1) mi_204 58 [some (.inr (.inr (some (7, v0)))), some (.inl v1), some (.inl v2), some (.inl v3), some (.inl (1 : Int32)), some (.inl (v5 + (2 : Int32))), none, none] [] (mem E mu23 la24) (qI E Q))))))))))))))) : Ev E (d + 1) mi_204 58 [some (.inr (.inr (some (7, v0)))), some (.inl v1), some (.inl v2), some (.inl v3), some (.inl v4), some (.inl v5), none, none] [] (mem E mu la) (qI E Q) := by
  refine Ev.steps 4 (ip' := 62) (ls' := [some (.inr (.inr (some (7, v0)))), some (.inl v1), some (.inl v2), some (.inl v3), some (.inl v4), some (.inl v5), none, none]) (st' := [.inl v1, .inr (.inr (some (29, v0))), .inl v5]) (M' := mem E mu la) rfl ?_
  refine Ev.ial rfl rfl (by decide) h.1 ?_
  have h := h.2
  refine Ev.br (c := (mu 29 v0 v1.toNatClampNeg) ≤ v5) (s1 := (116, [some (.inr (.inr (some (7, v0)))), some (.inl v1), some (.inl v2), some (.inl v3), some (.inl v4), some (.inl v5), none, none], [], mem E mu la)) (s2 := (64, [some (.inr (.inr (some (7, v0)))), some (.inl v1), some (.inl v2), some (.inl v3), some (.inl v4), some (.inl v5), none, none], [], mem E mu la)) rfl rfl rfl rfl (fun hc => ?_) (fun hc => ?_)
  · have h := h.1 hc
    dsimp only
    refine Ev.steps 2 (ip' := 118) (ls' := [some (.inr (.inr (some (7, v0)))), some (.inl v1), some (.inl v2), some (.inl v3), some (.inl v4), some (.inl v5), none, none]) (st' := [.inl v4, .inl v2]) (M' := mem E mu la) rfl ?_
    refine Ev.br (c := v4 = 0) (s1 := (123, [some (.inr (.inr (some (7, v0)))), some (.inl v1), some (.inl v2), some (.inl v3), some (.inl v4), some (.inl v5), none, none], [.inl v2], mem E mu la)) (s2 := (119, [some (.inr (.inr (some (7, v0)))), some (.inl v1), some (.inl v2), some (.inl v3), some (.inl v4), some (.inl v5), none, none], [.inl v2], mem E mu la)) rfl rfl rfl rfl (fun hc => ?_) (fun hc => ?_)
    · have h := h.1 hc
      dsimp only
      refine Ev.steps 5 (ip' := 49) (ls' := [some (.inr (.inr (some (7, v0)))), some (.inl v1), some (.inl (v2 ||| (0 : Int32))), some (.inl (v3 + (1 : Int32))), some (.inl v4), some (.inl v5), none, none]) (st' := []) (M' := mem E mu la) rfl ?_
      refine Ev.drop (ls := [some (.inr (.inr (some (7, v0)))), some (.inl v1), some (.inl (v2 ||| (0 : Int32))), some (.inl (v3 + (1 : Int32))), none, none, none, none]) ⟨Or.inr rfl, Or.inr rfl, Or.inr rfl, Or.inr rfl, Or.inl rfl, Or.inl rfl, Or.inr rfl, Or.inr rfl, trivial⟩ ?_
      exact h
    · have h := h.2 hc
      dsimp only
      refine Ev.steps 8 (ip' := 49) (ls' := [some (.inr (.inr (some (7, v0)))), some (.inl v1), some (.inl (v2 ||| ((1 : Int32) <<< (v3 &&& 31)))), some (.inl (v3 + (1 : Int32))), some (.inl v4), some (.inl v5), none, none]) (st' := []) (M' := mem E mu la) rfl ?_
      refine Ev.drop (ls := [some (.inr (.inr (some (7, v0)))), some (.inl v1), some (.inl (v2 ||| ((1 : Int32) <<< (v3 &&& 31)))), some (.inl (v3 + (1 : Int32))), none, none, none, none]) ⟨Or.inr rfl, Or.inr rfl, Or.inr rfl, Or.inr rfl, Or.inl rfl, Or.inl rfl, Or.inr rfl, Or.inr rfl, trivial⟩ ?_
      exact h
  · have h := h.2 hc
    dsimp only
    refine Ev.steps 7 (ip' := 71) (ls' := [some (.inr (.inr (some (7, v0)))), some (.inl v1), some (.inl v2), some (.inl v3), some (.inl v4), some (.inl v5), none, none]) (st' := [.inl (((40 : Int32) * v1) + v5), .inr (.inr (some (30, v0)))]) (M' := mem E mu la) rfl ?_
    refine Ev.ial rfl rfl (by decide) h.1 ?_
    have h := h.2
    refine Ev.steps 6 (ip' := 78) (ls' := [some (.inr (.inr (some (7, v0)))), some (.inl v1), some (.inl v2), some (.inl v3), some (.inl v4), some (.inl v5), some (.inl (mu 30 v0 (((40 : Int32) * v1) + v5).toNatClampNeg)), none]) (st' := [.inl v3, .inl (mu 30 v0 (((40 : Int32) * v1) + v5).toNatClampNeg), .inr (.inr (some (39, v0))), .inr (.inr (some (7, v0)))]) (M' := mem E mu la) rfl ?_
    refine Ev.cv (J := mi_161) (as := [.inr (.inr (some (7, v0))), .inr (.inr (some (39, v0))), .inl (mu 30 v0 (((40 : Int32) * v1) + v5).toNatClampNeg), .inl v3]) (rest := []) rfl rfl rfl (Nat.le_of_ble_eq_true rfl) h (fun mu23 la24 h => ?_)
    refine Ev.steps 5 (ip' := 84) (ls' := [some (.inr (.inr (some (7, v0)))), some (.inl v1), some (.inl v2), some (.inl v3), some (.inl v4), some (.inl v5), some (.inl (mu 30 v0 (((40 : Int32) * v1) + v5).toNatClampNeg)), none]) (st' := [.inl ((0 : Int32) + (mu 30 v0 (((40 : Int32) * v1) + v5).toNatClampNeg)), .inr (.inr (some (39, v0)))]) (M' := mem E mu23 la24) rfl ?_
    refine Ev.ial rfl rfl (by decide) h.1 ?_
    have h := h.2
    refine Ev.steps 1 (ip' := 86) (ls' := [some (.inr (.inr (some (7, v0)))), some (.inl v1), some (.inl v2), some (.inl v3), some (.inl v4), some (.inl v5), some (.inl (mu 30 v0 (((40 : Int32) * v1) + v5).toNatClampNeg)), none]) (st' := [.inl (6 : Int32), .inl (mu23 39 v0 ((0 : Int32) + (mu 30 v0 (((40 : Int32) * v1) + v5).toNatClampNeg)).toNatClampNeg)]) (M' := mem E mu23 la24) rfl ?_
    refine Ev.br (c := ¬ (mu23 39 v0 ((0 : Int32) + (mu 30 v0 (((40 : Int32) * v1) + v5).toNatClampNeg)).toNatClampNeg) = (6 : Int32)) (s1 := (89, [some (.inr (.inr (some (7, v0)))), some (.inl v1), some (.inl v2), some (.inl v3), some (.inl v4), some (.inl v5), some (.inl (mu 30 v0 (((40 : Int32) * v1) + v5).toNatClampNeg)), none], [], mem E mu23 la24)) (s2 := (87, [some (.inr (.inr (some (7, v0)))), some (.inl v1), some (.inl v2), some (.inl v3), some (.inl v4), some (.inl v5), some (.inl (mu 30 v0 (((40 : Int32) * v1) + v5).toNatClampNeg)), none], [], mem E mu23 la24)) rfl rfl rfl rfl (fun hc => ?_) (fun hc => ?_)
    · have h := h.1 hc
      dsimp only
      refine Ev.steps 5 (ip' := 94) (ls' := [some (.inr (.inr (some (7, v0)))), some (.inl v1), some (.inl v2), some (.inl v3), some (.inl v4), some (.inl v5), some (.inl (mu 30 v0 (((40 : Int32) * v1) + v5).toNatClampNeg)), none]) (st' := [.inl ((0 : Int32) + (mu 30 v0 (((40 : Int32) * v1) + v5).toNatClampNeg)), .inr (.inr (some (39, v0)))]) (M' := mem E mu23 la24) rfl ?_
      refine Ev.ial rfl rfl (by decide) h.1 ?_
      have h := h.2
      refine Ev.steps 2 (ip' := 97) (ls' := [some (.inr (.inr (some (7, v0)))), some (.inl v1), some (.inl v2), some (.inl v3), some (.inl v4), some (.inl v5), some (.inl (mu 30 v0 (((40 : Int32) * v1) + v5).toNatClampNeg)), some (.inl (mu23 39 v0 ((0 : Int32) + (mu 30 v0 (((40 : Int32) * v1) + v5).toNatClampNeg)).toNatClampNeg))]) (st' := [.inl v4]) (M' := mem E mu23 la24) rfl ?_
      refine Ev.br (c := v4 = 0) (s1 := (112, [some (.inr (.inr (some (7, v0)))), some (.inl v1), some (.inl v2), some (.inl v3), some (.inl v4), some (.inl v5), some (.inl (mu 30 v0 (((40 : Int32) * v1) + v5).toNatClampNeg)), some (.inl (mu23 39 v0 ((0 : Int32) + (mu 30 v0 (((40 : Int32) * v1) + v5).toNatClampNeg)).toNatClampNeg))], [], mem E mu23 la24)) (s2 := (98, [some (.inr (.inr (some (7, v0)))), some (.inl v1), some (.inl v2), some (.inl v3), some (.inl v4), some (.inl v5), some (.inl (mu 30 v0 (((40 : Int32) * v1) + v5).toNatClampNeg)), some (.inl (mu23 39 v0 ((0 : Int32) + (mu 30 v0 (((40 : Int32) * v1) + v5).toNatClampNeg)).toNatClampNeg))], [], mem E mu23 la24)) rfl rfl rfl rfl (fun hc => ?_) (fun hc => ?_)
      · have h := h.1 hc
        dsimp only
        refine Ev.steps 4 (ip' := 58) (ls' := [some (.inr (.inr (some (7, v0)))), some (.inl v1), some (.inl v2), some (.inl v3), some (.inl (0 : Int32)), some (.inl (v5 + (2 : Int32))), some (.inl (mu 30 v0 (((40 : Int32) * v1) + v5).toNatClampNeg)), some (.inl (mu23 39 v0 ((0 : Int32) + (mu 30 v0 (((40 : Int32) * v1) + v5).toNatClampNeg)).toNatClampNeg))]) (st' := []) (M' := mem E mu23 la24) rfl ?_
        refine Ev.drop (ls := [some (.inr (.inr (some (7, v0)))), some (.inl v1), some (.inl v2), some (.inl v3), some (.inl (0 : Int32)), some (.inl (v5 + (2 : Int32))), none, none]) ⟨Or.inr rfl, Or.inr rfl, Or.inr rfl, Or.inr rfl, Or.inr rfl, Or.inr rfl, Or.inl rfl, Or.inl rfl, trivial⟩ ?_
        exact h
      · have h := h.2 hc
        dsimp only
        refine Ev.steps 10 (ip' := 108) (ls' := [some (.inr (.inr (some (7, v0)))), some (.inl v1), some (.inl v2), some (.inl v3), some (.inl v4), some (.inl v5), some (.inl (mu 30 v0 (((40 : Int32) * v1) + v5).toNatClampNeg)), some (.inl (mu23 39 v0 ((0 : Int32) + (mu 30 v0 (((40 : Int32) * v1) + v5).toNatClampNeg)).toNatClampNeg))]) (st' := [.inl ((((40 : Int32) * v1) + v5) + (1 : Int32)), .inr (.inr (some (30, v0))), .inl (mu23 39 v0 ((0 : Int32) + (mu 30 v0 (((40 : Int32) * v1) + v5).toNatClampNeg)).toNatClampNeg)]) (M' := mem E mu23 la24) rfl ?_
        refine Ev.ial rfl rfl (by decide) h.1 ?_
        have h := h.2
        refine Ev.br (c := ¬ (mu23 39 v0 ((0 : Int32) + (mu 30 v0 (((40 : Int32) * v1) + v5).toNatClampNeg)).toNatClampNeg) = (mu23 30 v0 ((((40 : Int32) * v1) + v5) + (1 : Int32)).toNatClampNeg)) (s1 := (112, [some (.inr (.inr (some (7, v0)))), some (.inl v1), some (.inl v2), some (.inl v3), some (.inl v4), some (.inl v5), some (.inl (mu 30 v0 (((40 : Int32) * v1) + v5).toNatClampNeg)), some (.inl (mu23 39 v0 ((0 : Int32) + (mu 30 v0 (((40 : Int32) * v1) + v5).toNatClampNeg)).toNatClampNeg))], [], mem E mu23 la24)) (s2 := (110, [some (.inr (.inr (some (7, v0)))), some (.inl v1), some (.inl v2), some (.inl v3), some (.inl v4), some (.inl v5), some (.inl (mu 30 v0 (((40 : Int32) * v1) + v5).toNatClampNeg)), some (.inl (mu23 39 v0 ((0 : Int32) + (mu 30 v0 (((40 : Int32) * v1) + v5).toNatClampNeg)).toNatClampNeg))], [], mem E mu23 la24)) rfl rfl rfl rfl (fun hc => ?_) (fun hc => ?_)
        · have h := h.1 hc
          dsimp only
          refine Ev.steps 4 (ip' := 58) (ls' := [some (.inr (.inr (some (7, v0)))), some (.inl v1), some (.inl v2), some (.inl v3), some (.inl (0 : Int32)), some (.inl (v5 + (2 : Int32))), some (.inl (mu 30 v0 (((40 : Int32) * v1) + v5).toNatClampNeg)), some (.inl (mu23 39 v0 ((0 : Int32) + (mu 30 v0 (((40 : Int32) * v1) + v5).toNatClampNeg)).toNatClampNeg))]) (st' := []) (M' := mem E mu23 la24) rfl ?_
          refine Ev.drop (ls := [some (.inr (.inr (some (7, v0)))), some (.inl v1), some (.inl v2), some (.inl v3), some (.inl (0 : Int32)), some (.inl (v5 + (2 : Int32))), none, none]) ⟨Or.inr rfl, Or.inr rfl, Or.inr rfl, Or.inr rfl, Or.inr rfl, Or.inr rfl, Or.inl rfl, Or.inl rfl, trivial⟩ ?_
          exact h
        · have h := h.2 hc
          dsimp only
          refine Ev.steps 5 (ip' := 58) (ls' := [some (.inr (.inr (some (7, v0)))), some (.inl v1), some (.inl v2), some (.inl v3), some (.inl (1 : Int32)), some (.inl (v5 + (2 : Int32))), some (.inl (mu 30 v0 (((40 : Int32) * v1) + v5).toNatClampNeg)), some (.inl (mu23 39 v0 ((0 : Int32) + (mu 30 v0 (((40 : Int32) * v1) + v5).toNatClampNeg)).toNatClampNeg))]) (st' := []) (M' := mem E mu23 la24) rfl ?_
          refine Ev.drop (ls := [some (.inr (.inr (some (7, v0)))), some (.inl v1), some (.inl v2), some (.inl v3), some (.inl (1 : Int32)), some (.inl (v5 + (2 : Int32))), none, none]) ⟨Or.inr rfl, Or.inr rfl, Or.inr rfl, Or.inr rfl, Or.inr rfl, Or.inr rfl, Or.inl rfl, Or.inl rfl, trivial⟩ ?_
          exact h
    · have h := h.2 hc
      dsimp only
      refine Ev.steps 4 (ip' := 97) (ls' := [some (.inr (.inr (some (7, v0)))), some (.inl v1), some (.inl v2), some (.inl v3), some (.inl v4), some (.inl v5), some (.inl (mu 30 v0 (((40 : Int32) * v1) + v5).toNatClampNeg)), some (.inl (-9 : Int32))]) (st' := [.inl v4]) (M' := mem E mu23 la24) rfl ?_
      refine Ev.br (c := v4 = 0) (s1 := (112, [some (.inr (.inr (some (7, v0)))), some (.inl v1), some (.inl v2), some (.inl v3), some (.inl v4), some (.inl v5), some (.inl (mu 30 v0 (((40 : Int32) * v1) + v5).toNatClampNeg)), some (.inl (-9 : Int32))], [], mem E mu23 la24)) (s2 := (98, [some (.inr (.inr (some (7, v0)))), some (.inl v1), some (.inl v2), some (.inl v3), some (.inl v4), some (.inl v5), some (.inl (mu 30 v0 (((40 : Int32) * v1) + v5).toNatClampNeg)), some (.inl (-9 : Int32))], [], mem E mu23 la24)) rfl rfl rfl rfl (fun hc => ?_) (fun hc => ?_)
      · have h := h.1 hc
        dsimp only
        refine Ev.steps 4 (ip' := 58) (ls' := [some (.inr (.inr (some (7, v0)))), some (.inl v1), some (.inl v2), some (.inl v3), some (.inl (0 : Int32)), some (.inl (v5 + (2 : Int32))), some (.inl (mu 30 v0 (((40 : Int32) * v1) + v5).toNatClampNeg)), some (.inl (-9 : Int32))]) (st' := []) (M' := mem E mu23 la24) rfl ?_
        refine Ev.drop (ls := [some (.inr (.inr (some (7, v0)))), some (.inl v1), some (.inl v2), some (.inl v3), some (.inl (0 : Int32)), some (.inl (v5 + (2 : Int32))), none, none]) ⟨Or.inr rfl, Or.inr rfl, Or.inr rfl, Or.inr rfl, Or.inr rfl, Or.inr rfl, Or.inl rfl, Or.inl rfl, trivial⟩ ?_
        exact h
      · have h := h.2 hc
        dsimp only
        refine Ev.steps 10 (ip' := 108) (ls' := [some (.inr (.inr (some (7, v0)))), some (.inl v1), some (.inl v2), some (.inl v3), some (.inl v4), some (.inl v5), some (.inl (mu 30 v0 (((40 : Int32) * v1) + v5).toNatClampNeg)), some (.inl (-9 : Int32))]) (st' := [.inl ((((40 : Int32) * v1) + v5) + (1 : Int32)), .inr (.inr (some (30, v0))), .inl (-9 : Int32)]) (M' := mem E mu23 la24) rfl ?_
        refine Ev.ial rfl rfl (by decide) h.1 ?_
        have h := h.2
        refine Ev.br (c := ¬ (-9 : Int32) = (mu23 30 v0 ((((40 : Int32) * v1) + v5) + (1 : Int32)).toNatClampNeg)) (s1 := (112, [some (.inr (.inr (some (7, v0)))), some (.inl v1), some (.inl v2), some (.inl v3), some (.inl v4), some (.inl v5), some (.inl (mu 30 v0 (((40 : Int32) * v1) + v5).toNatClampNeg)), some (.inl (-9 : Int32))], [], mem E mu23 la24)) (s2 := (110, [some (.inr (.inr (some (7, v0)))), some (.inl v1), some (.inl v2), some (.inl v3), some (.inl v4), some (.inl v5), some (.inl (mu 30 v0 (((40 : Int32) * v1) + v5).toNatClampNeg)), some (.inl (-9 : Int32))], [], mem E mu23 la24)) rfl rfl rfl rfl (fun hc => ?_) (fun hc => ?_)
        · have h := h.1 hc
          dsimp only
          refine Ev.steps 4 (ip' := 58) (ls' := [some (.inr (.inr (some (7, v0)))), some (.inl v1), some (.inl v2), some (.inl v3), some (.inl (0 : Int32)), some (.inl (v5 + (2 : Int32))), some (.inl (mu 30 v0 (((40 : Int32) * v1) + v5).toNatClampNeg)), some (.inl (-9 : Int32))]) (st' := []) (M' := mem E mu23 la24) rfl ?_
          refine Ev.drop (ls := [some (.inr (.inr (some (7, v0)))), some (.inl v1), some (.inl v2), some (.inl v3), some (.inl (0 : Int32)), some (.inl (v5 + (2 : Int32))), none, none]) ⟨Or.inr rfl, Or.inr rfl, Or.inr rfl, Or.inr rfl, Or.inr rfl, Or.inr rfl, Or.inl rfl, Or.inl rfl, trivial⟩ ?_
          exact h
        · have h := h.2 hc
          dsimp only
          refine Ev.steps 5 (ip' := 58) (ls' := [some (.inr (.inr (some (7, v0)))), some (.inl v1), some (.inl v2), some (.inl v3), some (.inl (1 : Int32)), some (.inl (v5 + (2 : Int32))), some (.inl (mu 30 v0 (((40 : Int32) * v1) + v5).toNatClampNeg)), some (.inl (-9 : Int32))]) (st' := []) (M' := mem E mu23 la24) rfl ?_
          refine Ev.drop (ls := [some (.inr (.inr (some (7, v0)))), some (.inl v1), some (.inl v2), some (.inl v3), some (.inl (1 : Int32)), some (.inl (v5 + (2 : Int32))), none, none]) ⟨Or.inr rfl, Or.inr rfl, Or.inr rfl, Or.inr rfl, Or.inr rfl, Or.inr rfl, Or.inl rfl, Or.inl rfl, trivial⟩ ?_
          exact h
set_option maxRecDepth 100000 in
/-- AnnCupsModel.kinds(III)I -/
theorem vc_X7_kinds {E : mEv} {d : Nat} {c : Nat} (a0 : Int32) (a1 : Int32) (a2 : Int32) {mu : fMu} {la : fLa} {Q : Int32 → fMu → fLa → Prop} (h : FnI E d mi_155 [.inr (.inr (some (7, c))), .inl a0] mu la (fun x1 mu2 la3 => (x1 = 0 → (Q (-1 : Int32) mu2 la3)) ∧ (¬ (x1 = 0) → (FnI E d mi_129 [.inr (.inl a1.toInt64), .inr (.inl (0 : Int64)), .inr (.inl (99 : Int64))] mu2 la3 (fun x4 mu5 la6 => (x4 = 0 → (Q (-1 : Int32) mu5 la6)) ∧ (¬ (x4 = 0) → (FnI E d mi_129 [.inr (.inl a2.toInt64), .inr (.inl (0 : Int64)), .inr (.inl (1 : Int64))] mu5 la6 (fun x7 mu8 la9 => (¬ x7 = 0 → (Ev E (d + 1) mi_205 22 [some (.inr (.inr (some (7, c)))), some (.inl a0), some (.inl a1), some (.inl a2), some (.inl (0 : Int32)), some (.inl (0 : Int32))] [] (mem E mu8 la9) (qI E Q))) ∧ (¬ (¬ x7 = 0) → (Q (-1 : Int32) mu8 la9)))))))))) : FnI E (d + 1) mi_205 [.inr (.inr (some (7, c))), .inl a0, .inl a1, .inl a2] mu la Q := by
  unfold FnI
  show Ev E (d + 1) mi_205 0 [some (.inr (.inr (some (7, c)))), some (.inl a0), some (.inl a1), some (.inl a2), none, none] [] (mem E mu la) (qI E Q)
  refine Ev.steps 2 (ip' := 2) (ls' := [some (.inr (.inr (some (7, c)))), some (.inl a0), some (.inl a1), some (.inl a2), none, none]) (st' := [.inl a0, .inr (.inr (some (7, c)))]) (M' := mem E mu la) rfl ?_
  refine Ev.ci (J := mi_155) (as := [.inr (.inr (some (7, c))), .inl a0]) (rest := []) rfl rfl rfl (Nat.le_of_ble_eq_true rfl) h (fun x1 mu2 la3 h => ?_)
  refine Ev.br (c := x1 = 0) (s1 := (16, [some (.inr (.inr (some (7, c)))), some (.inl a0), some (.inl a1), some (.inl a2), none, none], [], mem E mu2 la3)) (s2 := (4, [some (.inr (.inr (some (7, c)))), some (.inl a0), some (.inl a1), some (.inl a2), none, none], [], mem E mu2 la3)) rfl rfl rfl rfl (fun hc => ?_) (fun hc => ?_)
  · have h := h.1 hc
    dsimp only
    refine Ev.steps 1 (ip' := 17) (ls' := [some (.inr (.inr (some (7, c)))), some (.inl a0), some (.inl a1), some (.inl a2), none, none]) (st' := [.inl (-1 : Int32)]) (M' := mem E mu2 la3) rfl ?_
    exact Ev.ret rfl rfl ⟨_, _, _, rfl, rfl, h⟩
  · have h := h.2 hc
    dsimp only
    refine Ev.steps 4 (ip' := 8) (ls' := [some (.inr (.inr (some (7, c)))), some (.inl a0), some (.inl a1), some (.inl a2), none, none]) (st' := [.inr (.inl (99 : Int64)), .inr (.inl (0 : Int64)), .inr (.inl a1.toInt64)]) (M' := mem E mu2 la3) rfl ?_
    refine Ev.ci (J := mi_129) (as := [.inr (.inl a1.toInt64), .inr (.inl (0 : Int64)), .inr (.inl (99 : Int64))]) (rest := []) rfl rfl rfl (Nat.le_of_ble_eq_true rfl) h (fun x4 mu5 la6 h => ?_)
    refine Ev.br (c := x4 = 0) (s1 := (16, [some (.inr (.inr (some (7, c)))), some (.inl a0), some (.inl a1), some (.inl a2), none, none], [], mem E mu5 la6)) (s2 := (10, [some (.inr (.inr (some (7, c)))), some (.inl a0), some (.inl a1), some (.inl a2), none, none], [], mem E mu5 la6)) rfl rfl rfl rfl (fun hc => ?_) (fun hc => ?_)
    · have h := h.1 hc
      dsimp only
      refine Ev.steps 1 (ip' := 17) (ls' := [some (.inr (.inr (some (7, c)))), some (.inl a0), some (.inl a1), some (.inl a2), none, none]) (st' := [.inl (-1 : Int32)]) (M' := mem E mu5 la6) rfl ?_
      exact Ev.ret rfl rfl ⟨_, _, _, rfl, rfl, h⟩
    · have h := h.2 hc
      dsimp only
      refine Ev.steps 4 (ip' := 14) (ls' := [some (.inr (.inr (some (7, c)))), some (.inl a0), some (.inl a1), some (.inl a2), none, none]) (st' := [.inr (.inl (1 : Int64)), .inr (.inl (0 : Int64)), .inr (.inl a2.toInt64)]) (M' := mem E mu5 la6) rfl ?_
      refine Ev.ci (J := mi_129) (as := [.inr (.inl a2.toInt64), .inr (.inl (0 : Int64)), .inr (.inl (1 : Int64))]) (rest := []) rfl rfl rfl (Nat.le_of_ble_eq_true rfl) h (fun x7 mu8 la9 h => ?_)
      refine Ev.br (c := ¬ x7 = 0) (s1 := (18, [some (.inr (.inr (some (7, c)))), some (.inl a0), some (.inl a1), some (.inl a2), none, none], [], mem E mu8 la9)) (s2 := (16, [some (.inr (.inr (some (7, c)))), some (.inl a0), some (.inl a1), some (.inl a2), none, none], [], mem E mu8 la9)) rfl rfl rfl rfl (fun hc => ?_) (fun hc => ?_)
      · have h := h.1 hc
        dsimp only
        refine Ev.steps 4 (ip' := 22) (ls' := [some (.inr (.inr (some (7, c)))), some (.inl a0), some (.inl a1), some (.inl a2), some (.inl (0 : Int32)), some (.inl (0 : Int32))]) (st' := []) (M' := mem E mu8 la9) rfl ?_
        exact h
      · have h := h.2 hc
        dsimp only
        refine Ev.steps 1 (ip' := 17) (ls' := [some (.inr (.inr (some (7, c)))), some (.inl a0), some (.inl a1), some (.inl a2), none, none]) (st' := [.inl (-1 : Int32)]) (M' := mem E mu8 la9) rfl ?_
        exact Ev.ret rfl rfl ⟨_, _, _, rfl, rfl, h⟩
set_option maxRecDepth 100000 in
theorem vc_X7_kinds_22 {E : mEv} {d : Nat}  (v0 : Nat) (v1 : Int32) (v2 : Int32) (v3 : Int32) (v4 : Int32) (v5 : Int32) {mu : fMu} {la : fLa} {Q : Int32 → fMu → fLa → Prop} (h : ((6 : Int32) ≤ v5 → (Q v4 mu la)) ∧ (¬ ((6 : Int32) ≤ v5) → (vp_in v1 6 ∧ ((¬ v3 = (1 : Int32) → (FnI E d mi_157 [.inl v5, .inl (mu 34 v0 v1.toNatClampNeg), .inl (0 : Int32)] mu la (fun x10 mu11 la12 => (¬ x10 = v2 → (Ev E (d + 1) mi_205 22 [some (.inr (.inr (some (7, v0)))), some (.inl v1), some (.inl v2), some (.inl v3), some (.inl (v4 ||| (0 : Int32))), some (.inl (v5 + (1 : Int32)))] [] (mem E mu11 la12) (qI E Q))) ∧ (¬ (¬ x10 = v2) → (Ev E (d + 1) mi_205 22 [some (.inr (.inr (some (7, v0)))), some (.inl v1), some (.inl v2), some (.inl v3), some (.inl (v4 ||| ((1 : Int32) <<< (v5 &&& 31)))), some (.inl (v5 + (1 : Int32)))] [] (mem E mu11 la12) (qI E Q)))))) ∧ (¬ (¬ v3 = (1 : Int32)) → (FnI E d mi_157 [.inl v5, .inl (mu 34 v0 v1.toNatClampNeg), .inl (1 : Int32)] mu la (fun x13 mu14 la15 => (¬ x13 = v2 → (Ev E (d + 1) mi_205 22 [some (.inr (.inr (some (7, v0)))), some (.inl v1), some (.inl v2), some (.inl v3), some (.inl (v4 ||| (0 : Int32))), some (.inl (v5 + (1 : Int32)))] [] (mem E mu14 la15) (qI E Q))) ∧ (¬ (¬ x13 = v2) → (Ev E (d + 1) mi_205 22 [some (.inr (.inr (some (7, v0)))), some (.inl v1), some (.inl v2), some (.inl v3), some (.inl (v4 ||| ((1 : Int32) <<< (v5 &&& 31)))), some (.inl (v5 + (1 : Int32)))] [] (mem E mu14 la15) (qI E Q)))))))))) : Ev E (d + 1) mi_205 22 [some (.inr (.inr (some (7, v0)))), some (.inl v1), some (.inl v2), some (.inl v3), some (.inl v4), some (.inl v5)] [] (mem E mu la) (qI E Q) := by
  refine Ev.steps 2 (ip' := 24) (ls' := [some (.inr (.inr (some (7, v0)))), some (.inl v1), some (.inl v2), some (.inl v3), some (.inl v4), some (.inl v5)]) (st' := [.inl (6 : Int32), .inl v5]) (M' := mem E mu la) rfl ?_
  refine Ev.br (c := (6 : Int32) ≤ v5) (s1 := (49, [some (.inr (.inr (some (7, v0)))), some (.inl v1), some (.inl v2), some (.inl v3), some (.inl v4), some (.inl v5)], [], mem E mu la)) (s2 := (25, [some (.inr (.inr (some (7, v0)))), some (.inl v1), some (.inl v2), some (.inl v3), some (.inl v4), some (.inl v5)], [], mem E mu la)) rfl rfl rfl rfl (fun hc => ?_) (fun hc => ?_)
  · have h := h.1 hc
    dsimp only
    refine Ev.steps 1 (ip' := 50) (ls' := [some (.inr (.inr (some (7, v0)))), some (.inl v1), some (.inl v2), some (.inl v3), some (.inl v4), some (.inl v5)]) (st' := [.inl v4]) (M' := mem E mu la) rfl ?_
    exact Ev.ret rfl rfl ⟨_, _, _, rfl, rfl, h⟩
  · have h := h.2 hc
    dsimp only
    refine Ev.steps 5 (ip' := 30) (ls' := [some (.inr (.inr (some (7, v0)))), some (.inl v1), some (.inl v2), some (.inl v3), some (.inl v4), some (.inl v5)]) (st' := [.inl v1, .inr (.inr (some (34, v0))), .inl v5, .inl v4]) (M' := mem E mu la) rfl ?_
    refine Ev.ial rfl rfl (by decide) h.1 ?_
    have h := h.2
    refine Ev.steps 2 (ip' := 33) (ls' := [some (.inr (.inr (some (7, v0)))), some (.inl v1), some (.inl v2), some (.inl v3), some (.inl v4), some (.inl v5)]) (st' := [.inl (1 : Int32), .inl v3, .inl (mu 34 v0 v1.toNatClampNeg), .inl v5, .inl v4]) (M' := mem E mu la) rfl ?_
    refine Ev.br (c := ¬ v3 = (1 : Int32)) (s1 := (36, [some (.inr (.inr (some (7, v0)))), some (.inl v1), some (.inl v2), some (.inl v3), some (.inl v4), some (.inl v5)], [.inl (mu 34 v0 v1.toNatClampNeg), .inl v5, .inl v4], mem E mu la)) (s2 := (34, [some (.inr (.inr (some (7, v0)))), some (.inl v1), some (.inl v2), some (.inl v3), some (.inl v4), some (.inl v5)], [.inl (mu 34 v0 v1.toNatClampNeg), .inl v5, .inl v4], mem E mu la)) rfl rfl rfl rfl (fun hc => ?_) (fun hc => ?_)
    · have h := h.1 hc
      dsimp only
      refine Ev.steps 1 (ip' := 37) (ls' := [some (.inr (.inr (some (7, v0)))), some (.inl v1), some (.inl v2), some (.inl v3), some (.inl v4), some (.inl v5)]) (st' := [.inl (0 : Int32), .inl (mu 34 v0 v1.toNatClampNeg), .inl v5, .inl v4]) (M' := mem E mu la) rfl ?_
      refine Ev.ci (J := mi_157) (as := [.inl v5, .inl (mu 34 v0 v1.toNatClampNeg), .inl (0 : Int32)]) (rest := [.inl v4]) rfl rfl rfl (Nat.le_of_ble_eq_true rfl) h (fun x10 mu11 la12 h => ?_)
      refine Ev.steps 1 (ip' := 39) (ls' := [some (.inr (.inr (some (7, v0)))), some (.inl v1), some (.inl v2), some (.inl v3), some (.inl v4), some (.inl v5)]) (st' := [.inl v2, .inl x10, .inl v4]) (M' := mem E mu11 la12) rfl ?_
      refine Ev.br (c := ¬ x10 = v2) (s1 := (44, [some (.inr (.inr (some (7, v0)))), some (.inl v1), some (.inl v2), some (.inl v3), some (.inl v4), some (.inl v5)], [.inl v4], mem E mu11 la12)) (s2 := (40, [some (.inr (.inr (some (7, v0)))), some (.inl v1), some (.inl v2), some (.inl v3), some (.inl v4), some (.inl v5)], [.inl v4], mem E mu11 la12)) rfl rfl rfl rfl (fun hc => ?_) (fun hc => ?_)
      · have h := h.1 hc
        dsimp only
        refine Ev.steps 5 (ip' := 22) (ls' := [some (.inr (.inr (some (7, v0)))), some (.inl v1), some (.inl v2), some (.inl v3), some (.inl (v4 ||| (0 : Int32))), some (.inl (v5 + (1 : Int32)))]) (st' := []) (M' := mem E mu11 la12) rfl ?_
        exact h
      · have h := h.2 hc
        dsimp only
        refine Ev.steps 8 (ip' := 22) (ls' := [some (.inr (.inr (some (7, v0)))), some (.inl v1), some (.inl v2), some (.inl v3), some (.inl (v4 ||| ((1 : Int32) <<< (v5 &&& 31)))), some (.inl (v5 + (1 : Int32)))]) (st' := []) (M' := mem E mu11 la12) rfl ?_
        exact h
    · have h := h.2 hc
      dsimp only
      refine Ev.steps 2 (ip' := 37) (ls' := [some (.inr (.inr (some (7, v0)))), some (.inl v1), some (.inl v2), some (.inl v3), some (.inl v4), some (.inl v5)]) (st' := [.inl (1 : Int32), .inl (mu 34 v0 v1.toNatClampNeg), .inl v5, .inl v4]) (M' := mem E mu la) rfl ?_
      refine Ev.ci (J := mi_157) (as := [.inl v5, .inl (mu 34 v0 v1.toNatClampNeg), .inl (1 : Int32)]) (rest := [.inl v4]) rfl rfl rfl (Nat.le_of_ble_eq_true rfl) h (fun x13 mu14 la15 h => ?_)
      refine Ev.steps 1 (ip' := 39) (ls' := [some (.inr (.inr (some (7, v0)))), some (.inl v1), some (.inl v2), some (.inl v3), some (.inl v4), some (.inl v5)]) (st' := [.inl v2, .inl x13, .inl v4]) (M' := mem E mu14 la15) rfl ?_
      refine Ev.br (c := ¬ x13 = v2) (s1 := (44, [some (.inr (.inr (some (7, v0)))), some (.inl v1), some (.inl v2), some (.inl v3), some (.inl v4), some (.inl v5)], [.inl v4], mem E mu14 la15)) (s2 := (40, [some (.inr (.inr (some (7, v0)))), some (.inl v1), some (.inl v2), some (.inl v3), some (.inl v4), some (.inl v5)], [.inl v4], mem E mu14 la15)) rfl rfl rfl rfl (fun hc => ?_) (fun hc => ?_)
      · have h := h.1 hc
        dsimp only
        refine Ev.steps 5 (ip' := 22) (ls' := [some (.inr (.inr (some (7, v0)))), some (.inl v1), some (.inl v2), some (.inl v3), some (.inl (v4 ||| (0 : Int32))), some (.inl (v5 + (1 : Int32)))]) (st' := []) (M' := mem E mu14 la15) rfl ?_
        exact h
      · have h := h.2 hc
        dsimp only
        refine Ev.steps 8 (ip' := 22) (ls' := [some (.inr (.inr (some (7, v0)))), some (.inl v1), some (.inl v2), some (.inl v3), some (.inl (v4 ||| ((1 : Int32) <<< (v5 &&& 31)))), some (.inl (v5 + (1 : Int32)))]) (st' := []) (M' := mem E mu14 la15) rfl ?_
        exact h
set_option maxRecDepth 100000 in
/-- AnnCupsModel.beginsStep(I)V -/
theorem vc_X7_beginsStep {E : mEv} {d : Nat} {c : Nat} (a0 : Int32) {mu : fMu} {la : fLa} {Q : fMu → fLa → Prop} (h : vp_in a0 5 ∧ ∀ mu1 : fMu, mu1 = up3 mu 50 c a0.toNatClampNeg (-1 : Int32) → (vp_in a0 5 ∧ ∀ mu2 : fMu, mu2 = up3 mu1 51 c a0.toNatClampNeg (-9 : Int32) → (Q mu2 la))) : FnV E d mi_206 [.inr (.inr (some (7, c))), .inl a0] mu la Q := by
  unfold FnV
  show Ev E d mi_206 0 [some (.inr (.inr (some (7, c)))), some (.inl a0)] [] (mem E mu la) (qV E Q)
  refine Ev.steps 4 (ip' := 4) (ls' := [some (.inr (.inr (some (7, c)))), some (.inl a0)]) (st' := [.inl (-1 : Int32), .inl a0, .inr (.inr (some (50, c)))]) (M' := mem E mu la) rfl ?_
  refine Ev.ias rfl rfl h.1 ?_
  have h := h.2
  generalize hgmu1 : up3 mu 50 c a0.toNatClampNeg (-1 : Int32) = mu1
  have h := h mu1 hgmu1.symm
  refine Ev.steps 4 (ip' := 9) (ls' := [some (.inr (.inr (some (7, c)))), some (.inl a0)]) (st' := [.inl (-9 : Int32), .inl a0, .inr (.inr (some (51, c)))]) (M' := mem E mu1 la) rfl ?_
  refine Ev.ias rfl rfl h.1 ?_
  have h := h.2
  generalize hgmu2 : up3 mu1 51 c a0.toNatClampNeg (-9 : Int32) = mu2
  have h := h mu2 hgmu2.symm
  exact Ev.ret rfl rfl ⟨_, _, rfl, rfl, h⟩
