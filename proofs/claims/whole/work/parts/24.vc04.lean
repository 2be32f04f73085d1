set_option maxRecDepth 100000 in
/-- AnnCups.runs(I)I -/
theorem vc_X6_runs {E : mEv} {d : Nat} {c : Nat} (a0 : Int32) {mu : fMu} {la : fLa} {Q : Int32 → fMu → fLa → Prop} (h : FnI E d mi_14 [.inr (.inr (some (1, 0))), .inl a0] mu la (fun x1 mu2 la3 => (¬ x1 = 0 → (vp_in a0 6 ∧ (∀ mu4 : fMu, mu4 = up3 mu2 6 c 11 (-9 : Int32) → (FnI E d mi_14 [.inr (.inr (some (1, 0))), .inl (mu2 8 0 a0.toNatClampNeg)] mu4 la3 (fun x5 mu6 la7 => (x5 = 0 → (Q (0 : Int32) mu6 la7)) ∧ (¬ (x5 = 0) → (((mu2 8 0 a0.toNatClampNeg) = a0 → (Q (0 : Int32) mu6 la7)) ∧ (¬ ((mu2 8 0 a0.toNatClampNeg) = a0) → (Ev E (d + 1) mi_77 28 [some (.inr (.inr (some (6, c)))), none, some (.inl (mu2 8 0 a0.toNatClampNeg)), some (.inl (0 : Int32)), some (.inl a0)] [] (mem E mu6 la7) (qI E Q)))))))))) ∧ (¬ (¬ x1 = 0) → (Q (-1 : Int32) mu2 la3)))) : FnI E (d + 1) mi_77 [.inr (.inr (some (6, c))), .inl a0] mu la Q := by
  unfold FnI
  show Ev E (d + 1) mi_77 0 [some (.inr (.inr (some (6, c)))), some (.inl a0), none, none, none] [] (mem E mu la) (qI E Q)
  refine Ev.steps 3 (ip' := 3) (ls' := [some (.inr (.inr (some (6, c)))), some (.inl a0), none, none, none]) (st' := [.inl a0, .inr (.inr (some (1, 0)))]) (M' := mem E mu la) rfl ?_
  refine Ev.ci (J := mi_14) (as := [.inr (.inr (some (1, 0))), .inl a0]) (rest := []) rfl rfl rfl (Nat.le_of_ble_eq_true rfl) h (fun x1 mu2 la3 h => ?_)
  refine Ev.br (c := ¬ x1 = 0) (s1 := (7, [some (.inr (.inr (some (6, c)))), some (.inl a0), none, none, none], [], mem E mu2 la3)) (s2 := (5, [some (.inr (.inr (some (6, c)))), some (.inl a0), none, none, none], [], mem E mu2 la3)) rfl rfl rfl rfl (fun hc => ?_) (fun hc => ?_)
  · have h := h.1 hc
    dsimp only
    refine Ev.steps 4 (ip' := 11) (ls' := [some (.inr (.inr (some (6, c)))), some (.inl a0), none, none, none]) (st' := [.inl a0, .inr (.inr (some (8, 0)))]) (M' := mem E mu2 la3) rfl ?_
    refine Ev.ial rfl rfl (by decide) h.1 ?_
    have h := h.2
    refine Ev.steps 6 (ip' := 18) (ls' := [some (.inr (.inr (some (6, c)))), some (.inl a0), some (.inl (mu2 8 0 a0.toNatClampNeg)), some (.inl (0 : Int32)), none]) (st' := []) (M' := mem E (up3 mu2 6 c 11 (-9 : Int32)) la3) rfl ?_
    generalize hgmu4 : up3 mu2 6 c 11 (-9 : Int32) = mu4
    have h := h mu4 hgmu4.symm
    refine Ev.steps 3 (ip' := 21) (ls' := [some (.inr (.inr (some (6, c)))), some (.inl a0), some (.inl (mu2 8 0 a0.toNatClampNeg)), some (.inl (0 : Int32)), none]) (st' := [.inl (mu2 8 0 a0.toNatClampNeg), .inr (.inr (some (1, 0)))]) (M' := mem E mu4 la3) rfl ?_
    refine Ev.ci (J := mi_14) (as := [.inr (.inr (some (1, 0))), .inl (mu2 8 0 a0.toNatClampNeg)]) (rest := []) rfl rfl rfl (Nat.le_of_ble_eq_true rfl) h (fun x5 mu6 la7 h => ?_)
    refine Ev.br (c := x5 = 0) (s1 := (50, [some (.inr (.inr (some (6, c)))), some (.inl a0), some (.inl (mu2 8 0 a0.toNatClampNeg)), some (.inl (0 : Int32)), none], [], mem E mu6 la7)) (s2 := (23, [some (.inr (.inr (some (6, c)))), some (.inl a0), some (.inl (mu2 8 0 a0.toNatClampNeg)), some (.inl (0 : Int32)), none], [], mem E mu6 la7)) rfl rfl rfl rfl (fun hc => ?_) (fun hc => ?_)
    · have h := h.1 hc
      dsimp only
      refine Ev.steps 1 (ip' := 51) (ls' := [some (.inr (.inr (some (6, c)))), some (.inl a0), some (.inl (mu2 8 0 a0.toNatClampNeg)), some (.inl (0 : Int32)), none]) (st' := [.inl (0 : Int32)]) (M' := mem E mu6 la7) rfl ?_
      exact Ev.ret rfl rfl ⟨_, _, _, rfl, rfl, h⟩
    · have h := h.2 hc
      dsimp only
      refine Ev.steps 2 (ip' := 25) (ls' := [some (.inr (.inr (some (6, c)))), some (.inl a0), some (.inl (mu2 8 0 a0.toNatClampNeg)), some (.inl (0 : Int32)), none]) (st' := [.inl a0, .inl (mu2 8 0 a0.toNatClampNeg)]) (M' := mem E mu6 la7) rfl ?_
      refine Ev.br (c := (mu2 8 0 a0.toNatClampNeg) = a0) (s1 := (50, [some (.inr (.inr (some (6, c)))), some (.inl a0), some (.inl (mu2 8 0 a0.toNatClampNeg)), some (.inl (0 : Int32)), none], [], mem E mu6 la7)) (s2 := (26, [some (.inr (.inr (some (6, c)))), some (.inl a0), some (.inl (mu2 8 0 a0.toNatClampNeg)), some (.inl (0 : Int32)), none], [], mem E mu6 la7)) rfl rfl rfl rfl (fun hc => ?_) (fun hc => ?_)
      · have h := h.1 hc
        dsimp only
        refine Ev.steps 1 (ip' := 51) (ls' := [some (.inr (.inr (some (6, c)))), some (.inl a0), some (.inl (mu2 8 0 a0.toNatClampNeg)), some (.inl (0 : Int32)), none]) (st' := [.inl (0 : Int32)]) (M' := mem E mu6 la7) rfl ?_
        exact Ev.ret rfl rfl ⟨_, _, _, rfl, rfl, h⟩
      · have h := h.2 hc
        dsimp only
        refine Ev.steps 2 (ip' := 28) (ls' := [some (.inr (.inr (some (6, c)))), some (.inl a0), some (.inl (mu2 8 0 a0.toNatClampNeg)), some (.inl (0 : Int32)), some (.inl a0)]) (st' := []) (M' := mem E mu6 la7) rfl ?_
        refine Ev.drop (ls := [some (.inr (.inr (some (6, c)))), none, some (.inl (mu2 8 0 a0.toNatClampNeg)), some (.inl (0 : Int32)), some (.inl a0)]) ⟨Or.inr rfl, Or.inl rfl, Or.inr rfl, Or.inr rfl, Or.inr rfl, trivial⟩ ?_
        exact h
  · have h := h.2 hc
    dsimp only
    refine Ev.steps 1 (ip' := 6) (ls' := [some (.inr (.inr (some (6, c)))), some (.inl a0), none, none, none]) (st' := [.inl (-1 : Int32)]) (M' := mem E mu2 la3) rfl ?_
    exact Ev.ret rfl rfl ⟨_, _, _, rfl, rfl, h⟩
set_option maxRecDepth 100000 in
theorem vc_X6_runs_28 {E : mEv} {d : Nat}  (v0 : Nat) (v2 : Int32) (v3 : Int32) (v4 : Int32) {mu : fMu} {la : fLa} {Q : Int32 → fMu → fLa → Prop} (h : ((6 : Int32) ≤ v3 → (Q v3 mu la)) ∧ (¬ ((6 : Int32) ≤ v3) → (FnI E d mi_14 [.inr (.inr (some (1, 0))), .inl v4] mu la (fun x8 mu9 la10 => (x8 = 0 → (Q v3 mu9 la10)) ∧ (¬ (x8 = 0) → ((v4 = v2 → (Q v3 mu9 la10)) ∧ (¬ (v4 = v2) → (∀ mu11 : fMu, mu11 = up3 mu9 6 v0 11 v4 → (vp_in v4 6 ∧ (Ev E (d + 1) mi_77 28 [some (.inr (.inr (some (6, v0)))), none, some (.inl v2), some (.inl (v3 + (1 : Int32))), some (.inl (mu11 9 0 v4.toNatClampNeg))] [] (mem E mu11 la10) (qI E Q))))))))))) : Ev E (d + 1) mi_77 28 [some (.inr (.inr (some (6, v0)))), none, some (.inl v2), some (.inl v3), some (.inl v4)] [] (mem E mu la) (qI E Q) := by
  refine Ev.steps 2 (ip' := 30) (ls' := [some (.inr (.inr (some (6, v0)))), none, some (.inl v2), some (.inl v3), some (.inl v4)]) (st' := [.inl (6 : Int32), .inl v3]) (M' := mem E mu la) rfl ?_
  refine Ev.br (c := (6 : Int32) ≤ v3) (s1 := (50, [some (.inr (.inr (some (6, v0)))), none, some (.inl v2), some (.inl v3), some (.inl v4)], [], mem E mu la)) (s2 := (31, [some (.inr (.inr (some (6, v0)))), none, some (.inl v2), some (.inl v3), some (.inl v4)], [], mem E mu la)) rfl rfl rfl rfl (fun hc => ?_) (fun hc => ?_)
  · have h := h.1 hc
    dsimp only
    refine Ev.steps 1 (ip' := 51) (ls' := [some (.inr (.inr (some (6, v0)))), none, some (.inl v2), some (.inl v3), some (.inl v4)]) (st' := [.inl v3]) (M' := mem E mu la) rfl ?_
    exact Ev.ret rfl rfl ⟨_, _, _, rfl, rfl, h⟩
  · have h := h.2 hc
    dsimp only
    refine Ev.steps 3 (ip' := 34) (ls' := [some (.inr (.inr (some (6, v0)))), none, some (.inl v2), some (.inl v3), some (.inl v4)]) (st' := [.inl v4, .inr (.inr (some (1, 0)))]) (M' := mem E mu la) rfl ?_
    refine Ev.ci (J := mi_14) (as := [.inr (.inr (some (1, 0))), .inl v4]) (rest := []) rfl rfl rfl (Nat.le_of_ble_eq_true rfl) h (fun x8 mu9 la10 h => ?_)
    refine Ev.br (c := x8 = 0) (s1 := (50, [some (.inr (.inr (some (6, v0)))), none, some (.inl v2), some (.inl v3), some (.inl v4)], [], mem E mu9 la10)) (s2 := (36, [some (.inr (.inr (some (6, v0)))), none, some (.inl v2), some (.inl v3), some (.inl v4)], [], mem E mu9 la10)) rfl rfl rfl rfl (fun hc => ?_) (fun hc => ?_)
    · have h := h.1 hc
      dsimp only
      refine Ev.steps 1 (ip' := 51) (ls' := [some (.inr (.inr (some (6, v0)))), none, some (.inl v2), some (.inl v3), some (.inl v4)]) (st' := [.inl v3]) (M' := mem E mu9 la10) rfl ?_
      exact Ev.ret rfl rfl ⟨_, _, _, rfl, rfl, h⟩
    · have h := h.2 hc
      dsimp only
      refine Ev.steps 2 (ip' := 38) (ls' := [some (.inr (.inr (some (6, v0)))), none, some (.inl v2), some (.inl v3), some (.inl v4)]) (st' := [.inl v2, .inl v4]) (M' := mem E mu9 la10) rfl ?_
      refine Ev.br (c := v4 = v2) (s1 := (50, [some (.inr (.inr (some (6, v0)))), none, some (.inl v2), some (.inl v3), some (.inl v4)], [], mem E mu9 la10)) (s2 := (39, [some (.inr (.inr (some (6, v0)))), none, some (.inl v2), some (.inl v3), some (.inl v4)], [], mem E mu9 la10)) rfl rfl rfl rfl (fun hc => ?_) (fun hc => ?_)
      · have h := h.1 hc
        dsimp only
        refine Ev.steps 1 (ip' := 51) (ls' := [some (.inr (.inr (some (6, v0)))), none, some (.inl v2), some (.inl v3), some (.inl v4)]) (st' := [.inl v3]) (M' := mem E mu9 la10) rfl ?_
        exact Ev.ret rfl rfl ⟨_, _, _, rfl, rfl, h⟩
      · have h := h.2 hc
        dsimp only
        refine Ev.steps 4 (ip' := 43) (ls' := [some (.inr (.inr (some (6, v0)))), none, some (.inl v2), some (.inl (v3 + (1 : Int32))), some (.inl v4)]) (st' := []) (M' := mem E (up3 mu9 6 v0 11 v4) la10) rfl ?_
        generalize hgmu11 : up3 mu9 6 v0 11 v4 = mu11
        have h := h mu11 hgmu11.symm
        refine Ev.steps 4 (ip' := 47) (ls' := [some (.inr (.inr (some (6, v0)))), none, some (.inl v2), some (.inl (v3 + (1 : Int32))), some (.inl v4)]) (st' := [.inl v4, .inr (.inr (some (9, 0)))]) (M' := mem E mu11 la10) rfl ?_
        refine Ev.ial rfl rfl (by decide) h.1 ?_
        have h := h.2
        refine Ev.steps 2 (ip' := 28) (ls' := [some (.inr (.inr (some (6, v0)))), none, some (.inl v2), some (.inl (v3 + (1 : Int32))), some (.inl (mu11 9 0 v4.toNatClampNeg))]) (st' := []) (M' := mem E mu11 la10) rfl ?_
        exact h
set_option maxRecDepth 100000 in
/-- AnnCups.whose(I)I -/
theorem vc_X6_whose {E : mEv} {d : Nat} {c : Nat} (a0 : Int32) {mu : fMu} {la : fLa} {Q : Int32 → fMu → fLa → Prop} (h : FnI E d mi_14 [.inr (.inr (some (1, 0))), .inl a0] mu la (fun x1 mu2 la3 => (x1 = 0 → (Q (-1 : Int32) mu2 la3)) ∧ (¬ (x1 = 0) → (vp_in a0 6 ∧ (Q (mu2 15 0 a0.toNatClampNeg) mu2 la3))))) : FnI E (d + 1) mi_78 [.inr (.inr (some (6, c))), .inl a0] mu la Q := by
  unfold FnI
  show Ev E (d + 1) mi_78 0 [some (.inr (.inr (some (6, c)))), some (.inl a0)] [] (mem E mu la) (qI E Q)
  refine Ev.steps 3 (ip' := 3) (ls' := [some (.inr (.inr (some (6, c)))), some (.inl a0)]) (st' := [.inl a0, .inr (.inr (some (1, 0)))]) (M' := mem E mu la) rfl ?_
  refine Ev.ci (J := mi_14) (as := [.inr (.inr (some (1, 0))), .inl a0]) (rest := []) rfl rfl rfl (Nat.le_of_ble_eq_true rfl) h (fun x1 mu2 la3 h => ?_)
  refine Ev.br (c := x1 = 0) (s1 := (11, [some (.inr (.inr (some (6, c)))), some (.inl a0)], [], mem E mu2 la3)) (s2 := (5, [some (.inr (.inr (some (6, c)))), some (.inl a0)], [], mem E mu2 la3)) rfl rfl rfl rfl (fun hc => ?_) (fun hc => ?_)
  · have h := h.1 hc
    dsimp only
    refine Ev.steps 1 (ip' := 12) (ls' := [some (.inr (.inr (some (6, c)))), some (.inl a0)]) (st' := [.inl (-1 : Int32)]) (M' := mem E mu2 la3) rfl ?_
    exact Ev.ret rfl rfl ⟨_, _, _, rfl, rfl, h⟩
  · have h := h.2 hc
    dsimp only
    refine Ev.steps 4 (ip' := 9) (ls' := [some (.inr (.inr (some (6, c)))), some (.inl a0)]) (st' := [.inl a0, .inr (.inr (some (15, 0)))]) (M' := mem E mu2 la3) rfl ?_
    refine Ev.ial rfl rfl (by decide) h.1 ?_
    have h := h.2
    refine Ev.steps 1 (ip' := 12) (ls' := [some (.inr (.inr (some (6, c)))), some (.inl a0)]) (st' := [.inl (mu2 15 0 a0.toNatClampNeg)]) (M' := mem E mu2 la3) rfl ?_
    exact Ev.ret rfl rfl ⟨_, _, _, rfl, rfl, h⟩
set_option maxRecDepth 100000 in
/-- AnnCups.alike()I -/
theorem vc_X6_alike {E : mEv} {d : Nat} {c : Nat} {mu : fMu} {la : fLa} {Q : Int32 → fMu → fLa → Prop} (h : ∀ mu1 : fMu, mu1 = up3 mu 6 c 11 (-9 : Int32) → (Ev E (d + 1) mi_79 7 [some (.inr (.inr (some (6, c)))), some (.inl (0 : Int32)), some (.inl (0 : Int32)), none] [] (mem E mu1 la) (qI E Q))) : FnI E (d + 1) mi_79 [.inr (.inr (some (6, c)))] mu la Q := by
  unfold FnI
  show Ev E (d + 1) mi_79 0 [some (.inr (.inr (some (6, c)))), none, none, none] [] (mem E mu la) (qI E Q)
  refine Ev.steps 5 (ip' := 5) (ls' := [some (.inr (.inr (some (6, c)))), some (.inl (0 : Int32)), none, none]) (st' := []) (M' := mem E (up3 mu 6 c 11 (-9 : Int32)) la) rfl ?_
  generalize hgmu1 : up3 mu 6 c 11 (-9 : Int32) = mu1
  have h := h mu1 hgmu1.symm
  refine Ev.steps 2 (ip' := 7) (ls' := [some (.inr (.inr (some (6, c)))), some (.inl (0 : Int32)), some (.inl (0 : Int32)), none]) (st' := []) (M' := mem E mu1 la) rfl ?_
  exact h
set_option maxRecDepth 100000 in
theorem vc_X6_alike_7 {E : mEv} {d : Nat}  (v0 : Nat) (v1 : Int32) (v2 : Int32) {mu : fMu} {la : fLa} {Q : Int32 → fMu → fLa → Prop} (h : ((mu 1 0 0) ≤ v2 → (Q v1 mu la)) ∧ (¬ ((mu 1 0 0) ≤ v2) → (Ev E (d + 1) mi_79 16 [some (.inr (.inr (some (6, v0)))), some (.inl v1), some (.inl v2), some (.inl (v2 + (1 : Int32)))] [] (mem E mu la) (qI E Q)))) : Ev E (d + 1) mi_79 7 [some (.inr (.inr (some (6, v0)))), some (.inl v1), some (.inl v2), none] [] (mem E mu la) (qI E Q) := by
  refine Ev.steps 4 (ip' := 11) (ls' := [some (.inr (.inr (some (6, v0)))), some (.inl v1), some (.inl v2), none]) (st' := [.inl (mu 1 0 0), .inl v2]) (M' := mem E mu la) rfl ?_
  refine Ev.br (c := (mu 1 0 0) ≤ v2) (s1 := (63, [some (.inr (.inr (some (6, v0)))), some (.inl v1), some (.inl v2), none], [], mem E mu la)) (s2 := (12, [some (.inr (.inr (some (6, v0)))), some (.inl v1), some (.inl v2), none], [], mem E mu la)) rfl rfl rfl rfl (fun hc => ?_) (fun hc => ?_)
  · have h := h.1 hc
    dsimp only
    refine Ev.steps 1 (ip' := 64) (ls' := [some (.inr (.inr (some (6, v0)))), some (.inl v1), some (.inl v2), none]) (st' := [.inl v1]) (M' := mem E mu la) rfl ?_
    exact Ev.ret rfl rfl ⟨_, _, _, rfl, rfl, h⟩
  · have h := h.2 hc
    dsimp only
    refine Ev.steps 4 (ip' := 16) (ls' := [some (.inr (.inr (some (6, v0)))), some (.inl v1), some (.inl v2), some (.inl (v2 + (1 : Int32)))]) (st' := []) (M' := mem E mu la) rfl ?_
    exact h
set_option maxRecDepth 100000 in
theorem vc_X6_alike_16 {E : mEv} {d : Nat}  (v0 : Nat) (v1 : Int32) (v2 : Int32) (v3 : Int32) {mu : fMu} {la : fLa} {Q : Int32 → fMu → fLa → Prop} (h : ((mu 1 0 0) ≤ v3 → (Ev E (d + 1) mi_79 7 [some (.inr (.inr (some (6, v0)))), some (.inl v1), some (.inl (v2 + (1 : Int32))), none] [] (mem E mu la) (qI E Q))) ∧ (¬ ((mu 1 0 0) ≤ v3) → (FnI E d mi_15 [.inr (.inr (some (1, 0))), .inl v2] mu la (fun x2 mu3 la4 => (x2 = 0 → (Ev E (d + 1) mi_79 16 [some (.inr (.inr (some (6, v0)))), some (.inl v1), some (.inl v2), some (.inl (v3 + (1 : Int32)))] [] (mem E mu3 la4) (qI E Q))) ∧ (¬ (x2 = 0) → (FnI E d mi_15 [.inr (.inr (some (1, 0))), .inl v3] mu3 la4 (fun x5 mu6 la7 => (x5 = 0 → (Ev E (d + 1) mi_79 16 [some (.inr (.inr (some (6, v0)))), some (.inl v1), some (.inl v2), some (.inl (v3 + (1 : Int32)))] [] (mem E mu6 la7) (qI E Q))) ∧ (¬ (x5 = 0) → (vp_in v2 6 ∧ (vp_in v3 6 ∧ (FnI E d mi_102 [.inl (mu6 13 0 v2.toNatClampNeg), .inl (mu6 13 0 v3.toNatClampNeg), .inl (mu6 1 0 1)] mu6 la7 (fun x8 mu9 la10 => (x8 = 0 → (Ev E (d + 1) mi_79 16 [some (.inr (.inr (some (6, v0)))), some (.inl v1), some (.inl v2), some (.inl (v3 + (1 : Int32)))] [] (mem E mu9 la10) (qI E Q))) ∧ (¬ (x8 = 0) → ((¬ v1 = 0 → (∀ mu11 : fMu, mu11 = up3 mu9 6 v0 11 (mu9 6 v0 11) → (Ev E (d + 1) mi_79 16 [some (.inr (.inr (some (6, v0)))), some (.inl (v1 + (1 : Int32))), some (.inl v2), some (.inl (v3 + (1 : Int32)))] [] (mem E mu11 la10) (qI E Q)))) ∧ (¬ (¬ v1 = 0) → (∀ mu12 : fMu, mu12 = up3 mu9 6 v0 11 (((6 : Int32) * v2) + v3) → (Ev E (d + 1) mi_79 16 [some (.inr (.inr (some (6, v0)))), some (.inl (v1 + (1 : Int32))), some (.inl v2), some (.inl (v3 + (1 : Int32)))] [] (mem E mu12 la10) (qI E Q)))))))))))))))))) : Ev E (d + 1) mi_79 16 [some (.inr (.inr (some (6, v0)))), some (.inl v1), some (.inl v2), some (.inl v3)] [] (mem E mu la) (qI E Q) := by
  refine Ev.steps 4 (ip' := 20) (ls' := [some (.inr (.inr (some (6, v0)))), some (.inl v1), some (.inl v2), some (.inl v3)]) (st' := [.inl (mu 1 0 0), .inl v3]) (M' := mem E mu la) rfl ?_
  refine Ev.br (c := (mu 1 0 0) ≤ v3) (s1 := (61, [some (.inr (.inr (some (6, v0)))), some (.inl v1), some (.inl v2), some (.inl v3)], [], mem E mu la)) (s2 := (21, [some (.inr (.inr (some (6, v0)))), some (.inl v1), some (.inl v2), some (.inl v3)], [], mem E mu la)) rfl rfl rfl rfl (fun hc => ?_) (fun hc => ?_)
  · have h := h.1 hc
    dsimp only
    refine Ev.steps 2 (ip' := 7) (ls' := [some (.inr (.inr (some (6, v0)))), some (.inl v1), some (.inl (v2 + (1 : Int32))), some (.inl v3)]) (st' := []) (M' := mem E mu la) rfl ?_
    refine Ev.drop (ls := [some (.inr (.inr (some (6, v0)))), some (.inl v1), some (.inl (v2 + (1 : Int32))), none]) ⟨Or.inr rfl, Or.inr rfl, Or.inr rfl, Or.inl rfl, trivial⟩ ?_
    exact h
  · have h := h.2 hc
    dsimp only
    refine Ev.steps 3 (ip' := 24) (ls' := [some (.inr (.inr (some (6, v0)))), some (.inl v1), some (.inl v2), some (.inl v3)]) (st' := [.inl v2, .inr (.inr (some (1, 0)))]) (M' := mem E mu la) rfl ?_
    refine Ev.ci (J := mi_15) (as := [.inr (.inr (some (1, 0))), .inl v2]) (rest := []) rfl rfl rfl (Nat.le_of_ble_eq_true rfl) h (fun x2 mu3 la4 h => ?_)
    refine Ev.br (c := x2 = 0) (s1 := (59, [some (.inr (.inr (some (6, v0)))), some (.inl v1), some (.inl v2), some (.inl v3)], [], mem E mu3 la4)) (s2 := (26, [some (.inr (.inr (some (6, v0)))), some (.inl v1), some (.inl v2), some (.inl v3)], [], mem E mu3 la4)) rfl rfl rfl rfl (fun hc => ?_) (fun hc => ?_)
    · have h := h.1 hc
      dsimp only
      refine Ev.steps 2 (ip' := 16) (ls' := [some (.inr (.inr (some (6, v0)))), some (.inl v1), some (.inl v2), some (.inl (v3 + (1 : Int32)))]) (st' := []) (M' := mem E mu3 la4) rfl ?_
      exact h
    · have h := h.2 hc
      dsimp only
      refine Ev.steps 3 (ip' := 29) (ls' := [some (.inr (.inr (some (6, v0)))), some (.inl v1), some (.inl v2), some (.inl v3)]) (st' := [.inl v3, .inr (.inr (some (1, 0)))]) (M' := mem E mu3 la4) rfl ?_
      refine Ev.ci (J := mi_15) (as := [.inr (.inr (some (1, 0))), .inl v3]) (rest := []) rfl rfl rfl (Nat.le_of_ble_eq_true rfl) h (fun x5 mu6 la7 h => ?_)
      refine Ev.br (c := x5 = 0) (s1 := (59, [some (.inr (.inr (some (6, v0)))), some (.inl v1), some (.inl v2), some (.inl v3)], [], mem E mu6 la7)) (s2 := (31, [some (.inr (.inr (some (6, v0)))), some (.inl v1), some (.inl v2), some (.inl v3)], [], mem E mu6 la7)) rfl rfl rfl rfl (fun hc => ?_) (fun hc => ?_)
      · have h := h.1 hc
        dsimp only
        refine Ev.steps 2 (ip' := 16) (ls' := [some (.inr (.inr (some (6, v0)))), some (.inl v1), some (.inl v2), some (.inl (v3 + (1 : Int32)))]) (st' := []) (M' := mem E mu6 la7) rfl ?_
        exact h
      · have h := h.2 hc
        dsimp only
        refine Ev.steps 4 (ip' := 35) (ls' := [some (.inr (.inr (some (6, v0)))), some (.inl v1), some (.inl v2), some (.inl v3)]) (st' := [.inl v2, .inr (.inr (some (13, 0)))]) (M' := mem E mu6 la7) rfl ?_
        refine Ev.ial rfl rfl (by decide) h.1 ?_
        have h := h.2
        refine Ev.steps 4 (ip' := 40) (ls' := [some (.inr (.inr (some (6, v0)))), some (.inl v1), some (.inl v2), some (.inl v3)]) (st' := [.inl v3, .inr (.inr (some (13, 0))), .inl (mu6 13 0 v2.toNatClampNeg)]) (M' := mem E mu6 la7) rfl ?_
        refine Ev.ial rfl rfl (by decide) h.1 ?_
        have h := h.2
        refine Ev.steps 3 (ip' := 44) (ls' := [some (.inr (.inr (some (6, v0)))), some (.inl v1), some (.inl v2), some (.inl v3)]) (st' := [.inl (mu6 1 0 1), .inl (mu6 13 0 v3.toNatClampNeg), .inl (mu6 13 0 v2.toNatClampNeg)]) (M' := mem E mu6 la7) rfl ?_
        refine Ev.ci (J := mi_102) (as := [.inl (mu6 13 0 v2.toNatClampNeg), .inl (mu6 13 0 v3.toNatClampNeg), .inl (mu6 1 0 1)]) (rest := []) rfl rfl rfl (Nat.le_of_ble_eq_true rfl) h (fun x8 mu9 la10 h => ?_)
        refine Ev.br (c := x8 = 0) (s1 := (59, [some (.inr (.inr (some (6, v0)))), some (.inl v1), some (.inl v2), some (.inl v3)], [], mem E mu9 la10)) (s2 := (46, [some (.inr (.inr (some (6, v0)))), some (.inl v1), some (.inl v2), some (.inl v3)], [], mem E mu9 la10)) rfl rfl rfl rfl (fun hc => ?_) (fun hc => ?_)
        · have h := h.1 hc
          dsimp only
          refine Ev.steps 2 (ip' := 16) (ls' := [some (.inr (.inr (some (6, v0)))), some (.inl v1), some (.inl v2), some (.inl (v3 + (1 : Int32)))]) (st' := []) (M' := mem E mu9 la10) rfl ?_
          exact h
        · have h := h.2 hc
          dsimp only
          refine Ev.steps 2 (ip' := 48) (ls' := [some (.inr (.inr (some (6, v0)))), some (.inl v1), some (.inl v2), some (.inl v3)]) (st' := [.inl v1, .inr (.inr (some (6, v0)))]) (M' := mem E mu9 la10) rfl ?_
          refine Ev.br (c := ¬ v1 = 0) (s1 := (55, [some (.inr (.inr (some (6, v0)))), some (.inl v1), some (.inl v2), some (.inl v3)], [.inr (.inr (some (6, v0)))], mem E mu9 la10)) (s2 := (49, [some (.inr (.inr (some (6, v0)))), some (.inl v1), some (.inl v2), some (.inl v3)], [.inr (.inr (some (6, v0)))], mem E mu9 la10)) rfl rfl rfl rfl (fun hc => ?_) (fun hc => ?_)
          · have h := h.1 hc
            dsimp only
            refine Ev.steps 3 (ip' := 58) (ls' := [some (.inr (.inr (some (6, v0)))), some (.inl v1), some (.inl v2), some (.inl v3)]) (st' := []) (M' := mem E (up3 mu9 6 v0 11 (mu9 6 v0 11)) la10) rfl ?_
            generalize hgmu11 : up3 mu9 6 v0 11 (mu9 6 v0 11) = mu11
            have h := h mu11 hgmu11.symm
            refine Ev.steps 3 (ip' := 16) (ls' := [some (.inr (.inr (some (6, v0)))), some (.inl (v1 + (1 : Int32))), some (.inl v2), some (.inl (v3 + (1 : Int32)))]) (st' := []) (M' := mem E mu11 la10) rfl ?_
            exact h
          · have h := h.2 hc
            dsimp only
            refine Ev.steps 7 (ip' := 58) (ls' := [some (.inr (.inr (some (6, v0)))), some (.inl v1), some (.inl v2), some (.inl v3)]) (st' := []) (M' := mem E (up3 mu9 6 v0 11 (((6 : Int32) * v2) + v3)) la10) rfl ?_
            generalize hgmu12 : up3 mu9 6 v0 11 (((6 : Int32) * v2) + v3) = mu12
            have h := h mu12 hgmu12.symm
            refine Ev.steps 3 (ip' := 16) (ls' := [some (.inr (.inr (some (6, v0)))), some (.inl (v1 + (1 : Int32))), some (.inl v2), some (.inl (v3 + (1 : Int32)))]) (st' := []) (M' := mem E mu12 la10) rfl ?_
            exact h
set_option maxRecDepth 100000 in
/-- AnnCups.give()I -/
theorem vc_X6_give {E : mEv} {d : Nat} {c : Nat} {mu : fMu} {la : fLa} {Q : Int32 → fMu → fLa → Prop} (h : (¬ (mu 1 0 0) = 0 → (Ev E (d + 1) mi_80 12 [some (.inr (.inr (some (6, c)))), some (.inl (0 : Int32)), some (.inl (7 : Int32)), some (.inl (0 : Int32)), none] [] (mem E mu la) (qI E Q))) ∧ (¬ (¬ (mu 1 0 0) = 0) → (Q (-4 : Int32) mu la))) : FnI E (d + 1) mi_80 [.inr (.inr (some (6, c)))] mu la Q := by
  unfold FnI
  show Ev E (d + 1) mi_80 0 [some (.inr (.inr (some (6, c)))), none, none, none, none] [] (mem E mu la) (qI E Q)
  refine Ev.steps 3 (ip' := 3) (ls' := [some (.inr (.inr (some (6, c)))), none, none, none, none]) (st' := [.inl (mu 1 0 0)]) (M' := mem E mu la) rfl ?_
  refine Ev.br (c := ¬ (mu 1 0 0) = 0) (s1 := (6, [some (.inr (.inr (some (6, c)))), none, none, none, none], [], mem E mu la)) (s2 := (4, [some (.inr (.inr (some (6, c)))), none, none, none, none], [], mem E mu la)) rfl rfl rfl rfl (fun hc => ?_) (fun hc => ?_)
  · have h := h.1 hc
    dsimp only
    refine Ev.steps 6 (ip' := 12) (ls' := [some (.inr (.inr (some (6, c)))), some (.inl (0 : Int32)), some (.inl (7 : Int32)), some (.inl (0 : Int32)), none]) (st' := []) (M' := mem E mu la) rfl ?_
    exact h
  · have h := h.2 hc
    dsimp only
    refine Ev.steps 1 (ip' := 5) (ls' := [some (.inr (.inr (some (6, c)))), none, none, none, none]) (st' := [.inl (-4 : Int32)]) (M' := mem E mu la) rfl ?_
    exact Ev.ret rfl rfl ⟨_, _, _, rfl, rfl, h⟩
set_option maxRecDepth 100000 in
theorem vc_X6_give_12 {E : mEv} {d : Nat}  (v0 : Nat) (v1 : Int32) (v2 : Int32) (v3 : Int32) {mu : fMu} {la : fLa} {Q : Int32 → fMu → fLa → Prop} (h : ((9 : Int32) < v3 → (∀ mu1 : fMu, mu1 = up3 mu 6 v0 11 v2 → (Q v1 mu1 la))) ∧ (¬ ((9 : Int32) < v3) → (FnI E d mi_19 [.inr (.inr (some (1, 0))), .inl v3, .inl (mu 1 0 1)] mu la (fun x2 mu3 la4 => FnI E d mi_227 [.inl x2] mu3 la4 (fun x5 mu6 la7 => (v2 ≤ x5 → (Ev E (d + 1) mi_80 12 [some (.inr (.inr (some (6, v0)))), some (.inl v1), some (.inl v2), some (.inl (v3 + (1 : Int32))), none] [] (mem E mu6 la7) (qI E Q))) ∧ (¬ (v2 ≤ x5) → (Ev E (d + 1) mi_80 12 [some (.inr (.inr (some (6, v0)))), some (.inl v3), some (.inl x5), some (.inl (v3 + (1 : Int32))), none] [] (mem E mu6 la7) (qI E Q)))))))) : Ev E (d + 1) mi_80 12 [some (.inr (.inr (some (6, v0)))), some (.inl v1), some (.inl v2), some (.inl v3), none] [] (mem E mu la) (qI E Q) := by
  refine Ev.steps 2 (ip' := 14) (ls' := [some (.inr (.inr (some (6, v0)))), some (.inl v1), some (.inl v2), some (.inl v3), none]) (st' := [.inl (9 : Int32), .inl v3]) (M' := mem E mu la) rfl ?_
  refine Ev.br (c := (9 : Int32) < v3) (s1 := (33, [some (.inr (.inr (some (6, v0)))), some (.inl v1), some (.inl v2), some (.inl v3), none], [], mem E mu la)) (s2 := (15, [some (.inr (.inr (some (6, v0)))), some (.inl v1), some (.inl v2), some (.inl v3), none], [], mem E mu la)) rfl rfl rfl rfl (fun hc => ?_) (fun hc => ?_)
  · have h := h.1 hc
    dsimp only
    refine Ev.steps 3 (ip' := 36) (ls' := [some (.inr (.inr (some (6, v0)))), some (.inl v1), some (.inl v2), some (.inl v3), none]) (st' := []) (M' := mem E (up3 mu 6 v0 11 v2) la) rfl ?_
    generalize hgmu1 : up3 mu 6 v0 11 v2 = mu1
    have h := h mu1 hgmu1.symm
    refine Ev.steps 1 (ip' := 37) (ls' := [some (.inr (.inr (some (6, v0)))), some (.inl v1), some (.inl v2), some (.inl v3), none]) (st' := [.inl v1]) (M' := mem E mu1 la) rfl ?_
    exact Ev.ret rfl rfl ⟨_, _, _, rfl, rfl, h⟩
  · have h := h.2 hc
    dsimp only
    refine Ev.steps 6 (ip' := 21) (ls' := [some (.inr (.inr (some (6, v0)))), some (.inl v1), some (.inl v2), some (.inl v3), none]) (st' := [.inl (mu 1 0 1), .inl v3, .inr (.inr (some (1, 0)))]) (M' := mem E mu la) rfl ?_
    refine Ev.ci (J := mi_19) (as := [.inr (.inr (some (1, 0))), .inl v3, .inl (mu 1 0 1)]) (rest := []) rfl rfl rfl (Nat.le_of_ble_eq_true rfl) h (fun x2 mu3 la4 h => ?_)
    refine Ev.ci (J := mi_227) (as := [.inl x2]) (rest := []) rfl rfl rfl (Nat.le_of_ble_eq_true rfl) h (fun x5 mu6 la7 h => ?_)
    refine Ev.steps 3 (ip' := 26) (ls' := [some (.inr (.inr (some (6, v0)))), some (.inl v1), some (.inl v2), some (.inl v3), some (.inl x5)]) (st' := [.inl v2, .inl x5]) (M' := mem E mu6 la7) rfl ?_
    refine Ev.br (c := v2 ≤ x5) (s1 := (31, [some (.inr (.inr (some (6, v0)))), some (.inl v1), some (.inl v2), some (.inl v3), some (.inl x5)], [], mem E mu6 la7)) (s2 := (27, [some (.inr (.inr (some (6, v0)))), some (.inl v1), some (.inl v2), some (.inl v3), some (.inl x5)], [], mem E mu6 la7)) rfl rfl rfl rfl (fun hc => ?_) (fun hc => ?_)
    · have h := h.1 hc
      dsimp only
      refine Ev.steps 2 (ip' := 12) (ls' := [some (.inr (.inr (some (6, v0)))), some (.inl v1), some (.inl v2), some (.inl (v3 + (1 : Int32))), some (.inl x5)]) (st' := []) (M' := mem E mu6 la7) rfl ?_
      refine Ev.drop (ls := [some (.inr (.inr (some (6, v0)))), some (.inl v1), some (.inl v2), some (.inl (v3 + (1 : Int32))), none]) ⟨Or.inr rfl, Or.inr rfl, Or.inr rfl, Or.inr rfl, Or.inl rfl, trivial⟩ ?_
      exact h
    · have h := h.2 hc
      dsimp only
      refine Ev.steps 6 (ip' := 12) (ls' := [some (.inr (.inr (some (6, v0)))), some (.inl v3), some (.inl x5), some (.inl (v3 + (1 : Int32))), some (.inl x5)]) (st' := []) (M' := mem E mu6 la7) rfl ?_
      refine Ev.drop (ls := [some (.inr (.inr (some (6, v0)))), some (.inl v3), some (.inl x5), some (.inl (v3 + (1 : Int32))), none]) ⟨Or.inr rfl, Or.inr rfl, Or.inr rfl, Or.inr rfl, Or.inl rfl, trivial⟩ ?_
      exact h
set_option maxRecDepth 100000 in
/-- AnnCups.reach(I)I -/
theorem vc_X6_reach {E : mEv} {d : Nat} {c : Nat} (a0 : Int32) {mu : fMu} {la : fLa} {Q : Int32 → fMu → fLa → Prop} (h : FnI E d mi_14 [.inr (.inr (some (1, 0))), .inl a0] mu la (fun x1 mu2 la3 => (x1 = 0 → (Q (-1 : Int32) mu2 la3)) ∧ (¬ (x1 = 0) → (FnI E d mi_18 [.inr (.inr (some (1, 0))), .inl a0, .inl (mu2 0 0 4)] mu2 la3 (fun x4 mu5 la6 => Q x4 mu5 la6))))) : FnI E (d + 1) mi_81 [.inr (.inr (some (6, c))), .inl a0] mu la Q := by
  unfold FnI
  show Ev E (d + 1) mi_81 0 [some (.inr (.inr (some (6, c)))), some (.inl a0)] [] (mem E mu la) (qI E Q)
  refine Ev.steps 3 (ip' := 3) (ls' := [some (.inr (.inr (some (6, c)))), some (.inl a0)]) (st' := [.inl a0, .inr (.inr (some (1, 0)))]) (M' := mem E mu la) rfl ?_
  refine Ev.ci (J := mi_14) (as := [.inr (.inr (some (1, 0))), .inl a0]) (rest := []) rfl rfl rfl (Nat.le_of_ble_eq_true rfl) h (fun x1 mu2 la3 h => ?_)
  refine Ev.br (c := x1 = 0) (s1 := (13, [some (.inr (.inr (some (6, c)))), some (.inl a0)], [], mem E mu2 la3)) (s2 := (5, [some (.inr (.inr (some (6, c)))), some (.inl a0)], [], mem E mu2 la3)) rfl rfl rfl rfl (fun hc => ?_) (fun hc => ?_)
  · have h := h.1 hc
    dsimp only
    refine Ev.steps 1 (ip' := 14) (ls' := [some (.inr (.inr (some (6, c)))), some (.inl a0)]) (st' := [.inl (-1 : Int32)]) (M' := mem E mu2 la3) rfl ?_
    exact Ev.ret rfl rfl ⟨_, _, _, rfl, rfl, h⟩
  · have h := h.2 hc
    dsimp only
    refine Ev.steps 6 (ip' := 11) (ls' := [some (.inr (.inr (some (6, c)))), some (.inl a0)]) (st' := [.inl (mu2 0 0 4), .inl a0, .inr (.inr (some (1, 0)))]) (M' := mem E mu2 la3) rfl ?_
    refine Ev.ci (J := mi_18) (as := [.inr (.inr (some (1, 0))), .inl a0, .inl (mu2 0 0 4)]) (rest := []) rfl rfl rfl (Nat.le_of_ble_eq_true rfl) h (fun x4 mu5 la6 h => ?_)
    refine Ev.steps 1 (ip' := 14) (ls' := [some (.inr (.inr (some (6, c)))), some (.inl a0)]) (st' := [.inl x4]) (M' := mem E mu5 la6) rfl ?_
    exact Ev.ret rfl rfl ⟨_, _, _, rfl, rfl, h⟩
set_option maxRecDepth 100000 in
/-- AnnCups.ears(I)I -/
theorem vc_X6_ears {E : mEv} {d : Nat} {c : Nat} (a0 : Int32) {mu : fMu} {la : fLa} {Q : Int32 → fMu → fLa → Prop} (h : FnR E d mi_96 [.inr (.inr (some (6, c))), .inl a0] mu la 3 (fun mu2 la3 => Q (-1 : Int32) mu2 la3) (fun x1 mu2 la3 => (¬ (mu2 1 0 0) = 0 → ((0 ≤ (mu2 3 x1 0) → (((12 : Int32) < (mu2 3 x1 0) → (FnI E d mi_95 [.inr (.inr (some (6, c))), .inl (5 : Int32)] mu2 la3 (fun x4 mu5 la6 => Q x4 mu5 la6))) ∧ (¬ ((12 : Int32) < (mu2 3 x1 0)) → ((¬ (2 : Int32) = 0) ∧ ((((mu2 3 x1 0) - (mu2 3 x1 0) / (2 : Int32) * (2 : Int32)) = 0 → (FnI E d mi_123 [.inr (.inr (some (6, c))), .inr (.inr (some (3, x1)))] mu2 la3 (fun x7 mu8 la9 => (¬ x7 = 0 → (Ev E (d + 1) mi_82 46 [some (.inr (.inr (some (6, c)))), none, some (.inr (.inr (some (3, x1)))), some (.inl (0 : Int32)), some (.inl (0 : Int32))] [] (mem E mu8 la9) (qI E Q))) ∧ (¬ (¬ x7 = 0) → (FnI E d mi_95 [.inr (.inr (some (6, c))), .inl (3 : Int32)] mu8 la9 (fun x10 mu11 la12 => Q x10 mu11 la12)))))) ∧ (¬ (((mu2 3 x1 0) - (mu2 3 x1 0) / (2 : Int32) * (2 : Int32)) = 0) → (FnI E d mi_95 [.inr (.inr (some (6, c))), .inl (5 : Int32)] mu2 la3 (fun x13 mu14 la15 => Q x13 mu14 la15)))))))) ∧ (¬ (0 ≤ (mu2 3 x1 0)) → (FnI E d mi_95 [.inr (.inr (some (6, c))), .inl (1 : Int32)] mu2 la3 (fun x16 mu17 la18 => Q x16 mu17 la18))))) ∧ (¬ (¬ (mu2 1 0 0) = 0) → (Q (-4 : Int32) mu2 la3)))) : FnI E (d + 1) mi_82 [.inr (.inr (some (6, c))), .inl a0] mu la Q := by
  unfold FnI
  show Ev E (d + 1) mi_82 0 [some (.inr (.inr (some (6, c)))), some (.inl a0), none, none, none] [] (mem E mu la) (qI E Q)
  refine Ev.steps 2 (ip' := 2) (ls' := [some (.inr (.inr (some (6, c)))), some (.inl a0), none, none, none]) (st' := [.inl a0, .inr (.inr (some (6, c)))]) (M' := mem E mu la) rfl ?_
  refine Ev.cr 3 (J := mi_96) (as := [.inr (.inr (some (6, c))), .inl a0]) (rest := []) rfl rfl rfl (Nat.le_of_ble_eq_true rfl) h (fun mu2 la3 h => ?_) (fun x1 mu2 la3 h => ?_)
  · refine Ev.steps 4 (ip' := 7) (ls' := [some (.inr (.inr (some (6, c)))), some (.inl a0), some (.inr (.inr none)), none, none]) (st' := [.inl (-1 : Int32)]) (M' := mem E mu2 la3) rfl ?_
    exact Ev.ret rfl rfl ⟨_, _, _, rfl, rfl, h⟩
  · refine Ev.steps 6 (ip' := 11) (ls' := [some (.inr (.inr (some (6, c)))), some (.inl a0), some (.inr (.inr (some (3, x1)))), none, none]) (st' := [.inl (mu2 1 0 0)]) (M' := mem E mu2 la3) rfl ?_
    refine Ev.br (c := ¬ (mu2 1 0 0) = 0) (s1 := (14, [some (.inr (.inr (some (6, c)))), some (.inl a0), some (.inr (.inr (some (3, x1)))), none, none], [], mem E mu2 la3)) (s2 := (12, [some (.inr (.inr (some (6, c)))), some (.inl a0), some (.inr (.inr (some (3, x1)))), none, none], [], mem E mu2 la3)) rfl rfl rfl rfl (fun hc => ?_) (fun hc => ?_)
    · have h := h.1 hc
      dsimp only
      refine Ev.steps 2 (ip' := 16) (ls' := [some (.inr (.inr (some (6, c)))), some (.inl a0), some (.inr (.inr (some (3, x1)))), none, none]) (st' := [.inl (mu2 3 x1 0)]) (M' := mem E mu2 la3) rfl ?_
      refine Ev.br (c := 0 ≤ (mu2 3 x1 0)) (s1 := (21, [some (.inr (.inr (some (6, c)))), some (.inl a0), some (.inr (.inr (some (3, x1)))), none, none], [], mem E mu2 la3)) (s2 := (17, [some (.inr (.inr (some (6, c)))), some (.inl a0), some (.inr (.inr (some (3, x1)))), none, none], [], mem E mu2 la3)) rfl rfl rfl rfl (fun hc => ?_) (fun hc => ?_)
      · have h := h.1 hc
        dsimp only
        refine Ev.steps 3 (ip' := 24) (ls' := [some (.inr (.inr (some (6, c)))), some (.inl a0), some (.inr (.inr (some (3, x1)))), none, none]) (st' := [.inl (12 : Int32), .inl (mu2 3 x1 0)]) (M' := mem E mu2 la3) rfl ?_
        refine Ev.br (c := (12 : Int32) < (mu2 3 x1 0)) (s1 := (30, [some (.inr (.inr (some (6, c)))), some (.inl a0), some (.inr (.inr (some (3, x1)))), none, none], [], mem E mu2 la3)) (s2 := (25, [some (.inr (.inr (some (6, c)))), some (.inl a0), some (.inr (.inr (some (3, x1)))), none, none], [], mem E mu2 la3)) rfl rfl rfl rfl (fun hc => ?_) (fun hc => ?_)
        · have h := h.1 hc
          dsimp only
          refine Ev.steps 2 (ip' := 32) (ls' := [some (.inr (.inr (some (6, c)))), some (.inl a0), some (.inr (.inr (some (3, x1)))), none, none]) (st' := [.inl (5 : Int32), .inr (.inr (some (6, c)))]) (M' := mem E mu2 la3) rfl ?_
          refine Ev.ci (J := mi_95) (as := [.inr (.inr (some (6, c))), .inl (5 : Int32)]) (rest := []) rfl rfl rfl (Nat.le_of_ble_eq_true rfl) h (fun x4 mu5 la6 h => ?_)
          exact Ev.ret rfl rfl ⟨_, _, _, rfl, rfl, h⟩
        · have h := h.2 hc
          dsimp only
          refine Ev.steps 3 (ip' := 28) (ls' := [some (.inr (.inr (some (6, c)))), some (.inl a0), some (.inr (.inr (some (3, x1)))), none, none]) (st' := [.inl (2 : Int32), .inl (mu2 3 x1 0)]) (M' := mem E mu2 la3) rfl ?_
          refine Ev.want (c := (2 : Int32) = 0) (s2 := (29, [some (.inr (.inr (some (6, c)))), some (.inl a0), some (.inr (.inr (some (3, x1)))), none, none], [.inl ((mu2 3 x1 0) - (mu2 3 x1 0) / (2 : Int32) * (2 : Int32))], mem E mu2 la3)) rfl rfl rfl rfl h.1 ?_
          have h := h.2
          refine Ev.br (c := ((mu2 3 x1 0) - (mu2 3 x1 0) / (2 : Int32) * (2 : Int32)) = 0) (s1 := (34, [some (.inr (.inr (some (6, c)))), some (.inl a0), some (.inr (.inr (some (3, x1)))), none, none], [], mem E mu2 la3)) (s2 := (30, [some (.inr (.inr (some (6, c)))), some (.inl a0), some (.inr (.inr (some (3, x1)))), none, none], [], mem E mu2 la3)) rfl rfl rfl rfl (fun hc => ?_) (fun hc => ?_)
          · have h := h.1 hc
            dsimp only
            refine Ev.steps 2 (ip' := 36) (ls' := [some (.inr (.inr (some (6, c)))), some (.inl a0), some (.inr (.inr (some (3, x1)))), none, none]) (st' := [.inr (.inr (some (3, x1))), .inr (.inr (some (6, c)))]) (M' := mem E mu2 la3) rfl ?_
            refine Ev.ci (J := mi_123) (as := [.inr (.inr (some (6, c))), .inr (.inr (some (3, x1)))]) (rest := []) rfl rfl rfl (Nat.le_of_ble_eq_true rfl) h (fun x7 mu8 la9 h => ?_)
            refine Ev.br (c := ¬ x7 = 0) (s1 := (42, [some (.inr (.inr (some (6, c)))), some (.inl a0), some (.inr (.inr (some (3, x1)))), none, none], [], mem E mu8 la9)) (s2 := (38, [some (.inr (.inr (some (6, c)))), some (.inl a0), some (.inr (.inr (some (3, x1)))), none, none], [], mem E mu8 la9)) rfl rfl rfl rfl (fun hc => ?_) (fun hc => ?_)
            · have h := h.1 hc
              dsimp only
              refine Ev.steps 4 (ip' := 46) (ls' := [some (.inr (.inr (some (6, c)))), some (.inl a0), some (.inr (.inr (some (3, x1)))), some (.inl (0 : Int32)), some (.inl (0 : Int32))]) (st' := []) (M' := mem E mu8 la9) rfl ?_
              refine Ev.drop (ls := [some (.inr (.inr (some (6, c)))), none, some (.inr (.inr (some (3, x1)))), some (.inl (0 : Int32)), some (.inl (0 : Int32))]) ⟨Or.inr rfl, Or.inl rfl, Or.inr rfl, Or.inr rfl, Or.inr rfl, trivial⟩ ?_
              exact h
            · have h := h.2 hc
              dsimp only
              refine Ev.steps 2 (ip' := 40) (ls' := [some (.inr (.inr (some (6, c)))), some (.inl a0), some (.inr (.inr (some (3, x1)))), none, none]) (st' := [.inl (3 : Int32), .inr (.inr (some (6, c)))]) (M' := mem E mu8 la9) rfl ?_
              refine Ev.ci (J := mi_95) (as := [.inr (.inr (some (6, c))), .inl (3 : Int32)]) (rest := []) rfl rfl rfl (Nat.le_of_ble_eq_true rfl) h (fun x10 mu11 la12 h => ?_)
              exact Ev.ret rfl rfl ⟨_, _, _, rfl, rfl, h⟩
          · have h := h.2 hc
            dsimp only
            refine Ev.steps 2 (ip' := 32) (ls' := [some (.inr (.inr (some (6, c)))), some (.inl a0), some (.inr (.inr (some (3, x1)))), none, none]) (st' := [.inl (5 : Int32), .inr (.inr (some (6, c)))]) (M' := mem E mu2 la3) rfl ?_
            refine Ev.ci (J := mi_95) (as := [.inr (.inr (some (6, c))), .inl (5 : Int32)]) (rest := []) rfl rfl rfl (Nat.le_of_ble_eq_true rfl) h (fun x13 mu14 la15 h => ?_)
            exact Ev.ret rfl rfl ⟨_, _, _, rfl, rfl, h⟩
      · have h := h.2 hc
        dsimp only
        refine Ev.steps 2 (ip' := 19) (ls' := [some (.inr (.inr (some (6, c)))), some (.inl a0), some (.inr (.inr (some (3, x1)))), none, none]) (st' := [.inl (1 : Int32), .inr (.inr (some (6, c)))]) (M' := mem E mu2 la3) rfl ?_
        refine Ev.ci (J := mi_95) (as := [.inr (.inr (some (6, c))), .inl (1 : Int32)]) (rest := []) rfl rfl rfl (Nat.le_of_ble_eq_true rfl) h (fun x16 mu17 la18 h => ?_)
        exact Ev.ret rfl rfl ⟨_, _, _, rfl, rfl, h⟩
    · have h := h.2 hc
      dsimp only
      refine Ev.steps 1 (ip' := 13) (ls' := [some (.inr (.inr (some (6, c)))), some (.inl a0), some (.inr (.inr (some (3, x1)))), none, none]) (st' := [.inl (-4 : Int32)]) (M' := mem E mu2 la3) rfl ?_
      exact Ev.ret rfl rfl ⟨_, _, _, rfl, rfl, h⟩
set_option maxRecDepth 100000 in
theorem vc_X6_ears_46 {E : mEv} {d : Nat}  (v0 : Nat) (v2 : Nat) (v3 : Int32) (v4 : Int32) {mu : fMu} {la : fLa} {Q : Int32 → fMu → fLa → Prop} (h : ((9 : Int32) < v4 → (Q v3 mu la)) ∧ (¬ ((9 : Int32) < v4) → (FnI E d mi_124 [.inr (.inr (some (6, v0))), .inr (.inr (some (3, v2))), .inl v4] mu la (fun x19 mu20 la21 => (x19 = 0 → (Ev E (d + 1) mi_82 46 [some (.inr (.inr (some (6, v0)))), none, some (.inr (.inr (some (3, v2)))), some (.inl v3), some (.inl (v4 + (1 : Int32)))] [] (mem E mu20 la21) (qI E Q))) ∧ (¬ (x19 = 0) → (Ev E (d + 1) mi_82 46 [some (.inr (.inr (some (6, v0)))), none, some (.inr (.inr (some (3, v2)))), some (.inl (v3 ||| ((1 : Int32) <<< (v4 &&& 31)))), some (.inl (v4 + (1 : Int32)))] [] (mem E mu20 la21) (qI E Q))))))) : Ev E (d + 1) mi_82 46 [some (.inr (.inr (some (6, v0)))), none, some (.inr (.inr (some (3, v2)))), some (.inl v3), some (.inl v4)] [] (mem E mu la) (qI E Q) := by
  refine Ev.steps 2 (ip' := 48) (ls' := [some (.inr (.inr (some (6, v0)))), none, some (.inr (.inr (some (3, v2)))), some (.inl v3), some (.inl v4)]) (st' := [.inl (9 : Int32), .inl v4]) (M' := mem E mu la) rfl ?_
  refine Ev.br (c := (9 : Int32) < v4) (s1 := (62, [some (.inr (.inr (some (6, v0)))), none, some (.inr (.inr (some (3, v2)))), some (.inl v3), some (.inl v4)], [], mem E mu la)) (s2 := (49, [some (.inr (.inr (some (6, v0)))), none, some (.inr (.inr (some (3, v2)))), some (.inl v3), some (.inl v4)], [], mem E mu la)) rfl rfl rfl rfl (fun hc => ?_) (fun hc => ?_)
  · have h := h.1 hc
    dsimp only
    refine Ev.steps 1 (ip' := 63) (ls' := [some (.inr (.inr (some (6, v0)))), none, some (.inr (.inr (some (3, v2)))), some (.inl v3), some (.inl v4)]) (st' := [.inl v3]) (M' := mem E mu la) rfl ?_
    exact Ev.ret rfl rfl ⟨_, _, _, rfl, rfl, h⟩
  · have h := h.2 hc
    dsimp only
    refine Ev.steps 3 (ip' := 52) (ls' := [some (.inr (.inr (some (6, v0)))), none, some (.inr (.inr (some (3, v2)))), some (.inl v3), some (.inl v4)]) (st' := [.inl v4, .inr (.inr (some (3, v2))), .inr (.inr (some (6, v0)))]) (M' := mem E mu la) rfl ?_
    refine Ev.ci (J := mi_124) (as := [.inr (.inr (some (6, v0))), .inr (.inr (some (3, v2))), .inl v4]) (rest := []) rfl rfl rfl (Nat.le_of_ble_eq_true rfl) h (fun x19 mu20 la21 h => ?_)
    refine Ev.br (c := x19 = 0) (s1 := (60, [some (.inr (.inr (some (6, v0)))), none, some (.inr (.inr (some (3, v2)))), some (.inl v3), some (.inl v4)], [], mem E mu20 la21)) (s2 := (54, [some (.inr (.inr (some (6, v0)))), none, some (.inr (.inr (some (3, v2)))), some (.inl v3), some (.inl v4)], [], mem E mu20 la21)) rfl rfl rfl rfl (fun hc => ?_) (fun hc => ?_)
    · have h := h.1 hc
      dsimp only
      refine Ev.steps 2 (ip' := 46) (ls' := [some (.inr (.inr (some (6, v0)))), none, some (.inr (.inr (some (3, v2)))), some (.inl v3), some (.inl (v4 + (1 : Int32)))]) (st' := []) (M' := mem E mu20 la21) rfl ?_
      exact h
    · have h := h.2 hc
      dsimp only
      refine Ev.steps 8 (ip' := 46) (ls' := [some (.inr (.inr (some (6, v0)))), none, some (.inr (.inr (some (3, v2)))), some (.inl (v3 ||| ((1 : Int32) <<< (v4 &&& 31)))), some (.inl (v4 + (1 : Int32)))]) (st' := []) (M' := mem E mu20 la21) rfl ?_
      exact h
set_option maxRecDepth 100000 in
/-- AnnCups.kinds(III)I -/
theorem vc_X6_kinds {E : mEv} {d : Nat} {c : Nat} (a0 : Int32) (a1 : Int32) (a2 : Int32) {mu : fMu} {la : fLa} {Q : Int32 → fMu → fLa → Prop} (h : FnI E d mi_14 [.inr (.inr (some (1, 0))), .inl a0] mu la (fun x1 mu2 la3 => (x1 = 0 → (Q (-1 : Int32) mu2 la3)) ∧ (¬ (x1 = 0) → ((a1 < 0 → (Q (-1 : Int32) mu2 la3)) ∧ (¬ (a1 < 0) → (((99 : Int32) < a1 → (Q (-1 : Int32) mu2 la3)) ∧ (¬ ((99 : Int32) < a1) → ((a2 < 0 → (Q (-1 : Int32) mu2 la3)) ∧ (¬ (a2 < 0) → ((a2 ≤ (1 : Int32) → (Ev E (d + 1) mi_83 21 [some (.inr (.inr (some (6, c)))), some (.inl a0), some (.inl a1), some (.inl a2), some (.inl (0 : Int32)), some (.inl (0 : Int32))] [] (mem E mu2 la3) (qI E Q))) ∧ (¬ (a2 ≤ (1 : Int32)) → (Q (-1 : Int32) mu2 la3)))))))))))) : FnI E (d + 1) mi_83 [.inr (.inr (some (6, c))), .inl a0, .inl a1, .inl a2] mu la Q := by
  unfold FnI
  show Ev E (d + 1) mi_83 0 [some (.inr (.inr (some (6, c)))), some (.inl a0), some (.inl a1), some (.inl a2), none, none] [] (mem E mu la) (qI E Q)
  refine Ev.steps 3 (ip' := 3) (ls' := [some (.inr (.inr (some (6, c)))), some (.inl a0), some (.inl a1), some (.inl a2), none, none]) (st' := [.inl a0, .inr (.inr (some (1, 0)))]) (M' := mem E mu la) rfl ?_
  refine Ev.ci (J := mi_14) (as := [.inr (.inr (some (1, 0))), .inl a0]) (rest := []) rfl rfl rfl (Nat.le_of_ble_eq_true rfl) h (fun x1 mu2 la3 h => ?_)
  refine Ev.br (c := x1 = 0) (s1 := (15, [some (.inr (.inr (some (6, c)))), some (.inl a0), some (.inl a1), some (.inl a2), none, none], [], mem E mu2 la3)) (s2 := (5, [some (.inr (.inr (some (6, c)))), some (.inl a0), some (.inl a1), some (.inl a2), none, none], [], mem E mu2 la3)) rfl rfl rfl rfl (fun hc => ?_) (fun hc => ?_)
  · have h := h.1 hc
    dsimp only
    refine Ev.steps 1 (ip' := 16) (ls' := [some (.inr (.inr (some (6, c)))), some (.inl a0), some (.inl a1), some (.inl a2), none, none]) (st' := [.inl (-1 : Int32)]) (M' := mem E mu2 la3) rfl ?_
    exact Ev.ret rfl rfl ⟨_, _, _, rfl, rfl, h⟩
  · have h := h.2 hc
    dsimp only
    refine Ev.steps 1 (ip' := 6) (ls' := [some (.inr (.inr (some (6, c)))), some (.inl a0), some (.inl a1), some (.inl a2), none, none]) (st' := [.inl a1]) (M' := mem E mu2 la3) rfl ?_
    refine Ev.br (c := a1 < 0) (s1 := (15, [some (.inr (.inr (some (6, c)))), some (.inl a0), some (.inl a1), some (.inl a2), none, none], [], mem E mu2 la3)) (s2 := (7, [some (.inr (.inr (some (6, c)))), some (.inl a0), some (.inl a1), some (.inl a2), none, none], [], mem E mu2 la3)) rfl rfl rfl rfl (fun hc => ?_) (fun hc => ?_)
    · have h := h.1 hc
      dsimp only
      refine Ev.steps 1 (ip' := 16) (ls' := [some (.inr (.inr (some (6, c)))), some (.inl a0), some (.inl a1), some (.inl a2), none, none]) (st' := [.inl (-1 : Int32)]) (M' := mem E mu2 la3) rfl ?_
      exact Ev.ret rfl rfl ⟨_, _, _, rfl, rfl, h⟩
    · have h := h.2 hc
      dsimp only
      refine Ev.steps 2 (ip' := 9) (ls' := [some (.inr (.inr (some (6, c)))), some (.inl a0), some (.inl a1), some (.inl a2), none, none]) (st' := [.inl (99 : Int32), .inl a1]) (M' := mem E mu2 la3) rfl ?_
      refine Ev.br (c := (99 : Int32) < a1) (s1 := (15, [some (.inr (.inr (some (6, c)))), some (.inl a0), some (.inl a1), some (.inl a2), none, none], [], mem E mu2 la3)) (s2 := (10, [some (.inr (.inr (some (6, c)))), some (.inl a0), some (.inl a1), some (.inl a2), none, none], [], mem E mu2 la3)) rfl rfl rfl rfl (fun hc => ?_) (fun hc => ?_)
      · have h := h.1 hc
        dsimp only
        refine Ev.steps 1 (ip' := 16) (ls' := [some (.inr (.inr (some (6, c)))), some (.inl a0), some (.inl a1), some (.inl a2), none, none]) (st' := [.inl (-1 : Int32)]) (M' := mem E mu2 la3) rfl ?_
        exact Ev.ret rfl rfl ⟨_, _, _, rfl, rfl, h⟩
      · have h := h.2 hc
        dsimp only
        refine Ev.steps 1 (ip' := 11) (ls' := [some (.inr (.inr (some (6, c)))), some (.inl a0), some (.inl a1), some (.inl a2), none, none]) (st' := [.inl a2]) (M' := mem E mu2 la3) rfl ?_
        refine Ev.br (c := a2 < 0) (s1 := (15, [some (.inr (.inr (some (6, c)))), some (.inl a0), some (.inl a1), some (.inl a2), none, none], [], mem E mu2 la3)) (s2 := (12, [some (.inr (.inr (some (6, c)))), some (.inl a0), some (.inl a1), some (.inl a2), none, none], [], mem E mu2 la3)) rfl rfl rfl rfl (fun hc => ?_) (fun hc => ?_)
        · have h := h.1 hc
          dsimp only
          refine Ev.steps 1 (ip' := 16) (ls' := [some (.inr (.inr (some (6, c)))), some (.inl a0), some (.inl a1), some (.inl a2), none, none]) (st' := [.inl (-1 : Int32)]) (M' := mem E mu2 la3) rfl ?_
          exact Ev.ret rfl rfl ⟨_, _, _, rfl, rfl, h⟩
        · have h := h.2 hc
          dsimp only
          refine Ev.steps 2 (ip' := 14) (ls' := [some (.inr (.inr (some (6, c)))), some (.inl a0), some (.inl a1), some (.inl a2), none, none]) (st' := [.inl (1 : Int32), .inl a2]) (M' := mem E mu2 la3) rfl ?_
          refine Ev.br (c := a2 ≤ (1 : Int32)) (s1 := (17, [some (.inr (.inr (some (6, c)))), some (.inl a0), some (.inl a1), some (.inl a2), none, none], [], mem E mu2 la3)) (s2 := (15, [some (.inr (.inr (some (6, c)))), some (.inl a0), some (.inl a1), some (.inl a2), none, none], [], mem E mu2 la3)) rfl rfl rfl rfl (fun hc => ?_) (fun hc => ?_)
          · have h := h.1 hc
            dsimp only
            refine Ev.steps 4 (ip' := 21) (ls' := [some (.inr (.inr (some (6, c)))), some (.inl a0), some (.inl a1), some (.inl a2), some (.inl (0 : Int32)), some (.inl (0 : Int32))]) (st' := []) (M' := mem E mu2 la3) rfl ?_
            exact h
          · have h := h.2 hc
            dsimp only
            refine Ev.steps 1 (ip' := 16) (ls' := [some (.inr (.inr (some (6, c)))), some (.inl a0), some (.inl a1), some (.inl a2), none, none]) (st' := [.inl (-1 : Int32)]) (M' := mem E mu2 la3) rfl ?_
            exact Ev.ret rfl rfl ⟨_, _, _, rfl, rfl, h⟩
set_option maxRecDepth 100000 in
theorem vc_X6_kinds_21 {E : mEv} {d : Nat}  (v0 : Nat) (v1 : Int32) (v2 : Int32) (v3 : Int32) (v4 : Int32) (v5 : Int32) {mu : fMu} {la : fLa} {Q : Int32 → fMu → fLa → Prop} (h : ((5 : Int32) < v5 → (Q v4 mu la)) ∧ (¬ ((5 : Int32) < v5) → (vp_in v1 6 ∧ ((¬ v3 = (1 : Int32) → (FnI E d mi_106 [.inl v5, .inl (mu 11 0 v1.toNatClampNeg), .inl (0 : Int32)] mu la (fun x4 mu5 la6 => (¬ x4 = v2 → (Ev E (d + 1) mi_83 21 [some (.inr (.inr (some (6, v0)))), some (.inl v1), some (.inl v2), some (.inl v3), some (.inl v4), some (.inl (v5 + (1 : Int32)))] [] (mem E mu5 la6) (qI E Q))) ∧ (¬ (¬ x4 = v2) → (Ev E (d + 1) mi_83 21 [some (.inr (.inr (some (6, v0)))), some (.inl v1), some (.inl v2), some (.inl v3), some (.inl (v4 ||| ((1 : Int32) <<< (v5 &&& 31)))), some (.inl (v5 + (1 : Int32)))] [] (mem E mu5 la6) (qI E Q)))))) ∧ (¬ (¬ v3 = (1 : Int32)) → (FnI E d mi_106 [.inl v5, .inl (mu 11 0 v1.toNatClampNeg), .inl (1 : Int32)] mu la (fun x7 mu8 la9 => (¬ x7 = v2 → (Ev E (d + 1) mi_83 21 [some (.inr (.inr (some (6, v0)))), some (.inl v1), some (.inl v2), some (.inl v3), some (.inl v4), some (.inl (v5 + (1 : Int32)))] [] (mem E mu8 la9) (qI E Q))) ∧ (¬ (¬ x7 = v2) → (Ev E (d + 1) mi_83 21 [some (.inr (.inr (some (6, v0)))), some (.inl v1), some (.inl v2), some (.inl v3), some (.inl (v4 ||| ((1 : Int32) <<< (v5 &&& 31)))), some (.inl (v5 + (1 : Int32)))] [] (mem E mu8 la9) (qI E Q)))))))))) : Ev E (d + 1) mi_83 21 [some (.inr (.inr (some (6, v0)))), some (.inl v1), some (.inl v2), some (.inl v3), some (.inl v4), some (.inl v5)] [] (mem E mu la) (qI E Q) := by
  refine Ev.steps 2 (ip' := 23) (ls' := [some (.inr (.inr (some (6, v0)))), some (.inl v1), some (.inl v2), some (.inl v3), some (.inl v4), some (.inl v5)]) (st' := [.inl (5 : Int32), .inl v5]) (M' := mem E mu la) rfl ?_
  refine Ev.br (c := (5 : Int32) < v5) (s1 := (47, [some (.inr (.inr (some (6, v0)))), some (.inl v1), some (.inl v2), some (.inl v3), some (.inl v4), some (.inl v5)], [], mem E mu la)) (s2 := (24, [some (.inr (.inr (some (6, v0)))), some (.inl v1), some (.inl v2), some (.inl v3), some (.inl v4), some (.inl v5)], [], mem E mu la)) rfl rfl rfl rfl (fun hc => ?_) (fun hc => ?_)
  · have h := h.1 hc
    dsimp only
    refine Ev.steps 1 (ip' := 48) (ls' := [some (.inr (.inr (some (6, v0)))), some (.inl v1), some (.inl v2), some (.inl v3), some (.inl v4), some (.inl v5)]) (st' := [.inl v4]) (M' := mem E mu la) rfl ?_
    exact Ev.ret rfl rfl ⟨_, _, _, rfl, rfl, h⟩
  · have h := h.2 hc
    dsimp only
    refine Ev.steps 5 (ip' := 29) (ls' := [some (.inr (.inr (some (6, v0)))), some (.inl v1), some (.inl v2), some (.inl v3), some (.inl v4), some (.inl v5)]) (st' := [.inl v1, .inr (.inr (some (11, 0))), .inl v5]) (M' := mem E mu la) rfl ?_
    refine Ev.ial rfl rfl (by decide) h.1 ?_
    have h := h.2
    refine Ev.steps 2 (ip' := 32) (ls' := [some (.inr (.inr (some (6, v0)))), some (.inl v1), some (.inl v2), some (.inl v3), some (.inl v4), some (.inl v5)]) (st' := [.inl (1 : Int32), .inl v3, .inl (mu 11 0 v1.toNatClampNeg), .inl v5]) (M' := mem E mu la) rfl ?_
    refine Ev.br (c := ¬ v3 = (1 : Int32)) (s1 := (35, [some (.inr (.inr (some (6, v0)))), some (.inl v1), some (.inl v2), some (.inl v3), some (.inl v4), some (.inl v5)], [.inl (mu 11 0 v1.toNatClampNeg), .inl v5], mem E mu la)) (s2 := (33, [some (.inr (.inr (some (6, v0)))), some (.inl v1), some (.inl v2), some (.inl v3), some (.inl v4), some (.inl v5)], [.inl (mu 11 0 v1.toNatClampNeg), .inl v5], mem E mu la)) rfl rfl rfl rfl (fun hc => ?_) (fun hc => ?_)
    · have h := h.1 hc
      dsimp only
      refine Ev.steps 1 (ip' := 36) (ls' := [some (.inr (.inr (some (6, v0)))), some (.inl v1), some (.inl v2), some (.inl v3), some (.inl v4), some (.inl v5)]) (st' := [.inl (0 : Int32), .inl (mu 11 0 v1.toNatClampNeg), .inl v5]) (M' := mem E mu la) rfl ?_
      refine Ev.ci (J := mi_106) (as := [.inl v5, .inl (mu 11 0 v1.toNatClampNeg), .inl (0 : Int32)]) (rest := []) rfl rfl rfl (Nat.le_of_ble_eq_true rfl) h (fun x4 mu5 la6 h => ?_)
      refine Ev.steps 1 (ip' := 38) (ls' := [some (.inr (.inr (some (6, v0)))), some (.inl v1), some (.inl v2), some (.inl v3), some (.inl v4), some (.inl v5)]) (st' := [.inl v2, .inl x4]) (M' := mem E mu5 la6) rfl ?_
      refine Ev.br (c := ¬ x4 = v2) (s1 := (45, [some (.inr (.inr (some (6, v0)))), some (.inl v1), some (.inl v2), some (.inl v3), some (.inl v4), some (.inl v5)], [], mem E mu5 la6)) (s2 := (39, [some (.inr (.inr (some (6, v0)))), some (.inl v1), some (.inl v2), some (.inl v3), some (.inl v4), some (.inl v5)], [], mem E mu5 la6)) rfl rfl rfl rfl (fun hc => ?_) (fun hc => ?_)
      · have h := h.1 hc
        dsimp only
        refine Ev.steps 2 (ip' := 21) (ls' := [some (.inr (.inr (some (6, v0)))), some (.inl v1), some (.inl v2), some (.inl v3), some (.inl v4), some (.inl (v5 + (1 : Int32)))]) (st' := []) (M' := mem E mu5 la6) rfl ?_
        exact h
      · have h := h.2 hc
        dsimp only
        refine Ev.steps 8 (ip' := 21) (ls' := [some (.inr (.inr (some (6, v0)))), some (.inl v1), some (.inl v2), some (.inl v3), some (.inl (v4 ||| ((1 : Int32) <<< (v5 &&& 31)))), some (.inl (v5 + (1 : Int32)))]) (st' := []) (M' := mem E mu5 la6) rfl ?_
        exact h
    · have h := h.2 hc
      dsimp only
      refine Ev.steps 2 (ip' := 36) (ls' := [some (.inr (.inr (some (6, v0)))), some (.inl v1), some (.inl v2), some (.inl v3), some (.inl v4), some (.inl v5)]) (st' := [.inl (1 : Int32), .inl (mu 11 0 v1.toNatClampNeg), .inl v5]) (M' := mem E mu la) rfl ?_
      refine Ev.ci (J := mi_106) (as := [.inl v5, .inl (mu 11 0 v1.toNatClampNeg), .inl (1 : Int32)]) (rest := []) rfl rfl rfl (Nat.le_of_ble_eq_true rfl) h (fun x7 mu8 la9 h => ?_)
      refine Ev.steps 1 (ip' := 38) (ls' := [some (.inr (.inr (some (6, v0)))), some (.inl v1), some (.inl v2), some (.inl v3), some (.inl v4), some (.inl v5)]) (st' := [.inl v2, .inl x7]) (M' := mem E mu8 la9) rfl ?_
      refine Ev.br (c := ¬ x7 = v2) (s1 := (45, [some (.inr (.inr (some (6, v0)))), some (.inl v1), some (.inl v2), some (.inl v3), some (.inl v4), some (.inl v5)], [], mem E mu8 la9)) (s2 := (39, [some (.inr (.inr (some (6, v0)))), some (.inl v1), some (.inl v2), some (.inl v3), some (.inl v4), some (.inl v5)], [], mem E mu8 la9)) rfl rfl rfl rfl (fun hc => ?_) (fun hc => ?_)
      · have h := h.1 hc
        dsimp only
        refine Ev.steps 2 (ip' := 21) (ls' := [some (.inr (.inr (some (6, v0)))), some (.inl v1), some (.inl v2), some (.inl v3), some (.inl v4), some (.inl (v5 + (1 : Int32)))]) (st' := []) (M' := mem E mu8 la9) rfl ?_
        exact h
      · have h := h.2 hc
        dsimp only
        refine Ev.steps 8 (ip' := 21) (ls' := [some (.inr (.inr (some (6, v0)))), some (.inl v1), some (.inl v2), some (.inl v3), some (.inl (v4 ||| ((1 : Int32) <<< (v5 &&& 31)))), some (.inl (v5 + (1 : Int32)))]) (st' := []) (M' := mem E mu8 la9) rfl ?_
        exact h
set_option maxRecDepth 100000 in
/-- AnnCups.wag(I)I -/
theorem vc_X6_wag {E : mEv} {d : Nat} {c : Nat} (a0 : Int32) {mu : fMu} {la : fLa} {Q : Int32 → fMu → fLa → Prop} (h : (a0 < 0 → (Q (-1 : Int32) mu la)) ∧ (¬ (a0 < 0) → ((a0 ≤ (2 : Int32) → ((¬ (mu 1 0 0) = 0 → (FnV E d mi_2 [.inr (.inr (some (0, 1))), .inr (.inr (some (0, 0)))] mu la (fun mu2 la3 => FnI E d mi_125 [.inr (.inr (some (0, 1))), .inl a0] mu2 la3 (fun x4 mu5 la6 => Q x4 mu5 la6)))) ∧ (¬ (¬ (mu 1 0 0) = 0) → (Q (-4 : Int32) mu la)))) ∧ (¬ (a0 ≤ (2 : Int32)) → (Q (-1 : Int32) mu la))))) : FnI E (d + 1) mi_84 [.inr (.inr (some (6, c))), .inl a0] mu la Q := by
  unfold FnI
  show Ev E (d + 1) mi_84 0 [some (.inr (.inr (some (6, c)))), some (.inl a0)] [] (mem E mu la) (qI E Q)
  refine Ev.steps 1 (ip' := 1) (ls' := [some (.inr (.inr (some (6, c)))), some (.inl a0)]) (st' := [.inl a0]) (M' := mem E mu la) rfl ?_
  refine Ev.br (c := a0 < 0) (s1 := (5, [some (.inr (.inr (some (6, c)))), some (.inl a0)], [], mem E mu la)) (s2 := (2, [some (.inr (.inr (some (6, c)))), some (.inl a0)], [], mem E mu la)) rfl rfl rfl rfl (fun hc => ?_) (fun hc => ?_)
  · have h := h.1 hc
    dsimp only
    refine Ev.steps 1 (ip' := 6) (ls' := [some (.inr (.inr (some (6, c)))), some (.inl a0)]) (st' := [.inl (-1 : Int32)]) (M' := mem E mu la) rfl ?_
    exact Ev.ret rfl rfl ⟨_, _, _, rfl, rfl, h⟩
  · have h := h.2 hc
    dsimp only
    refine Ev.steps 2 (ip' := 4) (ls' := [some (.inr (.inr (some (6, c)))), some (.inl a0)]) (st' := [.inl (2 : Int32), .inl a0]) (M' := mem E mu la) rfl ?_
    refine Ev.br (c := a0 ≤ (2 : Int32)) (s1 := (7, [some (.inr (.inr (some (6, c)))), some (.inl a0)], [], mem E mu la)) (s2 := (5, [some (.inr (.inr (some (6, c)))), some (.inl a0)], [], mem E mu la)) rfl rfl rfl rfl (fun hc => ?_) (fun hc => ?_)
    · have h := h.1 hc
      dsimp only
      refine Ev.steps 3 (ip' := 10) (ls' := [some (.inr (.inr (some (6, c)))), some (.inl a0)]) (st' := [.inl (mu 1 0 0)]) (M' := mem E mu la) rfl ?_
      refine Ev.br (c := ¬ (mu 1 0 0) = 0) (s1 := (13, [some (.inr (.inr (some (6, c)))), some (.inl a0)], [], mem E mu la)) (s2 := (11, [some (.inr (.inr (some (6, c)))), some (.inl a0)], [], mem E mu la)) rfl rfl rfl rfl (fun hc => ?_) (fun hc => ?_)
      · have h := h.1 hc
        dsimp only
        refine Ev.steps 4 (ip' := 17) (ls' := [some (.inr (.inr (some (6, c)))), some (.inl a0)]) (st' := [.inr (.inr (some (0, 0))), .inr (.inr (some (0, 1)))]) (M' := mem E mu la) rfl ?_
        refine Ev.cv (J := mi_2) (as := [.inr (.inr (some (0, 1))), .inr (.inr (some (0, 0)))]) (rest := []) rfl rfl rfl (Nat.le_of_ble_eq_true rfl) h (fun mu2 la3 h => ?_)
        refine Ev.steps 3 (ip' := 21) (ls' := [some (.inr (.inr (some (6, c)))), some (.inl a0)]) (st' := [.inl a0, .inr (.inr (some (0, 1)))]) (M' := mem E mu2 la3) rfl ?_
        refine Ev.ci (J := mi_125) (as := [.inr (.inr (some (0, 1))), .inl a0]) (rest := []) rfl rfl rfl (Nat.le_of_ble_eq_true rfl) h (fun x4 mu5 la6 h => ?_)
        exact Ev.ret rfl rfl ⟨_, _, _, rfl, rfl, h⟩
      · have h := h.2 hc
        dsimp only
        refine Ev.steps 1 (ip' := 12) (ls' := [some (.inr (.inr (some (6, c)))), some (.inl a0)]) (st' := [.inl (-4 : Int32)]) (M' := mem E mu la) rfl ?_
        exact Ev.ret rfl rfl ⟨_, _, _, rfl, rfl, h⟩
    · have h := h.2 hc
      dsimp only
      refine Ev.steps 1 (ip' := 6) (ls' := [some (.inr (.inr (some (6, c)))), some (.inl a0)]) (st' := [.inl (-1 : Int32)]) (M' := mem E mu la) rfl ?_
      exact Ev.ret rfl rfl ⟨_, _, _, rfl, rfl, h⟩
set_option maxRecDepth 100000 in
/-- AnnCups.odds(II)I -/
theorem vc_X6_odds {E : mEv} {d : Nat} {c : Nat} (a0 : Int32) (a1 : Int32) {mu : fMu} {la : fLa} {Q : Int32 → fMu → fLa → Prop} (h : FnI E d mi_14 [.inr (.inr (some (1, 0))), .inl a0] mu la (fun x1 mu2 la3 => (x1 = 0 → (Q (-1 : Int32) mu2 la3)) ∧ (¬ (x1 = 0) → ((a1 < 0 → (Q (-1 : Int32) mu2 la3)) ∧ (¬ (a1 < 0) → ((a1 ≤ (12 : Int32) → (FnI E d mi_3 [.inr (.inr (some (0, 0))), .inl a0] mu2 la3 (fun x4 mu5 la6 => (x4 = 0 → (vp_in a0 6 ∧ ((¬ (((mu5 15 0 a0.toNatClampNeg) &&& ((mu5 0 0 4) ^^^ (-1 : Int32))) &&& ((1 : Int32) <<< (a0 &&& 31))) = 0 → (FnI E d mi_227 [.inl (((mu5 15 0 a0.toNatClampNeg) &&& ((mu5 0 0 4) ^^^ (-1 : Int32))) &&& (((1 : Int32) <<< (a0 &&& 31)) - (1 : Int32)))] mu5 la6 (fun x7 mu8 la9 => FnL E d mi_101 [.inl a1, .inl x7] mu8 la9 (fun x10 mu11 la12 => FnL E d mi_101 [.inl (12 : Int32), .inl x7] mu11 la12 (fun x13 mu14 la15 => FnV E d mi_99 [.inr (.inr (some (6, c))), .inr (.inl x10), .inr (.inl x13)] mu14 la15 (fun mu17 la18 => Q (1 : Int32) mu17 la18)))))) ∧ (¬ (¬ (((mu5 15 0 a0.toNatClampNeg) &&& ((mu5 0 0 4) ^^^ (-1 : Int32))) &&& ((1 : Int32) <<< (a0 &&& 31))) = 0) → (FnV E d mi_99 [.inr (.inr (some (6, c))), .inr (.inl (0 : Int64)), .inr (.inl (1 : Int64))] mu5 la6 (fun mu20 la21 => Q (1 : Int32) mu20 la21)))))) ∧ (¬ (x4 = 0) → (Q (-4 : Int32) mu5 la6))))) ∧ (¬ (a1 ≤ (12 : Int32)) → (Q (-1 : Int32) mu2 la3)))))))) : FnI E (d + 1) mi_85 [.inr (.inr (some (6, c))), .inl a0, .inl a1] mu la Q := by
  unfold FnI
  show Ev E (d + 1) mi_85 0 [some (.inr (.inr (some (6, c)))), some (.inl a0), some (.inl a1), none, none] [] (mem E mu la) (qI E Q)
  refine Ev.steps 3 (ip' := 3) (ls' := [some (.inr (.inr (some (6, c)))), some (.inl a0), some (.inl a1), none, none]) (st' := [.inl a0, .inr (.inr (some (1, 0)))]) (M' := mem E mu la) rfl ?_
  refine Ev.ci (J := mi_14) (as := [.inr (.inr (some (1, 0))), .inl a0]) (rest := []) rfl rfl rfl (Nat.le_of_ble_eq_true rfl) h (fun x1 mu2 la3 h => ?_)
  refine Ev.br (c := x1 = 0) (s1 := (10, [some (.inr (.inr (some (6, c)))), some (.inl a0), some (.inl a1), none, none], [], mem E mu2 la3)) (s2 := (5, [some (.inr (.inr (some (6, c)))), some (.inl a0), some (.inl a1), none, none], [], mem E mu2 la3)) rfl rfl rfl rfl (fun hc => ?_) (fun hc => ?_)
  · have h := h.1 hc
    dsimp only
    refine Ev.steps 1 (ip' := 11) (ls' := [some (.inr (.inr (some (6, c)))), some (.inl a0), some (.inl a1), none, none]) (st' := [.inl (-1 : Int32)]) (M' := mem E mu2 la3) rfl ?_
    exact Ev.ret rfl rfl ⟨_, _, _, rfl, rfl, h⟩
  · have h := h.2 hc
    dsimp only
    refine Ev.steps 1 (ip' := 6) (ls' := [some (.inr (.inr (some (6, c)))), some (.inl a0), some (.inl a1), none, none]) (st' := [.inl a1]) (M' := mem E mu2 la3) rfl ?_
    refine Ev.br (c := a1 < 0) (s1 := (10, [some (.inr (.inr (some (6, c)))), some (.inl a0), some (.inl a1), none, none], [], mem E mu2 la3)) (s2 := (7, [some (.inr (.inr (some (6, c)))), some (.inl a0), some (.inl a1), none, none], [], mem E mu2 la3)) rfl rfl rfl rfl (fun hc => ?_) (fun hc => ?_)
    · have h := h.1 hc
      dsimp only
      refine Ev.steps 1 (ip' := 11) (ls' := [some (.inr (.inr (some (6, c)))), some (.inl a0), some (.inl a1), none, none]) (st' := [.inl (-1 : Int32)]) (M' := mem E mu2 la3) rfl ?_
      exact Ev.ret rfl rfl ⟨_, _, _, rfl, rfl, h⟩
    · have h := h.2 hc
      dsimp only
      refine Ev.steps 2 (ip' := 9) (ls' := [some (.inr (.inr (some (6, c)))), some (.inl a0), some (.inl a1), none, none]) (st' := [.inl (12 : Int32), .inl a1]) (M' := mem E mu2 la3) rfl ?_
      refine Ev.br (c := a1 ≤ (12 : Int32)) (s1 := (12, [some (.inr (.inr (some (6, c)))), some (.inl a0), some (.inl a1), none, none], [], mem E mu2 la3)) (s2 := (10, [some (.inr (.inr (some (6, c)))), some (.inl a0), some (.inl a1), none, none], [], mem E mu2 la3)) rfl rfl rfl rfl (fun hc => ?_) (fun hc => ?_)
      · have h := h.1 hc
        dsimp only
        refine Ev.steps 3 (ip' := 15) (ls' := [some (.inr (.inr (some (6, c)))), some (.inl a0), some (.inl a1), none, none]) (st' := [.inl a0, .inr (.inr (some (0, 0)))]) (M' := mem E mu2 la3) rfl ?_
        refine Ev.ci (J := mi_3) (as := [.inr (.inr (some (0, 0))), .inl a0]) (rest := []) rfl rfl rfl (Nat.le_of_ble_eq_true rfl) h (fun x4 mu5 la6 h => ?_)
        refine Ev.br (c := x4 = 0) (s1 := (19, [some (.inr (.inr (some (6, c)))), some (.inl a0), some (.inl a1), none, none], [], mem E mu5 la6)) (s2 := (17, [some (.inr (.inr (some (6, c)))), some (.inl a0), some (.inl a1), none, none], [], mem E mu5 la6)) rfl rfl rfl rfl (fun hc => ?_) (fun hc => ?_)
        · have h := h.1 hc
          dsimp only
          refine Ev.steps 4 (ip' := 23) (ls' := [some (.inr (.inr (some (6, c)))), some (.inl a0), some (.inl a1), none, none]) (st' := [.inl a0, .inr (.inr (some (15, 0)))]) (M' := mem E mu5 la6) rfl ?_
          refine Ev.ial rfl rfl (by decide) h.1 ?_
          have h := h.2
          refine Ev.steps 12 (ip' := 36) (ls' := [some (.inr (.inr (some (6, c)))), some (.inl a0), some (.inl a1), some (.inl ((mu5 15 0 a0.toNatClampNeg) &&& ((mu5 0 0 4) ^^^ (-1 : Int32)))), none]) (st' := [.inl (((mu5 15 0 a0.toNatClampNeg) &&& ((mu5 0 0 4) ^^^ (-1 : Int32))) &&& ((1 : Int32) <<< (a0 &&& 31)))]) (M' := mem E mu5 la6) rfl ?_
          refine Ev.br (c := ¬ (((mu5 15 0 a0.toNatClampNeg) &&& ((mu5 0 0 4) ^^^ (-1 : Int32))) &&& ((1 : Int32) <<< (a0 &&& 31))) = 0) (s1 := (43, [some (.inr (.inr (some (6, c)))), some (.inl a0), some (.inl a1), some (.inl ((mu5 15 0 a0.toNatClampNeg) &&& ((mu5 0 0 4) ^^^ (-1 : Int32)))), none], [], mem E mu5 la6)) (s2 := (37, [some (.inr (.inr (some (6, c)))), some (.inl a0), some (.inl a1), some (.inl ((mu5 15 0 a0.toNatClampNeg) &&& ((mu5 0 0 4) ^^^ (-1 : Int32)))), none], [], mem E mu5 la6)) rfl rfl rfl rfl (fun hc => ?_) (fun hc => ?_)
          · have h := h.1 hc
            dsimp only
            refine Ev.steps 7 (ip' := 50) (ls' := [some (.inr (.inr (some (6, c)))), some (.inl a0), some (.inl a1), some (.inl ((mu5 15 0 a0.toNatClampNeg) &&& ((mu5 0 0 4) ^^^ (-1 : Int32)))), none]) (st' := [.inl (((mu5 15 0 a0.toNatClampNeg) &&& ((mu5 0 0 4) ^^^ (-1 : Int32))) &&& (((1 : Int32) <<< (a0 &&& 31)) - (1 : Int32)))]) (M' := mem E mu5 la6) rfl ?_
            refine Ev.ci (J := mi_227) (as := [.inl (((mu5 15 0 a0.toNatClampNeg) &&& ((mu5 0 0 4) ^^^ (-1 : Int32))) &&& (((1 : Int32) <<< (a0 &&& 31)) - (1 : Int32)))]) (rest := []) rfl rfl rfl (Nat.le_of_ble_eq_true rfl) h (fun x7 mu8 la9 h => ?_)
            refine Ev.steps 4 (ip' := 55) (ls' := [some (.inr (.inr (some (6, c)))), some (.inl a0), some (.inl a1), some (.inl ((mu5 15 0 a0.toNatClampNeg) &&& ((mu5 0 0 4) ^^^ (-1 : Int32)))), some (.inl x7)]) (st' := [.inl x7, .inl a1, .inr (.inr (some (6, c)))]) (M' := mem E mu8 la9) rfl ?_
            refine Ev.cl (J := mi_101) (as := [.inl a1, .inl x7]) (rest := [.inr (.inr (some (6, c)))]) rfl rfl rfl (Nat.le_of_ble_eq_true rfl) h (fun x10 mu11 la12 h => ?_)
            refine Ev.steps 2 (ip' := 58) (ls' := [some (.inr (.inr (some (6, c)))), some (.inl a0), some (.inl a1), some (.inl ((mu5 15 0 a0.toNatClampNeg) &&& ((mu5 0 0 4) ^^^ (-1 : Int32)))), some (.inl x7)]) (st' := [.inl x7, .inl (12 : Int32), .inr (.inl x10), .inr (.inr (some (6, c)))]) (M' := mem E mu11 la12) rfl ?_
            refine Ev.cl (J := mi_101) (as := [.inl (12 : Int32), .inl x7]) (rest := [.inr (.inl x10), .inr (.inr (some (6, c)))]) rfl rfl rfl (Nat.le_of_ble_eq_true rfl) h (fun x13 mu14 la15 h => ?_)
            refine Ev.cv (J := mi_99) (as := [.inr (.inr (some (6, c))), .inr (.inl x10), .inr (.inl x13)]) (rest := []) rfl rfl rfl (Nat.le_of_ble_eq_true rfl) h (fun mu17 la18 h => ?_)
            refine Ev.steps 1 (ip' := 61) (ls' := [some (.inr (.inr (some (6, c)))), some (.inl a0), some (.inl a1), some (.inl ((mu5 15 0 a0.toNatClampNeg) &&& ((mu5 0 0 4) ^^^ (-1 : Int32)))), some (.inl x7)]) (st' := [.inl (1 : Int32)]) (M' := mem E mu17 la18) rfl ?_
            exact Ev.ret rfl rfl ⟨_, _, _, rfl, rfl, h⟩
          · have h := h.2 hc
            dsimp only
            refine Ev.steps 3 (ip' := 40) (ls' := [some (.inr (.inr (some (6, c)))), some (.inl a0), some (.inl a1), some (.inl ((mu5 15 0 a0.toNatClampNeg) &&& ((mu5 0 0 4) ^^^ (-1 : Int32)))), none]) (st' := [.inr (.inl (1 : Int64)), .inr (.inl (0 : Int64)), .inr (.inr (some (6, c)))]) (M' := mem E mu5 la6) rfl ?_
            refine Ev.cv (J := mi_99) (as := [.inr (.inr (some (6, c))), .inr (.inl (0 : Int64)), .inr (.inl (1 : Int64))]) (rest := []) rfl rfl rfl (Nat.le_of_ble_eq_true rfl) h (fun mu20 la21 h => ?_)
            refine Ev.steps 1 (ip' := 42) (ls' := [some (.inr (.inr (some (6, c)))), some (.inl a0), some (.inl a1), some (.inl ((mu5 15 0 a0.toNatClampNeg) &&& ((mu5 0 0 4) ^^^ (-1 : Int32)))), none]) (st' := [.inl (1 : Int32)]) (M' := mem E mu20 la21) rfl ?_
            exact Ev.ret rfl rfl ⟨_, _, _, rfl, rfl, h⟩
        · have h := h.2 hc
          dsimp only
          refine Ev.steps 1 (ip' := 18) (ls' := [some (.inr (.inr (some (6, c)))), some (.inl a0), some (.inl a1), none, none]) (st' := [.inl (-4 : Int32)]) (M' := mem E mu5 la6) rfl ?_
          exact Ev.ret rfl rfl ⟨_, _, _, rfl, rfl, h⟩
      · have h := h.2 hc
        dsimp only
        refine Ev.steps 1 (ip' := 11) (ls' := [some (.inr (.inr (some (6, c)))), some (.inl a0), some (.inl a1), none, none]) (st' := [.inl (-1 : Int32)]) (M' := mem E mu2 la3) rfl ?_
        exact Ev.ret rfl rfl ⟨_, _, _, rfl, rfl, h⟩
set_option maxRecDepth 100000 in
/-- AnnCups.mid(I)I -/
theorem vc_X6_mid {E : mEv} {d : Nat} {c : Nat} (a0 : Int32) {mu : fMu} {la : fLa} {Q : Int32 → fMu → fLa → Prop} (h : (a0 < 0 → (Q (-1 : Int32) mu la)) ∧ (¬ (a0 < 0) → ((a0 ≤ (12 : Int32) → ((¬ (mu 1 0 0) = 0 → (FnI E d mi_227 [.inl ((mu 1 0 2) &&& ((mu 0 0 4) ^^^ (-1 : Int32)))] mu la (fun x1 mu2 la3 => Ev E (d + 1) mi_86 30 [some (.inr (.inr (some (6, c)))), some (.inl a0), some (.inl ((mu 1 0 2) &&& ((mu 0 0 4) ^^^ (-1 : Int32)))), some (.inl x1), some (.inr (.inl (0 : Int64))), none, some (.inl (0 : Int32)), none] [] (mem E mu2 la3) (qI E Q)))) ∧ (¬ (¬ (mu 1 0 0) = 0) → (Q (-4 : Int32) mu la)))) ∧ (¬ (a0 ≤ (12 : Int32)) → (Q (-1 : Int32) mu la))))) : FnI E (d + 1) mi_86 [.inr (.inr (some (6, c))), .inl a0] mu la Q := by
  unfold FnI
  show Ev E (d + 1) mi_86 0 [some (.inr (.inr (some (6, c)))), some (.inl a0), none, none, none, none, none, none] [] (mem E mu la) (qI E Q)
  refine Ev.steps 1 (ip' := 1) (ls' := [some (.inr (.inr (some (6, c)))), some (.inl a0), none, none, none, none, none, none]) (st' := [.inl a0]) (M' := mem E mu la) rfl ?_
  refine Ev.br (c := a0 < 0) (s1 := (5, [some (.inr (.inr (some (6, c)))), some (.inl a0), none, none, none, none, none, none], [], mem E mu la)) (s2 := (2, [some (.inr (.inr (some (6, c)))), some (.inl a0), none, none, none, none, none, none], [], mem E mu la)) rfl rfl rfl rfl (fun hc => ?_) (fun hc => ?_)
  · have h := h.1 hc
    dsimp only
    refine Ev.steps 1 (ip' := 6) (ls' := [some (.inr (.inr (some (6, c)))), some (.inl a0), none, none, none, none, none, none]) (st' := [.inl (-1 : Int32)]) (M' := mem E mu la) rfl ?_
    exact Ev.ret rfl rfl ⟨_, _, _, rfl, rfl, h⟩
  · have h := h.2 hc
    dsimp only
    refine Ev.steps 2 (ip' := 4) (ls' := [some (.inr (.inr (some (6, c)))), some (.inl a0), none, none, none, none, none, none]) (st' := [.inl (12 : Int32), .inl a0]) (M' := mem E mu la) rfl ?_
    refine Ev.br (c := a0 ≤ (12 : Int32)) (s1 := (7, [some (.inr (.inr (some (6, c)))), some (.inl a0), none, none, none, none, none, none], [], mem E mu la)) (s2 := (5, [some (.inr (.inr (some (6, c)))), some (.inl a0), none, none, none, none, none, none], [], mem E mu la)) rfl rfl rfl rfl (fun hc => ?_) (fun hc => ?_)
    · have h := h.1 hc
      dsimp only
      refine Ev.steps 3 (ip' := 10) (ls' := [some (.inr (.inr (some (6, c)))), some (.inl a0), none, none, none, none, none, none]) (st' := [.inl (mu 1 0 0)]) (M' := mem E mu la) rfl ?_
      refine Ev.br (c := ¬ (mu 1 0 0) = 0) (s1 := (13, [some (.inr (.inr (some (6, c)))), some (.inl a0), none, none, none, none, none, none], [], mem E mu la)) (s2 := (11, [some (.inr (.inr (some (6, c)))), some (.inl a0), none, none, none, none, none, none], [], mem E mu la)) rfl rfl rfl rfl (fun hc => ?_) (fun hc => ?_)
      · have h := h.1 hc
        dsimp only
        refine Ev.steps 11 (ip' := 24) (ls' := [some (.inr (.inr (some (6, c)))), some (.inl a0), some (.inl ((mu 1 0 2) &&& ((mu 0 0 4) ^^^ (-1 : Int32)))), none, none, none, none, none]) (st' := [.inl ((mu 1 0 2) &&& ((mu 0 0 4) ^^^ (-1 : Int32)))]) (M' := mem E mu la) rfl ?_
        refine Ev.ci (J := mi_227) (as := [.inl ((mu 1 0 2) &&& ((mu 0 0 4) ^^^ (-1 : Int32)))]) (rest := []) rfl rfl rfl (Nat.le_of_ble_eq_true rfl) h (fun x1 mu2 la3 h => ?_)
        refine Ev.steps 5 (ip' := 30) (ls' := [some (.inr (.inr (some (6, c)))), some (.inl a0), some (.inl ((mu 1 0 2) &&& ((mu 0 0 4) ^^^ (-1 : Int32)))), some (.inl x1), some (.inr (.inl (0 : Int64))), none, some (.inl (0 : Int32)), none]) (st' := []) (M' := mem E mu2 la3) rfl ?_
        exact h
      · have h := h.2 hc
        dsimp only
        refine Ev.steps 1 (ip' := 12) (ls' := [some (.inr (.inr (some (6, c)))), some (.inl a0), none, none, none, none, none, none]) (st' := [.inl (-4 : Int32)]) (M' := mem E mu la) rfl ?_
        exact Ev.ret rfl rfl ⟨_, _, _, rfl, rfl, h⟩
    · have h := h.2 hc
      dsimp only
      refine Ev.steps 1 (ip' := 6) (ls' := [some (.inr (.inr (some (6, c)))), some (.inl a0), none, none, none, none, none, none]) (st' := [.inl (-1 : Int32)]) (M' := mem E mu la) rfl ?_
      exact Ev.ret rfl rfl ⟨_, _, _, rfl, rfl, h⟩
set_option maxRecDepth 100000 in
theorem vc_X6_mid_30 {E : mEv} {d : Nat}  (v0 : Nat) (v1 : Int32) (v2 : Int32) (v3 : Int32) (v4 : Int64) (v6 : Int32) {mu : fMu} {la : fLa} {Q : Int32 → fMu → fLa → Prop} (h : ((64 : Int32) ≤ v6 → (FnL E d mi_101 [.inl (12 : Int32), .inl v3] mu la (fun x4 mu5 la6 => FnV E d mi_99 [.inr (.inr (some (6, v0))), .inr (.inl v4), .inr (.inl x4)] mu5 la6 (fun mu8 la9 => Q (1 : Int32) mu8 la9)))) ∧ (¬ ((64 : Int32) ≤ v6) → ((¬ (v6 &&& (v2 ^^^ (-1 : Int32))) = 0 → (Ev E (d + 1) mi_86 30 [some (.inr (.inr (some (6, v0)))), some (.inl v1), some (.inl v2), some (.inl v3), some (.inr (.inl v4)), none, some (.inl (v6 + (1 : Int32))), none] [] (mem E mu la) (qI E Q))) ∧ (¬ (¬ (v6 &&& (v2 ^^^ (-1 : Int32))) = 0) → (FnI E d mi_227 [.inl v6] mu la (fun x10 mu11 la12 => FnL E d mi_101 [.inl v1, .inl x10] mu11 la12 (fun x13 mu14 la15 => FnL E d mi_101 [.inl ((12 : Int32) - v1), .inl (v3 - x10)] mu14 la15 (fun x16 mu17 la18 => FnI E d mi_127 [.inr (.inr (some (6, v0))), .inl v6] mu17 la18 (fun x19 mu20 la21 => Ev E (d + 1) mi_86 30 [some (.inr (.inr (some (6, v0)))), some (.inl v1), some (.inl v2), some (.inl v3), some (.inr (.inl (v4 + ((x13 * x16) * x19.toInt64)))), none, some (.inl (v6 + (1 : Int32))), none] [] (mem E mu20 la21) (qI E Q)))))))))) : Ev E (d + 1) mi_86 30 [some (.inr (.inr (some (6, v0)))), some (.inl v1), some (.inl v2), some (.inl v3), some (.inr (.inl v4)), none, some (.inl v6), none] [] (mem E mu la) (qI E Q) := by
  refine Ev.steps 2 (ip' := 32) (ls' := [some (.inr (.inr (some (6, v0)))), some (.inl v1), some (.inl v2), some (.inl v3), some (.inr (.inl v4)), none, some (.inl v6), none]) (st' := [.inl (64 : Int32), .inl v6]) (M' := mem E mu la) rfl ?_
  refine Ev.br (c := (64 : Int32) ≤ v6) (s1 := (63, [some (.inr (.inr (some (6, v0)))), some (.inl v1), some (.inl v2), some (.inl v3), some (.inr (.inl v4)), none, some (.inl v6), none], [], mem E mu la)) (s2 := (33, [some (.inr (.inr (some (6, v0)))), some (.inl v1), some (.inl v2), some (.inl v3), some (.inr (.inl v4)), none, some (.inl v6), none], [], mem E mu la)) rfl rfl rfl rfl (fun hc => ?_) (fun hc => ?_)
  · have h := h.1 hc
    dsimp only
    refine Ev.steps 4 (ip' := 67) (ls' := [some (.inr (.inr (some (6, v0)))), some (.inl v1), some (.inl v2), some (.inl v3), some (.inr (.inl v4)), none, some (.inl v6), none]) (st' := [.inl v3, .inl (12 : Int32), .inr (.inl v4), .inr (.inr (some (6, v0)))]) (M' := mem E mu la) rfl ?_
    refine Ev.cl (J := mi_101) (as := [.inl (12 : Int32), .inl v3]) (rest := [.inr (.inl v4), .inr (.inr (some (6, v0)))]) rfl rfl rfl (Nat.le_of_ble_eq_true rfl) h (fun x4 mu5 la6 h => ?_)
    refine Ev.cv (J := mi_99) (as := [.inr (.inr (some (6, v0))), .inr (.inl v4), .inr (.inl x4)]) (rest := []) rfl rfl rfl (Nat.le_of_ble_eq_true rfl) h (fun mu8 la9 h => ?_)
    refine Ev.steps 1 (ip' := 70) (ls' := [some (.inr (.inr (some (6, v0)))), some (.inl v1), some (.inl v2), some (.inl v3), some (.inr (.inl v4)), none, some (.inl v6), none]) (st' := [.inl (1 : Int32)]) (M' := mem E mu8 la9) rfl ?_
    exact Ev.ret rfl rfl ⟨_, _, _, rfl, rfl, h⟩
  · have h := h.2 hc
    dsimp only
    refine Ev.steps 5 (ip' := 38) (ls' := [some (.inr (.inr (some (6, v0)))), some (.inl v1), some (.inl v2), some (.inl v3), some (.inr (.inl v4)), none, some (.inl v6), none]) (st' := [.inl (v6 &&& (v2 ^^^ (-1 : Int32)))]) (M' := mem E mu la) rfl ?_
    refine Ev.br (c := ¬ (v6 &&& (v2 ^^^ (-1 : Int32))) = 0) (s1 := (61, [some (.inr (.inr (some (6, v0)))), some (.inl v1), some (.inl v2), some (.inl v3), some (.inr (.inl v4)), none, some (.inl v6), none], [], mem E mu la)) (s2 := (39, [some (.inr (.inr (some (6, v0)))), some (.inl v1), some (.inl v2), some (.inl v3), some (.inr (.inl v4)), none, some (.inl v6), none], [], mem E mu la)) rfl rfl rfl rfl (fun hc => ?_) (fun hc => ?_)
    · have h := h.1 hc
      dsimp only
      refine Ev.steps 2 (ip' := 30) (ls' := [some (.inr (.inr (some (6, v0)))), some (.inl v1), some (.inl v2), some (.inl v3), some (.inr (.inl v4)), none, some (.inl (v6 + (1 : Int32))), none]) (st' := []) (M' := mem E mu la) rfl ?_
      exact h
    · have h := h.2 hc
      dsimp only
      refine Ev.steps 1 (ip' := 40) (ls' := [some (.inr (.inr (some (6, v0)))), some (.inl v1), some (.inl v2), some (.inl v3), some (.inr (.inl v4)), none, some (.inl v6), none]) (st' := [.inl v6]) (M' := mem E mu la) rfl ?_
      refine Ev.ci (J := mi_227) (as := [.inl v6]) (rest := []) rfl rfl rfl (Nat.le_of_ble_eq_true rfl) h (fun x10 mu11 la12 h => ?_)
      refine Ev.steps 4 (ip' := 45) (ls' := [some (.inr (.inr (some (6, v0)))), some (.inl v1), some (.inl v2), some (.inl v3), some (.inr (.inl v4)), none, some (.inl v6), some (.inl x10)]) (st' := [.inl x10, .inl v1, .inr (.inl v4)]) (M' := mem E mu11 la12) rfl ?_
      refine Ev.cl (J := mi_101) (as := [.inl v1, .inl x10]) (rest := [.inr (.inl v4)]) rfl rfl rfl (Nat.le_of_ble_eq_true rfl) h (fun x13 mu14 la15 h => ?_)
      refine Ev.steps 6 (ip' := 52) (ls' := [some (.inr (.inr (some (6, v0)))), some (.inl v1), some (.inl v2), some (.inl v3), some (.inr (.inl v4)), none, some (.inl v6), some (.inl x10)]) (st' := [.inl (v3 - x10), .inl ((12 : Int32) - v1), .inr (.inl x13), .inr (.inl v4)]) (M' := mem E mu14 la15) rfl ?_
      refine Ev.cl (J := mi_101) (as := [.inl ((12 : Int32) - v1), .inl (v3 - x10)]) (rest := [.inr (.inl x13), .inr (.inl v4)]) rfl rfl rfl (Nat.le_of_ble_eq_true rfl) h (fun x16 mu17 la18 h => ?_)
      refine Ev.steps 3 (ip' := 56) (ls' := [some (.inr (.inr (some (6, v0)))), some (.inl v1), some (.inl v2), some (.inl v3), some (.inr (.inl v4)), none, some (.inl v6), some (.inl x10)]) (st' := [.inl v6, .inr (.inr (some (6, v0))), .inr (.inl (x13 * x16)), .inr (.inl v4)]) (M' := mem E mu17 la18) rfl ?_
      refine Ev.ci (J := mi_127) (as := [.inr (.inr (some (6, v0))), .inl v6]) (rest := [.inr (.inl (x13 * x16)), .inr (.inl v4)]) rfl rfl rfl (Nat.le_of_ble_eq_true rfl) h (fun x19 mu20 la21 h => ?_)
      refine Ev.steps 6 (ip' := 30) (ls' := [some (.inr (.inr (some (6, v0)))), some (.inl v1), some (.inl v2), some (.inl v3), some (.inr (.inl (v4 + ((x13 * x16) * x19.toInt64)))), none, some (.inl (v6 + (1 : Int32))), some (.inl x10)]) (st' := []) (M' := mem E mu20 la21) rfl ?_
      refine Ev.drop (ls := [some (.inr (.inr (some (6, v0)))), some (.inl v1), some (.inl v2), some (.inl v3), some (.inr (.inl (v4 + ((x13 * x16) * x19.toInt64)))), none, some (.inl (v6 + (1 : Int32))), none]) ⟨Or.inr rfl, Or.inr rfl, Or.inr rfl, Or.inr rfl, Or.inr rfl, Or.inr rfl, Or.inr rfl, Or.inl rfl, trivial⟩ ?_
      exact h
