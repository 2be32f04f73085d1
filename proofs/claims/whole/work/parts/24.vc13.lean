set_option maxRecDepth 100000 in
/-- AnnCupsModel.mends()I -/
theorem vc_X7_mends {E : mEv} {d : Nat} {c : Nat} {mu : fMu} {la : fLa} {Q : Int32 → fMu → fLa → Prop} (h : FnI E d mi_163 [.inr (.inr (some (7, c))), .inr (.inr (some (38, c)))] mu la (fun x1 mu2 la3 => Ev E (d + 1) mi_197 9 [some (.inr (.inr (some (7, c)))), some (.inl x1), some (.inl (0 : Int32)), some (.inl (0 : Int32)), none, none, none] [] (mem E mu2 la3) (qI E Q))) : FnI E (d + 1) mi_197 [.inr (.inr (some (7, c)))] mu la Q := by
  unfold FnI
  show Ev E (d + 1) mi_197 0 [some (.inr (.inr (some (7, c)))), none, none, none, none, none, none] [] (mem E mu la) (qI E Q)
  refine Ev.steps 3 (ip' := 3) (ls' := [some (.inr (.inr (some (7, c)))), none, none, none, none, none, none]) (st' := [.inr (.inr (some (38, c))), .inr (.inr (some (7, c)))]) (M' := mem E mu la) rfl ?_
  refine Ev.ci (J := mi_163) (as := [.inr (.inr (some (7, c))), .inr (.inr (some (38, c)))]) (rest := []) rfl rfl rfl (Nat.le_of_ble_eq_true rfl) h (fun x1 mu2 la3 h => ?_)
  refine Ev.steps 5 (ip' := 9) (ls' := [some (.inr (.inr (some (7, c)))), some (.inl x1), some (.inl (0 : Int32)), some (.inl (0 : Int32)), none, none, none]) (st' := []) (M' := mem E mu2 la3) rfl ?_
  exact h
set_option maxRecDepth 100000 in
theorem vc_X7_mends_9 {E : mEv} {d : Nat}  (v0 : Nat) (v1 : Int32) (v2 : Int32) (v3 : Int32) {mu : fMu} {la : fLa} {Q : Int32 → fMu → fLa → Prop} (h : ((mu 7 v0 4) ≤ v3 → (FnI E d mi_131 [.inl v1] mu la (fun x4 mu5 la6 => Q (x4 - v2) mu5 la6))) ∧ (¬ ((mu 7 v0 4) ≤ v3) → (vp_in ((0 : Int32) + v3) 9 ∧ (FnI E d mi_129 [.inr (.inl ((mu 38 v0 ((0 : Int32) + v3).toNatClampNeg).toInt64)), .inr (.inl (0 : Int64)), .inr (.inl (5 : Int64))] mu la (fun x7 mu8 la9 => (x7 = 0 → (FnI E d mi_130 [.inl v1, .inl v3] mu8 la9 (fun x10 mu11 la12 => (x10 = 0 → (Ev E (d + 1) mi_197 9 [some (.inr (.inr (some (7, v0)))), some (.inl v1), some (.inl v2), some (.inl (v3 + (1 : Int32))), none, none, none] [] (mem E mu11 la12) (qI E Q))) ∧ (¬ (x10 = 0) → (FnI E d mi_164 [.inr (.inr (some (7, v0))), .inr (.inr (some (38, v0))), .inl v3] mu11 la12 (fun x13 mu14 la15 => Ev E (d + 1) mi_197 44 [some (.inr (.inr (some (7, v0)))), some (.inl v1), some (.inl v2), some (.inl v3), some (.inl x13), some (.inl (1 : Int32)), some (.inl (0 : Int32))] [] (mem E mu14 la15) (qI E Q))))))) ∧ (¬ (x7 = 0) → (FnI E d mi_156 [.inr (.inr (some (7, v0))), .inl v3] mu8 la9 (fun x16 mu17 la18 => (¬ x16 = 0 → (FnI E d mi_130 [.inl v1, .inl v3] mu17 la18 (fun x19 mu20 la21 => (x19 = 0 → (Ev E (d + 1) mi_197 9 [some (.inr (.inr (some (7, v0)))), some (.inl v1), some (.inl v2), some (.inl (v3 + (1 : Int32))), none, none, none] [] (mem E mu20 la21) (qI E Q))) ∧ (¬ (x19 = 0) → (FnI E d mi_164 [.inr (.inr (some (7, v0))), .inr (.inr (some (38, v0))), .inl v3] mu20 la21 (fun x22 mu23 la24 => Ev E (d + 1) mi_197 44 [some (.inr (.inr (some (7, v0)))), some (.inl v1), some (.inl v2), some (.inl v3), some (.inl x22), some (.inl (1 : Int32)), some (.inl (0 : Int32))] [] (mem E mu23 la24) (qI E Q))))))) ∧ (¬ (¬ x16 = 0) → (Q (-9 : Int32) mu17 la18)))))))))) : Ev E (d + 1) mi_197 9 [some (.inr (.inr (some (7, v0)))), some (.inl v1), some (.inl v2), some (.inl v3), none, none, none] [] (mem E mu la) (qI E Q) := by
  refine Ev.steps 3 (ip' := 12) (ls' := [some (.inr (.inr (some (7, v0)))), some (.inl v1), some (.inl v2), some (.inl v3), none, none, none]) (st' := [.inl (mu 7 v0 4), .inl v3]) (M' := mem E mu la) rfl ?_
  refine Ev.br (c := (mu 7 v0 4) ≤ v3) (s1 := (83, [some (.inr (.inr (some (7, v0)))), some (.inl v1), some (.inl v2), some (.inl v3), none, none, none], [], mem E mu la)) (s2 := (13, [some (.inr (.inr (some (7, v0)))), some (.inl v1), some (.inl v2), some (.inl v3), none, none, none], [], mem E mu la)) rfl rfl rfl rfl (fun hc => ?_) (fun hc => ?_)
  · have h := h.1 hc
    dsimp only
    refine Ev.steps 1 (ip' := 84) (ls' := [some (.inr (.inr (some (7, v0)))), some (.inl v1), some (.inl v2), some (.inl v3), none, none, none]) (st' := [.inl v1]) (M' := mem E mu la) rfl ?_
    refine Ev.ci (J := mi_131) (as := [.inl v1]) (rest := []) rfl rfl rfl (Nat.le_of_ble_eq_true rfl) h (fun x4 mu5 la6 h => ?_)
    refine Ev.steps 2 (ip' := 87) (ls' := [some (.inr (.inr (some (7, v0)))), some (.inl v1), some (.inl v2), some (.inl v3), none, none, none]) (st' := [.inl (x4 - v2)]) (M' := mem E mu5 la6) rfl ?_
    exact Ev.ret rfl rfl ⟨_, _, _, rfl, rfl, h⟩
  · have h := h.2 hc
    dsimp only
    refine Ev.steps 5 (ip' := 18) (ls' := [some (.inr (.inr (some (7, v0)))), some (.inl v1), some (.inl v2), some (.inl v3), none, none, none]) (st' := [.inl ((0 : Int32) + v3), .inr (.inr (some (38, v0)))]) (M' := mem E mu la) rfl ?_
    refine Ev.ial rfl rfl (by decide) h.1 ?_
    have h := h.2
    refine Ev.steps 3 (ip' := 22) (ls' := [some (.inr (.inr (some (7, v0)))), some (.inl v1), some (.inl v2), some (.inl v3), none, none, none]) (st' := [.inr (.inl (5 : Int64)), .inr (.inl (0 : Int64)), .inr (.inl ((mu 38 v0 ((0 : Int32) + v3).toNatClampNeg).toInt64))]) (M' := mem E mu la) rfl ?_
    refine Ev.ci (J := mi_129) (as := [.inr (.inl ((mu 38 v0 ((0 : Int32) + v3).toNatClampNeg).toInt64)), .inr (.inl (0 : Int64)), .inr (.inl (5 : Int64))]) (rest := []) rfl rfl rfl (Nat.le_of_ble_eq_true rfl) h (fun x7 mu8 la9 h => ?_)
    refine Ev.br (c := x7 = 0) (s1 := (30, [some (.inr (.inr (some (7, v0)))), some (.inl v1), some (.inl v2), some (.inl v3), none, none, none], [], mem E mu8 la9)) (s2 := (24, [some (.inr (.inr (some (7, v0)))), some (.inl v1), some (.inl v2), some (.inl v3), none, none, none], [], mem E mu8 la9)) rfl rfl rfl rfl (fun hc => ?_) (fun hc => ?_)
    · have h := h.1 hc
      dsimp only
      refine Ev.steps 2 (ip' := 32) (ls' := [some (.inr (.inr (some (7, v0)))), some (.inl v1), some (.inl v2), some (.inl v3), none, none, none]) (st' := [.inl v3, .inl v1]) (M' := mem E mu8 la9) rfl ?_
      refine Ev.ci (J := mi_130) (as := [.inl v1, .inl v3]) (rest := []) rfl rfl rfl (Nat.le_of_ble_eq_true rfl) h (fun x10 mu11 la12 h => ?_)
      refine Ev.br (c := x10 = 0) (s1 := (81, [some (.inr (.inr (some (7, v0)))), some (.inl v1), some (.inl v2), some (.inl v3), none, none, none], [], mem E mu11 la12)) (s2 := (34, [some (.inr (.inr (some (7, v0)))), some (.inl v1), some (.inl v2), some (.inl v3), none, none, none], [], mem E mu11 la12)) rfl rfl rfl rfl (fun hc => ?_) (fun hc => ?_)
      · have h := h.1 hc
        dsimp only
        refine Ev.steps 2 (ip' := 9) (ls' := [some (.inr (.inr (some (7, v0)))), some (.inl v1), some (.inl v2), some (.inl (v3 + (1 : Int32))), none, none, none]) (st' := []) (M' := mem E mu11 la12) rfl ?_
        exact h
      · have h := h.2 hc
        dsimp only
        refine Ev.steps 4 (ip' := 38) (ls' := [some (.inr (.inr (some (7, v0)))), some (.inl v1), some (.inl v2), some (.inl v3), none, none, none]) (st' := [.inl v3, .inr (.inr (some (38, v0))), .inr (.inr (some (7, v0)))]) (M' := mem E mu11 la12) rfl ?_
        refine Ev.ci (J := mi_164) (as := [.inr (.inr (some (7, v0))), .inr (.inr (some (38, v0))), .inl v3]) (rest := []) rfl rfl rfl (Nat.le_of_ble_eq_true rfl) h (fun x13 mu14 la15 h => ?_)
        refine Ev.steps 5 (ip' := 44) (ls' := [some (.inr (.inr (some (7, v0)))), some (.inl v1), some (.inl v2), some (.inl v3), some (.inl x13), some (.inl (1 : Int32)), some (.inl (0 : Int32))]) (st' := []) (M' := mem E mu14 la15) rfl ?_
        exact h
    · have h := h.2 hc
      dsimp only
      refine Ev.steps 2 (ip' := 26) (ls' := [some (.inr (.inr (some (7, v0)))), some (.inl v1), some (.inl v2), some (.inl v3), none, none, none]) (st' := [.inl v3, .inr (.inr (some (7, v0)))]) (M' := mem E mu8 la9) rfl ?_
      refine Ev.ci (J := mi_156) (as := [.inr (.inr (some (7, v0))), .inl v3]) (rest := []) rfl rfl rfl (Nat.le_of_ble_eq_true rfl) h (fun x16 mu17 la18 h => ?_)
      refine Ev.br (c := ¬ x16 = 0) (s1 := (30, [some (.inr (.inr (some (7, v0)))), some (.inl v1), some (.inl v2), some (.inl v3), none, none, none], [], mem E mu17 la18)) (s2 := (28, [some (.inr (.inr (some (7, v0)))), some (.inl v1), some (.inl v2), some (.inl v3), none, none, none], [], mem E mu17 la18)) rfl rfl rfl rfl (fun hc => ?_) (fun hc => ?_)
      · have h := h.1 hc
        dsimp only
        refine Ev.steps 2 (ip' := 32) (ls' := [some (.inr (.inr (some (7, v0)))), some (.inl v1), some (.inl v2), some (.inl v3), none, none, none]) (st' := [.inl v3, .inl v1]) (M' := mem E mu17 la18) rfl ?_
        refine Ev.ci (J := mi_130) (as := [.inl v1, .inl v3]) (rest := []) rfl rfl rfl (Nat.le_of_ble_eq_true rfl) h (fun x19 mu20 la21 h => ?_)
        refine Ev.br (c := x19 = 0) (s1 := (81, [some (.inr (.inr (some (7, v0)))), some (.inl v1), some (.inl v2), some (.inl v3), none, none, none], [], mem E mu20 la21)) (s2 := (34, [some (.inr (.inr (some (7, v0)))), some (.inl v1), some (.inl v2), some (.inl v3), none, none, none], [], mem E mu20 la21)) rfl rfl rfl rfl (fun hc => ?_) (fun hc => ?_)
        · have h := h.1 hc
          dsimp only
          refine Ev.steps 2 (ip' := 9) (ls' := [some (.inr (.inr (some (7, v0)))), some (.inl v1), some (.inl v2), some (.inl (v3 + (1 : Int32))), none, none, none]) (st' := []) (M' := mem E mu20 la21) rfl ?_
          exact h
        · have h := h.2 hc
          dsimp only
          refine Ev.steps 4 (ip' := 38) (ls' := [some (.inr (.inr (some (7, v0)))), some (.inl v1), some (.inl v2), some (.inl v3), none, none, none]) (st' := [.inl v3, .inr (.inr (some (38, v0))), .inr (.inr (some (7, v0)))]) (M' := mem E mu20 la21) rfl ?_
          refine Ev.ci (J := mi_164) (as := [.inr (.inr (some (7, v0))), .inr (.inr (some (38, v0))), .inl v3]) (rest := []) rfl rfl rfl (Nat.le_of_ble_eq_true rfl) h (fun x22 mu23 la24 h => ?_)
          refine Ev.steps 5 (ip' := 44) (ls' := [some (.inr (.inr (some (7, v0)))), some (.inl v1), some (.inl v2), some (.inl v3), some (.inl x22), some (.inl (1 : Int32)), some (.inl (0 : Int32))]) (st' := []) (M' := mem E mu23 la24) rfl ?_
          exact h
      · have h := h.2 hc
        dsimp only
        refine Ev.steps 1 (ip' := 29) (ls' := [some (.inr (.inr (some (7, v0)))), some (.inl v1), some (.inl v2), some (.inl v3), none, none, none]) (st' := [.inl (-9 : Int32)]) (M' := mem E mu17 la18) rfl ?_
        exact Ev.ret rfl rfl ⟨_, _, _, rfl, rfl, h⟩
set_option maxRecDepth 100000 in
theorem vc_X7_mends_44 {E : mEv} {d : Nat}  (v0 : Nat) (v1 : Int32) (v2 : Int32) (v3 : Int32) (v4 : Int32) (v5 : Int32) (v6 : Int32) {mu : fMu} {la : fLa} {Q : Int32 → fMu → fLa → Prop} (h : (v4 = (-9 : Int32) → ((¬ v4 = v3 → (Ev E (d + 1) mi_197 9 [some (.inr (.inr (some (7, v0)))), some (.inl v1), some (.inl (v2 + (0 : Int32))), some (.inl (v3 + (1 : Int32))), none, none, none] [] (mem E mu la) (qI E Q))) ∧ (¬ (¬ v4 = v3) → ((v5 = 0 → (Ev E (d + 1) mi_197 9 [some (.inr (.inr (some (7, v0)))), some (.inl v1), some (.inl (v2 + (0 : Int32))), some (.inl (v3 + (1 : Int32))), none, none, none] [] (mem E mu la) (qI E Q))) ∧ (¬ (v5 = 0) → (Ev E (d + 1) mi_197 9 [some (.inr (.inr (some (7, v0)))), some (.inl v1), some (.inl (v2 + (1 : Int32))), some (.inl (v3 + (1 : Int32))), none, none, none] [] (mem E mu la) (qI E Q))))))) ∧ (¬ (v4 = (-9 : Int32)) → ((v4 = v3 → ((¬ v4 = v3 → (Ev E (d + 1) mi_197 9 [some (.inr (.inr (some (7, v0)))), some (.inl v1), some (.inl (v2 + (0 : Int32))), some (.inl (v3 + (1 : Int32))), none, none, none] [] (mem E mu la) (qI E Q))) ∧ (¬ (¬ v4 = v3) → ((v5 = 0 → (Ev E (d + 1) mi_197 9 [some (.inr (.inr (some (7, v0)))), some (.inl v1), some (.inl (v2 + (0 : Int32))), some (.inl (v3 + (1 : Int32))), none, none, none] [] (mem E mu la) (qI E Q))) ∧ (¬ (v5 = 0) → (Ev E (d + 1) mi_197 9 [some (.inr (.inr (some (7, v0)))), some (.inl v1), some (.inl (v2 + (1 : Int32))), some (.inl (v3 + (1 : Int32))), none, none, none] [] (mem E mu la) (qI E Q))))))) ∧ (¬ (v4 = v3) → (((6 : Int32) ≤ v6 → ((¬ v4 = v3 → (Ev E (d + 1) mi_197 9 [some (.inr (.inr (some (7, v0)))), some (.inl v1), some (.inl (v2 + (0 : Int32))), some (.inl (v3 + (1 : Int32))), none, none, none] [] (mem E mu la) (qI E Q))) ∧ (¬ (¬ v4 = v3) → ((v5 = 0 → (Ev E (d + 1) mi_197 9 [some (.inr (.inr (some (7, v0)))), some (.inl v1), some (.inl (v2 + (0 : Int32))), some (.inl (v3 + (1 : Int32))), none, none, none] [] (mem E mu la) (qI E Q))) ∧ (¬ (v5 = 0) → (Ev E (d + 1) mi_197 9 [some (.inr (.inr (some (7, v0)))), some (.inl v1), some (.inl (v2 + (1 : Int32))), some (.inl (v3 + (1 : Int32))), none, none, none] [] (mem E mu la) (qI E Q))))))) ∧ (¬ ((6 : Int32) ≤ v6) → ((v5 = 0 → (FnI E d mi_164 [.inr (.inr (some (7, v0))), .inr (.inr (some (38, v0))), .inl v4] mu la (fun x25 mu26 la27 => Ev E (d + 1) mi_197 44 [some (.inr (.inr (some (7, v0)))), some (.inl v1), some (.inl v2), some (.inl v3), some (.inl x25), some (.inl (0 : Int32)), some (.inl (v6 + (1 : Int32)))] [] (mem E mu26 la27) (qI E Q)))) ∧ (¬ (v5 = 0) → ((v4 ≤ v3 → (FnI E d mi_164 [.inr (.inr (some (7, v0))), .inr (.inr (some (38, v0))), .inl v4] mu la (fun x28 mu29 la30 => Ev E (d + 1) mi_197 44 [some (.inr (.inr (some (7, v0)))), some (.inl v1), some (.inl v2), some (.inl v3), some (.inl x28), some (.inl (0 : Int32)), some (.inl (v6 + (1 : Int32)))] [] (mem E mu29 la30) (qI E Q)))) ∧ (¬ (v4 ≤ v3) → (FnI E d mi_164 [.inr (.inr (some (7, v0))), .inr (.inr (some (38, v0))), .inl v4] mu la (fun x31 mu32 la33 => Ev E (d + 1) mi_197 44 [some (.inr (.inr (some (7, v0)))), some (.inl v1), some (.inl v2), some (.inl v3), some (.inl x31), some (.inl (1 : Int32)), some (.inl (v6 + (1 : Int32)))] [] (mem E mu32 la33) (qI E Q))))))))))))) : Ev E (d + 1) mi_197 44 [some (.inr (.inr (some (7, v0)))), some (.inl v1), some (.inl v2), some (.inl v3), some (.inl v4), some (.inl v5), some (.inl v6)] [] (mem E mu la) (qI E Q) := by
  refine Ev.steps 2 (ip' := 46) (ls' := [some (.inr (.inr (some (7, v0)))), some (.inl v1), some (.inl v2), some (.inl v3), some (.inl v4), some (.inl v5), some (.inl v6)]) (st' := [.inl (-9 : Int32), .inl v4]) (M' := mem E mu la) rfl ?_
  refine Ev.br (c := v4 = (-9 : Int32)) (s1 := (70, [some (.inr (.inr (some (7, v0)))), some (.inl v1), some (.inl v2), some (.inl v3), some (.inl v4), some (.inl v5), some (.inl v6)], [], mem E mu la)) (s2 := (47, [some (.inr (.inr (some (7, v0)))), some (.inl v1), some (.inl v2), some (.inl v3), some (.inl v4), some (.inl v5), some (.inl v6)], [], mem E mu la)) rfl rfl rfl rfl (fun hc => ?_) (fun hc => ?_)
  · have h := h.1 hc
    dsimp only
    refine Ev.steps 3 (ip' := 73) (ls' := [some (.inr (.inr (some (7, v0)))), some (.inl v1), some (.inl v2), some (.inl v3), some (.inl v4), some (.inl v5), some (.inl v6)]) (st' := [.inl v3, .inl v4, .inl v2]) (M' := mem E mu la) rfl ?_
    refine Ev.br (c := ¬ v4 = v3) (s1 := (78, [some (.inr (.inr (some (7, v0)))), some (.inl v1), some (.inl v2), some (.inl v3), some (.inl v4), some (.inl v5), some (.inl v6)], [.inl v2], mem E mu la)) (s2 := (74, [some (.inr (.inr (some (7, v0)))), some (.inl v1), some (.inl v2), some (.inl v3), some (.inl v4), some (.inl v5), some (.inl v6)], [.inl v2], mem E mu la)) rfl rfl rfl rfl (fun hc => ?_) (fun hc => ?_)
    · have h := h.1 hc
      dsimp only
      refine Ev.steps 5 (ip' := 9) (ls' := [some (.inr (.inr (some (7, v0)))), some (.inl v1), some (.inl (v2 + (0 : Int32))), some (.inl (v3 + (1 : Int32))), some (.inl v4), some (.inl v5), some (.inl v6)]) (st' := []) (M' := mem E mu la) rfl ?_
      refine Ev.drop (ls := [some (.inr (.inr (some (7, v0)))), some (.inl v1), some (.inl (v2 + (0 : Int32))), some (.inl (v3 + (1 : Int32))), none, none, none]) ⟨Or.inr rfl, Or.inr rfl, Or.inr rfl, Or.inr rfl, Or.inl rfl, Or.inl rfl, Or.inl rfl, trivial⟩ ?_
      exact h
    · have h := h.2 hc
      dsimp only
      refine Ev.steps 1 (ip' := 75) (ls' := [some (.inr (.inr (some (7, v0)))), some (.inl v1), some (.inl v2), some (.inl v3), some (.inl v4), some (.inl v5), some (.inl v6)]) (st' := [.inl v5, .inl v2]) (M' := mem E mu la) rfl ?_
      refine Ev.br (c := v5 = 0) (s1 := (78, [some (.inr (.inr (some (7, v0)))), some (.inl v1), some (.inl v2), some (.inl v3), some (.inl v4), some (.inl v5), some (.inl v6)], [.inl v2], mem E mu la)) (s2 := (76, [some (.inr (.inr (some (7, v0)))), some (.inl v1), some (.inl v2), some (.inl v3), some (.inl v4), some (.inl v5), some (.inl v6)], [.inl v2], mem E mu la)) rfl rfl rfl rfl (fun hc => ?_) (fun hc => ?_)
      · have h := h.1 hc
        dsimp only
        refine Ev.steps 5 (ip' := 9) (ls' := [some (.inr (.inr (some (7, v0)))), some (.inl v1), some (.inl (v2 + (0 : Int32))), some (.inl (v3 + (1 : Int32))), some (.inl v4), some (.inl v5), some (.inl v6)]) (st' := []) (M' := mem E mu la) rfl ?_
        refine Ev.drop (ls := [some (.inr (.inr (some (7, v0)))), some (.inl v1), some (.inl (v2 + (0 : Int32))), some (.inl (v3 + (1 : Int32))), none, none, none]) ⟨Or.inr rfl, Or.inr rfl, Or.inr rfl, Or.inr rfl, Or.inl rfl, Or.inl rfl, Or.inl rfl, trivial⟩ ?_
        exact h
      · have h := h.2 hc
        dsimp only
        refine Ev.steps 6 (ip' := 9) (ls' := [some (.inr (.inr (some (7, v0)))), some (.inl v1), some (.inl (v2 + (1 : Int32))), some (.inl (v3 + (1 : Int32))), some (.inl v4), some (.inl v5), some (.inl v6)]) (st' := []) (M' := mem E mu la) rfl ?_
        refine Ev.drop (ls := [some (.inr (.inr (some (7, v0)))), some (.inl v1), some (.inl (v2 + (1 : Int32))), some (.inl (v3 + (1 : Int32))), none, none, none]) ⟨Or.inr rfl, Or.inr rfl, Or.inr rfl, Or.inr rfl, Or.inl rfl, Or.inl rfl, Or.inl rfl, trivial⟩ ?_
        exact h
  · have h := h.2 hc
    dsimp only
    refine Ev.steps 2 (ip' := 49) (ls' := [some (.inr (.inr (some (7, v0)))), some (.inl v1), some (.inl v2), some (.inl v3), some (.inl v4), some (.inl v5), some (.inl v6)]) (st' := [.inl v3, .inl v4]) (M' := mem E mu la) rfl ?_
    refine Ev.br (c := v4 = v3) (s1 := (70, [some (.inr (.inr (some (7, v0)))), some (.inl v1), some (.inl v2), some (.inl v3), some (.inl v4), some (.inl v5), some (.inl v6)], [], mem E mu la)) (s2 := (50, [some (.inr (.inr (some (7, v0)))), some (.inl v1), some (.inl v2), some (.inl v3), some (.inl v4), some (.inl v5), some (.inl v6)], [], mem E mu la)) rfl rfl rfl rfl (fun hc => ?_) (fun hc => ?_)
    · have h := h.1 hc
      dsimp only
      refine Ev.steps 3 (ip' := 73) (ls' := [some (.inr (.inr (some (7, v0)))), some (.inl v1), some (.inl v2), some (.inl v3), some (.inl v4), some (.inl v5), some (.inl v6)]) (st' := [.inl v3, .inl v4, .inl v2]) (M' := mem E mu la) rfl ?_
      refine Ev.br (c := ¬ v4 = v3) (s1 := (78, [some (.inr (.inr (some (7, v0)))), some (.inl v1), some (.inl v2), some (.inl v3), some (.inl v4), some (.inl v5), some (.inl v6)], [.inl v2], mem E mu la)) (s2 := (74, [some (.inr (.inr (some (7, v0)))), some (.inl v1), some (.inl v2), some (.inl v3), some (.inl v4), some (.inl v5), some (.inl v6)], [.inl v2], mem E mu la)) rfl rfl rfl rfl (fun hc => ?_) (fun hc => ?_)
      · have h := h.1 hc
        dsimp only
        refine Ev.steps 5 (ip' := 9) (ls' := [some (.inr (.inr (some (7, v0)))), some (.inl v1), some (.inl (v2 + (0 : Int32))), some (.inl (v3 + (1 : Int32))), some (.inl v4), some (.inl v5), some (.inl v6)]) (st' := []) (M' := mem E mu la) rfl ?_
        refine Ev.drop (ls := [some (.inr (.inr (some (7, v0)))), some (.inl v1), some (.inl (v2 + (0 : Int32))), some (.inl (v3 + (1 : Int32))), none, none, none]) ⟨Or.inr rfl, Or.inr rfl, Or.inr rfl, Or.inr rfl, Or.inl rfl, Or.inl rfl, Or.inl rfl, trivial⟩ ?_
        exact h
      · have h := h.2 hc
        dsimp only
        refine Ev.steps 1 (ip' := 75) (ls' := [some (.inr (.inr (some (7, v0)))), some (.inl v1), some (.inl v2), some (.inl v3), some (.inl v4), some (.inl v5), some (.inl v6)]) (st' := [.inl v5, .inl v2]) (M' := mem E mu la) rfl ?_
        refine Ev.br (c := v5 = 0) (s1 := (78, [some (.inr (.inr (some (7, v0)))), some (.inl v1), some (.inl v2), some (.inl v3), some (.inl v4), some (.inl v5), some (.inl v6)], [.inl v2], mem E mu la)) (s2 := (76, [some (.inr (.inr (some (7, v0)))), some (.inl v1), some (.inl v2), some (.inl v3), some (.inl v4), some (.inl v5), some (.inl v6)], [.inl v2], mem E mu la)) rfl rfl rfl rfl (fun hc => ?_) (fun hc => ?_)
        · have h := h.1 hc
          dsimp only
          refine Ev.steps 5 (ip' := 9) (ls' := [some (.inr (.inr (some (7, v0)))), some (.inl v1), some (.inl (v2 + (0 : Int32))), some (.inl (v3 + (1 : Int32))), some (.inl v4), some (.inl v5), some (.inl v6)]) (st' := []) (M' := mem E mu la) rfl ?_
          refine Ev.drop (ls := [some (.inr (.inr (some (7, v0)))), some (.inl v1), some (.inl (v2 + (0 : Int32))), some (.inl (v3 + (1 : Int32))), none, none, none]) ⟨Or.inr rfl, Or.inr rfl, Or.inr rfl, Or.inr rfl, Or.inl rfl, Or.inl rfl, Or.inl rfl, trivial⟩ ?_
          exact h
        · have h := h.2 hc
          dsimp only
          refine Ev.steps 6 (ip' := 9) (ls' := [some (.inr (.inr (some (7, v0)))), some (.inl v1), some (.inl (v2 + (1 : Int32))), some (.inl (v3 + (1 : Int32))), some (.inl v4), some (.inl v5), some (.inl v6)]) (st' := []) (M' := mem E mu la) rfl ?_
          refine Ev.drop (ls := [some (.inr (.inr (some (7, v0)))), some (.inl v1), some (.inl (v2 + (1 : Int32))), some (.inl (v3 + (1 : Int32))), none, none, none]) ⟨Or.inr rfl, Or.inr rfl, Or.inr rfl, Or.inr rfl, Or.inl rfl, Or.inl rfl, Or.inl rfl, trivial⟩ ?_
          exact h
    · have h := h.2 hc
      dsimp only
      refine Ev.steps 2 (ip' := 52) (ls' := [some (.inr (.inr (some (7, v0)))), some (.inl v1), some (.inl v2), some (.inl v3), some (.inl v4), some (.inl v5), some (.inl v6)]) (st' := [.inl (6 : Int32), .inl v6]) (M' := mem E mu la) rfl ?_
      refine Ev.br (c := (6 : Int32) ≤ v6) (s1 := (70, [some (.inr (.inr (some (7, v0)))), some (.inl v1), some (.inl v2), some (.inl v3), some (.inl v4), some (.inl v5), some (.inl v6)], [], mem E mu la)) (s2 := (53, [some (.inr (.inr (some (7, v0)))), some (.inl v1), some (.inl v2), some (.inl v3), some (.inl v4), some (.inl v5), some (.inl v6)], [], mem E mu la)) rfl rfl rfl rfl (fun hc => ?_) (fun hc => ?_)
      · have h := h.1 hc
        dsimp only
        refine Ev.steps 3 (ip' := 73) (ls' := [some (.inr (.inr (some (7, v0)))), some (.inl v1), some (.inl v2), some (.inl v3), some (.inl v4), some (.inl v5), some (.inl v6)]) (st' := [.inl v3, .inl v4, .inl v2]) (M' := mem E mu la) rfl ?_
        refine Ev.br (c := ¬ v4 = v3) (s1 := (78, [some (.inr (.inr (some (7, v0)))), some (.inl v1), some (.inl v2), some (.inl v3), some (.inl v4), some (.inl v5), some (.inl v6)], [.inl v2], mem E mu la)) (s2 := (74, [some (.inr (.inr (some (7, v0)))), some (.inl v1), some (.inl v2), some (.inl v3), some (.inl v4), some (.inl v5), some (.inl v6)], [.inl v2], mem E mu la)) rfl rfl rfl rfl (fun hc => ?_) (fun hc => ?_)
        · have h := h.1 hc
          dsimp only
          refine Ev.steps 5 (ip' := 9) (ls' := [some (.inr (.inr (some (7, v0)))), some (.inl v1), some (.inl (v2 + (0 : Int32))), some (.inl (v3 + (1 : Int32))), some (.inl v4), some (.inl v5), some (.inl v6)]) (st' := []) (M' := mem E mu la) rfl ?_
          refine Ev.drop (ls := [some (.inr (.inr (some (7, v0)))), some (.inl v1), some (.inl (v2 + (0 : Int32))), some (.inl (v3 + (1 : Int32))), none, none, none]) ⟨Or.inr rfl, Or.inr rfl, Or.inr rfl, Or.inr rfl, Or.inl rfl, Or.inl rfl, Or.inl rfl, trivial⟩ ?_
          exact h
        · have h := h.2 hc
          dsimp only
          refine Ev.steps 1 (ip' := 75) (ls' := [some (.inr (.inr (some (7, v0)))), some (.inl v1), some (.inl v2), some (.inl v3), some (.inl v4), some (.inl v5), some (.inl v6)]) (st' := [.inl v5, .inl v2]) (M' := mem E mu la) rfl ?_
          refine Ev.br (c := v5 = 0) (s1 := (78, [some (.inr (.inr (some (7, v0)))), some (.inl v1), some (.inl v2), some (.inl v3), some (.inl v4), some (.inl v5), some (.inl v6)], [.inl v2], mem E mu la)) (s2 := (76, [some (.inr (.inr (some (7, v0)))), some (.inl v1), some (.inl v2), some (.inl v3), some (.inl v4), some (.inl v5), some (.inl v6)], [.inl v2], mem E mu la)) rfl rfl rfl rfl (fun hc => ?_) (fun hc => ?_)
          · have h := h.1 hc
            dsimp only
            refine Ev.steps 5 (ip' := 9) (ls' := [some (.inr (.inr (some (7, v0)))), some (.inl v1), some (.inl (v2 + (0 : Int32))), some (.inl (v3 + (1 : Int32))), some (.inl v4), some (.inl v5), some (.inl v6)]) (st' := []) (M' := mem E mu la) rfl ?_
            refine Ev.drop (ls := [some (.inr (.inr (some (7, v0)))), some (.inl v1), some (.inl (v2 + (0 : Int32))), some (.inl (v3 + (1 : Int32))), none, none, none]) ⟨Or.inr rfl, Or.inr rfl, Or.inr rfl, Or.inr rfl, Or.inl rfl, Or.inl rfl, Or.inl rfl, trivial⟩ ?_
            exact h
          · have h := h.2 hc
            dsimp only
            refine Ev.steps 6 (ip' := 9) (ls' := [some (.inr (.inr (some (7, v0)))), some (.inl v1), some (.inl (v2 + (1 : Int32))), some (.inl (v3 + (1 : Int32))), some (.inl v4), some (.inl v5), some (.inl v6)]) (st' := []) (M' := mem E mu la) rfl ?_
            refine Ev.drop (ls := [some (.inr (.inr (some (7, v0)))), some (.inl v1), some (.inl (v2 + (1 : Int32))), some (.inl (v3 + (1 : Int32))), none, none, none]) ⟨Or.inr rfl, Or.inr rfl, Or.inr rfl, Or.inr rfl, Or.inl rfl, Or.inl rfl, Or.inl rfl, trivial⟩ ?_
            exact h
      · have h := h.2 hc
        dsimp only
        refine Ev.steps 1 (ip' := 54) (ls' := [some (.inr (.inr (some (7, v0)))), some (.inl v1), some (.inl v2), some (.inl v3), some (.inl v4), some (.inl v5), some (.inl v6)]) (st' := [.inl v5]) (M' := mem E mu la) rfl ?_
        refine Ev.br (c := v5 = 0) (s1 := (60, [some (.inr (.inr (some (7, v0)))), some (.inl v1), some (.inl v2), some (.inl v3), some (.inl v4), some (.inl v5), some (.inl v6)], [], mem E mu la)) (s2 := (55, [some (.inr (.inr (some (7, v0)))), some (.inl v1), some (.inl v2), some (.inl v3), some (.inl v4), some (.inl v5), some (.inl v6)], [], mem E mu la)) rfl rfl rfl rfl (fun hc => ?_) (fun hc => ?_)
        · have h := h.1 hc
          dsimp only
          refine Ev.steps 6 (ip' := 66) (ls' := [some (.inr (.inr (some (7, v0)))), some (.inl v1), some (.inl v2), some (.inl v3), some (.inl v4), some (.inl (0 : Int32)), some (.inl v6)]) (st' := [.inl v4, .inr (.inr (some (38, v0))), .inr (.inr (some (7, v0)))]) (M' := mem E mu la) rfl ?_
          refine Ev.ci (J := mi_164) (as := [.inr (.inr (some (7, v0))), .inr (.inr (some (38, v0))), .inl v4]) (rest := []) rfl rfl rfl (Nat.le_of_ble_eq_true rfl) h (fun x25 mu26 la27 h => ?_)
          refine Ev.steps 3 (ip' := 44) (ls' := [some (.inr (.inr (some (7, v0)))), some (.inl v1), some (.inl v2), some (.inl v3), some (.inl x25), some (.inl (0 : Int32)), some (.inl (v6 + (1 : Int32)))]) (st' := []) (M' := mem E mu26 la27) rfl ?_
          exact h
        · have h := h.2 hc
          dsimp only
          refine Ev.steps 2 (ip' := 57) (ls' := [some (.inr (.inr (some (7, v0)))), some (.inl v1), some (.inl v2), some (.inl v3), some (.inl v4), some (.inl v5), some (.inl v6)]) (st' := [.inl v3, .inl v4]) (M' := mem E mu la) rfl ?_
          refine Ev.br (c := v4 ≤ v3) (s1 := (60, [some (.inr (.inr (some (7, v0)))), some (.inl v1), some (.inl v2), some (.inl v3), some (.inl v4), some (.inl v5), some (.inl v6)], [], mem E mu la)) (s2 := (58, [some (.inr (.inr (some (7, v0)))), some (.inl v1), some (.inl v2), some (.inl v3), some (.inl v4), some (.inl v5), some (.inl v6)], [], mem E mu la)) rfl rfl rfl rfl (fun hc => ?_) (fun hc => ?_)
          · have h := h.1 hc
            dsimp only
            refine Ev.steps 6 (ip' := 66) (ls' := [some (.inr (.inr (some (7, v0)))), some (.inl v1), some (.inl v2), some (.inl v3), some (.inl v4), some (.inl (0 : Int32)), some (.inl v6)]) (st' := [.inl v4, .inr (.inr (some (38, v0))), .inr (.inr (some (7, v0)))]) (M' := mem E mu la) rfl ?_
            refine Ev.ci (J := mi_164) (as := [.inr (.inr (some (7, v0))), .inr (.inr (some (38, v0))), .inl v4]) (rest := []) rfl rfl rfl (Nat.le_of_ble_eq_true rfl) h (fun x28 mu29 la30 h => ?_)
            refine Ev.steps 3 (ip' := 44) (ls' := [some (.inr (.inr (some (7, v0)))), some (.inl v1), some (.inl v2), some (.inl v3), some (.inl x28), some (.inl (0 : Int32)), some (.inl (v6 + (1 : Int32)))]) (st' := []) (M' := mem E mu29 la30) rfl ?_
            exact h
          · have h := h.2 hc
            dsimp only
            refine Ev.steps 7 (ip' := 66) (ls' := [some (.inr (.inr (some (7, v0)))), some (.inl v1), some (.inl v2), some (.inl v3), some (.inl v4), some (.inl (1 : Int32)), some (.inl v6)]) (st' := [.inl v4, .inr (.inr (some (38, v0))), .inr (.inr (some (7, v0)))]) (M' := mem E mu la) rfl ?_
            refine Ev.ci (J := mi_164) (as := [.inr (.inr (some (7, v0))), .inr (.inr (some (38, v0))), .inl v4]) (rest := []) rfl rfl rfl (Nat.le_of_ble_eq_true rfl) h (fun x31 mu32 la33 h => ?_)
            refine Ev.steps 3 (ip' := 44) (ls' := [some (.inr (.inr (some (7, v0)))), some (.inl v1), some (.inl v2), some (.inl v3), some (.inl x31), some (.inl (1 : Int32)), some (.inl (v6 + (1 : Int32)))]) (st' := []) (M' := mem E mu32 la33) rfl ?_
            exact h
set_option maxRecDepth 100000 in
/-- AnnCupsModel.runs(I)I -/
theorem vc_X7_runs {E : mEv} {d : Nat} {c : Nat} (a0 : Int32) {mu : fMu} {la : fLa} {Q : Int32 → fMu → fLa → Prop} (h : FnI E d mi_155 [.inr (.inr (some (7, c))), .inl a0] mu la (fun x1 mu2 la3 => (¬ x1 = 0 → (vp_in ((0 : Int32) + a0) 9 ∧ (FnI E d mi_129 [.inr (.inl ((mu2 38 c ((0 : Int32) + a0).toNatClampNeg).toInt64)), .inr (.inl (0 : Int64)), .inr (.inl (5 : Int64))] mu2 la3 (fun x4 mu5 la6 => (x4 = 0 → (FnI E d mi_134 [.inr (.inr (some (7, c))), .inl (0 : Int32), .inl (-9 : Int32)] mu5 la6 (fun x7 mu8 la9 => Q x7 mu8 la9))) ∧ (¬ (x4 = 0) → ((¬ (mu2 38 c ((0 : Int32) + a0).toNatClampNeg) = a0 → (Ev E (d + 1) mi_198 31 [some (.inr (.inr (some (7, c)))), none, some (.inl (mu2 38 c ((0 : Int32) + a0).toNatClampNeg)), some (.inl (1 : Int32)), some (.inl a0)] [] (mem E mu5 la6) (qI E Q))) ∧ (¬ (¬ (mu2 38 c ((0 : Int32) + a0).toNatClampNeg) = a0) → (FnI E d mi_134 [.inr (.inr (some (7, c))), .inl (0 : Int32), .inl (-9 : Int32)] mu5 la6 (fun x10 mu11 la12 => Q x10 mu11 la12))))))))) ∧ (¬ (¬ x1 = 0) → (Q (-1 : Int32) mu2 la3)))) : FnI E (d + 1) mi_198 [.inr (.inr (some (7, c))), .inl a0] mu la Q := by
  unfold FnI
  show Ev E (d + 1) mi_198 0 [some (.inr (.inr (some (7, c)))), some (.inl a0), none, none, none] [] (mem E mu la) (qI E Q)
  refine Ev.steps 2 (ip' := 2) (ls' := [some (.inr (.inr (some (7, c)))), some (.inl a0), none, none, none]) (st' := [.inl a0, .inr (.inr (some (7, c)))]) (M' := mem E mu la) rfl ?_
  refine Ev.ci (J := mi_155) (as := [.inr (.inr (some (7, c))), .inl a0]) (rest := []) rfl rfl rfl (Nat.le_of_ble_eq_true rfl) h (fun x1 mu2 la3 h => ?_)
  refine Ev.br (c := ¬ x1 = 0) (s1 := (6, [some (.inr (.inr (some (7, c)))), some (.inl a0), none, none, none], [], mem E mu2 la3)) (s2 := (4, [some (.inr (.inr (some (7, c)))), some (.inl a0), none, none, none], [], mem E mu2 la3)) rfl rfl rfl rfl (fun hc => ?_) (fun hc => ?_)
  · have h := h.1 hc
    dsimp only
    refine Ev.steps 5 (ip' := 11) (ls' := [some (.inr (.inr (some (7, c)))), some (.inl a0), none, none, none]) (st' := [.inl ((0 : Int32) + a0), .inr (.inr (some (38, c)))]) (M' := mem E mu2 la3) rfl ?_
    refine Ev.ial rfl rfl (by decide) h.1 ?_
    have h := h.2
    refine Ev.steps 5 (ip' := 17) (ls' := [some (.inr (.inr (some (7, c)))), some (.inl a0), some (.inl (mu2 38 c ((0 : Int32) + a0).toNatClampNeg)), none, none]) (st' := [.inr (.inl (5 : Int64)), .inr (.inl (0 : Int64)), .inr (.inl ((mu2 38 c ((0 : Int32) + a0).toNatClampNeg).toInt64))]) (M' := mem E mu2 la3) rfl ?_
    refine Ev.ci (J := mi_129) (as := [.inr (.inl ((mu2 38 c ((0 : Int32) + a0).toNatClampNeg).toInt64)), .inr (.inl (0 : Int64)), .inr (.inl (5 : Int64))]) (rest := []) rfl rfl rfl (Nat.le_of_ble_eq_true rfl) h (fun x4 mu5 la6 h => ?_)
    refine Ev.br (c := x4 = 0) (s1 := (22, [some (.inr (.inr (some (7, c)))), some (.inl a0), some (.inl (mu2 38 c ((0 : Int32) + a0).toNatClampNeg)), none, none], [], mem E mu5 la6)) (s2 := (19, [some (.inr (.inr (some (7, c)))), some (.inl a0), some (.inl (mu2 38 c ((0 : Int32) + a0).toNatClampNeg)), none, none], [], mem E mu5 la6)) rfl rfl rfl rfl (fun hc => ?_) (fun hc => ?_)
    · have h := h.1 hc
      dsimp only
      refine Ev.steps 3 (ip' := 25) (ls' := [some (.inr (.inr (some (7, c)))), some (.inl a0), some (.inl (mu2 38 c ((0 : Int32) + a0).toNatClampNeg)), none, none]) (st' := [.inl (-9 : Int32), .inl (0 : Int32), .inr (.inr (some (7, c)))]) (M' := mem E mu5 la6) rfl ?_
      refine Ev.ci (J := mi_134) (as := [.inr (.inr (some (7, c))), .inl (0 : Int32), .inl (-9 : Int32)]) (rest := []) rfl rfl rfl (Nat.le_of_ble_eq_true rfl) h (fun x7 mu8 la9 h => ?_)
      exact Ev.ret rfl rfl ⟨_, _, _, rfl, rfl, h⟩
    · have h := h.2 hc
      dsimp only
      refine Ev.steps 2 (ip' := 21) (ls' := [some (.inr (.inr (some (7, c)))), some (.inl a0), some (.inl (mu2 38 c ((0 : Int32) + a0).toNatClampNeg)), none, none]) (st' := [.inl a0, .inl (mu2 38 c ((0 : Int32) + a0).toNatClampNeg)]) (M' := mem E mu5 la6) rfl ?_
      refine Ev.br (c := ¬ (mu2 38 c ((0 : Int32) + a0).toNatClampNeg) = a0) (s1 := (27, [some (.inr (.inr (some (7, c)))), some (.inl a0), some (.inl (mu2 38 c ((0 : Int32) + a0).toNatClampNeg)), none, none], [], mem E mu5 la6)) (s2 := (22, [some (.inr (.inr (some (7, c)))), some (.inl a0), some (.inl (mu2 38 c ((0 : Int32) + a0).toNatClampNeg)), none, none], [], mem E mu5 la6)) rfl rfl rfl rfl (fun hc => ?_) (fun hc => ?_)
      · have h := h.1 hc
        dsimp only
        refine Ev.steps 4 (ip' := 31) (ls' := [some (.inr (.inr (some (7, c)))), some (.inl a0), some (.inl (mu2 38 c ((0 : Int32) + a0).toNatClampNeg)), some (.inl (1 : Int32)), some (.inl a0)]) (st' := []) (M' := mem E mu5 la6) rfl ?_
        refine Ev.drop (ls := [some (.inr (.inr (some (7, c)))), none, some (.inl (mu2 38 c ((0 : Int32) + a0).toNatClampNeg)), some (.inl (1 : Int32)), some (.inl a0)]) ⟨Or.inr rfl, Or.inl rfl, Or.inr rfl, Or.inr rfl, Or.inr rfl, trivial⟩ ?_
        exact h
      · have h := h.2 hc
        dsimp only
        refine Ev.steps 3 (ip' := 25) (ls' := [some (.inr (.inr (some (7, c)))), some (.inl a0), some (.inl (mu2 38 c ((0 : Int32) + a0).toNatClampNeg)), none, none]) (st' := [.inl (-9 : Int32), .inl (0 : Int32), .inr (.inr (some (7, c)))]) (M' := mem E mu5 la6) rfl ?_
        refine Ev.ci (J := mi_134) (as := [.inr (.inr (some (7, c))), .inl (0 : Int32), .inl (-9 : Int32)]) (rest := []) rfl rfl rfl (Nat.le_of_ble_eq_true rfl) h (fun x10 mu11 la12 h => ?_)
        exact Ev.ret rfl rfl ⟨_, _, _, rfl, rfl, h⟩
  · have h := h.2 hc
    dsimp only
    refine Ev.steps 1 (ip' := 5) (ls' := [some (.inr (.inr (some (7, c)))), some (.inl a0), none, none, none]) (st' := [.inl (-1 : Int32)]) (M' := mem E mu2 la3) rfl ?_
    exact Ev.ret rfl rfl ⟨_, _, _, rfl, rfl, h⟩
set_option maxRecDepth 100000 in
theorem vc_X7_runs_31 {E : mEv} {d : Nat}  (v0 : Nat) (v2 : Int32) (v3 : Int32) (v4 : Int32) {mu : fMu} {la : fLa} {Q : Int32 → fMu → fLa → Prop} (h : FnI E d mi_164 [.inr (.inr (some (7, v0))), .inr (.inr (some (38, v0))), .inl v4] mu la (fun x13 mu14 la15 => (x13 = (-9 : Int32) → (FnI E d mi_134 [.inr (.inr (some (7, v0))), .inl v3, .inl v4] mu14 la15 (fun x16 mu17 la18 => Q x16 mu17 la18))) ∧ (¬ (x13 = (-9 : Int32)) → (FnI E d mi_164 [.inr (.inr (some (7, v0))), .inr (.inr (some (38, v0))), .inl v4] mu14 la15 (fun x19 mu20 la21 => (x19 = v2 → (FnI E d mi_134 [.inr (.inr (some (7, v0))), .inl v3, .inl v4] mu20 la21 (fun x22 mu23 la24 => Q x22 mu23 la24))) ∧ (¬ (x19 = v2) → (FnI E d mi_164 [.inr (.inr (some (7, v0))), .inr (.inr (some (38, v0))), .inl v4] mu20 la21 (fun x25 mu26 la27 => Ev E (d + 1) mi_198 31 [some (.inr (.inr (some (7, v0)))), none, some (.inl v2), some (.inl (v3 + (1 : Int32))), some (.inl x25)] [] (mem E mu26 la27) (qI E Q))))))))) : Ev E (d + 1) mi_198 31 [some (.inr (.inr (some (7, v0)))), none, some (.inl v2), some (.inl v3), some (.inl v4)] [] (mem E mu la) (qI E Q) := by
  refine Ev.steps 4 (ip' := 35) (ls' := [some (.inr (.inr (some (7, v0)))), none, some (.inl v2), some (.inl v3), some (.inl v4)]) (st' := [.inl v4, .inr (.inr (some (38, v0))), .inr (.inr (some (7, v0)))]) (M' := mem E mu la) rfl ?_
  refine Ev.ci (J := mi_164) (as := [.inr (.inr (some (7, v0))), .inr (.inr (some (38, v0))), .inl v4]) (rest := []) rfl rfl rfl (Nat.le_of_ble_eq_true rfl) h (fun x13 mu14 la15 h => ?_)
  refine Ev.steps 1 (ip' := 37) (ls' := [some (.inr (.inr (some (7, v0)))), none, some (.inl v2), some (.inl v3), some (.inl v4)]) (st' := [.inl (-9 : Int32), .inl x13]) (M' := mem E mu14 la15) rfl ?_
  refine Ev.br (c := x13 = (-9 : Int32)) (s1 := (53, [some (.inr (.inr (some (7, v0)))), none, some (.inl v2), some (.inl v3), some (.inl v4)], [], mem E mu14 la15)) (s2 := (38, [some (.inr (.inr (some (7, v0)))), none, some (.inl v2), some (.inl v3), some (.inl v4)], [], mem E mu14 la15)) rfl rfl rfl rfl (fun hc => ?_) (fun hc => ?_)
  · have h := h.1 hc
    dsimp only
    refine Ev.steps 3 (ip' := 56) (ls' := [some (.inr (.inr (some (7, v0)))), none, some (.inl v2), some (.inl v3), some (.inl v4)]) (st' := [.inl v4, .inl v3, .inr (.inr (some (7, v0)))]) (M' := mem E mu14 la15) rfl ?_
    refine Ev.ci (J := mi_134) (as := [.inr (.inr (some (7, v0))), .inl v3, .inl v4]) (rest := []) rfl rfl rfl (Nat.le_of_ble_eq_true rfl) h (fun x16 mu17 la18 h => ?_)
    exact Ev.ret rfl rfl ⟨_, _, _, rfl, rfl, h⟩
  · have h := h.2 hc
    dsimp only
    refine Ev.steps 4 (ip' := 42) (ls' := [some (.inr (.inr (some (7, v0)))), none, some (.inl v2), some (.inl v3), some (.inl v4)]) (st' := [.inl v4, .inr (.inr (some (38, v0))), .inr (.inr (some (7, v0)))]) (M' := mem E mu14 la15) rfl ?_
    refine Ev.ci (J := mi_164) (as := [.inr (.inr (some (7, v0))), .inr (.inr (some (38, v0))), .inl v4]) (rest := []) rfl rfl rfl (Nat.le_of_ble_eq_true rfl) h (fun x19 mu20 la21 h => ?_)
    refine Ev.steps 1 (ip' := 44) (ls' := [some (.inr (.inr (some (7, v0)))), none, some (.inl v2), some (.inl v3), some (.inl v4)]) (st' := [.inl v2, .inl x19]) (M' := mem E mu20 la21) rfl ?_
    refine Ev.br (c := x19 = v2) (s1 := (53, [some (.inr (.inr (some (7, v0)))), none, some (.inl v2), some (.inl v3), some (.inl v4)], [], mem E mu20 la21)) (s2 := (45, [some (.inr (.inr (some (7, v0)))), none, some (.inl v2), some (.inl v3), some (.inl v4)], [], mem E mu20 la21)) rfl rfl rfl rfl (fun hc => ?_) (fun hc => ?_)
    · have h := h.1 hc
      dsimp only
      refine Ev.steps 3 (ip' := 56) (ls' := [some (.inr (.inr (some (7, v0)))), none, some (.inl v2), some (.inl v3), some (.inl v4)]) (st' := [.inl v4, .inl v3, .inr (.inr (some (7, v0)))]) (M' := mem E mu20 la21) rfl ?_
      refine Ev.ci (J := mi_134) (as := [.inr (.inr (some (7, v0))), .inl v3, .inl v4]) (rest := []) rfl rfl rfl (Nat.le_of_ble_eq_true rfl) h (fun x22 mu23 la24 h => ?_)
      exact Ev.ret rfl rfl ⟨_, _, _, rfl, rfl, h⟩
    · have h := h.2 hc
      dsimp only
      refine Ev.steps 4 (ip' := 49) (ls' := [some (.inr (.inr (some (7, v0)))), none, some (.inl v2), some (.inl v3), some (.inl v4)]) (st' := [.inl v4, .inr (.inr (some (38, v0))), .inr (.inr (some (7, v0)))]) (M' := mem E mu20 la21) rfl ?_
      refine Ev.ci (J := mi_164) (as := [.inr (.inr (some (7, v0))), .inr (.inr (some (38, v0))), .inl v4]) (rest := []) rfl rfl rfl (Nat.le_of_ble_eq_true rfl) h (fun x25 mu26 la27 h => ?_)
      refine Ev.steps 3 (ip' := 31) (ls' := [some (.inr (.inr (some (7, v0)))), none, some (.inl v2), some (.inl (v3 + (1 : Int32))), some (.inl x25)]) (st' := []) (M' := mem E mu26 la27) rfl ?_
      exact h
set_option maxRecDepth 100000 in
/-- AnnCupsModel.whose(I)I -/
theorem vc_X7_whose {E : mEv} {d : Nat} {c : Nat} (a0 : Int32) {mu : fMu} {la : fLa} {Q : Int32 → fMu → fLa → Prop} (h : FnI E d mi_155 [.inr (.inr (some (7, c))), .inl a0] mu la (fun x1 mu2 la3 => (x1 = 0 → (Q (-1 : Int32) mu2 la3)) ∧ (¬ (x1 = 0) → (FnI E d mi_170 [.inr (.inr (some (7, c))), .inl a0] mu2 la3 (fun x4 mu5 la6 => Q x4 mu5 la6))))) : FnI E (d + 1) mi_199 [.inr (.inr (some (7, c))), .inl a0] mu la Q := by
  unfold FnI
  show Ev E (d + 1) mi_199 0 [some (.inr (.inr (some (7, c)))), some (.inl a0)] [] (mem E mu la) (qI E Q)
  refine Ev.steps 2 (ip' := 2) (ls' := [some (.inr (.inr (some (7, c)))), some (.inl a0)]) (st' := [.inl a0, .inr (.inr (some (7, c)))]) (M' := mem E mu la) rfl ?_
  refine Ev.ci (J := mi_155) (as := [.inr (.inr (some (7, c))), .inl a0]) (rest := []) rfl rfl rfl (Nat.le_of_ble_eq_true rfl) h (fun x1 mu2 la3 h => ?_)
  refine Ev.br (c := x1 = 0) (s1 := (8, [some (.inr (.inr (some (7, c)))), some (.inl a0)], [], mem E mu2 la3)) (s2 := (4, [some (.inr (.inr (some (7, c)))), some (.inl a0)], [], mem E mu2 la3)) rfl rfl rfl rfl (fun hc => ?_) (fun hc => ?_)
  · have h := h.1 hc
    dsimp only
    refine Ev.steps 1 (ip' := 9) (ls' := [some (.inr (.inr (some (7, c)))), some (.inl a0)]) (st' := [.inl (-1 : Int32)]) (M' := mem E mu2 la3) rfl ?_
    exact Ev.ret rfl rfl ⟨_, _, _, rfl, rfl, h⟩
  · have h := h.2 hc
    dsimp only
    refine Ev.steps 2 (ip' := 6) (ls' := [some (.inr (.inr (some (7, c)))), some (.inl a0)]) (st' := [.inl a0, .inr (.inr (some (7, c)))]) (M' := mem E mu2 la3) rfl ?_
    refine Ev.ci (J := mi_170) (as := [.inr (.inr (some (7, c))), .inl a0]) (rest := []) rfl rfl rfl (Nat.le_of_ble_eq_true rfl) h (fun x4 mu5 la6 h => ?_)
    refine Ev.steps 1 (ip' := 9) (ls' := [some (.inr (.inr (some (7, c)))), some (.inl a0)]) (st' := [.inl x4]) (M' := mem E mu5 la6) rfl ?_
    exact Ev.ret rfl rfl ⟨_, _, _, rfl, rfl, h⟩
set_option maxRecDepth 100000 in
/-- AnnCupsModel.alike()I -/
theorem vc_X7_alike {E : mEv} {d : Nat} {c : Nat} {mu : fMu} {la : fLa} {Q : Int32 → fMu → fLa → Prop} (h : Ev E (d + 1) mi_200 6 [some (.inr (.inr (some (7, c)))), some (.inl (0 : Int32)), some (.inl (-9 : Int32)), some (.inl (0 : Int32)), none, none] [] (mem E mu la) (qI E Q)) : FnI E (d + 1) mi_200 [.inr (.inr (some (7, c)))] mu la Q := by
  unfold FnI
  show Ev E (d + 1) mi_200 0 [some (.inr (.inr (some (7, c)))), none, none, none, none, none] [] (mem E mu la) (qI E Q)
  refine Ev.steps 6 (ip' := 6) (ls' := [some (.inr (.inr (some (7, c)))), some (.inl (0 : Int32)), some (.inl (-9 : Int32)), some (.inl (0 : Int32)), none, none]) (st' := []) (M' := mem E mu la) rfl ?_
  exact h
set_option maxRecDepth 100000 in
theorem vc_X7_alike_6 {E : mEv} {d : Nat}  (v0 : Nat) (v1 : Int32) (v2 : Int32) (v3 : Int32) {mu : fMu} {la : fLa} {Q : Int32 → fMu → fLa → Prop} (h : ((mu 7 v0 4) ≤ v3 → (FnI E d mi_134 [.inr (.inr (some (7, v0))), .inl v1, .inl v2] mu la (fun x1 mu2 la3 => Q x1 mu2 la3))) ∧ (¬ ((mu 7 v0 4) ≤ v3) → (Ev E (d + 1) mi_200 14 [some (.inr (.inr (some (7, v0)))), some (.inl v1), some (.inl v2), some (.inl v3), some (.inl (v3 + (1 : Int32))), none] [] (mem E mu la) (qI E Q)))) : Ev E (d + 1) mi_200 6 [some (.inr (.inr (some (7, v0)))), some (.inl v1), some (.inl v2), some (.inl v3), none, none] [] (mem E mu la) (qI E Q) := by
  refine Ev.steps 3 (ip' := 9) (ls' := [some (.inr (.inr (some (7, v0)))), some (.inl v1), some (.inl v2), some (.inl v3), none, none]) (st' := [.inl (mu 7 v0 4), .inl v3]) (M' := mem E mu la) rfl ?_
  refine Ev.br (c := (mu 7 v0 4) ≤ v3) (s1 := (68, [some (.inr (.inr (some (7, v0)))), some (.inl v1), some (.inl v2), some (.inl v3), none, none], [], mem E mu la)) (s2 := (10, [some (.inr (.inr (some (7, v0)))), some (.inl v1), some (.inl v2), some (.inl v3), none, none], [], mem E mu la)) rfl rfl rfl rfl (fun hc => ?_) (fun hc => ?_)
  · have h := h.1 hc
    dsimp only
    refine Ev.steps 3 (ip' := 71) (ls' := [some (.inr (.inr (some (7, v0)))), some (.inl v1), some (.inl v2), some (.inl v3), none, none]) (st' := [.inl v2, .inl v1, .inr (.inr (some (7, v0)))]) (M' := mem E mu la) rfl ?_
    refine Ev.ci (J := mi_134) (as := [.inr (.inr (some (7, v0))), .inl v1, .inl v2]) (rest := []) rfl rfl rfl (Nat.le_of_ble_eq_true rfl) h (fun x1 mu2 la3 h => ?_)
    exact Ev.ret rfl rfl ⟨_, _, _, rfl, rfl, h⟩
  · have h := h.2 hc
    dsimp only
    refine Ev.steps 4 (ip' := 14) (ls' := [some (.inr (.inr (some (7, v0)))), some (.inl v1), some (.inl v2), some (.inl v3), some (.inl (v3 + (1 : Int32))), none]) (st' := []) (M' := mem E mu la) rfl ?_
    exact h
set_option maxRecDepth 100000 in
theorem vc_X7_alike_14 {E : mEv} {d : Nat}  (v0 : Nat) (v1 : Int32) (v2 : Int32) (v3 : Int32) (v4 : Int32) {mu : fMu} {la : fLa} {Q : Int32 → fMu → fLa → Prop} (h : ((mu 7 v0 4) ≤ v4 → (Ev E (d + 1) mi_200 6 [some (.inr (.inr (some (7, v0)))), some (.inl v1), some (.inl v2), some (.inl (v3 + (1 : Int32))), none, none] [] (mem E mu la) (qI E Q))) ∧ (¬ ((mu 7 v0 4) ≤ v4) → (FnI E d mi_156 [.inr (.inr (some (7, v0))), .inl v3] mu la (fun x4 mu5 la6 => (x4 = 0 → (((0 : Int32) = 0 → (((0 : Int32) = 0 → (Ev E (d + 1) mi_200 14 [some (.inr (.inr (some (7, v0)))), some (.inl (v1 + (0 : Int32))), some (.inl v2), some (.inl v3), some (.inl (v4 + (1 : Int32))), none] [] (mem E mu5 la6) (qI E Q))) ∧ (¬ ((0 : Int32) = 0) → ((¬ v2 = (-9 : Int32) → (Ev E (d + 1) mi_200 14 [some (.inr (.inr (some (7, v0)))), some (.inl (v1 + (0 : Int32))), some (.inl v2), some (.inl v3), some (.inl (v4 + (1 : Int32))), none] [] (mem E mu5 la6) (qI E Q))) ∧ (¬ (¬ v2 = (-9 : Int32)) → (Ev E (d + 1) mi_200 14 [some (.inr (.inr (some (7, v0)))), some (.inl (v1 + (0 : Int32))), some (.inl (((6 : Int32) * v3) + v4)), some (.inl v3), some (.inl (v4 + (1 : Int32))), none] [] (mem E mu5 la6) (qI E Q))))))) ∧ (¬ ((0 : Int32) = 0) → (((0 : Int32) = 0 → (Ev E (d + 1) mi_200 14 [some (.inr (.inr (some (7, v0)))), some (.inl (v1 + (1 : Int32))), some (.inl v2), some (.inl v3), some (.inl (v4 + (1 : Int32))), none] [] (mem E mu5 la6) (qI E Q))) ∧ (¬ ((0 : Int32) = 0) → ((¬ v2 = (-9 : Int32) → (Ev E (d + 1) mi_200 14 [some (.inr (.inr (some (7, v0)))), some (.inl (v1 + (1 : Int32))), some (.inl v2), some (.inl v3), some (.inl (v4 + (1 : Int32))), none] [] (mem E mu5 la6) (qI E Q))) ∧ (¬ (¬ v2 = (-9 : Int32)) → (Ev E (d + 1) mi_200 14 [some (.inr (.inr (some (7, v0)))), some (.inl (v1 + (1 : Int32))), some (.inl (((6 : Int32) * v3) + v4)), some (.inl v3), some (.inl (v4 + (1 : Int32))), none] [] (mem E mu5 la6) (qI E Q))))))))) ∧ (¬ (x4 = 0) → (FnI E d mi_156 [.inr (.inr (some (7, v0))), .inl v4] mu5 la6 (fun x7 mu8 la9 => (x7 = 0 → (((0 : Int32) = 0 → (((0 : Int32) = 0 → (Ev E (d + 1) mi_200 14 [some (.inr (.inr (some (7, v0)))), some (.inl (v1 + (0 : Int32))), some (.inl v2), some (.inl v3), some (.inl (v4 + (1 : Int32))), none] [] (mem E mu8 la9) (qI E Q))) ∧ (¬ ((0 : Int32) = 0) → ((¬ v2 = (-9 : Int32) → (Ev E (d + 1) mi_200 14 [some (.inr (.inr (some (7, v0)))), some (.inl (v1 + (0 : Int32))), some (.inl v2), some (.inl v3), some (.inl (v4 + (1 : Int32))), none] [] (mem E mu8 la9) (qI E Q))) ∧ (¬ (¬ v2 = (-9 : Int32)) → (Ev E (d + 1) mi_200 14 [some (.inr (.inr (some (7, v0)))), some (.inl (v1 + (0 : Int32))), some (.inl (((6 : Int32) * v3) + v4)), some (.inl v3), some (.inl (v4 + (1 : Int32))), none] [] (mem E mu8 la9) (qI E Q))))))) ∧ (¬ ((0 : Int32) = 0) → (((0 : Int32) = 0 → (Ev E (d + 1) mi_200 14 [some (.inr (.inr (some (7, v0)))), some (.inl (v1 + (1 : Int32))), some (.inl v2), some (.inl v3), some (.inl (v4 + (1 : Int32))), none] [] (mem E mu8 la9) (qI E Q))) ∧ (¬ ((0 : Int32) = 0) → ((¬ v2 = (-9 : Int32) → (Ev E (d + 1) mi_200 14 [some (.inr (.inr (some (7, v0)))), some (.inl (v1 + (1 : Int32))), some (.inl v2), some (.inl v3), some (.inl (v4 + (1 : Int32))), none] [] (mem E mu8 la9) (qI E Q))) ∧ (¬ (¬ v2 = (-9 : Int32)) → (Ev E (d + 1) mi_200 14 [some (.inr (.inr (some (7, v0)))), some (.inl (v1 + (1 : Int32))), some (.inl (((6 : Int32) * v3) + v4)), some (.inl v3), some (.inl (v4 + (1 : Int32))), none] [] (mem E mu8 la9) (qI E Q))))))))) ∧ (¬ (x7 = 0) → (vp_in v3 6 ∧ (vp_in v4 6 ∧ (FnI E d mi_159 [.inl ((mu8 36 v0 v3.toNatClampNeg) - (mu8 36 v0 v4.toNatClampNeg))] mu8 la9 (fun x10 mu11 la12 => ((mu11 7 v0 5) < x10 → (((0 : Int32) = 0 → (((0 : Int32) = 0 → (Ev E (d + 1) mi_200 14 [some (.inr (.inr (some (7, v0)))), some (.inl (v1 + (0 : Int32))), some (.inl v2), some (.inl v3), some (.inl (v4 + (1 : Int32))), none] [] (mem E mu11 la12) (qI E Q))) ∧ (¬ ((0 : Int32) = 0) → ((¬ v2 = (-9 : Int32) → (Ev E (d + 1) mi_200 14 [some (.inr (.inr (some (7, v0)))), some (.inl (v1 + (0 : Int32))), some (.inl v2), some (.inl v3), some (.inl (v4 + (1 : Int32))), none] [] (mem E mu11 la12) (qI E Q))) ∧ (¬ (¬ v2 = (-9 : Int32)) → (Ev E (d + 1) mi_200 14 [some (.inr (.inr (some (7, v0)))), some (.inl (v1 + (0 : Int32))), some (.inl (((6 : Int32) * v3) + v4)), some (.inl v3), some (.inl (v4 + (1 : Int32))), none] [] (mem E mu11 la12) (qI E Q))))))) ∧ (¬ ((0 : Int32) = 0) → (((0 : Int32) = 0 → (Ev E (d + 1) mi_200 14 [some (.inr (.inr (some (7, v0)))), some (.inl (v1 + (1 : Int32))), some (.inl v2), some (.inl v3), some (.inl (v4 + (1 : Int32))), none] [] (mem E mu11 la12) (qI E Q))) ∧ (¬ ((0 : Int32) = 0) → ((¬ v2 = (-9 : Int32) → (Ev E (d + 1) mi_200 14 [some (.inr (.inr (some (7, v0)))), some (.inl (v1 + (1 : Int32))), some (.inl v2), some (.inl v3), some (.inl (v4 + (1 : Int32))), none] [] (mem E mu11 la12) (qI E Q))) ∧ (¬ (¬ v2 = (-9 : Int32)) → (Ev E (d + 1) mi_200 14 [some (.inr (.inr (some (7, v0)))), some (.inl (v1 + (1 : Int32))), some (.inl (((6 : Int32) * v3) + v4)), some (.inl v3), some (.inl (v4 + (1 : Int32))), none] [] (mem E mu11 la12) (qI E Q))))))))) ∧ (¬ ((mu11 7 v0 5) < x10) → (((1 : Int32) = 0 → (((1 : Int32) = 0 → (Ev E (d + 1) mi_200 14 [some (.inr (.inr (some (7, v0)))), some (.inl (v1 + (0 : Int32))), some (.inl v2), some (.inl v3), some (.inl (v4 + (1 : Int32))), none] [] (mem E mu11 la12) (qI E Q))) ∧ (¬ ((1 : Int32) = 0) → ((¬ v2 = (-9 : Int32) → (Ev E (d + 1) mi_200 14 [some (.inr (.inr (some (7, v0)))), some (.inl (v1 + (0 : Int32))), some (.inl v2), some (.inl v3), some (.inl (v4 + (1 : Int32))), none] [] (mem E mu11 la12) (qI E Q))) ∧ (¬ (¬ v2 = (-9 : Int32)) → (Ev E (d + 1) mi_200 14 [some (.inr (.inr (some (7, v0)))), some (.inl (v1 + (0 : Int32))), some (.inl (((6 : Int32) * v3) + v4)), some (.inl v3), some (.inl (v4 + (1 : Int32))), none] [] (mem E mu11 la12) (qI E Q))))))) ∧ (¬ ((1 : Int32) = 0) → (((1 : Int32) = 0 → (Ev E (d + 1) mi_200 14 [some (.inr (.inr (some (7, v0)))), some (.inl (v1 + (1 : Int32))), some (.inl v2), some (.inl v3), some (.inl (v4 + (1 : Int32))), none] [] (mem E mu11 la12) (qI E Q))) ∧ (¬ ((1 : Int32) = 0) → ((¬ v2 = (-9 : Int32) → (Ev E (d + 1) mi_200 14 [some (.inr (.inr (some (7, v0)))), some (.inl (v1 + (1 : Int32))), some (.inl v2), some (.inl v3), some (.inl (v4 + (1 : Int32))), none] [] (mem E mu11 la12) (qI E Q))) ∧ (¬ (¬ v2 = (-9 : Int32)) → (Ev E (d + 1) mi_200 14 [some (.inr (.inr (some (7, v0)))), some (.inl (v1 + (1 : Int32))), some (.inl (((6 : Int32) * v3) + v4)), some (.inl v3), some (.inl (v4 + (1 : Int32))), none] [] (mem E mu11 la12) (qI E Q))))))))))))))))))))) : Ev E (d + 1) mi_200 14 [some (.inr (.inr (some (7, v0)))), some (.inl v1), some (.inl v2), some (.inl v3), some (.inl v4), none] [] (mem E mu la) (qI E Q) := by
  refine Ev.steps 3 (ip' := 17) (ls' := [some (.inr (.inr (some (7, v0)))), some (.inl v1), some (.inl v2), some (.inl v3), some (.inl v4), none]) (st' := [.inl (mu 7 v0 4), .inl v4]) (M' := mem E mu la) rfl ?_
  refine Ev.br (c := (mu 7 v0 4) ≤ v4) (s1 := (66, [some (.inr (.inr (some (7, v0)))), some (.inl v1), some (.inl v2), some (.inl v3), some (.inl v4), none], [], mem E mu la)) (s2 := (18, [some (.inr (.inr (some (7, v0)))), some (.inl v1), some (.inl v2), some (.inl v3), some (.inl v4), none], [], mem E mu la)) rfl rfl rfl rfl (fun hc => ?_) (fun hc => ?_)
  · have h := h.1 hc
    dsimp only
    refine Ev.steps 2 (ip' := 6) (ls' := [some (.inr (.inr (some (7, v0)))), some (.inl v1), some (.inl v2), some (.inl (v3 + (1 : Int32))), some (.inl v4), none]) (st' := []) (M' := mem E mu la) rfl ?_
    refine Ev.drop (ls := [some (.inr (.inr (some (7, v0)))), some (.inl v1), some (.inl v2), some (.inl (v3 + (1 : Int32))), none, none]) ⟨Or.inr rfl, Or.inr rfl, Or.inr rfl, Or.inr rfl, Or.inl rfl, Or.inr rfl, trivial⟩ ?_
    exact h
  · have h := h.2 hc
    dsimp only
    refine Ev.steps 2 (ip' := 20) (ls' := [some (.inr (.inr (some (7, v0)))), some (.inl v1), some (.inl v2), some (.inl v3), some (.inl v4), none]) (st' := [.inl v3, .inr (.inr (some (7, v0)))]) (M' := mem E mu la) rfl ?_
    refine Ev.ci (J := mi_156) (as := [.inr (.inr (some (7, v0))), .inl v3]) (rest := []) rfl rfl rfl (Nat.le_of_ble_eq_true rfl) h (fun x4 mu5 la6 h => ?_)
    refine Ev.br (c := x4 = 0) (s1 := (41, [some (.inr (.inr (some (7, v0)))), some (.inl v1), some (.inl v2), some (.inl v3), some (.inl v4), none], [], mem E mu5 la6)) (s2 := (22, [some (.inr (.inr (some (7, v0)))), some (.inl v1), some (.inl v2), some (.inl v3), some (.inl v4), none], [], mem E mu5 la6)) rfl rfl rfl rfl (fun hc => ?_) (fun hc => ?_)
    · have h := h.1 hc
      dsimp only
      refine Ev.steps 4 (ip' := 45) (ls' := [some (.inr (.inr (some (7, v0)))), some (.inl v1), some (.inl v2), some (.inl v3), some (.inl v4), some (.inl (0 : Int32))]) (st' := [.inl (0 : Int32), .inl v1]) (M' := mem E mu5 la6) rfl ?_
      refine Ev.br (c := (0 : Int32) = 0) (s1 := (48, [some (.inr (.inr (some (7, v0)))), some (.inl v1), some (.inl v2), some (.inl v3), some (.inl v4), some (.inl (0 : Int32))], [.inl v1], mem E mu5 la6)) (s2 := (46, [some (.inr (.inr (some (7, v0)))), some (.inl v1), some (.inl v2), some (.inl v3), some (.inl v4), some (.inl (0 : Int32))], [.inl v1], mem E mu5 la6)) rfl rfl rfl rfl (fun hc => ?_) (fun hc => ?_)
      · have h := h.1 hc
        dsimp only
        refine Ev.steps 4 (ip' := 52) (ls' := [some (.inr (.inr (some (7, v0)))), some (.inl (v1 + (0 : Int32))), some (.inl v2), some (.inl v3), some (.inl v4), some (.inl (0 : Int32))]) (st' := [.inl (0 : Int32)]) (M' := mem E mu5 la6) rfl ?_
        refine Ev.br (c := (0 : Int32) = 0) (s1 := (62, [some (.inr (.inr (some (7, v0)))), some (.inl (v1 + (0 : Int32))), some (.inl v2), some (.inl v3), some (.inl v4), some (.inl (0 : Int32))], [], mem E mu5 la6)) (s2 := (53, [some (.inr (.inr (some (7, v0)))), some (.inl (v1 + (0 : Int32))), some (.inl v2), some (.inl v3), some (.inl v4), some (.inl (0 : Int32))], [], mem E mu5 la6)) rfl rfl rfl rfl (fun hc => ?_) (fun hc => ?_)
        · have h := h.1 hc
          dsimp only
          refine Ev.steps 4 (ip' := 14) (ls' := [some (.inr (.inr (some (7, v0)))), some (.inl (v1 + (0 : Int32))), some (.inl v2), some (.inl v3), some (.inl (v4 + (1 : Int32))), some (.inl (0 : Int32))]) (st' := []) (M' := mem E mu5 la6) rfl ?_
          refine Ev.drop (ls := [some (.inr (.inr (some (7, v0)))), some (.inl (v1 + (0 : Int32))), some (.inl v2), some (.inl v3), some (.inl (v4 + (1 : Int32))), none]) ⟨Or.inr rfl, Or.inr rfl, Or.inr rfl, Or.inr rfl, Or.inr rfl, Or.inl rfl, trivial⟩ ?_
          exact h
        · have h := h.2 hc
          dsimp only
          refine Ev.steps 2 (ip' := 55) (ls' := [some (.inr (.inr (some (7, v0)))), some (.inl (v1 + (0 : Int32))), some (.inl v2), some (.inl v3), some (.inl v4), some (.inl (0 : Int32))]) (st' := [.inl (-9 : Int32), .inl v2]) (M' := mem E mu5 la6) rfl ?_
          refine Ev.br (c := ¬ v2 = (-9 : Int32)) (s1 := (62, [some (.inr (.inr (some (7, v0)))), some (.inl (v1 + (0 : Int32))), some (.inl v2), some (.inl v3), some (.inl v4), some (.inl (0 : Int32))], [], mem E mu5 la6)) (s2 := (56, [some (.inr (.inr (some (7, v0)))), some (.inl (v1 + (0 : Int32))), some (.inl v2), some (.inl v3), some (.inl v4), some (.inl (0 : Int32))], [], mem E mu5 la6)) rfl rfl rfl rfl (fun hc => ?_) (fun hc => ?_)
          · have h := h.1 hc
            dsimp only
            refine Ev.steps 4 (ip' := 14) (ls' := [some (.inr (.inr (some (7, v0)))), some (.inl (v1 + (0 : Int32))), some (.inl v2), some (.inl v3), some (.inl (v4 + (1 : Int32))), some (.inl (0 : Int32))]) (st' := []) (M' := mem E mu5 la6) rfl ?_
            refine Ev.drop (ls := [some (.inr (.inr (some (7, v0)))), some (.inl (v1 + (0 : Int32))), some (.inl v2), some (.inl v3), some (.inl (v4 + (1 : Int32))), none]) ⟨Or.inr rfl, Or.inr rfl, Or.inr rfl, Or.inr rfl, Or.inr rfl, Or.inl rfl, trivial⟩ ?_
            exact h
          · have h := h.2 hc
            dsimp only
            refine Ev.steps 9 (ip' := 14) (ls' := [some (.inr (.inr (some (7, v0)))), some (.inl (v1 + (0 : Int32))), some (.inl (((6 : Int32) * v3) + v4)), some (.inl v3), some (.inl (v4 + (1 : Int32))), some (.inl (0 : Int32))]) (st' := []) (M' := mem E mu5 la6) rfl ?_
            refine Ev.drop (ls := [some (.inr (.inr (some (7, v0)))), some (.inl (v1 + (0 : Int32))), some (.inl (((6 : Int32) * v3) + v4)), some (.inl v3), some (.inl (v4 + (1 : Int32))), none]) ⟨Or.inr rfl, Or.inr rfl, Or.inr rfl, Or.inr rfl, Or.inr rfl, Or.inl rfl, trivial⟩ ?_
            exact h
      · have h := h.2 hc
        dsimp only
        refine Ev.steps 5 (ip' := 52) (ls' := [some (.inr (.inr (some (7, v0)))), some (.inl (v1 + (1 : Int32))), some (.inl v2), some (.inl v3), some (.inl v4), some (.inl (0 : Int32))]) (st' := [.inl (0 : Int32)]) (M' := mem E mu5 la6) rfl ?_
        refine Ev.br (c := (0 : Int32) = 0) (s1 := (62, [some (.inr (.inr (some (7, v0)))), some (.inl (v1 + (1 : Int32))), some (.inl v2), some (.inl v3), some (.inl v4), some (.inl (0 : Int32))], [], mem E mu5 la6)) (s2 := (53, [some (.inr (.inr (some (7, v0)))), some (.inl (v1 + (1 : Int32))), some (.inl v2), some (.inl v3), some (.inl v4), some (.inl (0 : Int32))], [], mem E mu5 la6)) rfl rfl rfl rfl (fun hc => ?_) (fun hc => ?_)
        · have h := h.1 hc
          dsimp only
          refine Ev.steps 4 (ip' := 14) (ls' := [some (.inr (.inr (some (7, v0)))), some (.inl (v1 + (1 : Int32))), some (.inl v2), some (.inl v3), some (.inl (v4 + (1 : Int32))), some (.inl (0 : Int32))]) (st' := []) (M' := mem E mu5 la6) rfl ?_
          refine Ev.drop (ls := [some (.inr (.inr (some (7, v0)))), some (.inl (v1 + (1 : Int32))), some (.inl v2), some (.inl v3), some (.inl (v4 + (1 : Int32))), none]) ⟨Or.inr rfl, Or.inr rfl, Or.inr rfl, Or.inr rfl, Or.inr rfl, Or.inl rfl, trivial⟩ ?_
          exact h
        · have h := h.2 hc
          dsimp only
          refine Ev.steps 2 (ip' := 55) (ls' := [some (.inr (.inr (some (7, v0)))), some (.inl (v1 + (1 : Int32))), some (.inl v2), some (.inl v3), some (.inl v4), some (.inl (0 : Int32))]) (st' := [.inl (-9 : Int32), .inl v2]) (M' := mem E mu5 la6) rfl ?_
          refine Ev.br (c := ¬ v2 = (-9 : Int32)) (s1 := (62, [some (.inr (.inr (some (7, v0)))), some (.inl (v1 + (1 : Int32))), some (.inl v2), some (.inl v3), some (.inl v4), some (.inl (0 : Int32))], [], mem E mu5 la6)) (s2 := (56, [some (.inr (.inr (some (7, v0)))), some (.inl (v1 + (1 : Int32))), some (.inl v2), some (.inl v3), some (.inl v4), some (.inl (0 : Int32))], [], mem E mu5 la6)) rfl rfl rfl rfl (fun hc => ?_) (fun hc => ?_)
          · have h := h.1 hc
            dsimp only
            refine Ev.steps 4 (ip' := 14) (ls' := [some (.inr (.inr (some (7, v0)))), some (.inl (v1 + (1 : Int32))), some (.inl v2), some (.inl v3), some (.inl (v4 + (1 : Int32))), some (.inl (0 : Int32))]) (st' := []) (M' := mem E mu5 la6) rfl ?_
            refine Ev.drop (ls := [some (.inr (.inr (some (7, v0)))), some (.inl (v1 + (1 : Int32))), some (.inl v2), some (.inl v3), some (.inl (v4 + (1 : Int32))), none]) ⟨Or.inr rfl, Or.inr rfl, Or.inr rfl, Or.inr rfl, Or.inr rfl, Or.inl rfl, trivial⟩ ?_
            exact h
          · have h := h.2 hc
            dsimp only
            refine Ev.steps 9 (ip' := 14) (ls' := [some (.inr (.inr (some (7, v0)))), some (.inl (v1 + (1 : Int32))), some (.inl (((6 : Int32) * v3) + v4)), some (.inl v3), some (.inl (v4 + (1 : Int32))), some (.inl (0 : Int32))]) (st' := []) (M' := mem E mu5 la6) rfl ?_
            refine Ev.drop (ls := [some (.inr (.inr (some (7, v0)))), some (.inl (v1 + (1 : Int32))), some (.inl (((6 : Int32) * v3) + v4)), some (.inl v3), some (.inl (v4 + (1 : Int32))), none]) ⟨Or.inr rfl, Or.inr rfl, Or.inr rfl, Or.inr rfl, Or.inr rfl, Or.inl rfl, trivial⟩ ?_
            exact h
    · have h := h.2 hc
      dsimp only
      refine Ev.steps 2 (ip' := 24) (ls' := [some (.inr (.inr (some (7, v0)))), some (.inl v1), some (.inl v2), some (.inl v3), some (.inl v4), none]) (st' := [.inl v4, .inr (.inr (some (7, v0)))]) (M' := mem E mu5 la6) rfl ?_
      refine Ev.ci (J := mi_156) (as := [.inr (.inr (some (7, v0))), .inl v4]) (rest := []) rfl rfl rfl (Nat.le_of_ble_eq_true rfl) h (fun x7 mu8 la9 h => ?_)
      refine Ev.br (c := x7 = 0) (s1 := (41, [some (.inr (.inr (some (7, v0)))), some (.inl v1), some (.inl v2), some (.inl v3), some (.inl v4), none], [], mem E mu8 la9)) (s2 := (26, [some (.inr (.inr (some (7, v0)))), some (.inl v1), some (.inl v2), some (.inl v3), some (.inl v4), none], [], mem E mu8 la9)) rfl rfl rfl rfl (fun hc => ?_) (fun hc => ?_)
      · have h := h.1 hc
        dsimp only
        refine Ev.steps 4 (ip' := 45) (ls' := [some (.inr (.inr (some (7, v0)))), some (.inl v1), some (.inl v2), some (.inl v3), some (.inl v4), some (.inl (0 : Int32))]) (st' := [.inl (0 : Int32), .inl v1]) (M' := mem E mu8 la9) rfl ?_
        refine Ev.br (c := (0 : Int32) = 0) (s1 := (48, [some (.inr (.inr (some (7, v0)))), some (.inl v1), some (.inl v2), some (.inl v3), some (.inl v4), some (.inl (0 : Int32))], [.inl v1], mem E mu8 la9)) (s2 := (46, [some (.inr (.inr (some (7, v0)))), some (.inl v1), some (.inl v2), some (.inl v3), some (.inl v4), some (.inl (0 : Int32))], [.inl v1], mem E mu8 la9)) rfl rfl rfl rfl (fun hc => ?_) (fun hc => ?_)
        · have h := h.1 hc
          dsimp only
          refine Ev.steps 4 (ip' := 52) (ls' := [some (.inr (.inr (some (7, v0)))), some (.inl (v1 + (0 : Int32))), some (.inl v2), some (.inl v3), some (.inl v4), some (.inl (0 : Int32))]) (st' := [.inl (0 : Int32)]) (M' := mem E mu8 la9) rfl ?_
          refine Ev.br (c := (0 : Int32) = 0) (s1 := (62, [some (.inr (.inr (some (7, v0)))), some (.inl (v1 + (0 : Int32))), some (.inl v2), some (.inl v3), some (.inl v4), some (.inl (0 : Int32))], [], mem E mu8 la9)) (s2 := (53, [some (.inr (.inr (some (7, v0)))), some (.inl (v1 + (0 : Int32))), some (.inl v2), some (.inl v3), some (.inl v4), some (.inl (0 : Int32))], [], mem E mu8 la9)) rfl rfl rfl rfl (fun hc => ?_) (fun hc => ?_)
          · have h := h.1 hc
            dsimp only
            refine Ev.steps 4 (ip' := 14) (ls' := [some (.inr (.inr (some (7, v0)))), some (.inl (v1 + (0 : Int32))), some (.inl v2), some (.inl v3), some (.inl (v4 + (1 : Int32))), some (.inl (0 : Int32))]) (st' := []) (M' := mem E mu8 la9) rfl ?_
            refine Ev.drop (ls := [some (.inr (.inr (some (7, v0)))), some (.inl (v1 + (0 : Int32))), some (.inl v2), some (.inl v3), some (.inl (v4 + (1 : Int32))), none]) ⟨Or.inr rfl, Or.inr rfl, Or.inr rfl, Or.inr rfl, Or.inr rfl, Or.inl rfl, trivial⟩ ?_
            exact h
          · have h := h.2 hc
            dsimp only
            refine Ev.steps 2 (ip' := 55) (ls' := [some (.inr (.inr (some (7, v0)))), some (.inl (v1 + (0 : Int32))), some (.inl v2), some (.inl v3), some (.inl v4), some (.inl (0 : Int32))]) (st' := [.inl (-9 : Int32), .inl v2]) (M' := mem E mu8 la9) rfl ?_
            refine Ev.br (c := ¬ v2 = (-9 : Int32)) (s1 := (62, [some (.inr (.inr (some (7, v0)))), some (.inl (v1 + (0 : Int32))), some (.inl v2), some (.inl v3), some (.inl v4), some (.inl (0 : Int32))], [], mem E mu8 la9)) (s2 := (56, [some (.inr (.inr (some (7, v0)))), some (.inl (v1 + (0 : Int32))), some (.inl v2), some (.inl v3), some (.inl v4), some (.inl (0 : Int32))], [], mem E mu8 la9)) rfl rfl rfl rfl (fun hc => ?_) (fun hc => ?_)
            · have h := h.1 hc
              dsimp only
              refine Ev.steps 4 (ip' := 14) (ls' := [some (.inr (.inr (some (7, v0)))), some (.inl (v1 + (0 : Int32))), some (.inl v2), some (.inl v3), some (.inl (v4 + (1 : Int32))), some (.inl (0 : Int32))]) (st' := []) (M' := mem E mu8 la9) rfl ?_
              refine Ev.drop (ls := [some (.inr (.inr (some (7, v0)))), some (.inl (v1 + (0 : Int32))), some (.inl v2), some (.inl v3), some (.inl (v4 + (1 : Int32))), none]) ⟨Or.inr rfl, Or.inr rfl, Or.inr rfl, Or.inr rfl, Or.inr rfl, Or.inl rfl, trivial⟩ ?_
              exact h
            · have h := h.2 hc
              dsimp only
              refine Ev.steps 9 (ip' := 14) (ls' := [some (.inr (.inr (some (7, v0)))), some (.inl (v1 + (0 : Int32))), some (.inl (((6 : Int32) * v3) + v4)), some (.inl v3), some (.inl (v4 + (1 : Int32))), some (.inl (0 : Int32))]) (st' := []) (M' := mem E mu8 la9) rfl ?_
              refine Ev.drop (ls := [some (.inr (.inr (some (7, v0)))), some (.inl (v1 + (0 : Int32))), some (.inl (((6 : Int32) * v3) + v4)), some (.inl v3), some (.inl (v4 + (1 : Int32))), none]) ⟨Or.inr rfl, Or.inr rfl, Or.inr rfl, Or.inr rfl, Or.inr rfl, Or.inl rfl, trivial⟩ ?_
              exact h
        · have h := h.2 hc
          dsimp only
          refine Ev.steps 5 (ip' := 52) (ls' := [some (.inr (.inr (some (7, v0)))), some (.inl (v1 + (1 : Int32))), some (.inl v2), some (.inl v3), some (.inl v4), some (.inl (0 : Int32))]) (st' := [.inl (0 : Int32)]) (M' := mem E mu8 la9) rfl ?_
          refine Ev.br (c := (0 : Int32) = 0) (s1 := (62, [some (.inr (.inr (some (7, v0)))), some (.inl (v1 + (1 : Int32))), some (.inl v2), some (.inl v3), some (.inl v4), some (.inl (0 : Int32))], [], mem E mu8 la9)) (s2 := (53, [some (.inr (.inr (some (7, v0)))), some (.inl (v1 + (1 : Int32))), some (.inl v2), some (.inl v3), some (.inl v4), some (.inl (0 : Int32))], [], mem E mu8 la9)) rfl rfl rfl rfl (fun hc => ?_) (fun hc => ?_)
          · have h := h.1 hc
            dsimp only
            refine Ev.steps 4 (ip' := 14) (ls' := [some (.inr (.inr (some (7, v0)))), some (.inl (v1 + (1 : Int32))), some (.inl v2), some (.inl v3), some (.inl (v4 + (1 : Int32))), some (.inl (0 : Int32))]) (st' := []) (M' := mem E mu8 la9) rfl ?_
            refine Ev.drop (ls := [some (.inr (.inr (some (7, v0)))), some (.inl (v1 + (1 : Int32))), some (.inl v2), some (.inl v3), some (.inl (v4 + (1 : Int32))), none]) ⟨Or.inr rfl, Or.inr rfl, Or.inr rfl, Or.inr rfl, Or.inr rfl, Or.inl rfl, trivial⟩ ?_
            exact h
          · have h := h.2 hc
            dsimp only
            refine Ev.steps 2 (ip' := 55) (ls' := [some (.inr (.inr (some (7, v0)))), some (.inl (v1 + (1 : Int32))), some (.inl v2), some (.inl v3), some (.inl v4), some (.inl (0 : Int32))]) (st' := [.inl (-9 : Int32), .inl v2]) (M' := mem E mu8 la9) rfl ?_
            refine Ev.br (c := ¬ v2 = (-9 : Int32)) (s1 := (62, [some (.inr (.inr (some (7, v0)))), some (.inl (v1 + (1 : Int32))), some (.inl v2), some (.inl v3), some (.inl v4), some (.inl (0 : Int32))], [], mem E mu8 la9)) (s2 := (56, [some (.inr (.inr (some (7, v0)))), some (.inl (v1 + (1 : Int32))), some (.inl v2), some (.inl v3), some (.inl v4), some (.inl (0 : Int32))], [], mem E mu8 la9)) rfl rfl rfl rfl (fun hc => ?_) (fun hc => ?_)
            · have h := h.1 hc
              dsimp only
              refine Ev.steps 4 (ip' := 14) (ls' := [some (.inr (.inr (some (7, v0)))), some (.inl (v1 + (1 : Int32))), some (.inl v2), some (.inl v3), some (.inl (v4 + (1 : Int32))), some (.inl (0 : Int32))]) (st' := []) (M' := mem E mu8 la9) rfl ?_
              refine Ev.drop (ls := [some (.inr (.inr (some (7, v0)))), some (.inl (v1 + (1 : Int32))), some (.inl v2), some (.inl v3), some (.inl (v4 + (1 : Int32))), none]) ⟨Or.inr rfl, Or.inr rfl, Or.inr rfl, Or.inr rfl, Or.inr rfl, Or.inl rfl, trivial⟩ ?_
              exact h
            · have h := h.2 hc
              dsimp only
              refine Ev.steps 9 (ip' := 14) (ls' := [some (.inr (.inr (some (7, v0)))), some (.inl (v1 + (1 : Int32))), some (.inl (((6 : Int32) * v3) + v4)), some (.inl v3), some (.inl (v4 + (1 : Int32))), some (.inl (0 : Int32))]) (st' := []) (M' := mem E mu8 la9) rfl ?_
              refine Ev.drop (ls := [some (.inr (.inr (some (7, v0)))), some (.inl (v1 + (1 : Int32))), some (.inl (((6 : Int32) * v3) + v4)), some (.inl v3), some (.inl (v4 + (1 : Int32))), none]) ⟨Or.inr rfl, Or.inr rfl, Or.inr rfl, Or.inr rfl, Or.inr rfl, Or.inl rfl, trivial⟩ ?_
              exact h
      · have h := h.2 hc
        dsimp only
        refine Ev.steps 3 (ip' := 29) (ls' := [some (.inr (.inr (some (7, v0)))), some (.inl v1), some (.inl v2), some (.inl v3), some (.inl v4), none]) (st' := [.inl v3, .inr (.inr (some (36, v0)))]) (M' := mem E mu8 la9) rfl ?_
        refine Ev.ial rfl rfl (by decide) h.1 ?_
        have h := h.2
        refine Ev.steps 3 (ip' := 33) (ls' := [some (.inr (.inr (some (7, v0)))), some (.inl v1), some (.inl v2), some (.inl v3), some (.inl v4), none]) (st' := [.inl v4, .inr (.inr (some (36, v0))), .inl (mu8 36 v0 v3.toNatClampNeg)]) (M' := mem E mu8 la9) rfl ?_
        refine Ev.ial rfl rfl (by decide) h.1 ?_
        have h := h.2
        refine Ev.steps 1 (ip' := 35) (ls' := [some (.inr (.inr (some (7, v0)))), some (.inl v1), some (.inl v2), some (.inl v3), some (.inl v4), none]) (st' := [.inl ((mu8 36 v0 v3.toNatClampNeg) - (mu8 36 v0 v4.toNatClampNeg))]) (M' := mem E mu8 la9) rfl ?_
        refine Ev.ci (J := mi_159) (as := [.inl ((mu8 36 v0 v3.toNatClampNeg) - (mu8 36 v0 v4.toNatClampNeg))]) (rest := []) rfl rfl rfl (Nat.le_of_ble_eq_true rfl) h (fun x10 mu11 la12 h => ?_)
        refine Ev.steps 2 (ip' := 38) (ls' := [some (.inr (.inr (some (7, v0)))), some (.inl v1), some (.inl v2), some (.inl v3), some (.inl v4), none]) (st' := [.inl (mu11 7 v0 5), .inl x10]) (M' := mem E mu11 la12) rfl ?_
        refine Ev.br (c := (mu11 7 v0 5) < x10) (s1 := (41, [some (.inr (.inr (some (7, v0)))), some (.inl v1), some (.inl v2), some (.inl v3), some (.inl v4), none], [], mem E mu11 la12)) (s2 := (39, [some (.inr (.inr (some (7, v0)))), some (.inl v1), some (.inl v2), some (.inl v3), some (.inl v4), none], [], mem E mu11 la12)) rfl rfl rfl rfl (fun hc => ?_) (fun hc => ?_)
        · have h := h.1 hc
          dsimp only
          refine Ev.steps 4 (ip' := 45) (ls' := [some (.inr (.inr (some (7, v0)))), some (.inl v1), some (.inl v2), some (.inl v3), some (.inl v4), some (.inl (0 : Int32))]) (st' := [.inl (0 : Int32), .inl v1]) (M' := mem E mu11 la12) rfl ?_
          refine Ev.br (c := (0 : Int32) = 0) (s1 := (48, [some (.inr (.inr (some (7, v0)))), some (.inl v1), some (.inl v2), some (.inl v3), some (.inl v4), some (.inl (0 : Int32))], [.inl v1], mem E mu11 la12)) (s2 := (46, [some (.inr (.inr (some (7, v0)))), some (.inl v1), some (.inl v2), some (.inl v3), some (.inl v4), some (.inl (0 : Int32))], [.inl v1], mem E mu11 la12)) rfl rfl rfl rfl (fun hc => ?_) (fun hc => ?_)
          · have h := h.1 hc
            dsimp only
            refine Ev.steps 4 (ip' := 52) (ls' := [some (.inr (.inr (some (7, v0)))), some (.inl (v1 + (0 : Int32))), some (.inl v2), some (.inl v3), some (.inl v4), some (.inl (0 : Int32))]) (st' := [.inl (0 : Int32)]) (M' := mem E mu11 la12) rfl ?_
            refine Ev.br (c := (0 : Int32) = 0) (s1 := (62, [some (.inr (.inr (some (7, v0)))), some (.inl (v1 + (0 : Int32))), some (.inl v2), some (.inl v3), some (.inl v4), some (.inl (0 : Int32))], [], mem E mu11 la12)) (s2 := (53, [some (.inr (.inr (some (7, v0)))), some (.inl (v1 + (0 : Int32))), some (.inl v2), some (.inl v3), some (.inl v4), some (.inl (0 : Int32))], [], mem E mu11 la12)) rfl rfl rfl rfl (fun hc => ?_) (fun hc => ?_)
            · have h := h.1 hc
              dsimp only
              refine Ev.steps 4 (ip' := 14) (ls' := [some (.inr (.inr (some (7, v0)))), some (.inl (v1 + (0 : Int32))), some (.inl v2), some (.inl v3), some (.inl (v4 + (1 : Int32))), some (.inl (0 : Int32))]) (st' := []) (M' := mem E mu11 la12) rfl ?_
              refine Ev.drop (ls := [some (.inr (.inr (some (7, v0)))), some (.inl (v1 + (0 : Int32))), some (.inl v2), some (.inl v3), some (.inl (v4 + (1 : Int32))), none]) ⟨Or.inr rfl, Or.inr rfl, Or.inr rfl, Or.inr rfl, Or.inr rfl, Or.inl rfl, trivial⟩ ?_
              exact h
            · have h := h.2 hc
              dsimp only
              refine Ev.steps 2 (ip' := 55) (ls' := [some (.inr (.inr (some (7, v0)))), some (.inl (v1 + (0 : Int32))), some (.inl v2), some (.inl v3), some (.inl v4), some (.inl (0 : Int32))]) (st' := [.inl (-9 : Int32), .inl v2]) (M' := mem E mu11 la12) rfl ?_
              refine Ev.br (c := ¬ v2 = (-9 : Int32)) (s1 := (62, [some (.inr (.inr (some (7, v0)))), some (.inl (v1 + (0 : Int32))), some (.inl v2), some (.inl v3), some (.inl v4), some (.inl (0 : Int32))], [], mem E mu11 la12)) (s2 := (56, [some (.inr (.inr (some (7, v0)))), some (.inl (v1 + (0 : Int32))), some (.inl v2), some (.inl v3), some (.inl v4), some (.inl (0 : Int32))], [], mem E mu11 la12)) rfl rfl rfl rfl (fun hc => ?_) (fun hc => ?_)
              · have h := h.1 hc
                dsimp only
                refine Ev.steps 4 (ip' := 14) (ls' := [some (.inr (.inr (some (7, v0)))), some (.inl (v1 + (0 : Int32))), some (.inl v2), some (.inl v3), some (.inl (v4 + (1 : Int32))), some (.inl (0 : Int32))]) (st' := []) (M' := mem E mu11 la12) rfl ?_
                refine Ev.drop (ls := [some (.inr (.inr (some (7, v0)))), some (.inl (v1 + (0 : Int32))), some (.inl v2), some (.inl v3), some (.inl (v4 + (1 : Int32))), none]) ⟨Or.inr rfl, Or.inr rfl, Or.inr rfl, Or.inr rfl, Or.inr rfl, Or.inl rfl, trivial⟩ ?_
                exact h
              · have h := h.2 hc
                dsimp only
                refine Ev.steps 9 (ip' := 14) (ls' := [some (.inr (.inr (some (7, v0)))), some (.inl (v1 + (0 : Int32))), some (.inl (((6 : Int32) * v3) + v4)), some (.inl v3), some (.inl (v4 + (1 : Int32))), some (.inl (0 : Int32))]) (st' := []) (M' := mem E mu11 la12) rfl ?_
                refine Ev.drop (ls := [some (.inr (.inr (some (7, v0)))), some (.inl (v1 + (0 : Int32))), some (.inl (((6 : Int32) * v3) + v4)), some (.inl v3), some (.inl (v4 + (1 : Int32))), none]) ⟨Or.inr rfl, Or.inr rfl, Or.inr rfl, Or.inr rfl, Or.inr rfl, Or.inl rfl, trivial⟩ ?_
                exact h
          · have h := h.2 hc
            dsimp only
            refine Ev.steps 5 (ip' := 52) (ls' := [some (.inr (.inr (some (7, v0)))), some (.inl (v1 + (1 : Int32))), some (.inl v2), some (.inl v3), some (.inl v4), some (.inl (0 : Int32))]) (st' := [.inl (0 : Int32)]) (M' := mem E mu11 la12) rfl ?_
            refine Ev.br (c := (0 : Int32) = 0) (s1 := (62, [some (.inr (.inr (some (7, v0)))), some (.inl (v1 + (1 : Int32))), some (.inl v2), some (.inl v3), some (.inl v4), some (.inl (0 : Int32))], [], mem E mu11 la12)) (s2 := (53, [some (.inr (.inr (some (7, v0)))), some (.inl (v1 + (1 : Int32))), some (.inl v2), some (.inl v3), some (.inl v4), some (.inl (0 : Int32))], [], mem E mu11 la12)) rfl rfl rfl rfl (fun hc => ?_) (fun hc => ?_)
            · have h := h.1 hc
              dsimp only
              refine Ev.steps 4 (ip' := 14) (ls' := [some (.inr (.inr (some (7, v0)))), some (.inl (v1 + (1 : Int32))), some (.inl v2), some (.inl v3), some (.inl (v4 + (1 : Int32))), some (.inl (0 : Int32))]) (st' := []) (M' := mem E mu11 la12) rfl ?_
              refine Ev.drop (ls := [some (.inr (.inr (some (7, v0)))), some (.inl (v1 + (1 : Int32))), some (.inl v2), some (.inl v3), some (.inl (v4 + (1 : Int32))), none]) ⟨Or.inr rfl, Or.inr rfl, Or.inr rfl, Or.inr rfl, Or.inr rfl, Or.inl rfl, trivial⟩ ?_
              exact h
            · have h := h.2 hc
              dsimp only
              refine Ev.steps 2 (ip' := 55) (ls' := [some (.inr (.inr (some (7, v0)))), some (.inl (v1 + (1 : Int32))), some (.inl v2), some (.inl v3), some (.inl v4), some (.inl (0 : Int32))]) (st' := [.inl (-9 : Int32), .inl v2]) (M' := mem E mu11 la12) rfl ?_
              refine Ev.br (c := ¬ v2 = (-9 : Int32)) (s1 := (62, [some (.inr (.inr (some (7, v0)))), some (.inl (v1 + (1 : Int32))), some (.inl v2), some (.inl v3), some (.inl v4), some (.inl (0 : Int32))], [], mem E mu11 la12)) (s2 := (56, [some (.inr (.inr (some (7, v0)))), some (.inl (v1 + (1 : Int32))), some (.inl v2), some (.inl v3), some (.inl v4), some (.inl (0 : Int32))], [], mem E mu11 la12)) rfl rfl rfl rfl (fun hc => ?_) (fun hc => ?_)
              · have h := h.1 hc
                dsimp only
                refine Ev.steps 4 (ip' := 14) (ls' := [some (.inr (.inr (some (7, v0)))), some (.inl (v1 + (1 : Int32))), some (.inl v2), some (.inl v3), some (.inl (v4 + (1 : Int32))), some (.inl (0 : Int32))]) (st' := []) (M' := mem E mu11 la12) rfl ?_
                refine Ev.drop (ls := [some (.inr (.inr (some (7, v0)))), some (.inl (v1 + (1 : Int32))), some (.inl v2), some (.inl v3), some (.inl (v4 + (1 : Int32))), none]) ⟨Or.inr rfl, Or.inr rfl, Or.inr rfl, Or.inr rfl, Or.inr rfl, Or.inl rfl, trivial⟩ ?_
                exact h
              · have h := h.2 hc
                dsimp only
                refine Ev.steps 9 (ip' := 14) (ls' := [some (.inr (.inr (some (7, v0)))), some (.inl (v1 + (1 : Int32))), some (.inl (((6 : Int32) * v3) + v4)), some (.inl v3), some (.inl (v4 + (1 : Int32))), some (.inl (0 : Int32))]) (st' := []) (M' := mem E mu11 la12) rfl ?_
                refine Ev.drop (ls := [some (.inr (.inr (some (7, v0)))), some (.inl (v1 + (1 : Int32))), some (.inl (((6 : Int32) * v3) + v4)), some (.inl v3), some (.inl (v4 + (1 : Int32))), none]) ⟨Or.inr rfl, Or.inr rfl, Or.inr rfl, Or.inr rfl, Or.inr rfl, Or.inl rfl, trivial⟩ ?_
                exact h
        · have h := h.2 hc
          dsimp only
          refine Ev.steps 5 (ip' := 45) (ls' := [some (.inr (.inr (some (7, v0)))), some (.inl v1), some (.inl v2), some (.inl v3), some (.inl v4), some (.inl (1 : Int32))]) (st' := [.inl (1 : Int32), .inl v1]) (M' := mem E mu11 la12) rfl ?_
          refine Ev.br (c := (1 : Int32) = 0) (s1 := (48, [some (.inr (.inr (some (7, v0)))), some (.inl v1), some (.inl v2), some (.inl v3), some (.inl v4), some (.inl (1 : Int32))], [.inl v1], mem E mu11 la12)) (s2 := (46, [some (.inr (.inr (some (7, v0)))), some (.inl v1), some (.inl v2), some (.inl v3), some (.inl v4), some (.inl (1 : Int32))], [.inl v1], mem E mu11 la12)) rfl rfl rfl rfl (fun hc => ?_) (fun hc => ?_)
          · have h := h.1 hc
            dsimp only
            refine Ev.steps 4 (ip' := 52) (ls' := [some (.inr (.inr (some (7, v0)))), some (.inl (v1 + (0 : Int32))), some (.inl v2), some (.inl v3), some (.inl v4), some (.inl (1 : Int32))]) (st' := [.inl (1 : Int32)]) (M' := mem E mu11 la12) rfl ?_
            refine Ev.br (c := (1 : Int32) = 0) (s1 := (62, [some (.inr (.inr (some (7, v0)))), some (.inl (v1 + (0 : Int32))), some (.inl v2), some (.inl v3), some (.inl v4), some (.inl (1 : Int32))], [], mem E mu11 la12)) (s2 := (53, [some (.inr (.inr (some (7, v0)))), some (.inl (v1 + (0 : Int32))), some (.inl v2), some (.inl v3), some (.inl v4), some (.inl (1 : Int32))], [], mem E mu11 la12)) rfl rfl rfl rfl (fun hc => ?_) (fun hc => ?_)
            · have h := h.1 hc
              dsimp only
              refine Ev.steps 4 (ip' := 14) (ls' := [some (.inr (.inr (some (7, v0)))), some (.inl (v1 + (0 : Int32))), some (.inl v2), some (.inl v3), some (.inl (v4 + (1 : Int32))), some (.inl (1 : Int32))]) (st' := []) (M' := mem E mu11 la12) rfl ?_
              refine Ev.drop (ls := [some (.inr (.inr (some (7, v0)))), some (.inl (v1 + (0 : Int32))), some (.inl v2), some (.inl v3), some (.inl (v4 + (1 : Int32))), none]) ⟨Or.inr rfl, Or.inr rfl, Or.inr rfl, Or.inr rfl, Or.inr rfl, Or.inl rfl, trivial⟩ ?_
              exact h
            · have h := h.2 hc
              dsimp only
              refine Ev.steps 2 (ip' := 55) (ls' := [some (.inr (.inr (some (7, v0)))), some (.inl (v1 + (0 : Int32))), some (.inl v2), some (.inl v3), some (.inl v4), some (.inl (1 : Int32))]) (st' := [.inl (-9 : Int32), .inl v2]) (M' := mem E mu11 la12) rfl ?_
              refine Ev.br (c := ¬ v2 = (-9 : Int32)) (s1 := (62, [some (.inr (.inr (some (7, v0)))), some (.inl (v1 + (0 : Int32))), some (.inl v2), some (.inl v3), some (.inl v4), some (.inl (1 : Int32))], [], mem E mu11 la12)) (s2 := (56, [some (.inr (.inr (some (7, v0)))), some (.inl (v1 + (0 : Int32))), some (.inl v2), some (.inl v3), some (.inl v4), some (.inl (1 : Int32))], [], mem E mu11 la12)) rfl rfl rfl rfl (fun hc => ?_) (fun hc => ?_)
              · have h := h.1 hc
                dsimp only
                refine Ev.steps 4 (ip' := 14) (ls' := [some (.inr (.inr (some (7, v0)))), some (.inl (v1 + (0 : Int32))), some (.inl v2), some (.inl v3), some (.inl (v4 + (1 : Int32))), some (.inl (1 : Int32))]) (st' := []) (M' := mem E mu11 la12) rfl ?_
                refine Ev.drop (ls := [some (.inr (.inr (some (7, v0)))), some (.inl (v1 + (0 : Int32))), some (.inl v2), some (.inl v3), some (.inl (v4 + (1 : Int32))), none]) ⟨Or.inr rfl, Or.inr rfl, Or.inr rfl, Or.inr rfl, Or.inr rfl, Or.inl rfl, trivial⟩ ?_
                exact h
              · have h := h.2 hc
                dsimp only
                refine Ev.steps 9 (ip' := 14) (ls' := [some (.inr (.inr (some (7, v0)))), some (.inl (v1 + (0 : Int32))), some (.inl (((6 : Int32) * v3) + v4)), some (.inl v3), some (.inl (v4 + (1 : Int32))), some (.inl (1 : Int32))]) (st' := []) (M' := mem E mu11 la12) rfl ?_
                refine Ev.drop (ls := [some (.inr (.inr (some (7, v0)))), some (.inl (v1 + (0 : Int32))), some (.inl (((6 : Int32) * v3) + v4)), some (.inl v3), some (.inl (v4 + (1 : Int32))), none]) ⟨Or.inr rfl, Or.inr rfl, Or.inr rfl, Or.inr rfl, Or.inr rfl, Or.inl rfl, trivial⟩ ?_
                exact h
          · have h := h.2 hc
            dsimp only
            refine Ev.steps 5 (ip' := 52) (ls' := [some (.inr (.inr (some (7, v0)))), some (.inl (v1 + (1 : Int32))), some (.inl v2), some (.inl v3), some (.inl v4), some (.inl (1 : Int32))]) (st' := [.inl (1 : Int32)]) (M' := mem E mu11 la12) rfl ?_
            refine Ev.br (c := (1 : Int32) = 0) (s1 := (62, [some (.inr (.inr (some (7, v0)))), some (.inl (v1 + (1 : Int32))), some (.inl v2), some (.inl v3), some (.inl v4), some (.inl (1 : Int32))], [], mem E mu11 la12)) (s2 := (53, [some (.inr (.inr (some (7, v0)))), some (.inl (v1 + (1 : Int32))), some (.inl v2), some (.inl v3), some (.inl v4), some (.inl (1 : Int32))], [], mem E mu11 la12)) rfl rfl rfl rfl (fun hc => ?_) (fun hc => ?_)
            · have h := h.1 hc
              dsimp only
              refine Ev.steps 4 (ip' := 14) (ls' := [some (.inr (.inr (some (7, v0)))), some (.inl (v1 + (1 : Int32))), some (.inl v2), some (.inl v3), some (.inl (v4 + (1 : Int32))), some (.inl (1 : Int32))]) (st' := []) (M' := mem E mu11 la12) rfl ?_
              refine Ev.drop (ls := [some (.inr (.inr (some (7, v0)))), some (.inl (v1 + (1 : Int32))), some (.inl v2), some (.inl v3), some (.inl (v4 + (1 : Int32))), none]) ⟨Or.inr rfl, Or.inr rfl, Or.inr rfl, Or.inr rfl, Or.inr rfl, Or.inl rfl, trivial⟩ ?_
              exact h
            · have h := h.2 hc
              dsimp only
              refine Ev.steps 2 (ip' := 55) (ls' := [some (.inr (.inr (some (7, v0)))), some (.inl (v1 + (1 : Int32))), some (.inl v2), some (.inl v3), some (.inl v4), some (.inl (1 : Int32))]) (st' := [.inl (-9 : Int32), .inl v2]) (M' := mem E mu11 la12) rfl ?_
              refine Ev.br (c := ¬ v2 = (-9 : Int32)) (s1 := (62, [some (.inr (.inr (some (7, v0)))), some (.inl (v1 + (1 : Int32))), some (.inl v2), some (.inl v3), some (.inl v4), some (.inl (1 : Int32))], [], mem E mu11 la12)) (s2 := (56, [some (.inr (.inr (some (7, v0)))), some (.inl (v1 + (1 : Int32))), some (.inl v2), some (.inl v3), some (.inl v4), some (.inl (1 : Int32))], [], mem E mu11 la12)) rfl rfl rfl rfl (fun hc => ?_) (fun hc => ?_)
              · have h := h.1 hc
                dsimp only
                refine Ev.steps 4 (ip' := 14) (ls' := [some (.inr (.inr (some (7, v0)))), some (.inl (v1 + (1 : Int32))), some (.inl v2), some (.inl v3), some (.inl (v4 + (1 : Int32))), some (.inl (1 : Int32))]) (st' := []) (M' := mem E mu11 la12) rfl ?_
                refine Ev.drop (ls := [some (.inr (.inr (some (7, v0)))), some (.inl (v1 + (1 : Int32))), some (.inl v2), some (.inl v3), some (.inl (v4 + (1 : Int32))), none]) ⟨Or.inr rfl, Or.inr rfl, Or.inr rfl, Or.inr rfl, Or.inr rfl, Or.inl rfl, trivial⟩ ?_
                exact h
              · have h := h.2 hc
                dsimp only
                refine Ev.steps 9 (ip' := 14) (ls' := [some (.inr (.inr (some (7, v0)))), some (.inl (v1 + (1 : Int32))), some (.inl (((6 : Int32) * v3) + v4)), some (.inl v3), some (.inl (v4 + (1 : Int32))), some (.inl (1 : Int32))]) (st' := []) (M' := mem E mu11 la12) rfl ?_
                refine Ev.drop (ls := [some (.inr (.inr (some (7, v0)))), some (.inl (v1 + (1 : Int32))), some (.inl (((6 : Int32) * v3) + v4)), some (.inl v3), some (.inl (v4 + (1 : Int32))), none]) ⟨Or.inr rfl, Or.inr rfl, Or.inr rfl, Or.inr rfl, Or.inr rfl, Or.inl rfl, trivial⟩ ?_
                exact h
