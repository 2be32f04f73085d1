set_option maxRecDepth 100000 in
/-- AnnCups.Search.tryForMost(LAnnCups$Search;IIII)V -/
theorem vc_X4_tryForMost {E : mEv} {d : Nat} (a0 : Nat) (a1 : Int32) (a2 : Int32) (a3 : Int32) (a4 : Int32) {mu : fMu} {la : fLa} {Q : fMu → fLa → Prop} (h : (a3 ≤ (mu 4 a0 6) → ((a1 ≤ (mu 4 a0 3) → (FnI E d mi_36 [.inr (.inr (some (4, a0))), .inl a1, .inl a2] mu la (fun x1 mu2 la3 => (x1 = 0 → (Ev E (d + 1) mi_42 20 [some (.inr (.inr (some (4, a0)))), some (.inl a1), some (.inl a2), some (.inl a3), some (.inl a4), some (.inl (0 : Int32))] [] (mem E mu2 la3) (qV E Q))) ∧ (¬ (x1 = 0) → (Q mu2 la3))))) ∧ (¬ (a1 ≤ (mu 4 a0 3)) → (FnV E d mi_37 [.inr (.inr (some (4, a0))), .inl a1] mu la (fun mu5 la6 => FnI E d mi_36 [.inr (.inr (some (4, a0))), .inl a1, .inl a2] mu5 la6 (fun x7 mu8 la9 => (x7 = 0 → (Ev E (d + 1) mi_42 20 [some (.inr (.inr (some (4, a0)))), some (.inl a1), some (.inl a2), some (.inl a3), some (.inl a4), some (.inl (0 : Int32))] [] (mem E mu8 la9) (qV E Q))) ∧ (¬ (x7 = 0) → (Q mu8 la9)))))))) ∧ (¬ (a3 ≤ (mu 4 a0 6)) → (Q mu la))) : FnV E (d + 1) mi_42 [.inr (.inr (some (4, a0))), .inl a1, .inl a2, .inl a3, .inl a4] mu la Q := by
  unfold FnV
  show Ev E (d + 1) mi_42 0 [some (.inr (.inr (some (4, a0)))), some (.inl a1), some (.inl a2), some (.inl a3), some (.inl a4), none] [] (mem E mu la) (qV E Q)
  refine Ev.steps 3 (ip' := 3) (ls' := [some (.inr (.inr (some (4, a0)))), some (.inl a1), some (.inl a2), some (.inl a3), some (.inl a4), none]) (st' := [.inl (mu 4 a0 6), .inl a3]) (M' := mem E mu la) rfl ?_
  refine Ev.br (c := a3 ≤ (mu 4 a0 6)) (s1 := (5, [some (.inr (.inr (some (4, a0)))), some (.inl a1), some (.inl a2), some (.inl a3), some (.inl a4), none], [], mem E mu la)) (s2 := (4, [some (.inr (.inr (some (4, a0)))), some (.inl a1), some (.inl a2), some (.inl a3), some (.inl a4), none], [], mem E mu la)) rfl rfl rfl rfl (fun hc => ?_) (fun hc => ?_)
  · have h := h.1 hc
    dsimp only
    refine Ev.steps 3 (ip' := 8) (ls' := [some (.inr (.inr (some (4, a0)))), some (.inl a1), some (.inl a2), some (.inl a3), some (.inl a4), none]) (st' := [.inl (mu 4 a0 3), .inl a1]) (M' := mem E mu la) rfl ?_
    refine Ev.br (c := a1 ≤ (mu 4 a0 3)) (s1 := (12, [some (.inr (.inr (some (4, a0)))), some (.inl a1), some (.inl a2), some (.inl a3), some (.inl a4), none], [], mem E mu la)) (s2 := (9, [some (.inr (.inr (some (4, a0)))), some (.inl a1), some (.inl a2), some (.inl a3), some (.inl a4), none], [], mem E mu la)) rfl rfl rfl rfl (fun hc => ?_) (fun hc => ?_)
    · have h := h.1 hc
      dsimp only
      refine Ev.steps 3 (ip' := 15) (ls' := [some (.inr (.inr (some (4, a0)))), some (.inl a1), some (.inl a2), some (.inl a3), some (.inl a4), none]) (st' := [.inl a2, .inl a1, .inr (.inr (some (4, a0)))]) (M' := mem E mu la) rfl ?_
      refine Ev.ci (J := mi_36) (as := [.inr (.inr (some (4, a0))), .inl a1, .inl a2]) (rest := []) rfl rfl rfl (Nat.le_of_ble_eq_true rfl) h (fun x1 mu2 la3 h => ?_)
      refine Ev.br (c := x1 = 0) (s1 := (18, [some (.inr (.inr (some (4, a0)))), some (.inl a1), some (.inl a2), some (.inl a3), some (.inl a4), none], [], mem E mu2 la3)) (s2 := (17, [some (.inr (.inr (some (4, a0)))), some (.inl a1), some (.inl a2), some (.inl a3), some (.inl a4), none], [], mem E mu2 la3)) rfl rfl rfl rfl (fun hc => ?_) (fun hc => ?_)
      · have h := h.1 hc
        dsimp only
        refine Ev.steps 2 (ip' := 20) (ls' := [some (.inr (.inr (some (4, a0)))), some (.inl a1), some (.inl a2), some (.inl a3), some (.inl a4), some (.inl (0 : Int32))]) (st' := []) (M' := mem E mu2 la3) rfl ?_
        exact h
      · have h := h.2 hc
        dsimp only
        exact Ev.ret rfl rfl ⟨_, _, rfl, rfl, h⟩
    · have h := h.2 hc
      dsimp only
      refine Ev.steps 2 (ip' := 11) (ls' := [some (.inr (.inr (some (4, a0)))), some (.inl a1), some (.inl a2), some (.inl a3), some (.inl a4), none]) (st' := [.inl a1, .inr (.inr (some (4, a0)))]) (M' := mem E mu la) rfl ?_
      refine Ev.cv (J := mi_37) (as := [.inr (.inr (some (4, a0))), .inl a1]) (rest := []) rfl rfl rfl (Nat.le_of_ble_eq_true rfl) h (fun mu5 la6 h => ?_)
      refine Ev.steps 3 (ip' := 15) (ls' := [some (.inr (.inr (some (4, a0)))), some (.inl a1), some (.inl a2), some (.inl a3), some (.inl a4), none]) (st' := [.inl a2, .inl a1, .inr (.inr (some (4, a0)))]) (M' := mem E mu5 la6) rfl ?_
      refine Ev.ci (J := mi_36) (as := [.inr (.inr (some (4, a0))), .inl a1, .inl a2]) (rest := []) rfl rfl rfl (Nat.le_of_ble_eq_true rfl) h (fun x7 mu8 la9 h => ?_)
      refine Ev.br (c := x7 = 0) (s1 := (18, [some (.inr (.inr (some (4, a0)))), some (.inl a1), some (.inl a2), some (.inl a3), some (.inl a4), none], [], mem E mu8 la9)) (s2 := (17, [some (.inr (.inr (some (4, a0)))), some (.inl a1), some (.inl a2), some (.inl a3), some (.inl a4), none], [], mem E mu8 la9)) rfl rfl rfl rfl (fun hc => ?_) (fun hc => ?_)
      · have h := h.1 hc
        dsimp only
        refine Ev.steps 2 (ip' := 20) (ls' := [some (.inr (.inr (some (4, a0)))), some (.inl a1), some (.inl a2), some (.inl a3), some (.inl a4), some (.inl (0 : Int32))]) (st' := []) (M' := mem E mu8 la9) rfl ?_
        exact h
      · have h := h.2 hc
        dsimp only
        exact Ev.ret rfl rfl ⟨_, _, rfl, rfl, h⟩
  · have h := h.2 hc
    dsimp only
    exact Ev.ret rfl rfl ⟨_, _, rfl, rfl, h⟩
set_option maxRecDepth 100000 in
theorem vc_X4_tryForMost_20 {E : mEv} {d : Nat}  (v0 : Nat) (v1 : Int32) (v2 : Int32) (v3 : Int32) (v4 : Int32) (v5 : Int32) {mu : fMu} {la : fLa} {Q : fMu → fLa → Prop} (h : ((mu 1 0 0) ≤ v5 → (Q mu la)) ∧ (¬ ((mu 1 0 0) ≤ v5) → ((¬ (v2 &&& ((1 : Int32) <<< (v5 &&& 31))) = 0 → (Ev E (d + 1) mi_42 20 [some (.inr (.inr (some (4, v0)))), some (.inl v1), some (.inl v2), some (.inl v3), some (.inl v4), some (.inl (v5 + (1 : Int32)))] [] (mem E mu la) (qV E Q))) ∧ (¬ (¬ (v2 &&& ((1 : Int32) <<< (v5 &&& 31))) = 0) → (vp_in v1 6 ∧ ∀ mu10 : fMu, mu10 = up3 mu 22 v0 v1.toNatClampNeg v5 → (FnI E d mi_17 [.inr (.inr (some (1, 0))), .inl v5, .inl v4] mu10 la (fun x11 mu12 la13 => FnV E d mi_42 [.inr (.inr (some (4, v0))), .inl (v1 + (1 : Int32)), .inl (v2 ||| ((1 : Int32) <<< (v5 &&& 31))), .inl (v3 + x11), .inl v5] mu12 la13 (fun mu15 la16 => Ev E (d + 1) mi_42 20 [some (.inr (.inr (some (4, v0)))), some (.inl v1), some (.inl v2), some (.inl v3), some (.inl v4), some (.inl (v5 + (1 : Int32)))] [] (mem E mu15 la16) (qV E Q))))))))) : Ev E (d + 1) mi_42 20 [some (.inr (.inr (some (4, v0)))), some (.inl v1), some (.inl v2), some (.inl v3), some (.inl v4), some (.inl v5)] [] (mem E mu la) (qV E Q) := by
  refine Ev.steps 4 (ip' := 24) (ls' := [some (.inr (.inr (some (4, v0)))), some (.inl v1), some (.inl v2), some (.inl v3), some (.inl v4), some (.inl v5)]) (st' := [.inl (mu 1 0 0), .inl v5]) (M' := mem E mu la) rfl ?_
  refine Ev.br (c := (mu 1 0 0) ≤ v5) (s1 := (56, [some (.inr (.inr (some (4, v0)))), some (.inl v1), some (.inl v2), some (.inl v3), some (.inl v4), some (.inl v5)], [], mem E mu la)) (s2 := (25, [some (.inr (.inr (some (4, v0)))), some (.inl v1), some (.inl v2), some (.inl v3), some (.inl v4), some (.inl v5)], [], mem E mu la)) rfl rfl rfl rfl (fun hc => ?_) (fun hc => ?_)
  · have h := h.1 hc
    dsimp only
    exact Ev.ret rfl rfl ⟨_, _, rfl, rfl, h⟩
  · have h := h.2 hc
    dsimp only
    refine Ev.steps 5 (ip' := 30) (ls' := [some (.inr (.inr (some (4, v0)))), some (.inl v1), some (.inl v2), some (.inl v3), some (.inl v4), some (.inl v5)]) (st' := [.inl (v2 &&& ((1 : Int32) <<< (v5 &&& 31)))]) (M' := mem E mu la) rfl ?_
    refine Ev.br (c := ¬ (v2 &&& ((1 : Int32) <<< (v5 &&& 31))) = 0) (s1 := (54, [some (.inr (.inr (some (4, v0)))), some (.inl v1), some (.inl v2), some (.inl v3), some (.inl v4), some (.inl v5)], [], mem E mu la)) (s2 := (31, [some (.inr (.inr (some (4, v0)))), some (.inl v1), some (.inl v2), some (.inl v3), some (.inl v4), some (.inl v5)], [], mem E mu la)) rfl rfl rfl rfl (fun hc => ?_) (fun hc => ?_)
    · have h := h.1 hc
      dsimp only
      refine Ev.steps 2 (ip' := 20) (ls' := [some (.inr (.inr (some (4, v0)))), some (.inl v1), some (.inl v2), some (.inl v3), some (.inl v4), some (.inl (v5 + (1 : Int32)))]) (st' := []) (M' := mem E mu la) rfl ?_
      exact h
    · have h := h.2 hc
      dsimp only
      refine Ev.steps 4 (ip' := 35) (ls' := [some (.inr (.inr (some (4, v0)))), some (.inl v1), some (.inl v2), some (.inl v3), some (.inl v4), some (.inl v5)]) (st' := [.inl v5, .inl v1, .inr (.inr (some (22, v0)))]) (M' := mem E mu la) rfl ?_
      refine Ev.ias rfl rfl h.1 ?_
      have h := h.2
      generalize hgmu10 : up3 mu 22 v0 v1.toNatClampNeg v5 = mu10
      have h := h mu10 hgmu10.symm
      refine Ev.steps 14 (ip' := 50) (ls' := [some (.inr (.inr (some (4, v0)))), some (.inl v1), some (.inl v2), some (.inl v3), some (.inl v4), some (.inl v5)]) (st' := [.inl v4, .inl v5, .inr (.inr (some (1, 0))), .inl v3, .inl (v2 ||| ((1 : Int32) <<< (v5 &&& 31))), .inl (v1 + (1 : Int32)), .inr (.inr (some (4, v0)))]) (M' := mem E mu10 la) rfl ?_
      refine Ev.ci (J := mi_17) (as := [.inr (.inr (some (1, 0))), .inl v5, .inl v4]) (rest := [.inl v3, .inl (v2 ||| ((1 : Int32) <<< (v5 &&& 31))), .inl (v1 + (1 : Int32)), .inr (.inr (some (4, v0)))]) rfl rfl rfl (Nat.le_of_ble_eq_true rfl) h (fun x11 mu12 la13 h => ?_)
      refine Ev.steps 2 (ip' := 53) (ls' := [some (.inr (.inr (some (4, v0)))), some (.inl v1), some (.inl v2), some (.inl v3), some (.inl v4), some (.inl v5)]) (st' := [.inl v5, .inl (v3 + x11), .inl (v2 ||| ((1 : Int32) <<< (v5 &&& 31))), .inl (v1 + (1 : Int32)), .inr (.inr (some (4, v0)))]) (M' := mem E mu12 la13) rfl ?_
      refine Ev.cv (J := mi_42) (as := [.inr (.inr (some (4, v0))), .inl (v1 + (1 : Int32)), .inl (v2 ||| ((1 : Int32) <<< (v5 &&& 31))), .inl (v3 + x11), .inl v5]) (rest := []) rfl rfl rfl (Nat.le_of_ble_eq_true rfl) h (fun mu15 la16 h => ?_)
      refine Ev.steps 2 (ip' := 20) (ls' := [some (.inr (.inr (some (4, v0)))), some (.inl v1), some (.inl v2), some (.inl v3), some (.inl v4), some (.inl (v5 + (1 : Int32)))]) (st' := []) (M' := mem E mu15 la16) rfl ?_
      exact h
set_option maxRecDepth 100000 in
/-- AnnCups.Text.hasByte(I)Z -/
theorem vc_X5_hasByte {E : mEv} {d : Nat} {c : Nat} (a0 : Int32) {mu : fMu} {la : fLa} {Q : Int32 → fMu → fLa → Prop} (h : (a0 < 0 → (Q (0 : Int32) mu la)) ∧ (¬ (a0 < 0) → (((mu 5 c 0) ≤ a0 → (Q (0 : Int32) mu la)) ∧ (¬ ((mu 5 c 0) ≤ a0) → (Q (1 : Int32) mu la))))) : FnI E d mi_44 [.inr (.inr (some (5, c))), .inl a0] mu la Q := by
  unfold FnI
  show Ev E d mi_44 0 [some (.inr (.inr (some (5, c)))), some (.inl a0)] [] (mem E mu la) (qI E Q)
  refine Ev.steps 1 (ip' := 1) (ls' := [some (.inr (.inr (some (5, c)))), some (.inl a0)]) (st' := [.inl a0]) (M' := mem E mu la) rfl ?_
  refine Ev.br (c := a0 < 0) (s1 := (8, [some (.inr (.inr (some (5, c)))), some (.inl a0)], [], mem E mu la)) (s2 := (2, [some (.inr (.inr (some (5, c)))), some (.inl a0)], [], mem E mu la)) rfl rfl rfl rfl (fun hc => ?_) (fun hc => ?_)
  · have h := h.1 hc
    dsimp only
    refine Ev.steps 1 (ip' := 9) (ls' := [some (.inr (.inr (some (5, c)))), some (.inl a0)]) (st' := [.inl (0 : Int32)]) (M' := mem E mu la) rfl ?_
    exact Ev.retZ rfl rfl (Or.inl rfl) ⟨_, _, _, rfl, rfl, h⟩
  · have h := h.2 hc
    dsimp only
    refine Ev.steps 3 (ip' := 5) (ls' := [some (.inr (.inr (some (5, c)))), some (.inl a0)]) (st' := [.inl (mu 5 c 0), .inl a0]) (M' := mem E mu la) rfl ?_
    refine Ev.br (c := (mu 5 c 0) ≤ a0) (s1 := (8, [some (.inr (.inr (some (5, c)))), some (.inl a0)], [], mem E mu la)) (s2 := (6, [some (.inr (.inr (some (5, c)))), some (.inl a0)], [], mem E mu la)) rfl rfl rfl rfl (fun hc => ?_) (fun hc => ?_)
    · have h := h.1 hc
      dsimp only
      refine Ev.steps 1 (ip' := 9) (ls' := [some (.inr (.inr (some (5, c)))), some (.inl a0)]) (st' := [.inl (0 : Int32)]) (M' := mem E mu la) rfl ?_
      exact Ev.retZ rfl rfl (Or.inl rfl) ⟨_, _, _, rfl, rfl, h⟩
    · have h := h.2 hc
      dsimp only
      refine Ev.steps 2 (ip' := 9) (ls' := [some (.inr (.inr (some (5, c)))), some (.inl a0)]) (st' := [.inl (1 : Int32)]) (M' := mem E mu la) rfl ?_
      exact Ev.retZ rfl rfl (Or.inr rfl) ⟨_, _, _, rfl, rfl, h⟩
set_option maxRecDepth 100000 in
/-- AnnCups.Text.signAt(I)I -/
theorem vc_X5_signAt {E : mEv} {d : Nat} {c : Nat} (a0 : Int32) {mu : fMu} {la : fLa} {Q : Int32 → fMu → fLa → Prop} (h : FnI E d mi_44 [.inr (.inr (some (5, c))), .inl a0] mu la (fun x1 mu2 la3 => (x1 = 0 → (Q (-1 : Int32) mu2 la3)) ∧ (¬ (x1 = 0) → (vp_in a0 60 ∧ (Q (mu2 24 c a0.toNatClampNeg) mu2 la3))))) : FnI E (d + 1) mi_45 [.inr (.inr (some (5, c))), .inl a0] mu la Q := by
  unfold FnI
  show Ev E (d + 1) mi_45 0 [some (.inr (.inr (some (5, c)))), some (.inl a0)] [] (mem E mu la) (qI E Q)
  refine Ev.steps 2 (ip' := 2) (ls' := [some (.inr (.inr (some (5, c)))), some (.inl a0)]) (st' := [.inl a0, .inr (.inr (some (5, c)))]) (M' := mem E mu la) rfl ?_
  refine Ev.ci (J := mi_44) (as := [.inr (.inr (some (5, c))), .inl a0]) (rest := []) rfl rfl rfl (Nat.le_of_ble_eq_true rfl) h (fun x1 mu2 la3 h => ?_)
  refine Ev.br (c := x1 = 0) (s1 := (9, [some (.inr (.inr (some (5, c)))), some (.inl a0)], [], mem E mu2 la3)) (s2 := (4, [some (.inr (.inr (some (5, c)))), some (.inl a0)], [], mem E mu2 la3)) rfl rfl rfl rfl (fun hc => ?_) (fun hc => ?_)
  · have h := h.1 hc
    dsimp only
    refine Ev.steps 1 (ip' := 10) (ls' := [some (.inr (.inr (some (5, c)))), some (.inl a0)]) (st' := [.inl (-1 : Int32)]) (M' := mem E mu2 la3) rfl ?_
    exact Ev.ret rfl rfl ⟨_, _, _, rfl, rfl, h⟩
  · have h := h.2 hc
    dsimp only
    refine Ev.steps 3 (ip' := 7) (ls' := [some (.inr (.inr (some (5, c)))), some (.inl a0)]) (st' := [.inl a0, .inr (.inr (some (24, c)))]) (M' := mem E mu2 la3) rfl ?_
    refine Ev.bal rfl (Or.inl rfl) h.1 ?_
    have h := h.2
    refine Ev.steps 1 (ip' := 10) (ls' := [some (.inr (.inr (some (5, c)))), some (.inl a0)]) (st' := [.inl (mu2 24 c a0.toNatClampNeg)]) (M' := mem E mu2 la3) rfl ?_
    exact Ev.ret rfl rfl ⟨_, _, _, rfl, rfl, h⟩
set_option maxRecDepth 100000 in
/-- AnnCups.Text.figureAt(III)I -/
theorem vc_X5_figureAt {E : mEv} {d : Nat} {c : Nat} (a0 : Int32) (a1 : Int32) (a2 : Int32) {mu : fMu} {la : fLa} {Q : Int32 → fMu → fLa → Prop} (h : FnI E d mi_45 [.inr (.inr (some (5, c))), .inl a0] mu la (fun x1 mu2 la3 => ((x1 - (48 : Int32)) < a1 → (Q (-1 : Int32) mu2 la3)) ∧ (¬ ((x1 - (48 : Int32)) < a1) → (((x1 - (48 : Int32)) ≤ a2 → (Q (x1 - (48 : Int32)) mu2 la3)) ∧ (¬ ((x1 - (48 : Int32)) ≤ a2) → (Q (-1 : Int32) mu2 la3)))))) : FnI E (d + 1) mi_46 [.inr (.inr (some (5, c))), .inl a0, .inl a1, .inl a2] mu la Q := by
  unfold FnI
  show Ev E (d + 1) mi_46 0 [some (.inr (.inr (some (5, c)))), some (.inl a0), some (.inl a1), some (.inl a2), none] [] (mem E mu la) (qI E Q)
  refine Ev.steps 2 (ip' := 2) (ls' := [some (.inr (.inr (some (5, c)))), some (.inl a0), some (.inl a1), some (.inl a2), none]) (st' := [.inl a0, .inr (.inr (some (5, c)))]) (M' := mem E mu la) rfl ?_
  refine Ev.ci (J := mi_45) (as := [.inr (.inr (some (5, c))), .inl a0]) (rest := []) rfl rfl rfl (Nat.le_of_ble_eq_true rfl) h (fun x1 mu2 la3 h => ?_)
  refine Ev.steps 5 (ip' := 8) (ls' := [some (.inr (.inr (some (5, c)))), some (.inl a0), some (.inl a1), some (.inl a2), some (.inl (x1 - (48 : Int32)))]) (st' := [.inl a1, .inl (x1 - (48 : Int32))]) (M' := mem E mu2 la3) rfl ?_
  refine Ev.br (c := (x1 - (48 : Int32)) < a1) (s1 := (12, [some (.inr (.inr (some (5, c)))), some (.inl a0), some (.inl a1), some (.inl a2), some (.inl (x1 - (48 : Int32)))], [], mem E mu2 la3)) (s2 := (9, [some (.inr (.inr (some (5, c)))), some (.inl a0), some (.inl a1), some (.inl a2), some (.inl (x1 - (48 : Int32)))], [], mem E mu2 la3)) rfl rfl rfl rfl (fun hc => ?_) (fun hc => ?_)
  · have h := h.1 hc
    dsimp only
    refine Ev.steps 2 (ip' := 15) (ls' := [some (.inr (.inr (some (5, c)))), some (.inl a0), some (.inl a1), some (.inl a2), some (.inl (x1 - (48 : Int32)))]) (st' := [.inl (-1 : Int32)]) (M' := mem E mu2 la3) rfl ?_
    exact Ev.ret rfl rfl ⟨_, _, _, rfl, rfl, h⟩
  · have h := h.2 hc
    dsimp only
    refine Ev.steps 2 (ip' := 11) (ls' := [some (.inr (.inr (some (5, c)))), some (.inl a0), some (.inl a1), some (.inl a2), some (.inl (x1 - (48 : Int32)))]) (st' := [.inl a2, .inl (x1 - (48 : Int32))]) (M' := mem E mu2 la3) rfl ?_
    refine Ev.br (c := (x1 - (48 : Int32)) ≤ a2) (s1 := (14, [some (.inr (.inr (some (5, c)))), some (.inl a0), some (.inl a1), some (.inl a2), some (.inl (x1 - (48 : Int32)))], [], mem E mu2 la3)) (s2 := (12, [some (.inr (.inr (some (5, c)))), some (.inl a0), some (.inl a1), some (.inl a2), some (.inl (x1 - (48 : Int32)))], [], mem E mu2 la3)) rfl rfl rfl rfl (fun hc => ?_) (fun hc => ?_)
    · have h := h.1 hc
      dsimp only
      refine Ev.steps 1 (ip' := 15) (ls' := [some (.inr (.inr (some (5, c)))), some (.inl a0), some (.inl a1), some (.inl a2), some (.inl (x1 - (48 : Int32)))]) (st' := [.inl (x1 - (48 : Int32))]) (M' := mem E mu2 la3) rfl ?_
      exact Ev.ret rfl rfl ⟨_, _, _, rfl, rfl, h⟩
    · have h := h.2 hc
      dsimp only
      refine Ev.steps 2 (ip' := 15) (ls' := [some (.inr (.inr (some (5, c)))), some (.inl a0), some (.inl a1), some (.inl a2), some (.inl (x1 - (48 : Int32)))]) (st' := [.inl (-1 : Int32)]) (M' := mem E mu2 la3) rfl ?_
      exact Ev.ret rfl rfl ⟨_, _, _, rfl, rfl, h⟩
set_option maxRecDepth 100000 in
/-- AnnCups.Text.kindAt(I)I -/
theorem vc_X5_kindAt {E : mEv} {d : Nat} {c : Nat} (a0 : Int32) {mu : fMu} {la : fLa} {Q : Int32 → fMu → fLa → Prop} (h : FnI E d mi_45 [.inr (.inr (some (5, c))), .inl a0] mu la (fun x1 mu2 la3 => Ev E (d + 1) mi_47 6 [none, none, some (.inl x1), some (.inl (0 : Int32))] [] (mem E mu2 la3) (qI E Q))) : FnI E (d + 1) mi_47 [.inr (.inr (some (5, c))), .inl a0] mu la Q := by
  unfold FnI
  show Ev E (d + 1) mi_47 0 [some (.inr (.inr (some (5, c)))), some (.inl a0), none, none] [] (mem E mu la) (qI E Q)
  refine Ev.steps 2 (ip' := 2) (ls' := [some (.inr (.inr (some (5, c)))), some (.inl a0), none, none]) (st' := [.inl a0, .inr (.inr (some (5, c)))]) (M' := mem E mu la) rfl ?_
  refine Ev.ci (J := mi_45) (as := [.inr (.inr (some (5, c))), .inl a0]) (rest := []) rfl rfl rfl (Nat.le_of_ble_eq_true rfl) h (fun x1 mu2 la3 h => ?_)
  refine Ev.steps 3 (ip' := 6) (ls' := [some (.inr (.inr (some (5, c)))), some (.inl a0), some (.inl x1), some (.inl (0 : Int32))]) (st' := []) (M' := mem E mu2 la3) rfl ?_
  refine Ev.drop (ls := [none, none, some (.inl x1), some (.inl (0 : Int32))]) ⟨Or.inl rfl, Or.inl rfl, Or.inr rfl, Or.inr rfl, trivial⟩ ?_
  exact h
set_option maxRecDepth 100000 in
theorem vc_X5_kindAt_6 {E : mEv} {d : Nat}  (v2 : Int32) (v3 : Int32) {mu : fMu} {la : fLa} {Q : Int32 → fMu → fLa → Prop} (h : ((5 : Int32) < v3 → (Q (-1 : Int32) mu la)) ∧ (¬ ((5 : Int32) < v3) → (vp_in v3 6 ∧ ((¬ (lett v3.toNatClampNeg) = v2 → (Ev E (d + 1) mi_47 6 [none, none, some (.inl v2), some (.inl (v3 + (1 : Int32)))] [] (mem E mu la) (qI E Q))) ∧ (¬ (¬ (lett v3.toNatClampNeg) = v2) → (Q v3 mu la)))))) : Ev E (d + 1) mi_47 6 [none, none, some (.inl v2), some (.inl v3)] [] (mem E mu la) (qI E Q) := by
  refine Ev.steps 2 (ip' := 8) (ls' := [none, none, some (.inl v2), some (.inl v3)]) (st' := [.inl (5 : Int32), .inl v3]) (M' := mem E mu la) rfl ?_
  refine Ev.br (c := (5 : Int32) < v3) (s1 := (18, [none, none, some (.inl v2), some (.inl v3)], [], mem E mu la)) (s2 := (9, [none, none, some (.inl v2), some (.inl v3)], [], mem E mu la)) rfl rfl rfl rfl (fun hc => ?_) (fun hc => ?_)
  · have h := h.1 hc
    dsimp only
    refine Ev.steps 1 (ip' := 19) (ls' := [none, none, some (.inl v2), some (.inl v3)]) (st' := [.inl (-1 : Int32)]) (M' := mem E mu la) rfl ?_
    exact Ev.ret rfl rfl ⟨_, _, _, rfl, rfl, h⟩
  · have h := h.2 hc
    dsimp only
    refine Ev.steps 2 (ip' := 11) (ls' := [none, none, some (.inl v2), some (.inl v3)]) (st' := [.inl v3, .inr (.inr (some (101, 0)))]) (M' := mem E mu la) rfl ?_
    refine Ev.want (c := v3 < 0 ∨ 6 ≤ v3.toNatClampNeg) (s2 := (12, [none, none, some (.inl v2), some (.inl v3)], [.inl (lett v3.toNatClampNeg)], mem E mu la)) rfl rfl rfl rfl h.1 ?_
    have h := h.2
    refine Ev.steps 1 (ip' := 13) (ls' := [none, none, some (.inl v2), some (.inl v3)]) (st' := [.inl v2, .inl (lett v3.toNatClampNeg)]) (M' := mem E mu la) rfl ?_
    refine Ev.br (c := ¬ (lett v3.toNatClampNeg) = v2) (s1 := (16, [none, none, some (.inl v2), some (.inl v3)], [], mem E mu la)) (s2 := (14, [none, none, some (.inl v2), some (.inl v3)], [], mem E mu la)) rfl rfl rfl rfl (fun hc => ?_) (fun hc => ?_)
    · have h := h.1 hc
      dsimp only
      refine Ev.steps 2 (ip' := 6) (ls' := [none, none, some (.inl v2), some (.inl (v3 + (1 : Int32)))]) (st' := []) (M' := mem E mu la) rfl ?_
      exact h
    · have h := h.2 hc
      dsimp only
      refine Ev.steps 1 (ip' := 15) (ls' := [none, none, some (.inl v2), some (.inl v3)]) (st' := [.inl v3]) (M' := mem E mu la) rfl ?_
      exact Ev.ret rfl rfl ⟨_, _, _, rfl, rfl, h⟩
set_option maxRecDepth 100000 in
/-- AnnCups.Text.mixedInto(J)J -/
theorem vc_X5_mixedInto {E : mEv} {d : Nat} {c : Nat} (a0 : Int64) {mu : fMu} {la : fLa} {Q : Int64 → fMu → fLa → Prop} (h : Ev E d mi_48 10 [some (.inr (.inr (some (5, c)))), none, none, some (.inr (.inl (((31 : Int64) * a0) + ((mu 5 c 0).toInt64)))), none, some (.inl (0 : Int32))] [] (mem E mu la) (qL E Q)) : FnL E d mi_48 [.inr (.inr (some (5, c))), .inr (.inl a0)] mu la Q := by
  unfold FnL
  show Ev E d mi_48 0 [some (.inr (.inr (some (5, c)))), some (.inr (.inl a0)), none, none, none, none] [] (mem E mu la) (qL E Q)
  refine Ev.steps 10 (ip' := 10) (ls' := [some (.inr (.inr (some (5, c)))), some (.inr (.inl a0)), none, some (.inr (.inl (((31 : Int64) * a0) + ((mu 5 c 0).toInt64)))), none, some (.inl (0 : Int32))]) (st' := []) (M' := mem E mu la) rfl ?_
  refine Ev.drop (ls := [some (.inr (.inr (some (5, c)))), none, none, some (.inr (.inl (((31 : Int64) * a0) + ((mu 5 c 0).toInt64)))), none, some (.inl (0 : Int32))]) ⟨Or.inr rfl, Or.inl rfl, Or.inr rfl, Or.inr rfl, Or.inr rfl, Or.inr rfl, trivial⟩ ?_
  exact h
set_option maxRecDepth 100000 in
theorem vc_X5_mixedInto_10 {E : mEv} {d : Nat}  (v0 : Nat) (v3 : Int64) (v5 : Int32) {mu : fMu} {la : fLa} {Q : Int64 → fMu → fLa → Prop} (h : ((mu 5 v0 0) ≤ v5 → (Q v3 mu la)) ∧ (¬ ((mu 5 v0 0) ≤ v5) → (vp_in v5 60 ∧ (Ev E d mi_48 10 [some (.inr (.inr (some (5, v0)))), none, none, some (.inr (.inl (((31 : Int64) * v3) + ((mu 24 v0 v5.toNatClampNeg).toInt64)))), none, some (.inl (v5 + (1 : Int32)))] [] (mem E mu la) (qL E Q))))) : Ev E d mi_48 10 [some (.inr (.inr (some (5, v0)))), none, none, some (.inr (.inl v3)), none, some (.inl v5)] [] (mem E mu la) (qL E Q) := by
  refine Ev.steps 3 (ip' := 13) (ls' := [some (.inr (.inr (some (5, v0)))), none, none, some (.inr (.inl v3)), none, some (.inl v5)]) (st' := [.inl (mu 5 v0 0), .inl v5]) (M' := mem E mu la) rfl ?_
  refine Ev.br (c := (mu 5 v0 0) ≤ v5) (s1 := (26, [some (.inr (.inr (some (5, v0)))), none, none, some (.inr (.inl v3)), none, some (.inl v5)], [], mem E mu la)) (s2 := (14, [some (.inr (.inr (some (5, v0)))), none, none, some (.inr (.inl v3)), none, some (.inl v5)], [], mem E mu la)) rfl rfl rfl rfl (fun hc => ?_) (fun hc => ?_)
  · have h := h.1 hc
    dsimp only
    refine Ev.steps 1 (ip' := 27) (ls' := [some (.inr (.inr (some (5, v0)))), none, none, some (.inr (.inl v3)), none, some (.inl v5)]) (st' := [.inr (.inl v3)]) (M' := mem E mu la) rfl ?_
    exact Ev.ret rfl rfl ⟨_, _, _, rfl, rfl, h⟩
  · have h := h.2 hc
    dsimp only
    refine Ev.steps 6 (ip' := 20) (ls' := [some (.inr (.inr (some (5, v0)))), none, none, some (.inr (.inl v3)), none, some (.inl v5)]) (st' := [.inl v5, .inr (.inr (some (24, v0))), .inr (.inl ((31 : Int64) * v3))]) (M' := mem E mu la) rfl ?_
    refine Ev.bal rfl (Or.inl rfl) h.1 ?_
    have h := h.2
    refine Ev.steps 5 (ip' := 10) (ls' := [some (.inr (.inr (some (5, v0)))), none, none, some (.inr (.inl (((31 : Int64) * v3) + ((mu 24 v0 v5.toNatClampNeg).toInt64)))), none, some (.inl (v5 + (1 : Int32)))]) (st' := []) (M' := mem E mu la) rfl ?_
    exact h
set_option maxRecDepth 100000 in
/-- AnnCups.row(II)I -/
theorem vc_X6_row {E : mEv} {d : Nat} {c : Nat} (a0 : Int32) (a1 : Int32) {mu : fMu} {la : fLa} {Q : Int32 → fMu → fLa → Prop} (h : FnR E d mi_96 [.inr (.inr (some (6, c))), .inl a0] mu la 3 (fun mu2 la3 => Q (-1 : Int32) mu2 la3) (fun x1 mu2 la3 => (a1 ≤ (40 : Int32) → ((0 ≤ a1 → (FnV E d mi_27 [.inr (.inr (some (3, x1))), .inl a1] mu2 la3 (fun mu5 la6 => Q a1 mu5 la6))) ∧ (¬ (0 ≤ a1) → (FnI E d mi_95 [.inr (.inr (some (6, c))), .inl (5 : Int32)] mu2 la3 (fun x7 mu8 la9 => Q x7 mu8 la9))))) ∧ (¬ (a1 ≤ (40 : Int32)) → (Q (-1 : Int32) mu2 la3)))) : FnI E (d + 1) mi_50 [.inr (.inr (some (6, c))), .inl a0, .inl a1] mu la Q := by
  unfold FnI
  show Ev E (d + 1) mi_50 0 [some (.inr (.inr (some (6, c)))), some (.inl a0), some (.inl a1), none] [] (mem E mu la) (qI E Q)
  refine Ev.steps 2 (ip' := 2) (ls' := [some (.inr (.inr (some (6, c)))), some (.inl a0), some (.inl a1), none]) (st' := [.inl a0, .inr (.inr (some (6, c)))]) (M' := mem E mu la) rfl ?_
  refine Ev.cr 3 (J := mi_96) (as := [.inr (.inr (some (6, c))), .inl a0]) (rest := []) rfl rfl rfl (Nat.le_of_ble_eq_true rfl) h (fun mu2 la3 h => ?_) (fun x1 mu2 la3 h => ?_)
  · refine Ev.steps 4 (ip' := 10) (ls' := [some (.inr (.inr (some (6, c)))), some (.inl a0), some (.inl a1), some (.inr (.inr none))]) (st' := [.inl (-1 : Int32)]) (M' := mem E mu2 la3) rfl ?_
    exact Ev.ret rfl rfl ⟨_, _, _, rfl, rfl, h⟩
  · refine Ev.steps 5 (ip' := 8) (ls' := [some (.inr (.inr (some (6, c)))), some (.inl a0), some (.inl a1), some (.inr (.inr (some (3, x1))))]) (st' := [.inl (40 : Int32), .inl a1]) (M' := mem E mu2 la3) rfl ?_
    refine Ev.br (c := a1 ≤ (40 : Int32)) (s1 := (11, [some (.inr (.inr (some (6, c)))), some (.inl a0), some (.inl a1), some (.inr (.inr (some (3, x1))))], [], mem E mu2 la3)) (s2 := (9, [some (.inr (.inr (some (6, c)))), some (.inl a0), some (.inl a1), some (.inr (.inr (some (3, x1))))], [], mem E mu2 la3)) rfl rfl rfl rfl (fun hc => ?_) (fun hc => ?_)
    · have h := h.1 hc
      dsimp only
      refine Ev.steps 1 (ip' := 12) (ls' := [some (.inr (.inr (some (6, c)))), some (.inl a0), some (.inl a1), some (.inr (.inr (some (3, x1))))]) (st' := [.inl a1]) (M' := mem E mu2 la3) rfl ?_
      refine Ev.br (c := 0 ≤ a1) (s1 := (17, [some (.inr (.inr (some (6, c)))), some (.inl a0), some (.inl a1), some (.inr (.inr (some (3, x1))))], [], mem E mu2 la3)) (s2 := (13, [some (.inr (.inr (some (6, c)))), some (.inl a0), some (.inl a1), some (.inr (.inr (some (3, x1))))], [], mem E mu2 la3)) rfl rfl rfl rfl (fun hc => ?_) (fun hc => ?_)
      · have h := h.1 hc
        dsimp only
        refine Ev.steps 2 (ip' := 19) (ls' := [some (.inr (.inr (some (6, c)))), some (.inl a0), some (.inl a1), some (.inr (.inr (some (3, x1))))]) (st' := [.inl a1, .inr (.inr (some (3, x1)))]) (M' := mem E mu2 la3) rfl ?_
        refine Ev.cv (J := mi_27) (as := [.inr (.inr (some (3, x1))), .inl a1]) (rest := []) rfl rfl rfl (Nat.le_of_ble_eq_true rfl) h (fun mu5 la6 h => ?_)
        refine Ev.steps 1 (ip' := 21) (ls' := [some (.inr (.inr (some (6, c)))), some (.inl a0), some (.inl a1), some (.inr (.inr (some (3, x1))))]) (st' := [.inl a1]) (M' := mem E mu5 la6) rfl ?_
        exact Ev.ret rfl rfl ⟨_, _, _, rfl, rfl, h⟩
      · have h := h.2 hc
        dsimp only
        refine Ev.steps 2 (ip' := 15) (ls' := [some (.inr (.inr (some (6, c)))), some (.inl a0), some (.inl a1), some (.inr (.inr (some (3, x1))))]) (st' := [.inl (5 : Int32), .inr (.inr (some (6, c)))]) (M' := mem E mu2 la3) rfl ?_
        refine Ev.ci (J := mi_95) (as := [.inr (.inr (some (6, c))), .inl (5 : Int32)]) (rest := []) rfl rfl rfl (Nat.le_of_ble_eq_true rfl) h (fun x7 mu8 la9 h => ?_)
        exact Ev.ret rfl rfl ⟨_, _, _, rfl, rfl, h⟩
    · have h := h.2 hc
      dsimp only
      refine Ev.steps 1 (ip' := 10) (ls' := [some (.inr (.inr (some (6, c)))), some (.inl a0), some (.inl a1), some (.inr (.inr (some (3, x1))))]) (st' := [.inl (-1 : Int32)]) (M' := mem E mu2 la3) rfl ?_
      exact Ev.ret rfl rfl ⟨_, _, _, rfl, rfl, h⟩
set_option maxRecDepth 100000 in
/-- AnnCups.lay(III)I -/
theorem vc_X6_lay {E : mEv} {d : Nat} {c : Nat} (a0 : Int32) (a1 : Int32) (a2 : Int32) {mu : fMu} {la : fLa} {Q : Int32 → fMu → fLa → Prop} (h : FnR E d mi_96 [.inr (.inr (some (6, c))), .inl a0] mu la 3 (fun mu2 la3 => Q (-1 : Int32) mu2 la3) (fun x1 mu2 la3 => (0 ≤ (mu2 3 x1 0) → (FnI E d mi_28 [.inr (.inr (some (3, x1))), .inl a1] mu2 la3 (fun x4 mu5 la6 => (¬ x4 = 0 → (vp_in a1 40 ∧ (∀ mu7 : fMu, mu7 = up3 mu5 6 c 11 (mu5 21 x1 a1.toNatClampNeg) → (vp_in a1 40 ∧ ∀ mu8 : fMu, mu8 = up3 mu7 21 x1 a1.toNatClampNeg a2 → (Q (1 : Int32) mu8 la6))))) ∧ (¬ (¬ x4 = 0) → (FnI E d mi_95 [.inr (.inr (some (6, c))), .inl (2 : Int32)] mu5 la6 (fun x9 mu10 la11 => Q x9 mu10 la11)))))) ∧ (¬ (0 ≤ (mu2 3 x1 0)) → (FnI E d mi_95 [.inr (.inr (some (6, c))), .inl (1 : Int32)] mu2 la3 (fun x12 mu13 la14 => Q x12 mu13 la14))))) : FnI E (d + 1) mi_51 [.inr (.inr (some (6, c))), .inl a0, .inl a1, .inl a2] mu la Q := by
  unfold FnI
  show Ev E (d + 1) mi_51 0 [some (.inr (.inr (some (6, c)))), some (.inl a0), some (.inl a1), some (.inl a2), none] [] (mem E mu la) (qI E Q)
  refine Ev.steps 2 (ip' := 2) (ls' := [some (.inr (.inr (some (6, c)))), some (.inl a0), some (.inl a1), some (.inl a2), none]) (st' := [.inl a0, .inr (.inr (some (6, c)))]) (M' := mem E mu la) rfl ?_
  refine Ev.cr 3 (J := mi_96) (as := [.inr (.inr (some (6, c))), .inl a0]) (rest := []) rfl rfl rfl (Nat.le_of_ble_eq_true rfl) h (fun mu2 la3 h => ?_) (fun x1 mu2 la3 h => ?_)
  · refine Ev.steps 4 (ip' := 7) (ls' := [some (.inr (.inr (some (6, c)))), some (.inl a0), some (.inl a1), some (.inl a2), some (.inr (.inr none))]) (st' := [.inl (-1 : Int32)]) (M' := mem E mu2 la3) rfl ?_
    exact Ev.ret rfl rfl ⟨_, _, _, rfl, rfl, h⟩
  · refine Ev.steps 5 (ip' := 10) (ls' := [some (.inr (.inr (some (6, c)))), some (.inl a0), some (.inl a1), some (.inl a2), some (.inr (.inr (some (3, x1))))]) (st' := [.inl (mu2 3 x1 0)]) (M' := mem E mu2 la3) rfl ?_
    refine Ev.br (c := 0 ≤ (mu2 3 x1 0)) (s1 := (15, [some (.inr (.inr (some (6, c)))), some (.inl a0), some (.inl a1), some (.inl a2), some (.inr (.inr (some (3, x1))))], [], mem E mu2 la3)) (s2 := (11, [some (.inr (.inr (some (6, c)))), some (.inl a0), some (.inl a1), some (.inl a2), some (.inr (.inr (some (3, x1))))], [], mem E mu2 la3)) rfl rfl rfl rfl (fun hc => ?_) (fun hc => ?_)
    · have h := h.1 hc
      dsimp only
      refine Ev.steps 2 (ip' := 17) (ls' := [some (.inr (.inr (some (6, c)))), some (.inl a0), some (.inl a1), some (.inl a2), some (.inr (.inr (some (3, x1))))]) (st' := [.inl a1, .inr (.inr (some (3, x1)))]) (M' := mem E mu2 la3) rfl ?_
      refine Ev.ci (J := mi_28) (as := [.inr (.inr (some (3, x1))), .inl a1]) (rest := []) rfl rfl rfl (Nat.le_of_ble_eq_true rfl) h (fun x4 mu5 la6 h => ?_)
      refine Ev.br (c := ¬ x4 = 0) (s1 := (23, [some (.inr (.inr (some (6, c)))), some (.inl a0), some (.inl a1), some (.inl a2), some (.inr (.inr (some (3, x1))))], [], mem E mu5 la6)) (s2 := (19, [some (.inr (.inr (some (6, c)))), some (.inl a0), some (.inl a1), some (.inl a2), some (.inr (.inr (some (3, x1))))], [], mem E mu5 la6)) rfl rfl rfl rfl (fun hc => ?_) (fun hc => ?_)
      · have h := h.1 hc
        dsimp only
        refine Ev.steps 4 (ip' := 27) (ls' := [some (.inr (.inr (some (6, c)))), some (.inl a0), some (.inl a1), some (.inl a2), some (.inr (.inr (some (3, x1))))]) (st' := [.inl a1, .inr (.inr (some (21, x1))), .inr (.inr (some (6, c)))]) (M' := mem E mu5 la6) rfl ?_
        refine Ev.ial rfl rfl (by decide) h.1 ?_
        have h := h.2
        refine Ev.steps 1 (ip' := 29) (ls' := [some (.inr (.inr (some (6, c)))), some (.inl a0), some (.inl a1), some (.inl a2), some (.inr (.inr (some (3, x1))))]) (st' := []) (M' := mem E (up3 mu5 6 c 11 (mu5 21 x1 a1.toNatClampNeg)) la6) rfl ?_
        generalize hgmu7 : up3 mu5 6 c 11 (mu5 21 x1 a1.toNatClampNeg) = mu7
        have h := h mu7 hgmu7.symm
        refine Ev.steps 4 (ip' := 33) (ls' := [some (.inr (.inr (some (6, c)))), some (.inl a0), some (.inl a1), some (.inl a2), some (.inr (.inr (some (3, x1))))]) (st' := [.inl a2, .inl a1, .inr (.inr (some (21, x1)))]) (M' := mem E mu7 la6) rfl ?_
        refine Ev.ias rfl rfl h.1 ?_
        have h := h.2
        generalize hgmu8 : up3 mu7 21 x1 a1.toNatClampNeg a2 = mu8
        have h := h mu8 hgmu8.symm
        refine Ev.steps 1 (ip' := 35) (ls' := [some (.inr (.inr (some (6, c)))), some (.inl a0), some (.inl a1), some (.inl a2), some (.inr (.inr (some (3, x1))))]) (st' := [.inl (1 : Int32)]) (M' := mem E mu8 la6) rfl ?_
        exact Ev.ret rfl rfl ⟨_, _, _, rfl, rfl, h⟩
      · have h := h.2 hc
        dsimp only
        refine Ev.steps 2 (ip' := 21) (ls' := [some (.inr (.inr (some (6, c)))), some (.inl a0), some (.inl a1), some (.inl a2), some (.inr (.inr (some (3, x1))))]) (st' := [.inl (2 : Int32), .inr (.inr (some (6, c)))]) (M' := mem E mu5 la6) rfl ?_
        refine Ev.ci (J := mi_95) (as := [.inr (.inr (some (6, c))), .inl (2 : Int32)]) (rest := []) rfl rfl rfl (Nat.le_of_ble_eq_true rfl) h (fun x9 mu10 la11 h => ?_)
        exact Ev.ret rfl rfl ⟨_, _, _, rfl, rfl, h⟩
    · have h := h.2 hc
      dsimp only
      refine Ev.steps 2 (ip' := 13) (ls' := [some (.inr (.inr (some (6, c)))), some (.inl a0), some (.inl a1), some (.inl a2), some (.inr (.inr (some (3, x1))))]) (st' := [.inl (1 : Int32), .inr (.inr (some (6, c)))]) (M' := mem E mu2 la3) rfl ?_
      refine Ev.ci (J := mi_95) (as := [.inr (.inr (some (6, c))), .inl (1 : Int32)]) (rest := []) rfl rfl rfl (Nat.le_of_ble_eq_true rfl) h (fun x12 mu13 la14 h => ?_)
      exact Ev.ret rfl rfl ⟨_, _, _, rfl, rfl, h⟩
set_option maxRecDepth 100000 in
/-- AnnCups.at(II)I -/
theorem vc_X6_at {E : mEv} {d : Nat} {c : Nat} (a0 : Int32) (a1 : Int32) {mu : fMu} {la : fLa} {Q : Int32 → fMu → fLa → Prop} (h : FnR E d mi_96 [.inr (.inr (some (6, c))), .inl a0] mu la 3 (fun mu2 la3 => Q (-1 : Int32) mu2 la3) (fun x1 mu2 la3 => (0 ≤ (mu2 3 x1 0) → (FnI E d mi_28 [.inr (.inr (some (3, x1))), .inl a1] mu2 la3 (fun x4 mu5 la6 => (¬ x4 = 0 → (vp_in a1 40 ∧ (∀ mu7 : fMu, mu7 = up3 mu5 6 c 11 (mu5 21 x1 a1.toNatClampNeg) → (Q (1 : Int32) mu7 la6)))) ∧ (¬ (¬ x4 = 0) → (FnI E d mi_95 [.inr (.inr (some (6, c))), .inl (2 : Int32)] mu5 la6 (fun x8 mu9 la10 => Q x8 mu9 la10)))))) ∧ (¬ (0 ≤ (mu2 3 x1 0)) → (FnI E d mi_95 [.inr (.inr (some (6, c))), .inl (1 : Int32)] mu2 la3 (fun x11 mu12 la13 => Q x11 mu12 la13))))) : FnI E (d + 1) mi_52 [.inr (.inr (some (6, c))), .inl a0, .inl a1] mu la Q := by
  unfold FnI
  show Ev E (d + 1) mi_52 0 [some (.inr (.inr (some (6, c)))), some (.inl a0), some (.inl a1), none] [] (mem E mu la) (qI E Q)
  refine Ev.steps 2 (ip' := 2) (ls' := [some (.inr (.inr (some (6, c)))), some (.inl a0), some (.inl a1), none]) (st' := [.inl a0, .inr (.inr (some (6, c)))]) (M' := mem E mu la) rfl ?_
  refine Ev.cr 3 (J := mi_96) (as := [.inr (.inr (some (6, c))), .inl a0]) (rest := []) rfl rfl rfl (Nat.le_of_ble_eq_true rfl) h (fun mu2 la3 h => ?_) (fun x1 mu2 la3 h => ?_)
  · refine Ev.steps 4 (ip' := 7) (ls' := [some (.inr (.inr (some (6, c)))), some (.inl a0), some (.inl a1), some (.inr (.inr none))]) (st' := [.inl (-1 : Int32)]) (M' := mem E mu2 la3) rfl ?_
    exact Ev.ret rfl rfl ⟨_, _, _, rfl, rfl, h⟩
  · refine Ev.steps 5 (ip' := 10) (ls' := [some (.inr (.inr (some (6, c)))), some (.inl a0), some (.inl a1), some (.inr (.inr (some (3, x1))))]) (st' := [.inl (mu2 3 x1 0)]) (M' := mem E mu2 la3) rfl ?_
    refine Ev.br (c := 0 ≤ (mu2 3 x1 0)) (s1 := (15, [some (.inr (.inr (some (6, c)))), some (.inl a0), some (.inl a1), some (.inr (.inr (some (3, x1))))], [], mem E mu2 la3)) (s2 := (11, [some (.inr (.inr (some (6, c)))), some (.inl a0), some (.inl a1), some (.inr (.inr (some (3, x1))))], [], mem E mu2 la3)) rfl rfl rfl rfl (fun hc => ?_) (fun hc => ?_)
    · have h := h.1 hc
      dsimp only
      refine Ev.steps 2 (ip' := 17) (ls' := [some (.inr (.inr (some (6, c)))), some (.inl a0), some (.inl a1), some (.inr (.inr (some (3, x1))))]) (st' := [.inl a1, .inr (.inr (some (3, x1)))]) (M' := mem E mu2 la3) rfl ?_
      refine Ev.ci (J := mi_28) (as := [.inr (.inr (some (3, x1))), .inl a1]) (rest := []) rfl rfl rfl (Nat.le_of_ble_eq_true rfl) h (fun x4 mu5 la6 h => ?_)
      refine Ev.br (c := ¬ x4 = 0) (s1 := (23, [some (.inr (.inr (some (6, c)))), some (.inl a0), some (.inl a1), some (.inr (.inr (some (3, x1))))], [], mem E mu5 la6)) (s2 := (19, [some (.inr (.inr (some (6, c)))), some (.inl a0), some (.inl a1), some (.inr (.inr (some (3, x1))))], [], mem E mu5 la6)) rfl rfl rfl rfl (fun hc => ?_) (fun hc => ?_)
      · have h := h.1 hc
        dsimp only
        refine Ev.steps 4 (ip' := 27) (ls' := [some (.inr (.inr (some (6, c)))), some (.inl a0), some (.inl a1), some (.inr (.inr (some (3, x1))))]) (st' := [.inl a1, .inr (.inr (some (21, x1))), .inr (.inr (some (6, c)))]) (M' := mem E mu5 la6) rfl ?_
        refine Ev.ial rfl rfl (by decide) h.1 ?_
        have h := h.2
        refine Ev.steps 1 (ip' := 29) (ls' := [some (.inr (.inr (some (6, c)))), some (.inl a0), some (.inl a1), some (.inr (.inr (some (3, x1))))]) (st' := []) (M' := mem E (up3 mu5 6 c 11 (mu5 21 x1 a1.toNatClampNeg)) la6) rfl ?_
        generalize hgmu7 : up3 mu5 6 c 11 (mu5 21 x1 a1.toNatClampNeg) = mu7
        have h := h mu7 hgmu7.symm
        refine Ev.steps 1 (ip' := 30) (ls' := [some (.inr (.inr (some (6, c)))), some (.inl a0), some (.inl a1), some (.inr (.inr (some (3, x1))))]) (st' := [.inl (1 : Int32)]) (M' := mem E mu7 la6) rfl ?_
        exact Ev.ret rfl rfl ⟨_, _, _, rfl, rfl, h⟩
      · have h := h.2 hc
        dsimp only
        refine Ev.steps 2 (ip' := 21) (ls' := [some (.inr (.inr (some (6, c)))), some (.inl a0), some (.inl a1), some (.inr (.inr (some (3, x1))))]) (st' := [.inl (2 : Int32), .inr (.inr (some (6, c)))]) (M' := mem E mu5 la6) rfl ?_
        refine Ev.ci (J := mi_95) (as := [.inr (.inr (some (6, c))), .inl (2 : Int32)]) (rest := []) rfl rfl rfl (Nat.le_of_ble_eq_true rfl) h (fun x8 mu9 la10 h => ?_)
        exact Ev.ret rfl rfl ⟨_, _, _, rfl, rfl, h⟩
    · have h := h.2 hc
      dsimp only
      refine Ev.steps 2 (ip' := 13) (ls' := [some (.inr (.inr (some (6, c)))), some (.inl a0), some (.inl a1), some (.inr (.inr (some (3, x1))))]) (st' := [.inl (1 : Int32), .inr (.inr (some (6, c)))]) (M' := mem E mu2 la3) rfl ?_
      refine Ev.ci (J := mi_95) (as := [.inr (.inr (some (6, c))), .inl (1 : Int32)]) (rest := []) rfl rfl rfl (Nat.le_of_ble_eq_true rfl) h (fun x11 mu12 la13 h => ?_)
      exact Ev.ret rfl rfl ⟨_, _, _, rfl, rfl, h⟩
set_option maxRecDepth 100000 in
/-- AnnCups.tear(I)I -/
theorem vc_X6_tear {E : mEv} {d : Nat} {c : Nat} (a0 : Int32) {mu : fMu} {la : fLa} {Q : Int32 → fMu → fLa → Prop} (h : FnR E d mi_96 [.inr (.inr (some (6, c))), .inl a0] mu la 3 (fun mu2 la3 => Q (-1 : Int32) mu2 la3) (fun x1 mu2 la3 => (0 ≤ (mu2 3 x1 0) → (∀ mu4 : fMu, mu4 = up3 mu2 3 x1 0 (-1 : Int32) → (Q (1 : Int32) mu4 la3))) ∧ (¬ (0 ≤ (mu2 3 x1 0)) → (FnI E d mi_95 [.inr (.inr (some (6, c))), .inl (1 : Int32)] mu2 la3 (fun x5 mu6 la7 => Q x5 mu6 la7))))) : FnI E (d + 1) mi_53 [.inr (.inr (some (6, c))), .inl a0] mu la Q := by
  unfold FnI
  show Ev E (d + 1) mi_53 0 [some (.inr (.inr (some (6, c)))), some (.inl a0), none] [] (mem E mu la) (qI E Q)
  refine Ev.steps 2 (ip' := 2) (ls' := [some (.inr (.inr (some (6, c)))), some (.inl a0), none]) (st' := [.inl a0, .inr (.inr (some (6, c)))]) (M' := mem E mu la) rfl ?_
  refine Ev.cr 3 (J := mi_96) (as := [.inr (.inr (some (6, c))), .inl a0]) (rest := []) rfl rfl rfl (Nat.le_of_ble_eq_true rfl) h (fun mu2 la3 h => ?_) (fun x1 mu2 la3 h => ?_)
  · refine Ev.steps 4 (ip' := 7) (ls' := [some (.inr (.inr (some (6, c)))), some (.inl a0), some (.inr (.inr none))]) (st' := [.inl (-1 : Int32)]) (M' := mem E mu2 la3) rfl ?_
    exact Ev.ret rfl rfl ⟨_, _, _, rfl, rfl, h⟩
  · refine Ev.steps 5 (ip' := 10) (ls' := [some (.inr (.inr (some (6, c)))), some (.inl a0), some (.inr (.inr (some (3, x1))))]) (st' := [.inl (mu2 3 x1 0)]) (M' := mem E mu2 la3) rfl ?_
    refine Ev.br (c := 0 ≤ (mu2 3 x1 0)) (s1 := (15, [some (.inr (.inr (some (6, c)))), some (.inl a0), some (.inr (.inr (some (3, x1))))], [], mem E mu2 la3)) (s2 := (11, [some (.inr (.inr (some (6, c)))), some (.inl a0), some (.inr (.inr (some (3, x1))))], [], mem E mu2 la3)) rfl rfl rfl rfl (fun hc => ?_) (fun hc => ?_)
    · have h := h.1 hc
      dsimp only
      refine Ev.steps 3 (ip' := 18) (ls' := [some (.inr (.inr (some (6, c)))), some (.inl a0), some (.inr (.inr (some (3, x1))))]) (st' := []) (M' := mem E (up3 mu2 3 x1 0 (-1 : Int32)) la3) rfl ?_
      generalize hgmu4 : up3 mu2 3 x1 0 (-1 : Int32) = mu4
      have h := h mu4 hgmu4.symm
      refine Ev.steps 1 (ip' := 19) (ls' := [some (.inr (.inr (some (6, c)))), some (.inl a0), some (.inr (.inr (some (3, x1))))]) (st' := [.inl (1 : Int32)]) (M' := mem E mu4 la3) rfl ?_
      exact Ev.ret rfl rfl ⟨_, _, _, rfl, rfl, h⟩
    · have h := h.2 hc
      dsimp only
      refine Ev.steps 2 (ip' := 13) (ls' := [some (.inr (.inr (some (6, c)))), some (.inl a0), some (.inr (.inr (some (3, x1))))]) (st' := [.inl (1 : Int32), .inr (.inr (some (6, c)))]) (M' := mem E mu2 la3) rfl ?_
      refine Ev.ci (J := mi_95) (as := [.inr (.inr (some (6, c))), .inl (1 : Int32)]) (rest := []) rfl rfl rfl (Nat.le_of_ble_eq_true rfl) h (fun x5 mu6 la7 h => ?_)
      exact Ev.ret rfl rfl ⟨_, _, _, rfl, rfl, h⟩
set_option maxRecDepth 100000 in
/-- AnnCups.copy(IIIII)I -/
theorem vc_X6_copy {E : mEv} {d : Nat} {c : Nat} (a0 : Int32) (a1 : Int32) (a2 : Int32) (a3 : Int32) (a4 : Int32) {mu : fMu} {la : fLa} {Q : Int32 → fMu → fLa → Prop} (h : FnR E d mi_96 [.inr (.inr (some (6, c))), .inl a0] mu la 3 (fun mu2 la3 => FnR E d mi_96 [.inr (.inr (some (6, c))), .inl a2] mu2 la3 3 (fun mu5 la6 => Q (-1 : Int32) mu5 la6) (fun x4 mu5 la6 => Q (-1 : Int32) mu5 la6)) (fun x1 mu2 la3 => FnR E d mi_96 [.inr (.inr (some (6, c))), .inl a2] mu2 la3 3 (fun mu8 la9 => Q (-1 : Int32) mu8 la9) (fun x7 mu8 la9 => (0 ≤ a4 → (((mu8 3 x1 0) < 0 → (FnI E d mi_95 [.inr (.inr (some (6, c))), .inl (1 : Int32)] mu8 la9 (fun x10 mu11 la12 => Q x10 mu11 la12))) ∧ (¬ ((mu8 3 x1 0) < 0) → ((0 ≤ (mu8 3 x7 0) → (FnI E d mi_29 [.inr (.inr (some (3, x1))), .inl a1, .inl a4] mu8 la9 (fun x13 mu14 la15 => (x13 = 0 → (FnI E d mi_95 [.inr (.inr (some (6, c))), .inl (2 : Int32)] mu14 la15 (fun x16 mu17 la18 => Q x16 mu17 la18))) ∧ (¬ (x13 = 0) → (FnI E d mi_29 [.inr (.inr (some (3, x7))), .inl a3, .inl a4] mu14 la15 (fun x19 mu20 la21 => (¬ x19 = 0 → ((¬ (a4 < 0 ∨ a1 < 0 ∨ a3 < 0 ∨ 40 < a1.toNatClampNeg + a4.toNatClampNeg ∨ 40 < a3.toNatClampNeg + a4.toNatClampNeg)) ∧ ∀ mu22 : fMu, mu22 = up2 mu20 21 x7 (va_cpy (mu20 21 x1) (mu20 21 x7) a1.toNatClampNeg a3.toNatClampNeg a4.toNatClampNeg) → (Q (1 : Int32) mu22 la21))) ∧ (¬ (¬ x19 = 0) → (FnI E d mi_95 [.inr (.inr (some (6, c))), .inl (2 : Int32)] mu20 la21 (fun x23 mu24 la25 => Q x23 mu24 la25))))))))) ∧ (¬ (0 ≤ (mu8 3 x7 0)) → (FnI E d mi_95 [.inr (.inr (some (6, c))), .inl (1 : Int32)] mu8 la9 (fun x26 mu27 la28 => Q x26 mu27 la28))))))) ∧ (¬ (0 ≤ a4) → (FnI E d mi_95 [.inr (.inr (some (6, c))), .inl (5 : Int32)] mu8 la9 (fun x29 mu30 la31 => Q x29 mu30 la31)))))) : FnI E (d + 1) mi_54 [.inr (.inr (some (6, c))), .inl a0, .inl a1, .inl a2, .inl a3, .inl a4] mu la Q := by
  unfold FnI
  show Ev E (d + 1) mi_54 0 [some (.inr (.inr (some (6, c)))), some (.inl a0), some (.inl a1), some (.inl a2), some (.inl a3), some (.inl a4), none, none] [] (mem E mu la) (qI E Q)
  refine Ev.steps 2 (ip' := 2) (ls' := [some (.inr (.inr (some (6, c)))), some (.inl a0), some (.inl a1), some (.inl a2), some (.inl a3), some (.inl a4), none, none]) (st' := [.inl a0, .inr (.inr (some (6, c)))]) (M' := mem E mu la) rfl ?_
  refine Ev.cr 3 (J := mi_96) (as := [.inr (.inr (some (6, c))), .inl a0]) (rest := []) rfl rfl rfl (Nat.le_of_ble_eq_true rfl) h (fun mu2 la3 h => ?_) (fun x1 mu2 la3 h => ?_)
  · refine Ev.steps 3 (ip' := 6) (ls' := [some (.inr (.inr (some (6, c)))), some (.inl a0), some (.inl a1), some (.inl a2), some (.inl a3), some (.inl a4), some (.inr (.inr none)), none]) (st' := [.inl a2, .inr (.inr (some (6, c)))]) (M' := mem E mu2 la3) rfl ?_
    refine Ev.cr 3 (J := mi_96) (as := [.inr (.inr (some (6, c))), .inl a2]) (rest := []) rfl rfl rfl (Nat.le_of_ble_eq_true rfl) h (fun mu5 la6 h => ?_) (fun x4 mu5 la6 h => ?_)
    · refine Ev.steps 4 (ip' := 13) (ls' := [some (.inr (.inr (some (6, c)))), some (.inl a0), some (.inl a1), some (.inl a2), some (.inl a3), some (.inl a4), some (.inr (.inr none)), some (.inr (.inr none))]) (st' := [.inl (-1 : Int32)]) (M' := mem E mu5 la6) rfl ?_
      exact Ev.ret rfl rfl ⟨_, _, _, rfl, rfl, h⟩
    · refine Ev.steps 4 (ip' := 13) (ls' := [some (.inr (.inr (some (6, c)))), some (.inl a0), some (.inl a1), some (.inl a2), some (.inl a3), some (.inl a4), some (.inr (.inr none)), some (.inr (.inr (some (3, x4))))]) (st' := [.inl (-1 : Int32)]) (M' := mem E mu5 la6) rfl ?_
      exact Ev.ret rfl rfl ⟨_, _, _, rfl, rfl, h⟩
  · refine Ev.steps 3 (ip' := 6) (ls' := [some (.inr (.inr (some (6, c)))), some (.inl a0), some (.inl a1), some (.inl a2), some (.inl a3), some (.inl a4), some (.inr (.inr (some (3, x1)))), none]) (st' := [.inl a2, .inr (.inr (some (6, c)))]) (M' := mem E mu2 la3) rfl ?_
    refine Ev.cr 3 (J := mi_96) (as := [.inr (.inr (some (6, c))), .inl a2]) (rest := []) rfl rfl rfl (Nat.le_of_ble_eq_true rfl) h (fun mu8 la9 h => ?_) (fun x7 mu8 la9 h => ?_)
    · refine Ev.steps 6 (ip' := 13) (ls' := [some (.inr (.inr (some (6, c)))), some (.inl a0), some (.inl a1), some (.inl a2), some (.inl a3), some (.inl a4), some (.inr (.inr (some (3, x1)))), some (.inr (.inr none))]) (st' := [.inl (-1 : Int32)]) (M' := mem E mu8 la9) rfl ?_
      exact Ev.ret rfl rfl ⟨_, _, _, rfl, rfl, h⟩
    · refine Ev.steps 6 (ip' := 15) (ls' := [some (.inr (.inr (some (6, c)))), some (.inl a0), some (.inl a1), some (.inl a2), some (.inl a3), some (.inl a4), some (.inr (.inr (some (3, x1)))), some (.inr (.inr (some (3, x7))))]) (st' := [.inl a4]) (M' := mem E mu8 la9) rfl ?_
      refine Ev.br (c := 0 ≤ a4) (s1 := (20, [some (.inr (.inr (some (6, c)))), some (.inl a0), some (.inl a1), some (.inl a2), some (.inl a3), some (.inl a4), some (.inr (.inr (some (3, x1)))), some (.inr (.inr (some (3, x7))))], [], mem E mu8 la9)) (s2 := (16, [some (.inr (.inr (some (6, c)))), some (.inl a0), some (.inl a1), some (.inl a2), some (.inl a3), some (.inl a4), some (.inr (.inr (some (3, x1)))), some (.inr (.inr (some (3, x7))))], [], mem E mu8 la9)) rfl rfl rfl rfl (fun hc => ?_) (fun hc => ?_)
      · have h := h.1 hc
        dsimp only
        refine Ev.steps 2 (ip' := 22) (ls' := [some (.inr (.inr (some (6, c)))), some (.inl a0), some (.inl a1), some (.inl a2), some (.inl a3), some (.inl a4), some (.inr (.inr (some (3, x1)))), some (.inr (.inr (some (3, x7))))]) (st' := [.inl (mu8 3 x1 0)]) (M' := mem E mu8 la9) rfl ?_
        refine Ev.br (c := (mu8 3 x1 0) < 0) (s1 := (26, [some (.inr (.inr (some (6, c)))), some (.inl a0), some (.inl a1), some (.inl a2), some (.inl a3), some (.inl a4), some (.inr (.inr (some (3, x1)))), some (.inr (.inr (some (3, x7))))], [], mem E mu8 la9)) (s2 := (23, [some (.inr (.inr (some (6, c)))), some (.inl a0), some (.inl a1), some (.inl a2), some (.inl a3), some (.inl a4), some (.inr (.inr (some (3, x1)))), some (.inr (.inr (some (3, x7))))], [], mem E mu8 la9)) rfl rfl rfl rfl (fun hc => ?_) (fun hc => ?_)
        · have h := h.1 hc
          dsimp only
          refine Ev.steps 2 (ip' := 28) (ls' := [some (.inr (.inr (some (6, c)))), some (.inl a0), some (.inl a1), some (.inl a2), some (.inl a3), some (.inl a4), some (.inr (.inr (some (3, x1)))), some (.inr (.inr (some (3, x7))))]) (st' := [.inl (1 : Int32), .inr (.inr (some (6, c)))]) (M' := mem E mu8 la9) rfl ?_
          refine Ev.ci (J := mi_95) (as := [.inr (.inr (some (6, c))), .inl (1 : Int32)]) (rest := []) rfl rfl rfl (Nat.le_of_ble_eq_true rfl) h (fun x10 mu11 la12 h => ?_)
          exact Ev.ret rfl rfl ⟨_, _, _, rfl, rfl, h⟩
        · have h := h.2 hc
          dsimp only
          refine Ev.steps 2 (ip' := 25) (ls' := [some (.inr (.inr (some (6, c)))), some (.inl a0), some (.inl a1), some (.inl a2), some (.inl a3), some (.inl a4), some (.inr (.inr (some (3, x1)))), some (.inr (.inr (some (3, x7))))]) (st' := [.inl (mu8 3 x7 0)]) (M' := mem E mu8 la9) rfl ?_
          refine Ev.br (c := 0 ≤ (mu8 3 x7 0)) (s1 := (30, [some (.inr (.inr (some (6, c)))), some (.inl a0), some (.inl a1), some (.inl a2), some (.inl a3), some (.inl a4), some (.inr (.inr (some (3, x1)))), some (.inr (.inr (some (3, x7))))], [], mem E mu8 la9)) (s2 := (26, [some (.inr (.inr (some (6, c)))), some (.inl a0), some (.inl a1), some (.inl a2), some (.inl a3), some (.inl a4), some (.inr (.inr (some (3, x1)))), some (.inr (.inr (some (3, x7))))], [], mem E mu8 la9)) rfl rfl rfl rfl (fun hc => ?_) (fun hc => ?_)
          · have h := h.1 hc
            dsimp only
            refine Ev.steps 3 (ip' := 33) (ls' := [some (.inr (.inr (some (6, c)))), some (.inl a0), some (.inl a1), some (.inl a2), some (.inl a3), some (.inl a4), some (.inr (.inr (some (3, x1)))), some (.inr (.inr (some (3, x7))))]) (st' := [.inl a4, .inl a1, .inr (.inr (some (3, x1)))]) (M' := mem E mu8 la9) rfl ?_
            refine Ev.ci (J := mi_29) (as := [.inr (.inr (some (3, x1))), .inl a1, .inl a4]) (rest := []) rfl rfl rfl (Nat.le_of_ble_eq_true rfl) h (fun x13 mu14 la15 h => ?_)
            refine Ev.br (c := x13 = 0) (s1 := (40, [some (.inr (.inr (some (6, c)))), some (.inl a0), some (.inl a1), some (.inl a2), some (.inl a3), some (.inl a4), some (.inr (.inr (some (3, x1)))), some (.inr (.inr (some (3, x7))))], [], mem E mu14 la15)) (s2 := (35, [some (.inr (.inr (some (6, c)))), some (.inl a0), some (.inl a1), some (.inl a2), some (.inl a3), some (.inl a4), some (.inr (.inr (some (3, x1)))), some (.inr (.inr (some (3, x7))))], [], mem E mu14 la15)) rfl rfl rfl rfl (fun hc => ?_) (fun hc => ?_)
            · have h := h.1 hc
              dsimp only
              refine Ev.steps 2 (ip' := 42) (ls' := [some (.inr (.inr (some (6, c)))), some (.inl a0), some (.inl a1), some (.inl a2), some (.inl a3), some (.inl a4), some (.inr (.inr (some (3, x1)))), some (.inr (.inr (some (3, x7))))]) (st' := [.inl (2 : Int32), .inr (.inr (some (6, c)))]) (M' := mem E mu14 la15) rfl ?_
              refine Ev.ci (J := mi_95) (as := [.inr (.inr (some (6, c))), .inl (2 : Int32)]) (rest := []) rfl rfl rfl (Nat.le_of_ble_eq_true rfl) h (fun x16 mu17 la18 h => ?_)
              exact Ev.ret rfl rfl ⟨_, _, _, rfl, rfl, h⟩
            · have h := h.2 hc
              dsimp only
              refine Ev.steps 3 (ip' := 38) (ls' := [some (.inr (.inr (some (6, c)))), some (.inl a0), some (.inl a1), some (.inl a2), some (.inl a3), some (.inl a4), some (.inr (.inr (some (3, x1)))), some (.inr (.inr (some (3, x7))))]) (st' := [.inl a4, .inl a3, .inr (.inr (some (3, x7)))]) (M' := mem E mu14 la15) rfl ?_
              refine Ev.ci (J := mi_29) (as := [.inr (.inr (some (3, x7))), .inl a3, .inl a4]) (rest := []) rfl rfl rfl (Nat.le_of_ble_eq_true rfl) h (fun x19 mu20 la21 h => ?_)
              refine Ev.br (c := ¬ x19 = 0) (s1 := (44, [some (.inr (.inr (some (6, c)))), some (.inl a0), some (.inl a1), some (.inl a2), some (.inl a3), some (.inl a4), some (.inr (.inr (some (3, x1)))), some (.inr (.inr (some (3, x7))))], [], mem E mu20 la21)) (s2 := (40, [some (.inr (.inr (some (6, c)))), some (.inl a0), some (.inl a1), some (.inl a2), some (.inl a3), some (.inl a4), some (.inr (.inr (some (3, x1)))), some (.inr (.inr (some (3, x7))))], [], mem E mu20 la21)) rfl rfl rfl rfl (fun hc => ?_) (fun hc => ?_)
              · have h := h.1 hc
                dsimp only
                refine Ev.steps 7 (ip' := 51) (ls' := [some (.inr (.inr (some (6, c)))), some (.inl a0), some (.inl a1), some (.inl a2), some (.inl a3), some (.inl a4), some (.inr (.inr (some (3, x1)))), some (.inr (.inr (some (3, x7))))]) (st' := [.inl a4, .inl a3, .inr (.inr (some (21, x7))), .inl a1, .inr (.inr (some (21, x1)))]) (M' := mem E mu20 la21) rfl ?_
                refine Ev.cpy rfl rfl rfl h.1 ?_
                have h := h.2
                generalize hgmu22 : up2 mu20 21 x7 (va_cpy (mu20 21 x1) (mu20 21 x7) a1.toNatClampNeg a3.toNatClampNeg a4.toNatClampNeg) = mu22
                have h := h mu22 hgmu22.symm
                refine Ev.steps 1 (ip' := 53) (ls' := [some (.inr (.inr (some (6, c)))), some (.inl a0), some (.inl a1), some (.inl a2), some (.inl a3), some (.inl a4), some (.inr (.inr (some (3, x1)))), some (.inr (.inr (some (3, x7))))]) (st' := [.inl (1 : Int32)]) (M' := mem E mu22 la21) rfl ?_
                exact Ev.ret rfl rfl ⟨_, _, _, rfl, rfl, h⟩
              · have h := h.2 hc
                dsimp only
                refine Ev.steps 2 (ip' := 42) (ls' := [some (.inr (.inr (some (6, c)))), some (.inl a0), some (.inl a1), some (.inl a2), some (.inl a3), some (.inl a4), some (.inr (.inr (some (3, x1)))), some (.inr (.inr (some (3, x7))))]) (st' := [.inl (2 : Int32), .inr (.inr (some (6, c)))]) (M' := mem E mu20 la21) rfl ?_
                refine Ev.ci (J := mi_95) (as := [.inr (.inr (some (6, c))), .inl (2 : Int32)]) (rest := []) rfl rfl rfl (Nat.le_of_ble_eq_true rfl) h (fun x23 mu24 la25 h => ?_)
                exact Ev.ret rfl rfl ⟨_, _, _, rfl, rfl, h⟩
          · have h := h.2 hc
            dsimp only
            refine Ev.steps 2 (ip' := 28) (ls' := [some (.inr (.inr (some (6, c)))), some (.inl a0), some (.inl a1), some (.inl a2), some (.inl a3), some (.inl a4), some (.inr (.inr (some (3, x1)))), some (.inr (.inr (some (3, x7))))]) (st' := [.inl (1 : Int32), .inr (.inr (some (6, c)))]) (M' := mem E mu8 la9) rfl ?_
            refine Ev.ci (J := mi_95) (as := [.inr (.inr (some (6, c))), .inl (1 : Int32)]) (rest := []) rfl rfl rfl (Nat.le_of_ble_eq_true rfl) h (fun x26 mu27 la28 h => ?_)
            exact Ev.ret rfl rfl ⟨_, _, _, rfl, rfl, h⟩
      · have h := h.2 hc
        dsimp only
        refine Ev.steps 2 (ip' := 18) (ls' := [some (.inr (.inr (some (6, c)))), some (.inl a0), some (.inl a1), some (.inl a2), some (.inl a3), some (.inl a4), some (.inr (.inr (some (3, x1)))), some (.inr (.inr (some (3, x7))))]) (st' := [.inl (5 : Int32), .inr (.inr (some (6, c)))]) (M' := mem E mu8 la9) rfl ?_
        refine Ev.ci (J := mi_95) (as := [.inr (.inr (some (6, c))), .inl (5 : Int32)]) (rest := []) rfl rfl rfl (Nat.le_of_ble_eq_true rfl) h (fun x29 mu30 la31 h => ?_)
        exact Ev.ret rfl rfl ⟨_, _, _, rfl, rfl, h⟩
set_option maxRecDepth 100000 in
/-- AnnCups.mean(I)I -/
theorem vc_X6_mean {E : mEv} {d : Nat} {c : Nat} (a0 : Int32) {mu : fMu} {la : fLa} {Q : Int32 → fMu → fLa → Prop} (h : FnR E d mi_96 [.inr (.inr (some (6, c))), .inl a0] mu la 3 (fun mu2 la3 => Q (-1 : Int32) mu2 la3) (fun x1 mu2 la3 => (0 ≤ (mu2 3 x1 0) → ((¬ (mu2 3 x1 0) = 0 → (Ev E (d + 1) mi_55 26 [some (.inr (.inr (some (6, c)))), none, some (.inr (.inr (some (3, x1)))), some (.inr (.inl (0 : Int64))), none, some (.inl (0 : Int32))] [] (mem E mu2 la3) (qI E Q))) ∧ (¬ (¬ (mu2 3 x1 0) = 0) → (FnI E d mi_95 [.inr (.inr (some (6, c))), .inl (4 : Int32)] mu2 la3 (fun x4 mu5 la6 => Q x4 mu5 la6))))) ∧ (¬ (0 ≤ (mu2 3 x1 0)) → (FnI E d mi_95 [.inr (.inr (some (6, c))), .inl (1 : Int32)] mu2 la3 (fun x7 mu8 la9 => Q x7 mu8 la9))))) : FnI E (d + 1) mi_55 [.inr (.inr (some (6, c))), .inl a0] mu la Q := by
  unfold FnI
  show Ev E (d + 1) mi_55 0 [some (.inr (.inr (some (6, c)))), some (.inl a0), none, none, none, none] [] (mem E mu la) (qI E Q)
  refine Ev.steps 2 (ip' := 2) (ls' := [some (.inr (.inr (some (6, c)))), some (.inl a0), none, none, none, none]) (st' := [.inl a0, .inr (.inr (some (6, c)))]) (M' := mem E mu la) rfl ?_
  refine Ev.cr 3 (J := mi_96) (as := [.inr (.inr (some (6, c))), .inl a0]) (rest := []) rfl rfl rfl (Nat.le_of_ble_eq_true rfl) h (fun mu2 la3 h => ?_) (fun x1 mu2 la3 h => ?_)
  · refine Ev.steps 4 (ip' := 7) (ls' := [some (.inr (.inr (some (6, c)))), some (.inl a0), some (.inr (.inr none)), none, none, none]) (st' := [.inl (-1 : Int32)]) (M' := mem E mu2 la3) rfl ?_
    exact Ev.ret rfl rfl ⟨_, _, _, rfl, rfl, h⟩
  · refine Ev.steps 5 (ip' := 10) (ls' := [some (.inr (.inr (some (6, c)))), some (.inl a0), some (.inr (.inr (some (3, x1)))), none, none, none]) (st' := [.inl (mu2 3 x1 0)]) (M' := mem E mu2 la3) rfl ?_
    refine Ev.br (c := 0 ≤ (mu2 3 x1 0)) (s1 := (15, [some (.inr (.inr (some (6, c)))), some (.inl a0), some (.inr (.inr (some (3, x1)))), none, none, none], [], mem E mu2 la3)) (s2 := (11, [some (.inr (.inr (some (6, c)))), some (.inl a0), some (.inr (.inr (some (3, x1)))), none, none, none], [], mem E mu2 la3)) rfl rfl rfl rfl (fun hc => ?_) (fun hc => ?_)
    · have h := h.1 hc
      dsimp only
      refine Ev.steps 2 (ip' := 17) (ls' := [some (.inr (.inr (some (6, c)))), some (.inl a0), some (.inr (.inr (some (3, x1)))), none, none, none]) (st' := [.inl (mu2 3 x1 0)]) (M' := mem E mu2 la3) rfl ?_
      refine Ev.br (c := ¬ (mu2 3 x1 0) = 0) (s1 := (22, [some (.inr (.inr (some (6, c)))), some (.inl a0), some (.inr (.inr (some (3, x1)))), none, none, none], [], mem E mu2 la3)) (s2 := (18, [some (.inr (.inr (some (6, c)))), some (.inl a0), some (.inr (.inr (some (3, x1)))), none, none, none], [], mem E mu2 la3)) rfl rfl rfl rfl (fun hc => ?_) (fun hc => ?_)
      · have h := h.1 hc
        dsimp only
        refine Ev.steps 4 (ip' := 26) (ls' := [some (.inr (.inr (some (6, c)))), some (.inl a0), some (.inr (.inr (some (3, x1)))), some (.inr (.inl (0 : Int64))), none, some (.inl (0 : Int32))]) (st' := []) (M' := mem E mu2 la3) rfl ?_
        refine Ev.drop (ls := [some (.inr (.inr (some (6, c)))), none, some (.inr (.inr (some (3, x1)))), some (.inr (.inl (0 : Int64))), none, some (.inl (0 : Int32))]) ⟨Or.inr rfl, Or.inl rfl, Or.inr rfl, Or.inr rfl, Or.inr rfl, Or.inr rfl, trivial⟩ ?_
        exact h
      · have h := h.2 hc
        dsimp only
        refine Ev.steps 2 (ip' := 20) (ls' := [some (.inr (.inr (some (6, c)))), some (.inl a0), some (.inr (.inr (some (3, x1)))), none, none, none]) (st' := [.inl (4 : Int32), .inr (.inr (some (6, c)))]) (M' := mem E mu2 la3) rfl ?_
        refine Ev.ci (J := mi_95) (as := [.inr (.inr (some (6, c))), .inl (4 : Int32)]) (rest := []) rfl rfl rfl (Nat.le_of_ble_eq_true rfl) h (fun x4 mu5 la6 h => ?_)
        exact Ev.ret rfl rfl ⟨_, _, _, rfl, rfl, h⟩
    · have h := h.2 hc
      dsimp only
      refine Ev.steps 2 (ip' := 13) (ls' := [some (.inr (.inr (some (6, c)))), some (.inl a0), some (.inr (.inr (some (3, x1)))), none, none, none]) (st' := [.inl (1 : Int32), .inr (.inr (some (6, c)))]) (M' := mem E mu2 la3) rfl ?_
      refine Ev.ci (J := mi_95) (as := [.inr (.inr (some (6, c))), .inl (1 : Int32)]) (rest := []) rfl rfl rfl (Nat.le_of_ble_eq_true rfl) h (fun x7 mu8 la9 h => ?_)
      exact Ev.ret rfl rfl ⟨_, _, _, rfl, rfl, h⟩
set_option maxRecDepth 100000 in
theorem vc_X6_mean_26 {E : mEv} {d : Nat}  (v0 : Nat) (v2 : Nat) (v3 : Int64) (v5 : Int32) {mu : fMu} {la : fLa} {Q : Int32 → fMu → fLa → Prop} (h : ((mu 3 v2 0) ≤ v5 → ((¬ ((mu 3 v2 0).toInt64) = 0) ∧ (∀ mu10 : fMu, mu10 = up3 mu 6 v0 11 ((v3 / ((mu 3 v2 0).toInt64)).toInt32) → (Q (1 : Int32) mu10 la)))) ∧ (¬ ((mu 3 v2 0) ≤ v5) → (vp_in v5 40 ∧ (Ev E (d + 1) mi_55 26 [some (.inr (.inr (some (6, v0)))), none, some (.inr (.inr (some (3, v2)))), some (.inr (.inl (v3 + ((mu 21 v2 v5.toNatClampNeg).toInt64)))), none, some (.inl (v5 + (1 : Int32)))] [] (mem E mu la) (qI E Q))))) : Ev E (d + 1) mi_55 26 [some (.inr (.inr (some (6, v0)))), none, some (.inr (.inr (some (3, v2)))), some (.inr (.inl v3)), none, some (.inl v5)] [] (mem E mu la) (qI E Q) := by
  refine Ev.steps 3 (ip' := 29) (ls' := [some (.inr (.inr (some (6, v0)))), none, some (.inr (.inr (some (3, v2)))), some (.inr (.inl v3)), none, some (.inl v5)]) (st' := [.inl (mu 3 v2 0), .inl v5]) (M' := mem E mu la) rfl ?_
  refine Ev.br (c := (mu 3 v2 0) ≤ v5) (s1 := (40, [some (.inr (.inr (some (6, v0)))), none, some (.inr (.inr (some (3, v2)))), some (.inr (.inl v3)), none, some (.inl v5)], [], mem E mu la)) (s2 := (30, [some (.inr (.inr (some (6, v0)))), none, some (.inr (.inr (some (3, v2)))), some (.inr (.inl v3)), none, some (.inl v5)], [], mem E mu la)) rfl rfl rfl rfl (fun hc => ?_) (fun hc => ?_)
  · have h := h.1 hc
    dsimp only
    refine Ev.steps 5 (ip' := 45) (ls' := [some (.inr (.inr (some (6, v0)))), none, some (.inr (.inr (some (3, v2)))), some (.inr (.inl v3)), none, some (.inl v5)]) (st' := [.inr (.inl ((mu 3 v2 0).toInt64)), .inr (.inl v3), .inr (.inr (some (6, v0)))]) (M' := mem E mu la) rfl ?_
    refine Ev.want (c := ((mu 3 v2 0).toInt64) = 0) (s2 := (46, [some (.inr (.inr (some (6, v0)))), none, some (.inr (.inr (some (3, v2)))), some (.inr (.inl v3)), none, some (.inl v5)], [.inr (.inl (v3 / ((mu 3 v2 0).toInt64))), .inr (.inr (some (6, v0)))], mem E mu la)) rfl rfl rfl rfl h.1 ?_
    have h := h.2
    refine Ev.steps 2 (ip' := 48) (ls' := [some (.inr (.inr (some (6, v0)))), none, some (.inr (.inr (some (3, v2)))), some (.inr (.inl v3)), none, some (.inl v5)]) (st' := []) (M' := mem E (up3 mu 6 v0 11 ((v3 / ((mu 3 v2 0).toInt64)).toInt32)) la) rfl ?_
    generalize hgmu10 : up3 mu 6 v0 11 ((v3 / ((mu 3 v2 0).toInt64)).toInt32) = mu10
    have h := h mu10 hgmu10.symm
    refine Ev.steps 1 (ip' := 49) (ls' := [some (.inr (.inr (some (6, v0)))), none, some (.inr (.inr (some (3, v2)))), some (.inr (.inl v3)), none, some (.inl v5)]) (st' := [.inl (1 : Int32)]) (M' := mem E mu10 la) rfl ?_
    exact Ev.ret rfl rfl ⟨_, _, _, rfl, rfl, h⟩
  · have h := h.2 hc
    dsimp only
    refine Ev.steps 4 (ip' := 34) (ls' := [some (.inr (.inr (some (6, v0)))), none, some (.inr (.inr (some (3, v2)))), some (.inr (.inl v3)), none, some (.inl v5)]) (st' := [.inl v5, .inr (.inr (some (21, v2))), .inr (.inl v3)]) (M' := mem E mu la) rfl ?_
    refine Ev.ial rfl rfl (by decide) h.1 ?_
    have h := h.2
    refine Ev.steps 5 (ip' := 26) (ls' := [some (.inr (.inr (some (6, v0)))), none, some (.inr (.inr (some (3, v2)))), some (.inr (.inl (v3 + ((mu 21 v2 v5.toNatClampNeg).toInt64)))), none, some (.inl (v5 + (1 : Int32)))]) (st' := []) (M' := mem E mu la) rfl ?_
    exact h
set_option maxRecDepth 100000 in
/-- AnnCups.text(II)I -/
theorem vc_X6_text {E : mEv} {d : Nat} {c : Nat} (a0 : Int32) (a1 : Int32) {mu : fMu} {la : fLa} {Q : Int32 → fMu → fLa → Prop} (h : FnR E d mi_97 [.inr (.inr (some (6, c))), .inl a0] mu la 5 (fun mu2 la3 => Q (-1 : Int32) mu2 la3) (fun x1 mu2 la3 => (a1 ≤ (60 : Int32) → ((0 ≤ a1 → (∀ mu4 : fMu, mu4 = up3 mu2 5 x1 0 a1 → (FnV E d mi_229 [.inr (.inr (some (24, x1))), .inl (32 : Int32)] mu4 la3 (fun mu6 la7 => Q a1 mu6 la7)))) ∧ (¬ (0 ≤ a1) → (FnI E d mi_95 [.inr (.inr (some (6, c))), .inl (5 : Int32)] mu2 la3 (fun x8 mu9 la10 => Q x8 mu9 la10))))) ∧ (¬ (a1 ≤ (60 : Int32)) → (Q (-1 : Int32) mu2 la3)))) : FnI E (d + 1) mi_56 [.inr (.inr (some (6, c))), .inl a0, .inl a1] mu la Q := by
  unfold FnI
  show Ev E (d + 1) mi_56 0 [some (.inr (.inr (some (6, c)))), some (.inl a0), some (.inl a1), none] [] (mem E mu la) (qI E Q)
  refine Ev.steps 2 (ip' := 2) (ls' := [some (.inr (.inr (some (6, c)))), some (.inl a0), some (.inl a1), none]) (st' := [.inl a0, .inr (.inr (some (6, c)))]) (M' := mem E mu la) rfl ?_
  refine Ev.cr 5 (J := mi_97) (as := [.inr (.inr (some (6, c))), .inl a0]) (rest := []) rfl rfl rfl (Nat.le_of_ble_eq_true rfl) h (fun mu2 la3 h => ?_) (fun x1 mu2 la3 h => ?_)
  · refine Ev.steps 4 (ip' := 10) (ls' := [some (.inr (.inr (some (6, c)))), some (.inl a0), some (.inl a1), some (.inr (.inr none))]) (st' := [.inl (-1 : Int32)]) (M' := mem E mu2 la3) rfl ?_
    exact Ev.ret rfl rfl ⟨_, _, _, rfl, rfl, h⟩
  · refine Ev.steps 5 (ip' := 8) (ls' := [some (.inr (.inr (some (6, c)))), some (.inl a0), some (.inl a1), some (.inr (.inr (some (5, x1))))]) (st' := [.inl (60 : Int32), .inl a1]) (M' := mem E mu2 la3) rfl ?_
    refine Ev.br (c := a1 ≤ (60 : Int32)) (s1 := (11, [some (.inr (.inr (some (6, c)))), some (.inl a0), some (.inl a1), some (.inr (.inr (some (5, x1))))], [], mem E mu2 la3)) (s2 := (9, [some (.inr (.inr (some (6, c)))), some (.inl a0), some (.inl a1), some (.inr (.inr (some (5, x1))))], [], mem E mu2 la3)) rfl rfl rfl rfl (fun hc => ?_) (fun hc => ?_)
    · have h := h.1 hc
      dsimp only
      refine Ev.steps 1 (ip' := 12) (ls' := [some (.inr (.inr (some (6, c)))), some (.inl a0), some (.inl a1), some (.inr (.inr (some (5, x1))))]) (st' := [.inl a1]) (M' := mem E mu2 la3) rfl ?_
      refine Ev.br (c := 0 ≤ a1) (s1 := (17, [some (.inr (.inr (some (6, c)))), some (.inl a0), some (.inl a1), some (.inr (.inr (some (5, x1))))], [], mem E mu2 la3)) (s2 := (13, [some (.inr (.inr (some (6, c)))), some (.inl a0), some (.inl a1), some (.inr (.inr (some (5, x1))))], [], mem E mu2 la3)) rfl rfl rfl rfl (fun hc => ?_) (fun hc => ?_)
      · have h := h.1 hc
        dsimp only
        refine Ev.steps 3 (ip' := 20) (ls' := [some (.inr (.inr (some (6, c)))), some (.inl a0), some (.inl a1), some (.inr (.inr (some (5, x1))))]) (st' := []) (M' := mem E (up3 mu2 5 x1 0 a1) la3) rfl ?_
        generalize hgmu4 : up3 mu2 5 x1 0 a1 = mu4
        have h := h mu4 hgmu4.symm
        refine Ev.steps 3 (ip' := 23) (ls' := [some (.inr (.inr (some (6, c)))), some (.inl a0), some (.inl a1), some (.inr (.inr (some (5, x1))))]) (st' := [.inl (32 : Int32), .inr (.inr (some (24, x1)))]) (M' := mem E mu4 la3) rfl ?_
        refine Ev.cv (J := mi_229) (as := [.inr (.inr (some (24, x1))), .inl (32 : Int32)]) (rest := []) rfl rfl rfl (Nat.le_of_ble_eq_true rfl) h (fun mu6 la7 h => ?_)
        refine Ev.steps 1 (ip' := 25) (ls' := [some (.inr (.inr (some (6, c)))), some (.inl a0), some (.inl a1), some (.inr (.inr (some (5, x1))))]) (st' := [.inl a1]) (M' := mem E mu6 la7) rfl ?_
        exact Ev.ret rfl rfl ⟨_, _, _, rfl, rfl, h⟩
      · have h := h.2 hc
        dsimp only
        refine Ev.steps 2 (ip' := 15) (ls' := [some (.inr (.inr (some (6, c)))), some (.inl a0), some (.inl a1), some (.inr (.inr (some (5, x1))))]) (st' := [.inl (5 : Int32), .inr (.inr (some (6, c)))]) (M' := mem E mu2 la3) rfl ?_
        refine Ev.ci (J := mi_95) (as := [.inr (.inr (some (6, c))), .inl (5 : Int32)]) (rest := []) rfl rfl rfl (Nat.le_of_ble_eq_true rfl) h (fun x8 mu9 la10 h => ?_)
        exact Ev.ret rfl rfl ⟨_, _, _, rfl, rfl, h⟩
    · have h := h.2 hc
      dsimp only
      refine Ev.steps 1 (ip' := 10) (ls' := [some (.inr (.inr (some (6, c)))), some (.inl a0), some (.inl a1), some (.inr (.inr (some (5, x1))))]) (st' := [.inl (-1 : Int32)]) (M' := mem E mu2 la3) rfl ?_
      exact Ev.ret rfl rfl ⟨_, _, _, rfl, rfl, h⟩
set_option maxRecDepth 100000 in
/-- AnnCups.put(III)I -/
theorem vc_X6_put {E : mEv} {d : Nat} {c : Nat} (a0 : Int32) (a1 : Int32) (a2 : Int32) {mu : fMu} {la : fLa} {Q : Int32 → fMu → fLa → Prop} (h : FnR E d mi_97 [.inr (.inr (some (6, c))), .inl a0] mu la 5 (fun mu2 la3 => Q (-1 : Int32) mu2 la3) (fun x1 mu2 la3 => (0 ≤ (mu2 5 x1 0) → (FnI E d mi_44 [.inr (.inr (some (5, x1))), .inl a1] mu2 la3 (fun x4 mu5 la6 => (¬ x4 = 0 → (vp_in a1 60 ∧ (vp_in a1 60 ∧ ∀ mu7 : fMu, mu7 = up3 mu5 24 x1 a1.toNatClampNeg (a2.toInt8.toInt32).toInt8.toInt32 → (Q ((mu5 24 x1 a1.toNatClampNeg) + (1000 : Int32)) mu7 la6)))) ∧ (¬ (¬ x4 = 0) → (FnI E d mi_95 [.inr (.inr (some (6, c))), .inl (2 : Int32)] mu5 la6 (fun x8 mu9 la10 => Q x8 mu9 la10)))))) ∧ (¬ (0 ≤ (mu2 5 x1 0)) → (FnI E d mi_95 [.inr (.inr (some (6, c))), .inl (1 : Int32)] mu2 la3 (fun x11 mu12 la13 => Q x11 mu12 la13))))) : FnI E (d + 1) mi_57 [.inr (.inr (some (6, c))), .inl a0, .inl a1, .inl a2] mu la Q := by
  unfold FnI
  show Ev E (d + 1) mi_57 0 [some (.inr (.inr (some (6, c)))), some (.inl a0), some (.inl a1), some (.inl a2), none, none] [] (mem E mu la) (qI E Q)
  refine Ev.steps 2 (ip' := 2) (ls' := [some (.inr (.inr (some (6, c)))), some (.inl a0), some (.inl a1), some (.inl a2), none, none]) (st' := [.inl a0, .inr (.inr (some (6, c)))]) (M' := mem E mu la) rfl ?_
  refine Ev.cr 5 (J := mi_97) (as := [.inr (.inr (some (6, c))), .inl a0]) (rest := []) rfl rfl rfl (Nat.le_of_ble_eq_true rfl) h (fun mu2 la3 h => ?_) (fun x1 mu2 la3 h => ?_)
  · refine Ev.steps 4 (ip' := 7) (ls' := [some (.inr (.inr (some (6, c)))), some (.inl a0), some (.inl a1), some (.inl a2), some (.inr (.inr none)), none]) (st' := [.inl (-1 : Int32)]) (M' := mem E mu2 la3) rfl ?_
    exact Ev.ret rfl rfl ⟨_, _, _, rfl, rfl, h⟩
  · refine Ev.steps 5 (ip' := 10) (ls' := [some (.inr (.inr (some (6, c)))), some (.inl a0), some (.inl a1), some (.inl a2), some (.inr (.inr (some (5, x1)))), none]) (st' := [.inl (mu2 5 x1 0)]) (M' := mem E mu2 la3) rfl ?_
    refine Ev.br (c := 0 ≤ (mu2 5 x1 0)) (s1 := (15, [some (.inr (.inr (some (6, c)))), some (.inl a0), some (.inl a1), some (.inl a2), some (.inr (.inr (some (5, x1)))), none], [], mem E mu2 la3)) (s2 := (11, [some (.inr (.inr (some (6, c)))), some (.inl a0), some (.inl a1), some (.inl a2), some (.inr (.inr (some (5, x1)))), none], [], mem E mu2 la3)) rfl rfl rfl rfl (fun hc => ?_) (fun hc => ?_)
    · have h := h.1 hc
      dsimp only
      refine Ev.steps 2 (ip' := 17) (ls' := [some (.inr (.inr (some (6, c)))), some (.inl a0), some (.inl a1), some (.inl a2), some (.inr (.inr (some (5, x1)))), none]) (st' := [.inl a1, .inr (.inr (some (5, x1)))]) (M' := mem E mu2 la3) rfl ?_
      refine Ev.ci (J := mi_44) (as := [.inr (.inr (some (5, x1))), .inl a1]) (rest := []) rfl rfl rfl (Nat.le_of_ble_eq_true rfl) h (fun x4 mu5 la6 h => ?_)
      refine Ev.br (c := ¬ x4 = 0) (s1 := (23, [some (.inr (.inr (some (6, c)))), some (.inl a0), some (.inl a1), some (.inl a2), some (.inr (.inr (some (5, x1)))), none], [], mem E mu5 la6)) (s2 := (19, [some (.inr (.inr (some (6, c)))), some (.inl a0), some (.inl a1), some (.inl a2), some (.inr (.inr (some (5, x1)))), none], [], mem E mu5 la6)) rfl rfl rfl rfl (fun hc => ?_) (fun hc => ?_)
      · have h := h.1 hc
        dsimp only
        refine Ev.steps 3 (ip' := 26) (ls' := [some (.inr (.inr (some (6, c)))), some (.inl a0), some (.inl a1), some (.inl a2), some (.inr (.inr (some (5, x1)))), none]) (st' := [.inl a1, .inr (.inr (some (24, x1)))]) (M' := mem E mu5 la6) rfl ?_
        refine Ev.bal rfl (Or.inl rfl) h.1 ?_
        have h := h.2
        refine Ev.steps 6 (ip' := 33) (ls' := [some (.inr (.inr (some (6, c)))), some (.inl a0), some (.inl a1), some (.inl a2), some (.inr (.inr (some (5, x1)))), some (.inl (mu5 24 x1 a1.toNatClampNeg))]) (st' := [.inl a2.toInt8.toInt32, .inl a1, .inr (.inr (some (24, x1)))]) (M' := mem E mu5 la6) rfl ?_
        refine Ev.bas rfl rfl h.1 ?_
        have h := h.2
        generalize hgmu7 : up3 mu5 24 x1 a1.toNatClampNeg (a2.toInt8.toInt32).toInt8.toInt32 = mu7
        have h := h mu7 hgmu7.symm
        refine Ev.steps 3 (ip' := 37) (ls' := [some (.inr (.inr (some (6, c)))), some (.inl a0), some (.inl a1), some (.inl a2), some (.inr (.inr (some (5, x1)))), some (.inl (mu5 24 x1 a1.toNatClampNeg))]) (st' := [.inl ((mu5 24 x1 a1.toNatClampNeg) + (1000 : Int32))]) (M' := mem E mu7 la6) rfl ?_
        exact Ev.ret rfl rfl ⟨_, _, _, rfl, rfl, h⟩
      · have h := h.2 hc
        dsimp only
        refine Ev.steps 2 (ip' := 21) (ls' := [some (.inr (.inr (some (6, c)))), some (.inl a0), some (.inl a1), some (.inl a2), some (.inr (.inr (some (5, x1)))), none]) (st' := [.inl (2 : Int32), .inr (.inr (some (6, c)))]) (M' := mem E mu5 la6) rfl ?_
        refine Ev.ci (J := mi_95) (as := [.inr (.inr (some (6, c))), .inl (2 : Int32)]) (rest := []) rfl rfl rfl (Nat.le_of_ble_eq_true rfl) h (fun x8 mu9 la10 h => ?_)
        exact Ev.ret rfl rfl ⟨_, _, _, rfl, rfl, h⟩
    · have h := h.2 hc
      dsimp only
      refine Ev.steps 2 (ip' := 13) (ls' := [some (.inr (.inr (some (6, c)))), some (.inl a0), some (.inl a1), some (.inl a2), some (.inr (.inr (some (5, x1)))), none]) (st' := [.inl (1 : Int32), .inr (.inr (some (6, c)))]) (M' := mem E mu2 la3) rfl ?_
      refine Ev.ci (J := mi_95) (as := [.inr (.inr (some (6, c))), .inl (1 : Int32)]) (rest := []) rfl rfl rfl (Nat.le_of_ble_eq_true rfl) h (fun x11 mu12 la13 h => ?_)
      exact Ev.ret rfl rfl ⟨_, _, _, rfl, rfl, h⟩
set_option maxRecDepth 100000 in
/-- AnnCups.fault(I)I -/
theorem vc_X6_fault {E : mEv} {d : Nat} {c : Nat} (a0 : Int32) {mu : fMu} {la : fLa} {Q : Int32 → fMu → fLa → Prop} (h : FnR E d mi_97 [.inr (.inr (some (6, c))), .inl a0] mu la 5 (fun mu2 la3 => Q (-1 : Int32) mu2 la3) (fun x1 mu2 la3 => (0 ≤ (mu2 5 x1 0) → (FnI E d mi_109 [.inr (.inr (some (5, x1))), .inr (.inr (some (1, 1)))] mu2 la3 (fun x4 mu5 la6 => Q x4 mu5 la6))) ∧ (¬ (0 ≤ (mu2 5 x1 0)) → (FnI E d mi_95 [.inr (.inr (some (6, c))), .inl (1 : Int32)] mu2 la3 (fun x7 mu8 la9 => Q x7 mu8 la9))))) : FnI E (d + 1) mi_58 [.inr (.inr (some (6, c))), .inl a0] mu la Q := by
  unfold FnI
  show Ev E (d + 1) mi_58 0 [some (.inr (.inr (some (6, c)))), some (.inl a0), none] [] (mem E mu la) (qI E Q)
  refine Ev.steps 2 (ip' := 2) (ls' := [some (.inr (.inr (some (6, c)))), some (.inl a0), none]) (st' := [.inl a0, .inr (.inr (some (6, c)))]) (M' := mem E mu la) rfl ?_
  refine Ev.cr 5 (J := mi_97) (as := [.inr (.inr (some (6, c))), .inl a0]) (rest := []) rfl rfl rfl (Nat.le_of_ble_eq_true rfl) h (fun mu2 la3 h => ?_) (fun x1 mu2 la3 h => ?_)
  · refine Ev.steps 4 (ip' := 7) (ls' := [some (.inr (.inr (some (6, c)))), some (.inl a0), some (.inr (.inr none))]) (st' := [.inl (-1 : Int32)]) (M' := mem E mu2 la3) rfl ?_
    exact Ev.ret rfl rfl ⟨_, _, _, rfl, rfl, h⟩
  · refine Ev.steps 5 (ip' := 10) (ls' := [some (.inr (.inr (some (6, c)))), some (.inl a0), some (.inr (.inr (some (5, x1))))]) (st' := [.inl (mu2 5 x1 0)]) (M' := mem E mu2 la3) rfl ?_
    refine Ev.br (c := 0 ≤ (mu2 5 x1 0)) (s1 := (15, [some (.inr (.inr (some (6, c)))), some (.inl a0), some (.inr (.inr (some (5, x1))))], [], mem E mu2 la3)) (s2 := (11, [some (.inr (.inr (some (6, c)))), some (.inl a0), some (.inr (.inr (some (5, x1))))], [], mem E mu2 la3)) rfl rfl rfl rfl (fun hc => ?_) (fun hc => ?_)
    · have h := h.1 hc
      dsimp only
      refine Ev.steps 3 (ip' := 18) (ls' := [some (.inr (.inr (some (6, c)))), some (.inl a0), some (.inr (.inr (some (5, x1))))]) (st' := [.inr (.inr (some (1, 1))), .inr (.inr (some (5, x1)))]) (M' := mem E mu2 la3) rfl ?_
      refine Ev.ci (J := mi_109) (as := [.inr (.inr (some (5, x1))), .inr (.inr (some (1, 1)))]) (rest := []) rfl rfl rfl (Nat.le_of_ble_eq_true rfl) h (fun x4 mu5 la6 h => ?_)
      exact Ev.ret rfl rfl ⟨_, _, _, rfl, rfl, h⟩
    · have h := h.2 hc
      dsimp only
      refine Ev.steps 2 (ip' := 13) (ls' := [some (.inr (.inr (some (6, c)))), some (.inl a0), some (.inr (.inr (some (5, x1))))]) (st' := [.inl (1 : Int32), .inr (.inr (some (6, c)))]) (M' := mem E mu2 la3) rfl ?_
      refine Ev.ci (J := mi_95) (as := [.inr (.inr (some (6, c))), .inl (1 : Int32)]) (rest := []) rfl rfl rfl (Nat.le_of_ble_eq_true rfl) h (fun x7 mu8 la9 h => ?_)
      exact Ev.ret rfl rfl ⟨_, _, _, rfl, rfl, h⟩
set_option maxRecDepth 100000 in
/-- AnnCups.bar(I)I -/
theorem vc_X6_bar {E : mEv} {d : Nat} {c : Nat} (a0 : Int32) {mu : fMu} {la : fLa} {Q : Int32 → fMu → fLa → Prop} (h : FnR E d mi_97 [.inr (.inr (some (6, c))), .inl a0] mu la 5 (fun mu2 la3 => Q (-1 : Int32) mu2 la3) (fun x1 mu2 la3 => (0 ≤ (mu2 5 x1 0) → (FnI E d mi_109 [.inr (.inr (some (5, x1))), .inr (.inr (some (1, 1)))] mu2 la3 (fun x4 mu5 la6 => (x4 = (-9 : Int32) → (FnV E d mi_22 [.inr (.inr (some (1, 0))), .inr (.inr (some (1, 1)))] mu5 la6 (fun mu8 la9 => FnV E d mi_1 [.inr (.inr (some (0, 0)))] mu8 la9 (fun mu11 la12 => ∀ mu13 : fMu, mu13 = up3 mu11 2 0 0 (0 : Int32) → (Ev E (d + 1) mi_59 37 [some (.inr (.inr (some (6, c)))), none, none, some (.inl (0 : Int32))] [] (mem E mu13 la12) (qI E Q)))))) ∧ (¬ (x4 = (-9 : Int32)) → (Q (-4 : Int32) mu5 la6))))) ∧ (¬ (0 ≤ (mu2 5 x1 0)) → (FnI E d mi_95 [.inr (.inr (some (6, c))), .inl (1 : Int32)] mu2 la3 (fun x14 mu15 la16 => Q x14 mu15 la16))))) : FnI E (d + 1) mi_59 [.inr (.inr (some (6, c))), .inl a0] mu la Q := by
  unfold FnI
  show Ev E (d + 1) mi_59 0 [some (.inr (.inr (some (6, c)))), some (.inl a0), none, none] [] (mem E mu la) (qI E Q)
  refine Ev.steps 2 (ip' := 2) (ls' := [some (.inr (.inr (some (6, c)))), some (.inl a0), none, none]) (st' := [.inl a0, .inr (.inr (some (6, c)))]) (M' := mem E mu la) rfl ?_
  refine Ev.cr 5 (J := mi_97) (as := [.inr (.inr (some (6, c))), .inl a0]) (rest := []) rfl rfl rfl (Nat.le_of_ble_eq_true rfl) h (fun mu2 la3 h => ?_) (fun x1 mu2 la3 h => ?_)
  · refine Ev.steps 4 (ip' := 7) (ls' := [some (.inr (.inr (some (6, c)))), some (.inl a0), some (.inr (.inr none)), none]) (st' := [.inl (-1 : Int32)]) (M' := mem E mu2 la3) rfl ?_
    exact Ev.ret rfl rfl ⟨_, _, _, rfl, rfl, h⟩
  · refine Ev.steps 5 (ip' := 10) (ls' := [some (.inr (.inr (some (6, c)))), some (.inl a0), some (.inr (.inr (some (5, x1)))), none]) (st' := [.inl (mu2 5 x1 0)]) (M' := mem E mu2 la3) rfl ?_
    refine Ev.br (c := 0 ≤ (mu2 5 x1 0)) (s1 := (15, [some (.inr (.inr (some (6, c)))), some (.inl a0), some (.inr (.inr (some (5, x1)))), none], [], mem E mu2 la3)) (s2 := (11, [some (.inr (.inr (some (6, c)))), some (.inl a0), some (.inr (.inr (some (5, x1)))), none], [], mem E mu2 la3)) rfl rfl rfl rfl (fun hc => ?_) (fun hc => ?_)
    · have h := h.1 hc
      dsimp only
      refine Ev.steps 3 (ip' := 18) (ls' := [some (.inr (.inr (some (6, c)))), some (.inl a0), some (.inr (.inr (some (5, x1)))), none]) (st' := [.inr (.inr (some (1, 1))), .inr (.inr (some (5, x1)))]) (M' := mem E mu2 la3) rfl ?_
      refine Ev.ci (J := mi_109) (as := [.inr (.inr (some (5, x1))), .inr (.inr (some (1, 1)))]) (rest := []) rfl rfl rfl (Nat.le_of_ble_eq_true rfl) h (fun x4 mu5 la6 h => ?_)
      refine Ev.steps 1 (ip' := 20) (ls' := [some (.inr (.inr (some (6, c)))), some (.inl a0), some (.inr (.inr (some (5, x1)))), none]) (st' := [.inl (-9 : Int32), .inl x4]) (M' := mem E mu5 la6) rfl ?_
      refine Ev.br (c := x4 = (-9 : Int32)) (s1 := (23, [some (.inr (.inr (some (6, c)))), some (.inl a0), some (.inr (.inr (some (5, x1)))), none], [], mem E mu5 la6)) (s2 := (21, [some (.inr (.inr (some (6, c)))), some (.inl a0), some (.inr (.inr (some (5, x1)))), none], [], mem E mu5 la6)) rfl rfl rfl rfl (fun hc => ?_) (fun hc => ?_)
      · have h := h.1 hc
        dsimp only
        refine Ev.steps 4 (ip' := 27) (ls' := [some (.inr (.inr (some (6, c)))), some (.inl a0), some (.inr (.inr (some (5, x1)))), none]) (st' := [.inr (.inr (some (1, 1))), .inr (.inr (some (1, 0)))]) (M' := mem E mu5 la6) rfl ?_
        refine Ev.cv (J := mi_22) (as := [.inr (.inr (some (1, 0))), .inr (.inr (some (1, 1)))]) (rest := []) rfl rfl rfl (Nat.le_of_ble_eq_true rfl) h (fun mu8 la9 h => ?_)
        refine Ev.steps 2 (ip' := 30) (ls' := [some (.inr (.inr (some (6, c)))), some (.inl a0), some (.inr (.inr (some (5, x1)))), none]) (st' := [.inr (.inr (some (0, 0)))]) (M' := mem E mu8 la9) rfl ?_
        refine Ev.cv (J := mi_1) (as := [.inr (.inr (some (0, 0)))]) (rest := []) rfl rfl rfl (Nat.le_of_ble_eq_true rfl) h (fun mu11 la12 h => ?_)
        refine Ev.steps 4 (ip' := 35) (ls' := [some (.inr (.inr (some (6, c)))), some (.inl a0), some (.inr (.inr (some (5, x1)))), none]) (st' := []) (M' := mem E (up3 mu11 2 0 0 (0 : Int32)) la12) rfl ?_
        generalize hgmu13 : up3 mu11 2 0 0 (0 : Int32) = mu13
        have h := h mu13 hgmu13.symm
        refine Ev.steps 2 (ip' := 37) (ls' := [some (.inr (.inr (some (6, c)))), some (.inl a0), some (.inr (.inr (some (5, x1)))), some (.inl (0 : Int32))]) (st' := []) (M' := mem E mu13 la12) rfl ?_
        refine Ev.drop (ls := [some (.inr (.inr (some (6, c)))), none, none, some (.inl (0 : Int32))]) ⟨Or.inr rfl, Or.inl rfl, Or.inl rfl, Or.inr rfl, trivial⟩ ?_
        exact h
      · have h := h.2 hc
        dsimp only
        refine Ev.steps 1 (ip' := 22) (ls' := [some (.inr (.inr (some (6, c)))), some (.inl a0), some (.inr (.inr (some (5, x1)))), none]) (st' := [.inl (-4 : Int32)]) (M' := mem E mu5 la6) rfl ?_
        exact Ev.ret rfl rfl ⟨_, _, _, rfl, rfl, h⟩
    · have h := h.2 hc
      dsimp only
      refine Ev.steps 2 (ip' := 13) (ls' := [some (.inr (.inr (some (6, c)))), some (.inl a0), some (.inr (.inr (some (5, x1)))), none]) (st' := [.inl (1 : Int32), .inr (.inr (some (6, c)))]) (M' := mem E mu2 la3) rfl ?_
      refine Ev.ci (J := mi_95) (as := [.inr (.inr (some (6, c))), .inl (1 : Int32)]) (rest := []) rfl rfl rfl (Nat.le_of_ble_eq_true rfl) h (fun x14 mu15 la16 h => ?_)
      exact Ev.ret rfl rfl ⟨_, _, _, rfl, rfl, h⟩
set_option maxRecDepth 100000 in
theorem vc_X6_bar_37 {E : mEv} {d : Nat}  (v0 : Nat) (v3 : Int32) {mu : fMu} {la : fLa} {Q : Int32 → fMu → fLa → Prop} (h : ((3 : Int32) ≤ v3 → (Q (mu 1 0 0) mu la)) ∧ (¬ ((3 : Int32) ≤ v3) → (vp_in v3 3 ∧ (∀ mu17 : fMu, mu17 = up3 mu 2 (v3.toNatClampNeg + 1) 0 (-1 : Int32) → (Ev E (d + 1) mi_59 37 [some (.inr (.inr (some (6, v0)))), none, none, some (.inl (v3 + (1 : Int32)))] [] (mem E mu17 la) (qI E Q)))))) : Ev E (d + 1) mi_59 37 [some (.inr (.inr (some (6, v0)))), none, none, some (.inl v3)] [] (mem E mu la) (qI E Q) := by
  refine Ev.steps 2 (ip' := 39) (ls' := [some (.inr (.inr (some (6, v0)))), none, none, some (.inl v3)]) (st' := [.inl (3 : Int32), .inl v3]) (M' := mem E mu la) rfl ?_
  refine Ev.br (c := (3 : Int32) ≤ v3) (s1 := (48, [some (.inr (.inr (some (6, v0)))), none, none, some (.inl v3)], [], mem E mu la)) (s2 := (40, [some (.inr (.inr (some (6, v0)))), none, none, some (.inl v3)], [], mem E mu la)) rfl rfl rfl rfl (fun hc => ?_) (fun hc => ?_)
  · have h := h.1 hc
    dsimp only
    refine Ev.steps 3 (ip' := 51) (ls' := [some (.inr (.inr (some (6, v0)))), none, none, some (.inl v3)]) (st' := [.inl (mu 1 0 0)]) (M' := mem E mu la) rfl ?_
    exact Ev.ret rfl rfl ⟨_, _, _, rfl, rfl, h⟩
  · have h := h.2 hc
    dsimp only
    refine Ev.steps 3 (ip' := 43) (ls' := [some (.inr (.inr (some (6, v0)))), none, none, some (.inl v3)]) (st' := [.inl v3, .inr (.inr (some (27, v0)))]) (M' := mem E mu la) rfl ?_
    refine Ev.aal (r := some (2, v3.toNatClampNeg + 1)) rfl rfl rfl h.1 ?_
    have h := h.2
    refine Ev.steps 2 (ip' := 46) (ls' := [some (.inr (.inr (some (6, v0)))), none, none, some (.inl v3)]) (st' := []) (M' := mem E (up3 mu 2 (v3.toNatClampNeg + 1) 0 (-1 : Int32)) la) rfl ?_
    generalize hgmu17 : up3 mu 2 (v3.toNatClampNeg + 1) 0 (-1 : Int32) = mu17
    have h := h mu17 hgmu17.symm
    refine Ev.steps 2 (ip' := 37) (ls' := [some (.inr (.inr (some (6, v0)))), none, none, some (.inl (v3 + (1 : Int32)))]) (st' := []) (M' := mem E mu17 la) rfl ?_
    exact h
set_option maxRecDepth 100000 in
/-- AnnCups.cup(II)I -/
theorem vc_X6_cup {E : mEv} {d : Nat} {c : Nat} (a0 : Int32) (a1 : Int32) {mu : fMu} {la : fLa} {Q : Int32 → fMu → fLa → Prop} (h : FnI E d mi_14 [.inr (.inr (some (1, 0))), .inl a0] mu la (fun x1 mu2 la3 => (x1 = 0 → (Q (-1 : Int32) mu2 la3)) ∧ (¬ (x1 = 0) → ((a1 < 0 → (Q (-1 : Int32) mu2 la3)) ∧ (¬ (a1 < 0) → ((a1 < (6 : Int32) → (FnI E d mi_112 [.inr (.inr (some (6, c))), .inl a0, .inl a1] mu2 la3 (fun x4 mu5 la6 => ∀ mu7 : fMu, mu7 = up3 mu5 6 c 11 x4 → (Q (1 : Int32) mu7 la6)))) ∧ (¬ (a1 < (6 : Int32)) → (Q (-1 : Int32) mu2 la3)))))))) : FnI E (d + 1) mi_60 [.inr (.inr (some (6, c))), .inl a0, .inl a1] mu la Q := by
  unfold FnI
  show Ev E (d + 1) mi_60 0 [some (.inr (.inr (some (6, c)))), some (.inl a0), some (.inl a1)] [] (mem E mu la) (qI E Q)
  refine Ev.steps 3 (ip' := 3) (ls' := [some (.inr (.inr (some (6, c)))), some (.inl a0), some (.inl a1)]) (st' := [.inl a0, .inr (.inr (some (1, 0)))]) (M' := mem E mu la) rfl ?_
  refine Ev.ci (J := mi_14) (as := [.inr (.inr (some (1, 0))), .inl a0]) (rest := []) rfl rfl rfl (Nat.le_of_ble_eq_true rfl) h (fun x1 mu2 la3 h => ?_)
  refine Ev.br (c := x1 = 0) (s1 := (10, [some (.inr (.inr (some (6, c)))), some (.inl a0), some (.inl a1)], [], mem E mu2 la3)) (s2 := (5, [some (.inr (.inr (some (6, c)))), some (.inl a0), some (.inl a1)], [], mem E mu2 la3)) rfl rfl rfl rfl (fun hc => ?_) (fun hc => ?_)
  · have h := h.1 hc
    dsimp only
    refine Ev.steps 1 (ip' := 11) (ls' := [some (.inr (.inr (some (6, c)))), some (.inl a0), some (.inl a1)]) (st' := [.inl (-1 : Int32)]) (M' := mem E mu2 la3) rfl ?_
    exact Ev.ret rfl rfl ⟨_, _, _, rfl, rfl, h⟩
  · have h := h.2 hc
    dsimp only
    refine Ev.steps 1 (ip' := 6) (ls' := [some (.inr (.inr (some (6, c)))), some (.inl a0), some (.inl a1)]) (st' := [.inl a1]) (M' := mem E mu2 la3) rfl ?_
    refine Ev.br (c := a1 < 0) (s1 := (10, [some (.inr (.inr (some (6, c)))), some (.inl a0), some (.inl a1)], [], mem E mu2 la3)) (s2 := (7, [some (.inr (.inr (some (6, c)))), some (.inl a0), some (.inl a1)], [], mem E mu2 la3)) rfl rfl rfl rfl (fun hc => ?_) (fun hc => ?_)
    · have h := h.1 hc
      dsimp only
      refine Ev.steps 1 (ip' := 11) (ls' := [some (.inr (.inr (some (6, c)))), some (.inl a0), some (.inl a1)]) (st' := [.inl (-1 : Int32)]) (M' := mem E mu2 la3) rfl ?_
      exact Ev.ret rfl rfl ⟨_, _, _, rfl, rfl, h⟩
    · have h := h.2 hc
      dsimp only
      refine Ev.steps 2 (ip' := 9) (ls' := [some (.inr (.inr (some (6, c)))), some (.inl a0), some (.inl a1)]) (st' := [.inl (6 : Int32), .inl a1]) (M' := mem E mu2 la3) rfl ?_
      refine Ev.br (c := a1 < (6 : Int32)) (s1 := (12, [some (.inr (.inr (some (6, c)))), some (.inl a0), some (.inl a1)], [], mem E mu2 la3)) (s2 := (10, [some (.inr (.inr (some (6, c)))), some (.inl a0), some (.inl a1)], [], mem E mu2 la3)) rfl rfl rfl rfl (fun hc => ?_) (fun hc => ?_)
      · have h := h.1 hc
        dsimp only
        refine Ev.steps 4 (ip' := 16) (ls' := [some (.inr (.inr (some (6, c)))), some (.inl a0), some (.inl a1)]) (st' := [.inl a1, .inl a0, .inr (.inr (some (6, c))), .inr (.inr (some (6, c)))]) (M' := mem E mu2 la3) rfl ?_
        refine Ev.ci (J := mi_112) (as := [.inr (.inr (some (6, c))), .inl a0, .inl a1]) (rest := [.inr (.inr (some (6, c)))]) rfl rfl rfl (Nat.le_of_ble_eq_true rfl) h (fun x4 mu5 la6 h => ?_)
        refine Ev.steps 1 (ip' := 18) (ls' := [some (.inr (.inr (some (6, c)))), some (.inl a0), some (.inl a1)]) (st' := []) (M' := mem E (up3 mu5 6 c 11 x4) la6) rfl ?_
        generalize hgmu7 : up3 mu5 6 c 11 x4 = mu7
        have h := h mu7 hgmu7.symm
        refine Ev.steps 1 (ip' := 19) (ls' := [some (.inr (.inr (some (6, c)))), some (.inl a0), some (.inl a1)]) (st' := [.inl (1 : Int32)]) (M' := mem E mu7 la6) rfl ?_
        exact Ev.ret rfl rfl ⟨_, _, _, rfl, rfl, h⟩
      · have h := h.2 hc
        dsimp only
        refine Ev.steps 1 (ip' := 11) (ls' := [some (.inr (.inr (some (6, c)))), some (.inl a0), some (.inl a1)]) (st' := [.inl (-1 : Int32)]) (M' := mem E mu2 la3) rfl ?_
        exact Ev.ret rfl rfl ⟨_, _, _, rfl, rfl, h⟩
