set_option maxRecDepth 100000 in
/-- AnnCups.afterBlanks(LAnnCups$Text;I)I -/
theorem vc_X6_afterBlanks {E : mEv} {d : Nat} (a0 : Nat) (a1 : Int32) {mu : fMu} {la : fLa} {Q : Int32 → fMu → fLa → Prop} (h : Ev E (d + 1) mi_110 0 [some (.inr (.inr (some (5, a0)))), some (.inl a1)] [] (mem E mu la) (qI E Q)) : FnI E (d + 1) mi_110 [.inr (.inr (some (5, a0))), .inl a1] mu la Q := by
  unfold FnI
  show Ev E (d + 1) mi_110 0 [some (.inr (.inr (some (5, a0)))), some (.inl a1)] [] (mem E mu la) (qI E Q)
  exact h
set_option maxRecDepth 100000 in
theorem vc_X6_afterBlanks_0 {E : mEv} {d : Nat}  (v0 : Nat) (v1 : Int32) {mu : fMu} {la : fLa} {Q : Int32 → fMu → fLa → Prop} (h : ((mu 5 v0 0) ≤ v1 → (Q v1 mu la)) ∧ (¬ ((mu 5 v0 0) ≤ v1) → (FnI E d mi_45 [.inr (.inr (some (5, v0))), .inl v1] mu la (fun x1 mu2 la3 => (¬ x1 = (32 : Int32) → (Q v1 mu2 la3)) ∧ (¬ (¬ x1 = (32 : Int32)) → (Ev E (d + 1) mi_110 0 [some (.inr (.inr (some (5, v0)))), some (.inl (v1 + (1 : Int32)))] [] (mem E mu2 la3) (qI E Q))))))) : Ev E (d + 1) mi_110 0 [some (.inr (.inr (some (5, v0)))), some (.inl v1)] [] (mem E mu la) (qI E Q) := by
  refine Ev.steps 3 (ip' := 3) (ls' := [some (.inr (.inr (some (5, v0)))), some (.inl v1)]) (st' := [.inl (mu 5 v0 0), .inl v1]) (M' := mem E mu la) rfl ?_
  refine Ev.br (c := (mu 5 v0 0) ≤ v1) (s1 := (11, [some (.inr (.inr (some (5, v0)))), some (.inl v1)], [], mem E mu la)) (s2 := (4, [some (.inr (.inr (some (5, v0)))), some (.inl v1)], [], mem E mu la)) rfl rfl rfl rfl (fun hc => ?_) (fun hc => ?_)
  · have h := h.1 hc
    dsimp only
    refine Ev.steps 1 (ip' := 12) (ls' := [some (.inr (.inr (some (5, v0)))), some (.inl v1)]) (st' := [.inl v1]) (M' := mem E mu la) rfl ?_
    exact Ev.ret rfl rfl ⟨_, _, _, rfl, rfl, h⟩
  · have h := h.2 hc
    dsimp only
    refine Ev.steps 2 (ip' := 6) (ls' := [some (.inr (.inr (some (5, v0)))), some (.inl v1)]) (st' := [.inl v1, .inr (.inr (some (5, v0)))]) (M' := mem E mu la) rfl ?_
    refine Ev.ci (J := mi_45) (as := [.inr (.inr (some (5, v0))), .inl v1]) (rest := []) rfl rfl rfl (Nat.le_of_ble_eq_true rfl) h (fun x1 mu2 la3 h => ?_)
    refine Ev.steps 1 (ip' := 8) (ls' := [some (.inr (.inr (some (5, v0)))), some (.inl v1)]) (st' := [.inl (32 : Int32), .inl x1]) (M' := mem E mu2 la3) rfl ?_
    refine Ev.br (c := ¬ x1 = (32 : Int32)) (s1 := (11, [some (.inr (.inr (some (5, v0)))), some (.inl v1)], [], mem E mu2 la3)) (s2 := (9, [some (.inr (.inr (some (5, v0)))), some (.inl v1)], [], mem E mu2 la3)) rfl rfl rfl rfl (fun hc => ?_) (fun hc => ?_)
    · have h := h.1 hc
      dsimp only
      refine Ev.steps 1 (ip' := 12) (ls' := [some (.inr (.inr (some (5, v0)))), some (.inl v1)]) (st' := [.inl v1]) (M' := mem E mu2 la3) rfl ?_
      exact Ev.ret rfl rfl ⟨_, _, _, rfl, rfl, h⟩
    · have h := h.2 hc
      dsimp only
      refine Ev.steps 2 (ip' := 0) (ls' := [some (.inr (.inr (some (5, v0)))), some (.inl (v1 + (1 : Int32)))]) (st' := []) (M' := mem E mu2 la3) rfl ?_
      exact h
set_option maxRecDepth 100000 in
/-- AnnCups.readCup(LAnnCups$Text;ILAnnCups$Cups;I)I -/
theorem vc_X6_readCup {E : mEv} {d : Nat} (a0 : Nat) (a1 : Int32) (a2 : Nat) (a3 : Int32) {mu : fMu} {la : fLa} {Q : Int32 → fMu → fLa → Prop} (h : FnI E d mi_47 [.inr (.inr (some (5, a0))), .inl a1] mu la (fun x1 mu2 la3 => (0 ≤ x1 → (FnI E d mi_46 [.inr (.inr (some (5, a0))), .inl (a1 + (1 : Int32)), .inl (1 : Int32), .inl (9 : Int32)] mu2 la3 (fun x4 mu5 la6 => (0 ≤ x4 → (FnI E d mi_46 [.inr (.inr (some (5, a0))), .inl (a1 + (2 : Int32)), .inl (0 : Int32), .inl (3 : Int32)] mu5 la6 (fun x7 mu8 la9 => (0 ≤ x7 → (FnI E d mi_46 [.inr (.inr (some (5, a0))), .inl (a1 + (3 : Int32)), .inl (0 : Int32), .inl (9 : Int32)] mu8 la9 (fun x10 mu11 la12 => (0 ≤ x10 → (FnI E d mi_46 [.inr (.inr (some (5, a0))), .inl (a1 + (4 : Int32)), .inl (0 : Int32), .inl (9 : Int32)] mu11 la12 (fun x13 mu14 la15 => (0 ≤ x13 → (vp_in a3 6 ∧ ∀ mu16 : fMu, mu16 = up3 mu14 10 a2 a3.toNatClampNeg x1 → (vp_in a3 6 ∧ ∀ mu17 : fMu, mu17 = up3 mu16 11 a2 a3.toNatClampNeg x4 → (vp_in a3 6 ∧ ∀ mu18 : fMu, mu18 = up3 mu17 12 a2 a3.toNatClampNeg x7 → (vp_in a3 6 ∧ ∀ mu19 : fMu, mu19 = up3 mu18 13 a2 a3.toNatClampNeg x10 → (vp_in a3 6 ∧ ∀ mu20 : fMu, mu20 = up3 mu19 14 a2 a3.toNatClampNeg x13 → (Q (5 : Int32) mu20 la15))))))) ∧ (¬ (0 ≤ x13) → (Q (4 : Int32) mu14 la15))))) ∧ (¬ (0 ≤ x10) → (Q (3 : Int32) mu11 la12))))) ∧ (¬ (0 ≤ x7) → (Q (2 : Int32) mu8 la9))))) ∧ (¬ (0 ≤ x4) → (Q (1 : Int32) mu5 la6))))) ∧ (¬ (0 ≤ x1) → (Q (0 : Int32) mu2 la3)))) : FnI E (d + 1) mi_111 [.inr (.inr (some (5, a0))), .inl a1, .inr (.inr (some (1, a2))), .inl a3] mu la Q := by
  unfold FnI
  show Ev E (d + 1) mi_111 0 [some (.inr (.inr (some (5, a0)))), some (.inl a1), some (.inr (.inr (some (1, a2)))), some (.inl a3), none, none, none, none, none] [] (mem E mu la) (qI E Q)
  refine Ev.steps 2 (ip' := 2) (ls' := [some (.inr (.inr (some (5, a0)))), some (.inl a1), some (.inr (.inr (some (1, a2)))), some (.inl a3), none, none, none, none, none]) (st' := [.inl a1, .inr (.inr (some (5, a0)))]) (M' := mem E mu la) rfl ?_
  refine Ev.ci (J := mi_47) (as := [.inr (.inr (some (5, a0))), .inl a1]) (rest := []) rfl rfl rfl (Nat.le_of_ble_eq_true rfl) h (fun x1 mu2 la3 h => ?_)
  refine Ev.steps 2 (ip' := 5) (ls' := [some (.inr (.inr (some (5, a0)))), some (.inl a1), some (.inr (.inr (some (1, a2)))), some (.inl a3), some (.inl x1), none, none, none, none]) (st' := [.inl x1]) (M' := mem E mu2 la3) rfl ?_
  refine Ev.br (c := 0 ≤ x1) (s1 := (8, [some (.inr (.inr (some (5, a0)))), some (.inl a1), some (.inr (.inr (some (1, a2)))), some (.inl a3), some (.inl x1), none, none, none, none], [], mem E mu2 la3)) (s2 := (6, [some (.inr (.inr (some (5, a0)))), some (.inl a1), some (.inr (.inr (some (1, a2)))), some (.inl a3), some (.inl x1), none, none, none, none], [], mem E mu2 la3)) rfl rfl rfl rfl (fun hc => ?_) (fun hc => ?_)
  · have h := h.1 hc
    dsimp only
    refine Ev.steps 6 (ip' := 14) (ls' := [some (.inr (.inr (some (5, a0)))), some (.inl a1), some (.inr (.inr (some (1, a2)))), some (.inl a3), some (.inl x1), none, none, none, none]) (st' := [.inl (9 : Int32), .inl (1 : Int32), .inl (a1 + (1 : Int32)), .inr (.inr (some (5, a0)))]) (M' := mem E mu2 la3) rfl ?_
    refine Ev.ci (J := mi_46) (as := [.inr (.inr (some (5, a0))), .inl (a1 + (1 : Int32)), .inl (1 : Int32), .inl (9 : Int32)]) (rest := []) rfl rfl rfl (Nat.le_of_ble_eq_true rfl) h (fun x4 mu5 la6 h => ?_)
    refine Ev.steps 2 (ip' := 17) (ls' := [some (.inr (.inr (some (5, a0)))), some (.inl a1), some (.inr (.inr (some (1, a2)))), some (.inl a3), some (.inl x1), some (.inl x4), none, none, none]) (st' := [.inl x4]) (M' := mem E mu5 la6) rfl ?_
    refine Ev.br (c := 0 ≤ x4) (s1 := (20, [some (.inr (.inr (some (5, a0)))), some (.inl a1), some (.inr (.inr (some (1, a2)))), some (.inl a3), some (.inl x1), some (.inl x4), none, none, none], [], mem E mu5 la6)) (s2 := (18, [some (.inr (.inr (some (5, a0)))), some (.inl a1), some (.inr (.inr (some (1, a2)))), some (.inl a3), some (.inl x1), some (.inl x4), none, none, none], [], mem E mu5 la6)) rfl rfl rfl rfl (fun hc => ?_) (fun hc => ?_)
    · have h := h.1 hc
      dsimp only
      refine Ev.steps 6 (ip' := 26) (ls' := [some (.inr (.inr (some (5, a0)))), some (.inl a1), some (.inr (.inr (some (1, a2)))), some (.inl a3), some (.inl x1), some (.inl x4), none, none, none]) (st' := [.inl (3 : Int32), .inl (0 : Int32), .inl (a1 + (2 : Int32)), .inr (.inr (some (5, a0)))]) (M' := mem E mu5 la6) rfl ?_
      refine Ev.ci (J := mi_46) (as := [.inr (.inr (some (5, a0))), .inl (a1 + (2 : Int32)), .inl (0 : Int32), .inl (3 : Int32)]) (rest := []) rfl rfl rfl (Nat.le_of_ble_eq_true rfl) h (fun x7 mu8 la9 h => ?_)
      refine Ev.steps 2 (ip' := 29) (ls' := [some (.inr (.inr (some (5, a0)))), some (.inl a1), some (.inr (.inr (some (1, a2)))), some (.inl a3), some (.inl x1), some (.inl x4), some (.inl x7), none, none]) (st' := [.inl x7]) (M' := mem E mu8 la9) rfl ?_
      refine Ev.br (c := 0 ≤ x7) (s1 := (32, [some (.inr (.inr (some (5, a0)))), some (.inl a1), some (.inr (.inr (some (1, a2)))), some (.inl a3), some (.inl x1), some (.inl x4), some (.inl x7), none, none], [], mem E mu8 la9)) (s2 := (30, [some (.inr (.inr (some (5, a0)))), some (.inl a1), some (.inr (.inr (some (1, a2)))), some (.inl a3), some (.inl x1), some (.inl x4), some (.inl x7), none, none], [], mem E mu8 la9)) rfl rfl rfl rfl (fun hc => ?_) (fun hc => ?_)
      · have h := h.1 hc
        dsimp only
        refine Ev.steps 6 (ip' := 38) (ls' := [some (.inr (.inr (some (5, a0)))), some (.inl a1), some (.inr (.inr (some (1, a2)))), some (.inl a3), some (.inl x1), some (.inl x4), some (.inl x7), none, none]) (st' := [.inl (9 : Int32), .inl (0 : Int32), .inl (a1 + (3 : Int32)), .inr (.inr (some (5, a0)))]) (M' := mem E mu8 la9) rfl ?_
        refine Ev.ci (J := mi_46) (as := [.inr (.inr (some (5, a0))), .inl (a1 + (3 : Int32)), .inl (0 : Int32), .inl (9 : Int32)]) (rest := []) rfl rfl rfl (Nat.le_of_ble_eq_true rfl) h (fun x10 mu11 la12 h => ?_)
        refine Ev.steps 2 (ip' := 41) (ls' := [some (.inr (.inr (some (5, a0)))), some (.inl a1), some (.inr (.inr (some (1, a2)))), some (.inl a3), some (.inl x1), some (.inl x4), some (.inl x7), some (.inl x10), none]) (st' := [.inl x10]) (M' := mem E mu11 la12) rfl ?_
        refine Ev.br (c := 0 ≤ x10) (s1 := (44, [some (.inr (.inr (some (5, a0)))), some (.inl a1), some (.inr (.inr (some (1, a2)))), some (.inl a3), some (.inl x1), some (.inl x4), some (.inl x7), some (.inl x10), none], [], mem E mu11 la12)) (s2 := (42, [some (.inr (.inr (some (5, a0)))), some (.inl a1), some (.inr (.inr (some (1, a2)))), some (.inl a3), some (.inl x1), some (.inl x4), some (.inl x7), some (.inl x10), none], [], mem E mu11 la12)) rfl rfl rfl rfl (fun hc => ?_) (fun hc => ?_)
        · have h := h.1 hc
          dsimp only
          refine Ev.steps 6 (ip' := 50) (ls' := [some (.inr (.inr (some (5, a0)))), some (.inl a1), some (.inr (.inr (some (1, a2)))), some (.inl a3), some (.inl x1), some (.inl x4), some (.inl x7), some (.inl x10), none]) (st' := [.inl (9 : Int32), .inl (0 : Int32), .inl (a1 + (4 : Int32)), .inr (.inr (some (5, a0)))]) (M' := mem E mu11 la12) rfl ?_
          refine Ev.ci (J := mi_46) (as := [.inr (.inr (some (5, a0))), .inl (a1 + (4 : Int32)), .inl (0 : Int32), .inl (9 : Int32)]) (rest := []) rfl rfl rfl (Nat.le_of_ble_eq_true rfl) h (fun x13 mu14 la15 h => ?_)
          refine Ev.steps 2 (ip' := 53) (ls' := [some (.inr (.inr (some (5, a0)))), some (.inl a1), some (.inr (.inr (some (1, a2)))), some (.inl a3), some (.inl x1), some (.inl x4), some (.inl x7), some (.inl x10), some (.inl x13)]) (st' := [.inl x13]) (M' := mem E mu14 la15) rfl ?_
          refine Ev.br (c := 0 ≤ x13) (s1 := (56, [some (.inr (.inr (some (5, a0)))), some (.inl a1), some (.inr (.inr (some (1, a2)))), some (.inl a3), some (.inl x1), some (.inl x4), some (.inl x7), some (.inl x10), some (.inl x13)], [], mem E mu14 la15)) (s2 := (54, [some (.inr (.inr (some (5, a0)))), some (.inl a1), some (.inr (.inr (some (1, a2)))), some (.inl a3), some (.inl x1), some (.inl x4), some (.inl x7), some (.inl x10), some (.inl x13)], [], mem E mu14 la15)) rfl rfl rfl rfl (fun hc => ?_) (fun hc => ?_)
          · have h := h.1 hc
            dsimp only
            refine Ev.steps 4 (ip' := 60) (ls' := [some (.inr (.inr (some (5, a0)))), some (.inl a1), some (.inr (.inr (some (1, a2)))), some (.inl a3), some (.inl x1), some (.inl x4), some (.inl x7), some (.inl x10), some (.inl x13)]) (st' := [.inl x1, .inl a3, .inr (.inr (some (10, a2)))]) (M' := mem E mu14 la15) rfl ?_
            refine Ev.ias rfl rfl h.1 ?_
            have h := h.2
            generalize hgmu16 : up3 mu14 10 a2 a3.toNatClampNeg x1 = mu16
            have h := h mu16 hgmu16.symm
            refine Ev.steps 4 (ip' := 65) (ls' := [some (.inr (.inr (some (5, a0)))), some (.inl a1), some (.inr (.inr (some (1, a2)))), some (.inl a3), some (.inl x1), some (.inl x4), some (.inl x7), some (.inl x10), some (.inl x13)]) (st' := [.inl x4, .inl a3, .inr (.inr (some (11, a2)))]) (M' := mem E mu16 la15) rfl ?_
            refine Ev.ias rfl rfl h.1 ?_
            have h := h.2
            generalize hgmu17 : up3 mu16 11 a2 a3.toNatClampNeg x4 = mu17
            have h := h mu17 hgmu17.symm
            refine Ev.steps 4 (ip' := 70) (ls' := [some (.inr (.inr (some (5, a0)))), some (.inl a1), some (.inr (.inr (some (1, a2)))), some (.inl a3), some (.inl x1), some (.inl x4), some (.inl x7), some (.inl x10), some (.inl x13)]) (st' := [.inl x7, .inl a3, .inr (.inr (some (12, a2)))]) (M' := mem E mu17 la15) rfl ?_
            refine Ev.ias rfl rfl h.1 ?_
            have h := h.2
            generalize hgmu18 : up3 mu17 12 a2 a3.toNatClampNeg x7 = mu18
            have h := h mu18 hgmu18.symm
            refine Ev.steps 4 (ip' := 75) (ls' := [some (.inr (.inr (some (5, a0)))), some (.inl a1), some (.inr (.inr (some (1, a2)))), some (.inl a3), some (.inl x1), some (.inl x4), some (.inl x7), some (.inl x10), some (.inl x13)]) (st' := [.inl x10, .inl a3, .inr (.inr (some (13, a2)))]) (M' := mem E mu18 la15) rfl ?_
            refine Ev.ias rfl rfl h.1 ?_
            have h := h.2
            generalize hgmu19 : up3 mu18 13 a2 a3.toNatClampNeg x10 = mu19
            have h := h mu19 hgmu19.symm
            refine Ev.steps 4 (ip' := 80) (ls' := [some (.inr (.inr (some (5, a0)))), some (.inl a1), some (.inr (.inr (some (1, a2)))), some (.inl a3), some (.inl x1), some (.inl x4), some (.inl x7), some (.inl x10), some (.inl x13)]) (st' := [.inl x13, .inl a3, .inr (.inr (some (14, a2)))]) (M' := mem E mu19 la15) rfl ?_
            refine Ev.ias rfl rfl h.1 ?_
            have h := h.2
            generalize hgmu20 : up3 mu19 14 a2 a3.toNatClampNeg x13 = mu20
            have h := h mu20 hgmu20.symm
            refine Ev.steps 1 (ip' := 82) (ls' := [some (.inr (.inr (some (5, a0)))), some (.inl a1), some (.inr (.inr (some (1, a2)))), some (.inl a3), some (.inl x1), some (.inl x4), some (.inl x7), some (.inl x10), some (.inl x13)]) (st' := [.inl (5 : Int32)]) (M' := mem E mu20 la15) rfl ?_
            exact Ev.ret rfl rfl ⟨_, _, _, rfl, rfl, h⟩
          · have h := h.2 hc
            dsimp only
            refine Ev.steps 1 (ip' := 55) (ls' := [some (.inr (.inr (some (5, a0)))), some (.inl a1), some (.inr (.inr (some (1, a2)))), some (.inl a3), some (.inl x1), some (.inl x4), some (.inl x7), some (.inl x10), some (.inl x13)]) (st' := [.inl (4 : Int32)]) (M' := mem E mu14 la15) rfl ?_
            exact Ev.ret rfl rfl ⟨_, _, _, rfl, rfl, h⟩
        · have h := h.2 hc
          dsimp only
          refine Ev.steps 1 (ip' := 43) (ls' := [some (.inr (.inr (some (5, a0)))), some (.inl a1), some (.inr (.inr (some (1, a2)))), some (.inl a3), some (.inl x1), some (.inl x4), some (.inl x7), some (.inl x10), none]) (st' := [.inl (3 : Int32)]) (M' := mem E mu11 la12) rfl ?_
          exact Ev.ret rfl rfl ⟨_, _, _, rfl, rfl, h⟩
      · have h := h.2 hc
        dsimp only
        refine Ev.steps 1 (ip' := 31) (ls' := [some (.inr (.inr (some (5, a0)))), some (.inl a1), some (.inr (.inr (some (1, a2)))), some (.inl a3), some (.inl x1), some (.inl x4), some (.inl x7), none, none]) (st' := [.inl (2 : Int32)]) (M' := mem E mu8 la9) rfl ?_
        exact Ev.ret rfl rfl ⟨_, _, _, rfl, rfl, h⟩
    · have h := h.2 hc
      dsimp only
      refine Ev.steps 1 (ip' := 19) (ls' := [some (.inr (.inr (some (5, a0)))), some (.inl a1), some (.inr (.inr (some (1, a2)))), some (.inl a3), some (.inl x1), some (.inl x4), none, none, none]) (st' := [.inl (1 : Int32)]) (M' := mem E mu5 la6) rfl ?_
      exact Ev.ret rfl rfl ⟨_, _, _, rfl, rfl, h⟩
  · have h := h.2 hc
    dsimp only
    refine Ev.steps 1 (ip' := 7) (ls' := [some (.inr (.inr (some (5, a0)))), some (.inl a1), some (.inr (.inr (some (1, a2)))), some (.inl a3), some (.inl x1), none, none, none, none]) (st' := [.inl (0 : Int32)]) (M' := mem E mu2 la3) rfl ?_
    exact Ev.ret rfl rfl ⟨_, _, _, rfl, rfl, h⟩
set_option maxRecDepth 100000 in
/-- AnnCups.ofCup(II)I -/
theorem vc_X6_ofCup {E : mEv} {d : Nat} {c : Nat} (a0 : Int32) (a1 : Int32) {mu : fMu} {la : fLa} {Q : Int32 → fMu → fLa → Prop} (h : (a1 = 0 → (vp_in a0 6 ∧ (Q (mu 10 0 a0.toNatClampNeg) mu la))) ∧ (¬ a1 = 0 → ((a1 = 1 → (FnI E d mi_17 [.inr (.inr (some (1, 0))), .inl a0, .inl (mu 0 0 2)] mu la (fun x1 mu2 la3 => Q x1 mu2 la3))) ∧ (¬ a1 = 1 → ((a1 = 2 → (vp_in a0 6 ∧ (Q (mu 12 0 a0.toNatClampNeg) mu la))) ∧ (¬ a1 = 2 → ((a1 = 3 → (vp_in a0 6 ∧ (Q (mu 13 0 a0.toNatClampNeg) mu la))) ∧ (¬ a1 = 3 → ((a1 = 4 → (vp_in a0 6 ∧ (Q (mu 14 0 a0.toNatClampNeg) mu la))) ∧ (¬ a1 = 4 → (vp_in a0 6 ∧ (Q (mu 8 0 a0.toNatClampNeg) mu la)))))))))))) : FnI E (d + 1) mi_112 [.inr (.inr (some (6, c))), .inl a0, .inl a1] mu la Q := by
  unfold FnI
  show Ev E (d + 1) mi_112 0 [some (.inr (.inr (some (6, c)))), some (.inl a0), some (.inl a1)] [] (mem E mu la) (qI E Q)
  refine Ev.steps 1 (ip' := 1) (ls' := [some (.inr (.inr (some (6, c)))), some (.inl a0), some (.inl a1)]) (st' := [.inl a1]) (M' := mem E mu la) rfl ?_
  by_cases hc0 : a1 = 0
  · refine Ev.one (s' := (2, [some (.inr (.inr (some (6, c)))), some (.inl a0), some (.inl a1)], [], mem E mu la)) rfl rfl rfl (by rw [hc0]; rfl) ?_
    have h := h.1 hc0
    dsimp only
    refine Ev.steps 4 (ip' := 6) (ls' := [some (.inr (.inr (some (6, c)))), some (.inl a0), some (.inl a1)]) (st' := [.inl a0, .inr (.inr (some (10, 0)))]) (M' := mem E mu la) rfl ?_
    refine Ev.ial rfl rfl (by decide) h.1 ?_
    have h := h.2
    exact Ev.ret rfl rfl ⟨_, _, _, rfl, rfl, h⟩
  · have h := h.2 hc0
    by_cases hc1 : a1 = 1
    · refine Ev.one (s' := (8, [some (.inr (.inr (some (6, c)))), some (.inl a0), some (.inl a1)], [], mem E mu la)) rfl rfl rfl (by rw [hc1]; rfl) ?_
      have h := h.1 hc1
      dsimp only
      refine Ev.steps 6 (ip' := 14) (ls' := [some (.inr (.inr (some (6, c)))), some (.inl a0), some (.inl a1)]) (st' := [.inl (mu 0 0 2), .inl a0, .inr (.inr (some (1, 0)))]) (M' := mem E mu la) rfl ?_
      refine Ev.ci (J := mi_17) (as := [.inr (.inr (some (1, 0))), .inl a0, .inl (mu 0 0 2)]) (rest := []) rfl rfl rfl (Nat.le_of_ble_eq_true rfl) h (fun x1 mu2 la3 h => ?_)
      exact Ev.ret rfl rfl ⟨_, _, _, rfl, rfl, h⟩
    · have h := h.2 hc1
      by_cases hc2 : a1 = 2
      · refine Ev.one (s' := (16, [some (.inr (.inr (some (6, c)))), some (.inl a0), some (.inl a1)], [], mem E mu la)) rfl rfl rfl (by rw [hc2]; rfl) ?_
        have h := h.1 hc2
        dsimp only
        refine Ev.steps 4 (ip' := 20) (ls' := [some (.inr (.inr (some (6, c)))), some (.inl a0), some (.inl a1)]) (st' := [.inl a0, .inr (.inr (some (12, 0)))]) (M' := mem E mu la) rfl ?_
        refine Ev.ial rfl rfl (by decide) h.1 ?_
        have h := h.2
        exact Ev.ret rfl rfl ⟨_, _, _, rfl, rfl, h⟩
      · have h := h.2 hc2
        by_cases hc3 : a1 = 3
        · refine Ev.one (s' := (22, [some (.inr (.inr (some (6, c)))), some (.inl a0), some (.inl a1)], [], mem E mu la)) rfl rfl rfl (by rw [hc3]; rfl) ?_
          have h := h.1 hc3
          dsimp only
          refine Ev.steps 4 (ip' := 26) (ls' := [some (.inr (.inr (some (6, c)))), some (.inl a0), some (.inl a1)]) (st' := [.inl a0, .inr (.inr (some (13, 0)))]) (M' := mem E mu la) rfl ?_
          refine Ev.ial rfl rfl (by decide) h.1 ?_
          have h := h.2
          exact Ev.ret rfl rfl ⟨_, _, _, rfl, rfl, h⟩
        · have h := h.2 hc3
          by_cases hc4 : a1 = 4
          · refine Ev.one (s' := (28, [some (.inr (.inr (some (6, c)))), some (.inl a0), some (.inl a1)], [], mem E mu la)) rfl rfl rfl (by rw [hc4]; rfl) ?_
            have h := h.1 hc4
            dsimp only
            refine Ev.steps 4 (ip' := 32) (ls' := [some (.inr (.inr (some (6, c)))), some (.inl a0), some (.inl a1)]) (st' := [.inl a0, .inr (.inr (some (14, 0)))]) (M' := mem E mu la) rfl ?_
            refine Ev.ial rfl rfl (by decide) h.1 ?_
            have h := h.2
            exact Ev.ret rfl rfl ⟨_, _, _, rfl, rfl, h⟩
          · have h := h.2 hc4
            refine Ev.one (s' := (34, [some (.inr (.inr (some (6, c)))), some (.inl a0), some (.inl a1)], [], mem E mu la)) rfl rfl rfl (if_pos (tsw_out a1 0 4 (fun z h1 h2 => by
              rcases (show z = 0 ∨ z = 1 ∨ z = 2 ∨ z = 3 ∨ z = 4 by omega) with rfl | rfl | rfl | rfl | rfl
              · exact fun e => hc0 (Int32.toInt_inj.mp e)
              · exact fun e => hc1 (Int32.toInt_inj.mp e)
              · exact fun e => hc2 (Int32.toInt_inj.mp e)
              · exact fun e => hc3 (Int32.toInt_inj.mp e)
              · exact fun e => hc4 (Int32.toInt_inj.mp e)))) ?_
            dsimp only
            refine Ev.steps 4 (ip' := 38) (ls' := [some (.inr (.inr (some (6, c)))), some (.inl a0), some (.inl a1)]) (st' := [.inl a0, .inr (.inr (some (8, 0)))]) (M' := mem E mu la) rfl ?_
            refine Ev.ial rfl rfl (by decide) h.1 ?_
            have h := h.2
            exact Ev.ret rfl rfl ⟨_, _, _, rfl, rfl, h⟩
set_option maxRecDepth 100000 in
/-- AnnCups.ofBar(I)I -/
theorem vc_X6_ofBar {E : mEv} {d : Nat} {c : Nat} (a0 : Int32) {mu : fMu} {la : fLa} {Q : Int32 → fMu → fLa → Prop} (h : (a0 = 0 → (Q (mu 1 0 0) mu la)) ∧ (¬ a0 = 0 → ((a0 = 1 → (Q (mu 0 0 1) mu la)) ∧ (¬ a0 = 1 → ((a0 = 2 → (Q (mu 2 0 0) mu la)) ∧ (¬ a0 = 2 → ((a0 = 3 → (Q (mu 0 0 3) mu la)) ∧ (¬ a0 = 3 → ((a0 = 4 → (FnI E d mi_10 [.inr (.inr (some (0, 0)))] mu la (fun x1 mu2 la3 => Q x1 mu2 la3))) ∧ (¬ a0 = 4 → ((a0 = 5 → (Q (mu 1 0 1) mu la)) ∧ (¬ a0 = 5 → ((a0 = 6 → (FnI E d mi_20 [.inr (.inr (some (1, 0))), .inl (1 : Int32)] mu la (fun x4 mu5 la6 => Q x4 mu5 la6))) ∧ (¬ a0 = 6 → ((a0 = 7 → (FnI E d mi_20 [.inr (.inr (some (1, 0))), .inl (2 : Int32)] mu la (fun x7 mu8 la9 => Q x7 mu8 la9))) ∧ (¬ a0 = 7 → ((a0 = 8 → (Q (mu 0 0 4) mu la)) ∧ (¬ a0 = 8 → ((a0 = 9 → (FnI E d mi_114 [.inr (.inr (some (6, c)))] mu la (fun x10 mu11 la12 => Q x10 mu11 la12))) ∧ (¬ a0 = 9 → ((a0 = 10 → (FnI E d mi_115 [.inr (.inr (some (6, c)))] mu la (fun x13 mu14 la15 => Q x13 mu14 la15))) ∧ (¬ a0 = 10 → ((a0 = 11 → (FnI E d mi_116 [.inr (.inr (some (6, c)))] mu la (fun x16 mu17 la18 => Q x16 mu17 la18))) ∧ (¬ a0 = 11 → (Q (-1 : Int32) mu la))))))))))))))))))))))))) : FnI E (d + 1) mi_113 [.inr (.inr (some (6, c))), .inl a0] mu la Q := by
  unfold FnI
  show Ev E (d + 1) mi_113 0 [some (.inr (.inr (some (6, c)))), some (.inl a0)] [] (mem E mu la) (qI E Q)
  refine Ev.steps 1 (ip' := 1) (ls' := [some (.inr (.inr (some (6, c)))), some (.inl a0)]) (st' := [.inl a0]) (M' := mem E mu la) rfl ?_
  by_cases hc0 : a0 = 0
  · refine Ev.one (s' := (2, [some (.inr (.inr (some (6, c)))), some (.inl a0)], [], mem E mu la)) rfl rfl rfl (by rw [hc0]; rfl) ?_
    have h := h.1 hc0
    dsimp only
    refine Ev.steps 3 (ip' := 5) (ls' := [some (.inr (.inr (some (6, c)))), some (.inl a0)]) (st' := [.inl (mu 1 0 0)]) (M' := mem E mu la) rfl ?_
    exact Ev.ret rfl rfl ⟨_, _, _, rfl, rfl, h⟩
  · have h := h.2 hc0
    by_cases hc1 : a0 = 1
    · refine Ev.one (s' := (6, [some (.inr (.inr (some (6, c)))), some (.inl a0)], [], mem E mu la)) rfl rfl rfl (by rw [hc1]; rfl) ?_
      have h := h.1 hc1
      dsimp only
      refine Ev.steps 3 (ip' := 9) (ls' := [some (.inr (.inr (some (6, c)))), some (.inl a0)]) (st' := [.inl (mu 0 0 1)]) (M' := mem E mu la) rfl ?_
      exact Ev.ret rfl rfl ⟨_, _, _, rfl, rfl, h⟩
    · have h := h.2 hc1
      by_cases hc2 : a0 = 2
      · refine Ev.one (s' := (10, [some (.inr (.inr (some (6, c)))), some (.inl a0)], [], mem E mu la)) rfl rfl rfl (by rw [hc2]; rfl) ?_
        have h := h.1 hc2
        dsimp only
        refine Ev.steps 3 (ip' := 13) (ls' := [some (.inr (.inr (some (6, c)))), some (.inl a0)]) (st' := [.inl (mu 2 0 0)]) (M' := mem E mu la) rfl ?_
        exact Ev.ret rfl rfl ⟨_, _, _, rfl, rfl, h⟩
      · have h := h.2 hc2
        by_cases hc3 : a0 = 3
        · refine Ev.one (s' := (14, [some (.inr (.inr (some (6, c)))), some (.inl a0)], [], mem E mu la)) rfl rfl rfl (by rw [hc3]; rfl) ?_
          have h := h.1 hc3
          dsimp only
          refine Ev.steps 3 (ip' := 17) (ls' := [some (.inr (.inr (some (6, c)))), some (.inl a0)]) (st' := [.inl (mu 0 0 3)]) (M' := mem E mu la) rfl ?_
          exact Ev.ret rfl rfl ⟨_, _, _, rfl, rfl, h⟩
        · have h := h.2 hc3
          by_cases hc4 : a0 = 4
          · refine Ev.one (s' := (18, [some (.inr (.inr (some (6, c)))), some (.inl a0)], [], mem E mu la)) rfl rfl rfl (by rw [hc4]; rfl) ?_
            have h := h.1 hc4
            dsimp only
            refine Ev.steps 2 (ip' := 20) (ls' := [some (.inr (.inr (some (6, c)))), some (.inl a0)]) (st' := [.inr (.inr (some (0, 0)))]) (M' := mem E mu la) rfl ?_
            refine Ev.ci (J := mi_10) (as := [.inr (.inr (some (0, 0)))]) (rest := []) rfl rfl rfl (Nat.le_of_ble_eq_true rfl) h (fun x1 mu2 la3 h => ?_)
            exact Ev.ret rfl rfl ⟨_, _, _, rfl, rfl, h⟩
          · have h := h.2 hc4
            by_cases hc5 : a0 = 5
            · refine Ev.one (s' := (22, [some (.inr (.inr (some (6, c)))), some (.inl a0)], [], mem E mu la)) rfl rfl rfl (by rw [hc5]; rfl) ?_
              have h := h.1 hc5
              dsimp only
              refine Ev.steps 3 (ip' := 25) (ls' := [some (.inr (.inr (some (6, c)))), some (.inl a0)]) (st' := [.inl (mu 1 0 1)]) (M' := mem E mu la) rfl ?_
              exact Ev.ret rfl rfl ⟨_, _, _, rfl, rfl, h⟩
            · have h := h.2 hc5
              by_cases hc6 : a0 = 6
              · refine Ev.one (s' := (26, [some (.inr (.inr (some (6, c)))), some (.inl a0)], [], mem E mu la)) rfl rfl rfl (by rw [hc6]; rfl) ?_
                have h := h.1 hc6
                dsimp only
                refine Ev.steps 3 (ip' := 29) (ls' := [some (.inr (.inr (some (6, c)))), some (.inl a0)]) (st' := [.inl (1 : Int32), .inr (.inr (some (1, 0)))]) (M' := mem E mu la) rfl ?_
                refine Ev.ci (J := mi_20) (as := [.inr (.inr (some (1, 0))), .inl (1 : Int32)]) (rest := []) rfl rfl rfl (Nat.le_of_ble_eq_true rfl) h (fun x4 mu5 la6 h => ?_)
                exact Ev.ret rfl rfl ⟨_, _, _, rfl, rfl, h⟩
              · have h := h.2 hc6
                by_cases hc7 : a0 = 7
                · refine Ev.one (s' := (31, [some (.inr (.inr (some (6, c)))), some (.inl a0)], [], mem E mu la)) rfl rfl rfl (by rw [hc7]; rfl) ?_
                  have h := h.1 hc7
                  dsimp only
                  refine Ev.steps 3 (ip' := 34) (ls' := [some (.inr (.inr (some (6, c)))), some (.inl a0)]) (st' := [.inl (2 : Int32), .inr (.inr (some (1, 0)))]) (M' := mem E mu la) rfl ?_
                  refine Ev.ci (J := mi_20) (as := [.inr (.inr (some (1, 0))), .inl (2 : Int32)]) (rest := []) rfl rfl rfl (Nat.le_of_ble_eq_true rfl) h (fun x7 mu8 la9 h => ?_)
                  exact Ev.ret rfl rfl ⟨_, _, _, rfl, rfl, h⟩
                · have h := h.2 hc7
                  by_cases hc8 : a0 = 8
                  · refine Ev.one (s' := (36, [some (.inr (.inr (some (6, c)))), some (.inl a0)], [], mem E mu la)) rfl rfl rfl (by rw [hc8]; rfl) ?_
                    have h := h.1 hc8
                    dsimp only
                    refine Ev.steps 3 (ip' := 39) (ls' := [some (.inr (.inr (some (6, c)))), some (.inl a0)]) (st' := [.inl (mu 0 0 4)]) (M' := mem E mu la) rfl ?_
                    exact Ev.ret rfl rfl ⟨_, _, _, rfl, rfl, h⟩
                  · have h := h.2 hc8
                    by_cases hc9 : a0 = 9
                    · refine Ev.one (s' := (40, [some (.inr (.inr (some (6, c)))), some (.inl a0)], [], mem E mu la)) rfl rfl rfl (by rw [hc9]; rfl) ?_
                      have h := h.1 hc9
                      dsimp only
                      refine Ev.steps 1 (ip' := 41) (ls' := [some (.inr (.inr (some (6, c)))), some (.inl a0)]) (st' := [.inr (.inr (some (6, c)))]) (M' := mem E mu la) rfl ?_
                      refine Ev.ci (J := mi_114) (as := [.inr (.inr (some (6, c)))]) (rest := []) rfl rfl rfl (Nat.le_of_ble_eq_true rfl) h (fun x10 mu11 la12 h => ?_)
                      exact Ev.ret rfl rfl ⟨_, _, _, rfl, rfl, h⟩
                    · have h := h.2 hc9
                      by_cases hc10 : a0 = 10
                      · refine Ev.one (s' := (43, [some (.inr (.inr (some (6, c)))), some (.inl a0)], [], mem E mu la)) rfl rfl rfl (by rw [hc10]; rfl) ?_
                        have h := h.1 hc10
                        dsimp only
                        refine Ev.steps 1 (ip' := 44) (ls' := [some (.inr (.inr (some (6, c)))), some (.inl a0)]) (st' := [.inr (.inr (some (6, c)))]) (M' := mem E mu la) rfl ?_
                        refine Ev.ci (J := mi_115) (as := [.inr (.inr (some (6, c)))]) (rest := []) rfl rfl rfl (Nat.le_of_ble_eq_true rfl) h (fun x13 mu14 la15 h => ?_)
                        exact Ev.ret rfl rfl ⟨_, _, _, rfl, rfl, h⟩
                      · have h := h.2 hc10
                        by_cases hc11 : a0 = 11
                        · refine Ev.one (s' := (46, [some (.inr (.inr (some (6, c)))), some (.inl a0)], [], mem E mu la)) rfl rfl rfl (by rw [hc11]; rfl) ?_
                          have h := h.1 hc11
                          dsimp only
                          refine Ev.steps 1 (ip' := 47) (ls' := [some (.inr (.inr (some (6, c)))), some (.inl a0)]) (st' := [.inr (.inr (some (6, c)))]) (M' := mem E mu la) rfl ?_
                          refine Ev.ci (J := mi_116) (as := [.inr (.inr (some (6, c)))]) (rest := []) rfl rfl rfl (Nat.le_of_ble_eq_true rfl) h (fun x16 mu17 la18 h => ?_)
                          exact Ev.ret rfl rfl ⟨_, _, _, rfl, rfl, h⟩
                        · have h := h.2 hc11
                          refine Ev.one (s' := (49, [some (.inr (.inr (some (6, c)))), some (.inl a0)], [], mem E mu la)) rfl rfl rfl (if_pos (tsw_out a0 0 11 (fun z h1 h2 => by
                            rcases (show z = 0 ∨ z = 1 ∨ z = 2 ∨ z = 3 ∨ z = 4 ∨ z = 5 ∨ z = 6 ∨ z = 7 ∨ z = 8 ∨ z = 9 ∨ z = 10 ∨ z = 11 by omega) with rfl | rfl | rfl | rfl | rfl | rfl | rfl | rfl | rfl | rfl | rfl | rfl
                            · exact fun e => hc0 (Int32.toInt_inj.mp e)
                            · exact fun e => hc1 (Int32.toInt_inj.mp e)
                            · exact fun e => hc2 (Int32.toInt_inj.mp e)
                            · exact fun e => hc3 (Int32.toInt_inj.mp e)
                            · exact fun e => hc4 (Int32.toInt_inj.mp e)
                            · exact fun e => hc5 (Int32.toInt_inj.mp e)
                            · exact fun e => hc6 (Int32.toInt_inj.mp e)
                            · exact fun e => hc7 (Int32.toInt_inj.mp e)
                            · exact fun e => hc8 (Int32.toInt_inj.mp e)
                            · exact fun e => hc9 (Int32.toInt_inj.mp e)
                            · exact fun e => hc10 (Int32.toInt_inj.mp e)
                            · exact fun e => hc11 (Int32.toInt_inj.mp e)))) ?_
                          dsimp only
                          refine Ev.steps 1 (ip' := 50) (ls' := [some (.inr (.inr (some (6, c)))), some (.inl a0)]) (st' := [.inl (-1 : Int32)]) (M' := mem E mu la) rfl ?_
                          exact Ev.ret rfl rfl ⟨_, _, _, rfl, rfl, h⟩
set_option maxRecDepth 100000 in
/-- AnnCups.rowsThere()I -/
theorem vc_X6_rowsThere {E : mEv} {d : Nat} {c : Nat} {mu : fMu} {la : fLa} {Q : Int32 → fMu → fLa → Prop} (h : Ev E d mi_114 4 [some (.inr (.inr (some (6, c)))), some (.inl (0 : Int32)), some (.inl (0 : Int32))] [] (mem E mu la) (qI E Q)) : FnI E d mi_114 [.inr (.inr (some (6, c)))] mu la Q := by
  unfold FnI
  show Ev E d mi_114 0 [some (.inr (.inr (some (6, c)))), none, none] [] (mem E mu la) (qI E Q)
  refine Ev.steps 4 (ip' := 4) (ls' := [some (.inr (.inr (some (6, c)))), some (.inl (0 : Int32)), some (.inl (0 : Int32))]) (st' := []) (M' := mem E mu la) rfl ?_
  exact h
set_option maxRecDepth 100000 in
theorem vc_X6_rowsThere_4 {E : mEv} {d : Nat}  (v0 : Nat) (v1 : Int32) (v2 : Int32) {mu : fMu} {la : fLa} {Q : Int32 → fMu → fLa → Prop} (h : ((6 : Int32) ≤ v2 → (Q v1 mu la)) ∧ (¬ ((6 : Int32) ≤ v2) → (vp_in v2 6 ∧ ((0 ≤ (mu 3 v2.toNatClampNeg 0) → (Ev E d mi_114 4 [some (.inr (.inr (some (6, v0)))), some (.inl (v1 + (1 : Int32))), some (.inl (v2 + (1 : Int32)))] [] (mem E mu la) (qI E Q))) ∧ (¬ (0 ≤ (mu 3 v2.toNatClampNeg 0)) → (Ev E d mi_114 4 [some (.inr (.inr (some (6, v0)))), some (.inl (v1 + (0 : Int32))), some (.inl (v2 + (1 : Int32)))] [] (mem E mu la) (qI E Q))))))) : Ev E d mi_114 4 [some (.inr (.inr (some (6, v0)))), some (.inl v1), some (.inl v2)] [] (mem E mu la) (qI E Q) := by
  refine Ev.steps 2 (ip' := 6) (ls' := [some (.inr (.inr (some (6, v0)))), some (.inl v1), some (.inl v2)]) (st' := [.inl (6 : Int32), .inl v2]) (M' := mem E mu la) rfl ?_
  refine Ev.br (c := (6 : Int32) ≤ v2) (s1 := (21, [some (.inr (.inr (some (6, v0)))), some (.inl v1), some (.inl v2)], [], mem E mu la)) (s2 := (7, [some (.inr (.inr (some (6, v0)))), some (.inl v1), some (.inl v2)], [], mem E mu la)) rfl rfl rfl rfl (fun hc => ?_) (fun hc => ?_)
  · have h := h.1 hc
    dsimp only
    refine Ev.steps 1 (ip' := 22) (ls' := [some (.inr (.inr (some (6, v0)))), some (.inl v1), some (.inl v2)]) (st' := [.inl v1]) (M' := mem E mu la) rfl ?_
    exact Ev.ret rfl rfl ⟨_, _, _, rfl, rfl, h⟩
  · have h := h.2 hc
    dsimp only
    refine Ev.steps 4 (ip' := 11) (ls' := [some (.inr (.inr (some (6, v0)))), some (.inl v1), some (.inl v2)]) (st' := [.inl v2, .inr (.inr (some (25, v0))), .inl v1]) (M' := mem E mu la) rfl ?_
    refine Ev.aal (r := some (3, v2.toNatClampNeg)) rfl rfl rfl h.1 ?_
    have h := h.2
    refine Ev.steps 1 (ip' := 13) (ls' := [some (.inr (.inr (some (6, v0)))), some (.inl v1), some (.inl v2)]) (st' := [.inl (mu 3 v2.toNatClampNeg 0), .inl v1]) (M' := mem E mu la) rfl ?_
    refine Ev.br (c := 0 ≤ (mu 3 v2.toNatClampNeg 0)) (s1 := (16, [some (.inr (.inr (some (6, v0)))), some (.inl v1), some (.inl v2)], [.inl v1], mem E mu la)) (s2 := (14, [some (.inr (.inr (some (6, v0)))), some (.inl v1), some (.inl v2)], [.inl v1], mem E mu la)) rfl rfl rfl rfl (fun hc => ?_) (fun hc => ?_)
    · have h := h.1 hc
      dsimp only
      refine Ev.steps 5 (ip' := 4) (ls' := [some (.inr (.inr (some (6, v0)))), some (.inl (v1 + (1 : Int32))), some (.inl (v2 + (1 : Int32)))]) (st' := []) (M' := mem E mu la) rfl ?_
      exact h
    · have h := h.2 hc
      dsimp only
      refine Ev.steps 6 (ip' := 4) (ls' := [some (.inr (.inr (some (6, v0)))), some (.inl (v1 + (0 : Int32))), some (.inl (v2 + (1 : Int32)))]) (st' := []) (M' := mem E mu la) rfl ?_
      exact h
set_option maxRecDepth 100000 in
/-- AnnCups.textsThere()I -/
theorem vc_X6_textsThere {E : mEv} {d : Nat} {c : Nat} {mu : fMu} {la : fLa} {Q : Int32 → fMu → fLa → Prop} (h : Ev E d mi_115 4 [some (.inr (.inr (some (6, c)))), some (.inl (0 : Int32)), some (.inl (0 : Int32))] [] (mem E mu la) (qI E Q)) : FnI E d mi_115 [.inr (.inr (some (6, c)))] mu la Q := by
  unfold FnI
  show Ev E d mi_115 0 [some (.inr (.inr (some (6, c)))), none, none] [] (mem E mu la) (qI E Q)
  refine Ev.steps 4 (ip' := 4) (ls' := [some (.inr (.inr (some (6, c)))), some (.inl (0 : Int32)), some (.inl (0 : Int32))]) (st' := []) (M' := mem E mu la) rfl ?_
  exact h
set_option maxRecDepth 100000 in
theorem vc_X6_textsThere_4 {E : mEv} {d : Nat}  (v0 : Nat) (v1 : Int32) (v2 : Int32) {mu : fMu} {la : fLa} {Q : Int32 → fMu → fLa → Prop} (h : ((4 : Int32) ≤ v2 → (Q v1 mu la)) ∧ (¬ ((4 : Int32) ≤ v2) → (vp_in v2 4 ∧ ((0 ≤ (mu 5 v2.toNatClampNeg 0) → (Ev E d mi_115 4 [some (.inr (.inr (some (6, v0)))), some (.inl (v1 + (1 : Int32))), some (.inl (v2 + (1 : Int32)))] [] (mem E mu la) (qI E Q))) ∧ (¬ (0 ≤ (mu 5 v2.toNatClampNeg 0)) → (Ev E d mi_115 4 [some (.inr (.inr (some (6, v0)))), some (.inl (v1 + (0 : Int32))), some (.inl (v2 + (1 : Int32)))] [] (mem E mu la) (qI E Q))))))) : Ev E d mi_115 4 [some (.inr (.inr (some (6, v0)))), some (.inl v1), some (.inl v2)] [] (mem E mu la) (qI E Q) := by
  refine Ev.steps 2 (ip' := 6) (ls' := [some (.inr (.inr (some (6, v0)))), some (.inl v1), some (.inl v2)]) (st' := [.inl (4 : Int32), .inl v2]) (M' := mem E mu la) rfl ?_
  refine Ev.br (c := (4 : Int32) ≤ v2) (s1 := (21, [some (.inr (.inr (some (6, v0)))), some (.inl v1), some (.inl v2)], [], mem E mu la)) (s2 := (7, [some (.inr (.inr (some (6, v0)))), some (.inl v1), some (.inl v2)], [], mem E mu la)) rfl rfl rfl rfl (fun hc => ?_) (fun hc => ?_)
  · have h := h.1 hc
    dsimp only
    refine Ev.steps 1 (ip' := 22) (ls' := [some (.inr (.inr (some (6, v0)))), some (.inl v1), some (.inl v2)]) (st' := [.inl v1]) (M' := mem E mu la) rfl ?_
    exact Ev.ret rfl rfl ⟨_, _, _, rfl, rfl, h⟩
  · have h := h.2 hc
    dsimp only
    refine Ev.steps 4 (ip' := 11) (ls' := [some (.inr (.inr (some (6, v0)))), some (.inl v1), some (.inl v2)]) (st' := [.inl v2, .inr (.inr (some (26, v0))), .inl v1]) (M' := mem E mu la) rfl ?_
    refine Ev.aal (r := some (5, v2.toNatClampNeg)) rfl rfl rfl h.1 ?_
    have h := h.2
    refine Ev.steps 1 (ip' := 13) (ls' := [some (.inr (.inr (some (6, v0)))), some (.inl v1), some (.inl v2)]) (st' := [.inl (mu 5 v2.toNatClampNeg 0), .inl v1]) (M' := mem E mu la) rfl ?_
    refine Ev.br (c := 0 ≤ (mu 5 v2.toNatClampNeg 0)) (s1 := (16, [some (.inr (.inr (some (6, v0)))), some (.inl v1), some (.inl v2)], [.inl v1], mem E mu la)) (s2 := (14, [some (.inr (.inr (some (6, v0)))), some (.inl v1), some (.inl v2)], [.inl v1], mem E mu la)) rfl rfl rfl rfl (fun hc => ?_) (fun hc => ?_)
    · have h := h.1 hc
      dsimp only
      refine Ev.steps 5 (ip' := 4) (ls' := [some (.inr (.inr (some (6, v0)))), some (.inl (v1 + (1 : Int32))), some (.inl (v2 + (1 : Int32)))]) (st' := []) (M' := mem E mu la) rfl ?_
      exact h
    · have h := h.2 hc
      dsimp only
      refine Ev.steps 6 (ip' := 4) (ls' := [some (.inr (.inr (some (6, v0)))), some (.inl (v1 + (0 : Int32))), some (.inl (v2 + (1 : Int32)))]) (st' := []) (M' := mem E mu la) rfl ?_
      exact h
set_option maxRecDepth 100000 in
/-- AnnCups.barsKept()I -/
theorem vc_X6_barsKept {E : mEv} {d : Nat} {c : Nat} {mu : fMu} {la : fLa} {Q : Int32 → fMu → fLa → Prop} (h : Ev E d mi_116 4 [some (.inr (.inr (some (6, c)))), some (.inl (0 : Int32)), some (.inl (0 : Int32))] [] (mem E mu la) (qI E Q)) : FnI E d mi_116 [.inr (.inr (some (6, c)))] mu la Q := by
  unfold FnI
  show Ev E d mi_116 0 [some (.inr (.inr (some (6, c)))), none, none] [] (mem E mu la) (qI E Q)
  refine Ev.steps 4 (ip' := 4) (ls' := [some (.inr (.inr (some (6, c)))), some (.inl (0 : Int32)), some (.inl (0 : Int32))]) (st' := []) (M' := mem E mu la) rfl ?_
  exact h
set_option maxRecDepth 100000 in
theorem vc_X6_barsKept_4 {E : mEv} {d : Nat}  (v0 : Nat) (v1 : Int32) (v2 : Int32) {mu : fMu} {la : fLa} {Q : Int32 → fMu → fLa → Prop} (h : ((3 : Int32) ≤ v2 → (Q v1 mu la)) ∧ (¬ ((3 : Int32) ≤ v2) → (vp_in v2 3 ∧ ((0 ≤ (mu 2 (v2.toNatClampNeg + 1) 0) → (Ev E d mi_116 4 [some (.inr (.inr (some (6, v0)))), some (.inl (v1 + (1 : Int32))), some (.inl (v2 + (1 : Int32)))] [] (mem E mu la) (qI E Q))) ∧ (¬ (0 ≤ (mu 2 (v2.toNatClampNeg + 1) 0)) → (Ev E d mi_116 4 [some (.inr (.inr (some (6, v0)))), some (.inl (v1 + (0 : Int32))), some (.inl (v2 + (1 : Int32)))] [] (mem E mu la) (qI E Q))))))) : Ev E d mi_116 4 [some (.inr (.inr (some (6, v0)))), some (.inl v1), some (.inl v2)] [] (mem E mu la) (qI E Q) := by
  refine Ev.steps 2 (ip' := 6) (ls' := [some (.inr (.inr (some (6, v0)))), some (.inl v1), some (.inl v2)]) (st' := [.inl (3 : Int32), .inl v2]) (M' := mem E mu la) rfl ?_
  refine Ev.br (c := (3 : Int32) ≤ v2) (s1 := (21, [some (.inr (.inr (some (6, v0)))), some (.inl v1), some (.inl v2)], [], mem E mu la)) (s2 := (7, [some (.inr (.inr (some (6, v0)))), some (.inl v1), some (.inl v2)], [], mem E mu la)) rfl rfl rfl rfl (fun hc => ?_) (fun hc => ?_)
  · have h := h.1 hc
    dsimp only
    refine Ev.steps 1 (ip' := 22) (ls' := [some (.inr (.inr (some (6, v0)))), some (.inl v1), some (.inl v2)]) (st' := [.inl v1]) (M' := mem E mu la) rfl ?_
    exact Ev.ret rfl rfl ⟨_, _, _, rfl, rfl, h⟩
  · have h := h.2 hc
    dsimp only
    refine Ev.steps 4 (ip' := 11) (ls' := [some (.inr (.inr (some (6, v0)))), some (.inl v1), some (.inl v2)]) (st' := [.inl v2, .inr (.inr (some (27, v0))), .inl v1]) (M' := mem E mu la) rfl ?_
    refine Ev.aal (r := some (2, v2.toNatClampNeg + 1)) rfl rfl rfl h.1 ?_
    have h := h.2
    refine Ev.steps 1 (ip' := 13) (ls' := [some (.inr (.inr (some (6, v0)))), some (.inl v1), some (.inl v2)]) (st' := [.inl (mu 2 (v2.toNatClampNeg + 1) 0), .inl v1]) (M' := mem E mu la) rfl ?_
    refine Ev.br (c := 0 ≤ (mu 2 (v2.toNatClampNeg + 1) 0)) (s1 := (16, [some (.inr (.inr (some (6, v0)))), some (.inl v1), some (.inl v2)], [.inl v1], mem E mu la)) (s2 := (14, [some (.inr (.inr (some (6, v0)))), some (.inl v1), some (.inl v2)], [.inl v1], mem E mu la)) rfl rfl rfl rfl (fun hc => ?_) (fun hc => ?_)
    · have h := h.1 hc
      dsimp only
      refine Ev.steps 5 (ip' := 4) (ls' := [some (.inr (.inr (some (6, v0)))), some (.inl (v1 + (1 : Int32))), some (.inl (v2 + (1 : Int32)))]) (st' := []) (M' := mem E mu la) rfl ?_
      exact h
    · have h := h.2 hc
      dsimp only
      refine Ev.steps 6 (ip' := 4) (ls' := [some (.inr (.inr (some (6, v0)))), some (.inl (v1 + (0 : Int32))), some (.inl (v2 + (1 : Int32)))]) (st' := []) (M' := mem E mu la) rfl ?_
      exact h
set_option maxRecDepth 100000 in
/-- AnnCups.othersOfItsMilk(I)I -/
theorem vc_X6_othersOfItsMilk {E : mEv} {d : Nat} {c : Nat} (a0 : Int32) {mu : fMu} {la : fLa} {Q : Int32 → fMu → fLa → Prop} (h : Ev E (d + 1) mi_117 4 [some (.inr (.inr (some (6, c)))), some (.inl a0), some (.inl (0 : Int32)), some (.inl (0 : Int32))] [] (mem E mu la) (qI E Q)) : FnI E (d + 1) mi_117 [.inr (.inr (some (6, c))), .inl a0] mu la Q := by
  unfold FnI
  show Ev E (d + 1) mi_117 0 [some (.inr (.inr (some (6, c)))), some (.inl a0), none, none] [] (mem E mu la) (qI E Q)
  refine Ev.steps 4 (ip' := 4) (ls' := [some (.inr (.inr (some (6, c)))), some (.inl a0), some (.inl (0 : Int32)), some (.inl (0 : Int32))]) (st' := []) (M' := mem E mu la) rfl ?_
  exact h
set_option maxRecDepth 100000 in
theorem vc_X6_othersOfItsMilk_4 {E : mEv} {d : Nat}  (v0 : Nat) (v1 : Int32) (v2 : Int32) (v3 : Int32) {mu : fMu} {la : fLa} {Q : Int32 → fMu → fLa → Prop} (h : ((mu 1 0 0) ≤ v3 → (Q v2 mu la)) ∧ (¬ ((mu 1 0 0) ≤ v3) → ((v3 = v1 → (Ev E (d + 1) mi_117 4 [some (.inr (.inr (some (6, v0)))), some (.inl v1), some (.inl (v2 + (0 : Int32))), some (.inl (v3 + (1 : Int32)))] [] (mem E mu la) (qI E Q))) ∧ (¬ (v3 = v1) → (FnI E d mi_3 [.inr (.inr (some (0, 0))), .inl v3] mu la (fun x1 mu2 la3 => (¬ x1 = 0 → (Ev E (d + 1) mi_117 4 [some (.inr (.inr (some (6, v0)))), some (.inl v1), some (.inl (v2 + (0 : Int32))), some (.inl (v3 + (1 : Int32)))] [] (mem E mu2 la3) (qI E Q))) ∧ (¬ (¬ x1 = 0) → (vp_in v3 6 ∧ (vp_in v1 6 ∧ ((¬ (mu2 12 0 v3.toNatClampNeg) = (mu2 12 0 v1.toNatClampNeg) → (Ev E (d + 1) mi_117 4 [some (.inr (.inr (some (6, v0)))), some (.inl v1), some (.inl (v2 + (0 : Int32))), some (.inl (v3 + (1 : Int32)))] [] (mem E mu2 la3) (qI E Q))) ∧ (¬ (¬ (mu2 12 0 v3.toNatClampNeg) = (mu2 12 0 v1.toNatClampNeg)) → (Ev E (d + 1) mi_117 4 [some (.inr (.inr (some (6, v0)))), some (.inl v1), some (.inl (v2 + (1 : Int32))), some (.inl (v3 + (1 : Int32)))] [] (mem E mu2 la3) (qI E Q))))))))))))) : Ev E (d + 1) mi_117 4 [some (.inr (.inr (some (6, v0)))), some (.inl v1), some (.inl v2), some (.inl v3)] [] (mem E mu la) (qI E Q) := by
  refine Ev.steps 4 (ip' := 8) (ls' := [some (.inr (.inr (some (6, v0)))), some (.inl v1), some (.inl v2), some (.inl v3)]) (st' := [.inl (mu 1 0 0), .inl v3]) (M' := mem E mu la) rfl ?_
  refine Ev.br (c := (mu 1 0 0) ≤ v3) (s1 := (36, [some (.inr (.inr (some (6, v0)))), some (.inl v1), some (.inl v2), some (.inl v3)], [], mem E mu la)) (s2 := (9, [some (.inr (.inr (some (6, v0)))), some (.inl v1), some (.inl v2), some (.inl v3)], [], mem E mu la)) rfl rfl rfl rfl (fun hc => ?_) (fun hc => ?_)
  · have h := h.1 hc
    dsimp only
    refine Ev.steps 1 (ip' := 37) (ls' := [some (.inr (.inr (some (6, v0)))), some (.inl v1), some (.inl v2), some (.inl v3)]) (st' := [.inl v2]) (M' := mem E mu la) rfl ?_
    exact Ev.ret rfl rfl ⟨_, _, _, rfl, rfl, h⟩
  · have h := h.2 hc
    dsimp only
    refine Ev.steps 3 (ip' := 12) (ls' := [some (.inr (.inr (some (6, v0)))), some (.inl v1), some (.inl v2), some (.inl v3)]) (st' := [.inl v1, .inl v3, .inl v2]) (M' := mem E mu la) rfl ?_
    refine Ev.br (c := v3 = v1) (s1 := (31, [some (.inr (.inr (some (6, v0)))), some (.inl v1), some (.inl v2), some (.inl v3)], [.inl v2], mem E mu la)) (s2 := (13, [some (.inr (.inr (some (6, v0)))), some (.inl v1), some (.inl v2), some (.inl v3)], [.inl v2], mem E mu la)) rfl rfl rfl rfl (fun hc => ?_) (fun hc => ?_)
    · have h := h.1 hc
      dsimp only
      refine Ev.steps 5 (ip' := 4) (ls' := [some (.inr (.inr (some (6, v0)))), some (.inl v1), some (.inl (v2 + (0 : Int32))), some (.inl (v3 + (1 : Int32)))]) (st' := []) (M' := mem E mu la) rfl ?_
      exact h
    · have h := h.2 hc
      dsimp only
      refine Ev.steps 3 (ip' := 16) (ls' := [some (.inr (.inr (some (6, v0)))), some (.inl v1), some (.inl v2), some (.inl v3)]) (st' := [.inl v3, .inr (.inr (some (0, 0))), .inl v2]) (M' := mem E mu la) rfl ?_
      refine Ev.ci (J := mi_3) (as := [.inr (.inr (some (0, 0))), .inl v3]) (rest := [.inl v2]) rfl rfl rfl (Nat.le_of_ble_eq_true rfl) h (fun x1 mu2 la3 h => ?_)
      refine Ev.br (c := ¬ x1 = 0) (s1 := (31, [some (.inr (.inr (some (6, v0)))), some (.inl v1), some (.inl v2), some (.inl v3)], [.inl v2], mem E mu2 la3)) (s2 := (18, [some (.inr (.inr (some (6, v0)))), some (.inl v1), some (.inl v2), some (.inl v3)], [.inl v2], mem E mu2 la3)) rfl rfl rfl rfl (fun hc => ?_) (fun hc => ?_)
      · have h := h.1 hc
        dsimp only
        refine Ev.steps 5 (ip' := 4) (ls' := [some (.inr (.inr (some (6, v0)))), some (.inl v1), some (.inl (v2 + (0 : Int32))), some (.inl (v3 + (1 : Int32)))]) (st' := []) (M' := mem E mu2 la3) rfl ?_
        exact h
      · have h := h.2 hc
        dsimp only
        refine Ev.steps 4 (ip' := 22) (ls' := [some (.inr (.inr (some (6, v0)))), some (.inl v1), some (.inl v2), some (.inl v3)]) (st' := [.inl v3, .inr (.inr (some (12, 0))), .inl v2]) (M' := mem E mu2 la3) rfl ?_
        refine Ev.ial rfl rfl (by decide) h.1 ?_
        have h := h.2
        refine Ev.steps 4 (ip' := 27) (ls' := [some (.inr (.inr (some (6, v0)))), some (.inl v1), some (.inl v2), some (.inl v3)]) (st' := [.inl v1, .inr (.inr (some (12, 0))), .inl (mu2 12 0 v3.toNatClampNeg), .inl v2]) (M' := mem E mu2 la3) rfl ?_
        refine Ev.ial rfl rfl (by decide) h.1 ?_
        have h := h.2
        refine Ev.br (c := ¬ (mu2 12 0 v3.toNatClampNeg) = (mu2 12 0 v1.toNatClampNeg)) (s1 := (31, [some (.inr (.inr (some (6, v0)))), some (.inl v1), some (.inl v2), some (.inl v3)], [.inl v2], mem E mu2 la3)) (s2 := (29, [some (.inr (.inr (some (6, v0)))), some (.inl v1), some (.inl v2), some (.inl v3)], [.inl v2], mem E mu2 la3)) rfl rfl rfl rfl (fun hc => ?_) (fun hc => ?_)
        · have h := h.1 hc
          dsimp only
          refine Ev.steps 5 (ip' := 4) (ls' := [some (.inr (.inr (some (6, v0)))), some (.inl v1), some (.inl (v2 + (0 : Int32))), some (.inl (v3 + (1 : Int32)))]) (st' := []) (M' := mem E mu2 la3) rfl ?_
          exact h
        · have h := h.2 hc
          dsimp only
          refine Ev.steps 6 (ip' := 4) (ls' := [some (.inr (.inr (some (6, v0)))), some (.inl v1), some (.inl (v2 + (1 : Int32))), some (.inl (v3 + (1 : Int32)))]) (st' := []) (M' := mem E mu2 la3) rfl ?_
          exact h
set_option maxRecDepth 100000 in
/-- AnnCups.othersThatTakeLonger(I)I -/
theorem vc_X6_othersThatTakeLonger {E : mEv} {d : Nat} {c : Nat} (a0 : Int32) {mu : fMu} {la : fLa} {Q : Int32 → fMu → fLa → Prop} (h : FnI E d mi_17 [.inr (.inr (some (1, 0))), .inl a0, .inl (mu 0 0 2)] mu la (fun x1 mu2 la3 => Ev E (d + 1) mi_118 12 [some (.inr (.inr (some (6, c)))), some (.inl a0), some (.inl x1), some (.inl (0 : Int32)), some (.inl (0 : Int32))] [] (mem E mu2 la3) (qI E Q))) : FnI E (d + 1) mi_118 [.inr (.inr (some (6, c))), .inl a0] mu la Q := by
  unfold FnI
  show Ev E (d + 1) mi_118 0 [some (.inr (.inr (some (6, c)))), some (.inl a0), none, none, none] [] (mem E mu la) (qI E Q)
  refine Ev.steps 6 (ip' := 6) (ls' := [some (.inr (.inr (some (6, c)))), some (.inl a0), none, none, none]) (st' := [.inl (mu 0 0 2), .inl a0, .inr (.inr (some (1, 0)))]) (M' := mem E mu la) rfl ?_
  refine Ev.ci (J := mi_17) (as := [.inr (.inr (some (1, 0))), .inl a0, .inl (mu 0 0 2)]) (rest := []) rfl rfl rfl (Nat.le_of_ble_eq_true rfl) h (fun x1 mu2 la3 h => ?_)
  refine Ev.steps 5 (ip' := 12) (ls' := [some (.inr (.inr (some (6, c)))), some (.inl a0), some (.inl x1), some (.inl (0 : Int32)), some (.inl (0 : Int32))]) (st' := []) (M' := mem E mu2 la3) rfl ?_
  exact h
set_option maxRecDepth 100000 in
theorem vc_X6_othersThatTakeLonger_12 {E : mEv} {d : Nat}  (v0 : Nat) (v1 : Int32) (v2 : Int32) (v3 : Int32) (v4 : Int32) {mu : fMu} {la : fLa} {Q : Int32 → fMu → fLa → Prop} (h : ((mu 1 0 0) ≤ v4 → (Q v3 mu la)) ∧ (¬ ((mu 1 0 0) ≤ v4) → ((v4 = v1 → (Ev E (d + 1) mi_118 12 [some (.inr (.inr (some (6, v0)))), some (.inl v1), some (.inl v2), some (.inl (v3 + (0 : Int32))), some (.inl (v4 + (1 : Int32)))] [] (mem E mu la) (qI E Q))) ∧ (¬ (v4 = v1) → (FnI E d mi_3 [.inr (.inr (some (0, 0))), .inl v4] mu la (fun x4 mu5 la6 => (¬ x4 = 0 → (Ev E (d + 1) mi_118 12 [some (.inr (.inr (some (6, v0)))), some (.inl v1), some (.inl v2), some (.inl (v3 + (0 : Int32))), some (.inl (v4 + (1 : Int32)))] [] (mem E mu5 la6) (qI E Q))) ∧ (¬ (¬ x4 = 0) → (FnI E d mi_17 [.inr (.inr (some (1, 0))), .inl v4, .inl (mu5 0 0 2)] mu5 la6 (fun x7 mu8 la9 => (x7 ≤ v2 → (Ev E (d + 1) mi_118 12 [some (.inr (.inr (some (6, v0)))), some (.inl v1), some (.inl v2), some (.inl (v3 + (0 : Int32))), some (.inl (v4 + (1 : Int32)))] [] (mem E mu8 la9) (qI E Q))) ∧ (¬ (x7 ≤ v2) → (Ev E (d + 1) mi_118 12 [some (.inr (.inr (some (6, v0)))), some (.inl v1), some (.inl v2), some (.inl (v3 + (1 : Int32))), some (.inl (v4 + (1 : Int32)))] [] (mem E mu8 la9) (qI E Q)))))))))))) : Ev E (d + 1) mi_118 12 [some (.inr (.inr (some (6, v0)))), some (.inl v1), some (.inl v2), some (.inl v3), some (.inl v4)] [] (mem E mu la) (qI E Q) := by
  refine Ev.steps 4 (ip' := 16) (ls' := [some (.inr (.inr (some (6, v0)))), some (.inl v1), some (.inl v2), some (.inl v3), some (.inl v4)]) (st' := [.inl (mu 1 0 0), .inl v4]) (M' := mem E mu la) rfl ?_
  refine Ev.br (c := (mu 1 0 0) ≤ v4) (s1 := (42, [some (.inr (.inr (some (6, v0)))), some (.inl v1), some (.inl v2), some (.inl v3), some (.inl v4)], [], mem E mu la)) (s2 := (17, [some (.inr (.inr (some (6, v0)))), some (.inl v1), some (.inl v2), some (.inl v3), some (.inl v4)], [], mem E mu la)) rfl rfl rfl rfl (fun hc => ?_) (fun hc => ?_)
  · have h := h.1 hc
    dsimp only
    refine Ev.steps 1 (ip' := 43) (ls' := [some (.inr (.inr (some (6, v0)))), some (.inl v1), some (.inl v2), some (.inl v3), some (.inl v4)]) (st' := [.inl v3]) (M' := mem E mu la) rfl ?_
    exact Ev.ret rfl rfl ⟨_, _, _, rfl, rfl, h⟩
  · have h := h.2 hc
    dsimp only
    refine Ev.steps 3 (ip' := 20) (ls' := [some (.inr (.inr (some (6, v0)))), some (.inl v1), some (.inl v2), some (.inl v3), some (.inl v4)]) (st' := [.inl v1, .inl v4, .inl v3]) (M' := mem E mu la) rfl ?_
    refine Ev.br (c := v4 = v1) (s1 := (37, [some (.inr (.inr (some (6, v0)))), some (.inl v1), some (.inl v2), some (.inl v3), some (.inl v4)], [.inl v3], mem E mu la)) (s2 := (21, [some (.inr (.inr (some (6, v0)))), some (.inl v1), some (.inl v2), some (.inl v3), some (.inl v4)], [.inl v3], mem E mu la)) rfl rfl rfl rfl (fun hc => ?_) (fun hc => ?_)
    · have h := h.1 hc
      dsimp only
      refine Ev.steps 5 (ip' := 12) (ls' := [some (.inr (.inr (some (6, v0)))), some (.inl v1), some (.inl v2), some (.inl (v3 + (0 : Int32))), some (.inl (v4 + (1 : Int32)))]) (st' := []) (M' := mem E mu la) rfl ?_
      exact h
    · have h := h.2 hc
      dsimp only
      refine Ev.steps 3 (ip' := 24) (ls' := [some (.inr (.inr (some (6, v0)))), some (.inl v1), some (.inl v2), some (.inl v3), some (.inl v4)]) (st' := [.inl v4, .inr (.inr (some (0, 0))), .inl v3]) (M' := mem E mu la) rfl ?_
      refine Ev.ci (J := mi_3) (as := [.inr (.inr (some (0, 0))), .inl v4]) (rest := [.inl v3]) rfl rfl rfl (Nat.le_of_ble_eq_true rfl) h (fun x4 mu5 la6 h => ?_)
      refine Ev.br (c := ¬ x4 = 0) (s1 := (37, [some (.inr (.inr (some (6, v0)))), some (.inl v1), some (.inl v2), some (.inl v3), some (.inl v4)], [.inl v3], mem E mu5 la6)) (s2 := (26, [some (.inr (.inr (some (6, v0)))), some (.inl v1), some (.inl v2), some (.inl v3), some (.inl v4)], [.inl v3], mem E mu5 la6)) rfl rfl rfl rfl (fun hc => ?_) (fun hc => ?_)
      · have h := h.1 hc
        dsimp only
        refine Ev.steps 5 (ip' := 12) (ls' := [some (.inr (.inr (some (6, v0)))), some (.inl v1), some (.inl v2), some (.inl (v3 + (0 : Int32))), some (.inl (v4 + (1 : Int32)))]) (st' := []) (M' := mem E mu5 la6) rfl ?_
        exact h
      · have h := h.2 hc
        dsimp only
        refine Ev.steps 6 (ip' := 32) (ls' := [some (.inr (.inr (some (6, v0)))), some (.inl v1), some (.inl v2), some (.inl v3), some (.inl v4)]) (st' := [.inl (mu5 0 0 2), .inl v4, .inr (.inr (some (1, 0))), .inl v3]) (M' := mem E mu5 la6) rfl ?_
        refine Ev.ci (J := mi_17) (as := [.inr (.inr (some (1, 0))), .inl v4, .inl (mu5 0 0 2)]) (rest := [.inl v3]) rfl rfl rfl (Nat.le_of_ble_eq_true rfl) h (fun x7 mu8 la9 h => ?_)
        refine Ev.steps 1 (ip' := 34) (ls' := [some (.inr (.inr (some (6, v0)))), some (.inl v1), some (.inl v2), some (.inl v3), some (.inl v4)]) (st' := [.inl v2, .inl x7, .inl v3]) (M' := mem E mu8 la9) rfl ?_
        refine Ev.br (c := x7 ≤ v2) (s1 := (37, [some (.inr (.inr (some (6, v0)))), some (.inl v1), some (.inl v2), some (.inl v3), some (.inl v4)], [.inl v3], mem E mu8 la9)) (s2 := (35, [some (.inr (.inr (some (6, v0)))), some (.inl v1), some (.inl v2), some (.inl v3), some (.inl v4)], [.inl v3], mem E mu8 la9)) rfl rfl rfl rfl (fun hc => ?_) (fun hc => ?_)
        · have h := h.1 hc
          dsimp only
          refine Ev.steps 5 (ip' := 12) (ls' := [some (.inr (.inr (some (6, v0)))), some (.inl v1), some (.inl v2), some (.inl (v3 + (0 : Int32))), some (.inl (v4 + (1 : Int32)))]) (st' := []) (M' := mem E mu8 la9) rfl ?_
          exact h
        · have h := h.2 hc
          dsimp only
          refine Ev.steps 6 (ip' := 12) (ls' := [some (.inr (.inr (some (6, v0)))), some (.inl v1), some (.inl v2), some (.inl (v3 + (1 : Int32))), some (.inl (v4 + (1 : Int32)))]) (st' := []) (M' := mem E mu8 la9) rfl ?_
          exact h
set_option maxRecDepth 100000 in
/-- AnnCups.perform(III)V -/
theorem vc_X6_perform {E : mEv} {d : Nat} {c : Nat} (a0 : Int32) (a1 : Int32) (a2 : Int32) {mu : fMu} {la : fLa} {Q : fMu → fLa → Prop} (h : FnV E d mi_24 [.inr (.inr (some (2, 0))), .inl a0, .inl a1, .inl a2] mu la (fun mu2 la3 => FnV E d mi_8 [.inr (.inr (some (0, 0))), .inl a0, .inl a1, .inl a2] mu2 la3 (fun mu5 la6 => Q mu5 la6))) : FnV E (d + 1) mi_119 [.inr (.inr (some (6, c))), .inl a0, .inl a1, .inl a2] mu la Q := by
  unfold FnV
  show Ev E (d + 1) mi_119 0 [some (.inr (.inr (some (6, c)))), some (.inl a0), some (.inl a1), some (.inl a2)] [] (mem E mu la) (qV E Q)
  refine Ev.steps 5 (ip' := 5) (ls' := [some (.inr (.inr (some (6, c)))), some (.inl a0), some (.inl a1), some (.inl a2)]) (st' := [.inl a2, .inl a1, .inl a0, .inr (.inr (some (2, 0)))]) (M' := mem E mu la) rfl ?_
  refine Ev.cv (J := mi_24) (as := [.inr (.inr (some (2, 0))), .inl a0, .inl a1, .inl a2]) (rest := []) rfl rfl rfl (Nat.le_of_ble_eq_true rfl) h (fun mu2 la3 h => ?_)
  refine Ev.steps 5 (ip' := 11) (ls' := [some (.inr (.inr (some (6, c)))), some (.inl a0), some (.inl a1), some (.inl a2)]) (st' := [.inl a2, .inl a1, .inl a0, .inr (.inr (some (0, 0)))]) (M' := mem E mu2 la3) rfl ?_
  refine Ev.cv (J := mi_8) (as := [.inr (.inr (some (0, 0))), .inl a0, .inl a1, .inl a2]) (rest := []) rfl rfl rfl (Nat.le_of_ble_eq_true rfl) h (fun mu5 la6 h => ?_)
  exact Ev.ret rfl rfl ⟨_, _, rfl, rfl, h⟩
set_option maxRecDepth 100000 in
/-- AnnCups.performLot(II)V -/
theorem vc_X6_performLot {E : mEv} {d : Nat} {c : Nat} (a0 : Int32) (a1 : Int32) {mu : fMu} {la : fLa} {Q : fMu → fLa → Prop} (h : vp_in a0 6 ∧ ((¬ (mu 8 0 a0.toNatClampNeg) = (-9 : Int32) → ((¬ (mu 8 0 a0.toNatClampNeg) = (6 : Int32) → (FnI E d mi_14 [.inr (.inr (some (1, 0))), .inl (mu 8 0 a0.toNatClampNeg)] mu la (fun x1 mu2 la3 => (x1 = 0 → (FnV E d mi_119 [.inr (.inr (some (6, c))), .inl (0 : Int32), .inl (0 : Int32), .inl (0 : Int32)] mu2 la3 (fun mu5 la6 => Q mu5 la6))) ∧ (¬ (x1 = 0) → (((mu 8 0 a0.toNatClampNeg) = a1 → (FnV E d mi_119 [.inr (.inr (some (6, c))), .inl (0 : Int32), .inl (0 : Int32), .inl (0 : Int32)] mu2 la3 (fun mu8 la9 => Q mu8 la9))) ∧ (¬ ((mu 8 0 a0.toNatClampNeg) = a1) → (FnI E d mi_15 [.inr (.inr (some (1, 0))), .inl a1] mu2 la3 (fun x10 mu11 la12 => (x10 = 0 → (FnV E d mi_119 [.inr (.inr (some (6, c))), .inl (0 : Int32), .inl (0 : Int32), .inl (0 : Int32)] mu11 la12 (fun mu14 la15 => Q mu14 la15))) ∧ (¬ (x10 = 0) → (FnV E d mi_119 [.inr (.inr (some (6, c))), .inl (2 : Int32), .inl (mu 8 0 a0.toNatClampNeg), .inl a1] mu11 la12 (fun mu17 la18 => Q mu17 la18))))))))))) ∧ (¬ (¬ (mu 8 0 a0.toNatClampNeg) = (6 : Int32)) → (FnV E d mi_119 [.inr (.inr (some (6, c))), .inl (3 : Int32), .inl a0, .inl (0 : Int32)] mu la (fun mu20 la21 => Q mu20 la21))))) ∧ (¬ (¬ (mu 8 0 a0.toNatClampNeg) = (-9 : Int32)) → (FnV E d mi_119 [.inr (.inr (some (6, c))), .inl (1 : Int32), .inl a0, .inl (0 : Int32)] mu la (fun mu23 la24 => Q mu23 la24))))) : FnV E (d + 1) mi_120 [.inr (.inr (some (6, c))), .inl a0, .inl a1] mu la Q := by
  unfold FnV
  show Ev E (d + 1) mi_120 0 [some (.inr (.inr (some (6, c)))), some (.inl a0), some (.inl a1), none] [] (mem E mu la) (qV E Q)
  refine Ev.steps 4 (ip' := 4) (ls' := [some (.inr (.inr (some (6, c)))), some (.inl a0), some (.inl a1), none]) (st' := [.inl a0, .inr (.inr (some (8, 0)))]) (M' := mem E mu la) rfl ?_
  refine Ev.ial rfl rfl (by decide) h.1 ?_
  have h := h.2
  refine Ev.steps 3 (ip' := 8) (ls' := [some (.inr (.inr (some (6, c)))), some (.inl a0), some (.inl a1), some (.inl (mu 8 0 a0.toNatClampNeg))]) (st' := [.inl (-9 : Int32), .inl (mu 8 0 a0.toNatClampNeg)]) (M' := mem E mu la) rfl ?_
  refine Ev.br (c := ¬ (mu 8 0 a0.toNatClampNeg) = (-9 : Int32)) (s1 := (15, [some (.inr (.inr (some (6, c)))), some (.inl a0), some (.inl a1), some (.inl (mu 8 0 a0.toNatClampNeg))], [], mem E mu la)) (s2 := (9, [some (.inr (.inr (some (6, c)))), some (.inl a0), some (.inl a1), some (.inl (mu 8 0 a0.toNatClampNeg))], [], mem E mu la)) rfl rfl rfl rfl (fun hc => ?_) (fun hc => ?_)
  · have h := h.1 hc
    dsimp only
    refine Ev.steps 2 (ip' := 17) (ls' := [some (.inr (.inr (some (6, c)))), some (.inl a0), some (.inl a1), some (.inl (mu 8 0 a0.toNatClampNeg))]) (st' := [.inl (6 : Int32), .inl (mu 8 0 a0.toNatClampNeg)]) (M' := mem E mu la) rfl ?_
    refine Ev.br (c := ¬ (mu 8 0 a0.toNatClampNeg) = (6 : Int32)) (s1 := (24, [some (.inr (.inr (some (6, c)))), some (.inl a0), some (.inl a1), some (.inl (mu 8 0 a0.toNatClampNeg))], [], mem E mu la)) (s2 := (18, [some (.inr (.inr (some (6, c)))), some (.inl a0), some (.inl a1), some (.inl (mu 8 0 a0.toNatClampNeg))], [], mem E mu la)) rfl rfl rfl rfl (fun hc => ?_) (fun hc => ?_)
    · have h := h.1 hc
      dsimp only
      refine Ev.steps 3 (ip' := 27) (ls' := [some (.inr (.inr (some (6, c)))), some (.inl a0), some (.inl a1), some (.inl (mu 8 0 a0.toNatClampNeg))]) (st' := [.inl (mu 8 0 a0.toNatClampNeg), .inr (.inr (some (1, 0)))]) (M' := mem E mu la) rfl ?_
      refine Ev.ci (J := mi_14) (as := [.inr (.inr (some (1, 0))), .inl (mu 8 0 a0.toNatClampNeg)]) (rest := []) rfl rfl rfl (Nat.le_of_ble_eq_true rfl) h (fun x1 mu2 la3 h => ?_)
      refine Ev.br (c := x1 = 0) (s1 := (43, [some (.inr (.inr (some (6, c)))), some (.inl a0), some (.inl a1), some (.inl (mu 8 0 a0.toNatClampNeg))], [], mem E mu2 la3)) (s2 := (29, [some (.inr (.inr (some (6, c)))), some (.inl a0), some (.inl a1), some (.inl (mu 8 0 a0.toNatClampNeg))], [], mem E mu2 la3)) rfl rfl rfl rfl (fun hc => ?_) (fun hc => ?_)
      · have h := h.1 hc
        dsimp only
        refine Ev.steps 4 (ip' := 47) (ls' := [some (.inr (.inr (some (6, c)))), some (.inl a0), some (.inl a1), some (.inl (mu 8 0 a0.toNatClampNeg))]) (st' := [.inl (0 : Int32), .inl (0 : Int32), .inl (0 : Int32), .inr (.inr (some (6, c)))]) (M' := mem E mu2 la3) rfl ?_
        refine Ev.cv (J := mi_119) (as := [.inr (.inr (some (6, c))), .inl (0 : Int32), .inl (0 : Int32), .inl (0 : Int32)]) (rest := []) rfl rfl rfl (Nat.le_of_ble_eq_true rfl) h (fun mu5 la6 h => ?_)
        exact Ev.ret rfl rfl ⟨_, _, rfl, rfl, h⟩
      · have h := h.2 hc
        dsimp only
        refine Ev.steps 2 (ip' := 31) (ls' := [some (.inr (.inr (some (6, c)))), some (.inl a0), some (.inl a1), some (.inl (mu 8 0 a0.toNatClampNeg))]) (st' := [.inl a1, .inl (mu 8 0 a0.toNatClampNeg)]) (M' := mem E mu2 la3) rfl ?_
        refine Ev.br (c := (mu 8 0 a0.toNatClampNeg) = a1) (s1 := (43, [some (.inr (.inr (some (6, c)))), some (.inl a0), some (.inl a1), some (.inl (mu 8 0 a0.toNatClampNeg))], [], mem E mu2 la3)) (s2 := (32, [some (.inr (.inr (some (6, c)))), some (.inl a0), some (.inl a1), some (.inl (mu 8 0 a0.toNatClampNeg))], [], mem E mu2 la3)) rfl rfl rfl rfl (fun hc => ?_) (fun hc => ?_)
        · have h := h.1 hc
          dsimp only
          refine Ev.steps 4 (ip' := 47) (ls' := [some (.inr (.inr (some (6, c)))), some (.inl a0), some (.inl a1), some (.inl (mu 8 0 a0.toNatClampNeg))]) (st' := [.inl (0 : Int32), .inl (0 : Int32), .inl (0 : Int32), .inr (.inr (some (6, c)))]) (M' := mem E mu2 la3) rfl ?_
          refine Ev.cv (J := mi_119) (as := [.inr (.inr (some (6, c))), .inl (0 : Int32), .inl (0 : Int32), .inl (0 : Int32)]) (rest := []) rfl rfl rfl (Nat.le_of_ble_eq_true rfl) h (fun mu8 la9 h => ?_)
          exact Ev.ret rfl rfl ⟨_, _, rfl, rfl, h⟩
        · have h := h.2 hc
          dsimp only
          refine Ev.steps 3 (ip' := 35) (ls' := [some (.inr (.inr (some (6, c)))), some (.inl a0), some (.inl a1), some (.inl (mu 8 0 a0.toNatClampNeg))]) (st' := [.inl a1, .inr (.inr (some (1, 0)))]) (M' := mem E mu2 la3) rfl ?_
          refine Ev.ci (J := mi_15) (as := [.inr (.inr (some (1, 0))), .inl a1]) (rest := []) rfl rfl rfl (Nat.le_of_ble_eq_true rfl) h (fun x10 mu11 la12 h => ?_)
          refine Ev.br (c := x10 = 0) (s1 := (43, [some (.inr (.inr (some (6, c)))), some (.inl a0), some (.inl a1), some (.inl (mu 8 0 a0.toNatClampNeg))], [], mem E mu11 la12)) (s2 := (37, [some (.inr (.inr (some (6, c)))), some (.inl a0), some (.inl a1), some (.inl (mu 8 0 a0.toNatClampNeg))], [], mem E mu11 la12)) rfl rfl rfl rfl (fun hc => ?_) (fun hc => ?_)
          · have h := h.1 hc
            dsimp only
            refine Ev.steps 4 (ip' := 47) (ls' := [some (.inr (.inr (some (6, c)))), some (.inl a0), some (.inl a1), some (.inl (mu 8 0 a0.toNatClampNeg))]) (st' := [.inl (0 : Int32), .inl (0 : Int32), .inl (0 : Int32), .inr (.inr (some (6, c)))]) (M' := mem E mu11 la12) rfl ?_
            refine Ev.cv (J := mi_119) (as := [.inr (.inr (some (6, c))), .inl (0 : Int32), .inl (0 : Int32), .inl (0 : Int32)]) (rest := []) rfl rfl rfl (Nat.le_of_ble_eq_true rfl) h (fun mu14 la15 h => ?_)
            exact Ev.ret rfl rfl ⟨_, _, rfl, rfl, h⟩
          · have h := h.2 hc
            dsimp only
            refine Ev.steps 4 (ip' := 41) (ls' := [some (.inr (.inr (some (6, c)))), some (.inl a0), some (.inl a1), some (.inl (mu 8 0 a0.toNatClampNeg))]) (st' := [.inl a1, .inl (mu 8 0 a0.toNatClampNeg), .inl (2 : Int32), .inr (.inr (some (6, c)))]) (M' := mem E mu11 la12) rfl ?_
            refine Ev.cv (J := mi_119) (as := [.inr (.inr (some (6, c))), .inl (2 : Int32), .inl (mu 8 0 a0.toNatClampNeg), .inl a1]) (rest := []) rfl rfl rfl (Nat.le_of_ble_eq_true rfl) h (fun mu17 la18 h => ?_)
            refine Ev.steps 1 (ip' := 48) (ls' := [some (.inr (.inr (some (6, c)))), some (.inl a0), some (.inl a1), some (.inl (mu 8 0 a0.toNatClampNeg))]) (st' := []) (M' := mem E mu17 la18) rfl ?_
            exact Ev.ret rfl rfl ⟨_, _, rfl, rfl, h⟩
    · have h := h.2 hc
      dsimp only
      refine Ev.steps 4 (ip' := 22) (ls' := [some (.inr (.inr (some (6, c)))), some (.inl a0), some (.inl a1), some (.inl (mu 8 0 a0.toNatClampNeg))]) (st' := [.inl (0 : Int32), .inl a0, .inl (3 : Int32), .inr (.inr (some (6, c)))]) (M' := mem E mu la) rfl ?_
      refine Ev.cv (J := mi_119) (as := [.inr (.inr (some (6, c))), .inl (3 : Int32), .inl a0, .inl (0 : Int32)]) (rest := []) rfl rfl rfl (Nat.le_of_ble_eq_true rfl) h (fun mu20 la21 h => ?_)
      refine Ev.steps 1 (ip' := 48) (ls' := [some (.inr (.inr (some (6, c)))), some (.inl a0), some (.inl a1), some (.inl (mu 8 0 a0.toNatClampNeg))]) (st' := []) (M' := mem E mu20 la21) rfl ?_
      exact Ev.ret rfl rfl ⟨_, _, rfl, rfl, h⟩
  · have h := h.2 hc
    dsimp only
    refine Ev.steps 4 (ip' := 13) (ls' := [some (.inr (.inr (some (6, c)))), some (.inl a0), some (.inl a1), some (.inl (mu 8 0 a0.toNatClampNeg))]) (st' := [.inl (0 : Int32), .inl a0, .inl (1 : Int32), .inr (.inr (some (6, c)))]) (M' := mem E mu la) rfl ?_
    refine Ev.cv (J := mi_119) (as := [.inr (.inr (some (6, c))), .inl (1 : Int32), .inl a0, .inl (0 : Int32)]) (rest := []) rfl rfl rfl (Nat.le_of_ble_eq_true rfl) h (fun mu23 la24 h => ?_)
    refine Ev.steps 1 (ip' := 48) (ls' := [some (.inr (.inr (some (6, c)))), some (.inl a0), some (.inl a1), some (.inl (mu 8 0 a0.toNatClampNeg))]) (st' := []) (M' := mem E mu23 la24) rfl ?_
    exact Ev.ret rfl rfl ⟨_, _, rfl, rfl, h⟩
set_option maxRecDepth 100000 in
/-- AnnCups.bestOrder(II)I -/
theorem vc_X6_bestOrder {E : mEv} {d : Nat} {c : Nat} (a0 : Int32) (a1 : Int32) {mu : fMu} {la : fLa} {Q : Int32 → fMu → fLa → Prop} (h : FnR E d mi_96 [.inr (.inr (some (6, c))), .inl a0] mu la 3 (fun mu2 la3 => Q (-1 : Int32) mu2 la3) (fun x1 mu2 la3 => (¬ (mu2 1 0 0) = 0 → (FnV E d mi_32 [.inr (.inr (some (4, 0))), .inr (.inr (some (0, 0))), .inl a1] mu2 la3 (fun mu5 la6 => FnV E d mi_35 [.inr (.inr (some (4, 0))), .inr (.inr (some (3, x1)))] mu5 la6 (fun mu8 la9 => Q (mu8 4 0 4) mu8 la9)))) ∧ (¬ (¬ (mu2 1 0 0) = 0) → (Q (-4 : Int32) mu2 la3)))) : FnI E (d + 1) mi_121 [.inr (.inr (some (6, c))), .inl a0, .inl a1] mu la Q := by
  unfold FnI
  show Ev E (d + 1) mi_121 0 [some (.inr (.inr (some (6, c)))), some (.inl a0), some (.inl a1), none] [] (mem E mu la) (qI E Q)
  refine Ev.steps 2 (ip' := 2) (ls' := [some (.inr (.inr (some (6, c)))), some (.inl a0), some (.inl a1), none]) (st' := [.inl a0, .inr (.inr (some (6, c)))]) (M' := mem E mu la) rfl ?_
  refine Ev.cr 3 (J := mi_96) (as := [.inr (.inr (some (6, c))), .inl a0]) (rest := []) rfl rfl rfl (Nat.le_of_ble_eq_true rfl) h (fun mu2 la3 h => ?_) (fun x1 mu2 la3 h => ?_)
  · refine Ev.steps 4 (ip' := 7) (ls' := [some (.inr (.inr (some (6, c)))), some (.inl a0), some (.inl a1), some (.inr (.inr none))]) (st' := [.inl (-1 : Int32)]) (M' := mem E mu2 la3) rfl ?_
    exact Ev.ret rfl rfl ⟨_, _, _, rfl, rfl, h⟩
  · refine Ev.steps 6 (ip' := 11) (ls' := [some (.inr (.inr (some (6, c)))), some (.inl a0), some (.inl a1), some (.inr (.inr (some (3, x1))))]) (st' := [.inl (mu2 1 0 0)]) (M' := mem E mu2 la3) rfl ?_
    refine Ev.br (c := ¬ (mu2 1 0 0) = 0) (s1 := (14, [some (.inr (.inr (some (6, c)))), some (.inl a0), some (.inl a1), some (.inr (.inr (some (3, x1))))], [], mem E mu2 la3)) (s2 := (12, [some (.inr (.inr (some (6, c)))), some (.inl a0), some (.inl a1), some (.inr (.inr (some (3, x1))))], [], mem E mu2 la3)) rfl rfl rfl rfl (fun hc => ?_) (fun hc => ?_)
    · have h := h.1 hc
      dsimp only
      refine Ev.steps 5 (ip' := 19) (ls' := [some (.inr (.inr (some (6, c)))), some (.inl a0), some (.inl a1), some (.inr (.inr (some (3, x1))))]) (st' := [.inl a1, .inr (.inr (some (0, 0))), .inr (.inr (some (4, 0)))]) (M' := mem E mu2 la3) rfl ?_
      refine Ev.cv (J := mi_32) (as := [.inr (.inr (some (4, 0))), .inr (.inr (some (0, 0))), .inl a1]) (rest := []) rfl rfl rfl (Nat.le_of_ble_eq_true rfl) h (fun mu5 la6 h => ?_)
      refine Ev.steps 3 (ip' := 23) (ls' := [some (.inr (.inr (some (6, c)))), some (.inl a0), some (.inl a1), some (.inr (.inr (some (3, x1))))]) (st' := [.inr (.inr (some (3, x1))), .inr (.inr (some (4, 0)))]) (M' := mem E mu5 la6) rfl ?_
      refine Ev.cv (J := mi_35) (as := [.inr (.inr (some (4, 0))), .inr (.inr (some (3, x1)))]) (rest := []) rfl rfl rfl (Nat.le_of_ble_eq_true rfl) h (fun mu8 la9 h => ?_)
      refine Ev.steps 3 (ip' := 27) (ls' := [some (.inr (.inr (some (6, c)))), some (.inl a0), some (.inl a1), some (.inr (.inr (some (3, x1))))]) (st' := [.inl (mu8 4 0 4)]) (M' := mem E mu8 la9) rfl ?_
      exact Ev.ret rfl rfl ⟨_, _, _, rfl, rfl, h⟩
    · have h := h.2 hc
      dsimp only
      refine Ev.steps 1 (ip' := 13) (ls' := [some (.inr (.inr (some (6, c)))), some (.inl a0), some (.inl a1), some (.inr (.inr (some (3, x1))))]) (st' := [.inl (-4 : Int32)]) (M' := mem E mu2 la3) rfl ?_
      exact Ev.ret rfl rfl ⟨_, _, _, rfl, rfl, h⟩
set_option maxRecDepth 100000 in
/-- AnnCups.leadsRing(I)Z -/
theorem vc_X6_leadsRing {E : mEv} {d : Nat} {c : Nat} (a0 : Int32) {mu : fMu} {la : fLa} {Q : Int32 → fMu → fLa → Prop} (h : Ev E (d + 1) mi_122 4 [some (.inr (.inr (some (6, c)))), some (.inl a0), some (.inl a0), some (.inl (0 : Int32))] [] (mem E mu la) (qI E Q)) : FnI E (d + 1) mi_122 [.inr (.inr (some (6, c))), .inl a0] mu la Q := by
  unfold FnI
  show Ev E (d + 1) mi_122 0 [some (.inr (.inr (some (6, c)))), some (.inl a0), none, none] [] (mem E mu la) (qI E Q)
  refine Ev.steps 4 (ip' := 4) (ls' := [some (.inr (.inr (some (6, c)))), some (.inl a0), some (.inl a0), some (.inl (0 : Int32))]) (st' := []) (M' := mem E mu la) rfl ?_
  exact h
set_option maxRecDepth 100000 in
theorem vc_X6_leadsRing_4 {E : mEv} {d : Nat}  (v0 : Nat) (v1 : Int32) (v2 : Int32) (v3 : Int32) {mu : fMu} {la : fLa} {Q : Int32 → fMu → fLa → Prop} (h : ((6 : Int32) ≤ v3 → (Q (0 : Int32) mu la)) ∧ (¬ ((6 : Int32) ≤ v3) → (vp_in v2 6 ∧ (FnI E d mi_14 [.inr (.inr (some (1, 0))), .inl (mu 9 0 v2.toNatClampNeg)] mu la (fun x1 mu2 la3 => (x1 = 0 → (Q (0 : Int32) mu2 la3)) ∧ (¬ (x1 = 0) → ((v1 ≤ (mu 9 0 v2.toNatClampNeg) → ((¬ (mu 9 0 v2.toNatClampNeg) = v1 → (Ev E (d + 1) mi_122 4 [some (.inr (.inr (some (6, v0)))), some (.inl v1), some (.inl (mu 9 0 v2.toNatClampNeg)), some (.inl (v3 + (1 : Int32)))] [] (mem E mu2 la3) (qI E Q))) ∧ (¬ (¬ (mu 9 0 v2.toNatClampNeg) = v1) → (Q (1 : Int32) mu2 la3)))) ∧ (¬ (v1 ≤ (mu 9 0 v2.toNatClampNeg)) → (Q (0 : Int32) mu2 la3))))))))) : Ev E (d + 1) mi_122 4 [some (.inr (.inr (some (6, v0)))), some (.inl v1), some (.inl v2), some (.inl v3)] [] (mem E mu la) (qI E Q) := by
  refine Ev.steps 2 (ip' := 6) (ls' := [some (.inr (.inr (some (6, v0)))), some (.inl v1), some (.inl v2), some (.inl v3)]) (st' := [.inl (6 : Int32), .inl v3]) (M' := mem E mu la) rfl ?_
  refine Ev.br (c := (6 : Int32) ≤ v3) (s1 := (30, [some (.inr (.inr (some (6, v0)))), some (.inl v1), some (.inl v2), some (.inl v3)], [], mem E mu la)) (s2 := (7, [some (.inr (.inr (some (6, v0)))), some (.inl v1), some (.inl v2), some (.inl v3)], [], mem E mu la)) rfl rfl rfl rfl (fun hc => ?_) (fun hc => ?_)
  · have h := h.1 hc
    dsimp only
    refine Ev.steps 1 (ip' := 31) (ls' := [some (.inr (.inr (some (6, v0)))), some (.inl v1), some (.inl v2), some (.inl v3)]) (st' := [.inl (0 : Int32)]) (M' := mem E mu la) rfl ?_
    exact Ev.retZ rfl rfl (Or.inl rfl) ⟨_, _, _, rfl, rfl, h⟩
  · have h := h.2 hc
    dsimp only
    refine Ev.steps 4 (ip' := 11) (ls' := [some (.inr (.inr (some (6, v0)))), some (.inl v1), some (.inl v2), some (.inl v3)]) (st' := [.inl v2, .inr (.inr (some (9, 0)))]) (M' := mem E mu la) rfl ?_
    refine Ev.ial rfl rfl (by decide) h.1 ?_
    have h := h.2
    refine Ev.steps 4 (ip' := 16) (ls' := [some (.inr (.inr (some (6, v0)))), some (.inl v1), some (.inl (mu 9 0 v2.toNatClampNeg)), some (.inl v3)]) (st' := [.inl (mu 9 0 v2.toNatClampNeg), .inr (.inr (some (1, 0)))]) (M' := mem E mu la) rfl ?_
    refine Ev.ci (J := mi_14) (as := [.inr (.inr (some (1, 0))), .inl (mu 9 0 v2.toNatClampNeg)]) (rest := []) rfl rfl rfl (Nat.le_of_ble_eq_true rfl) h (fun x1 mu2 la3 h => ?_)
    refine Ev.br (c := x1 = 0) (s1 := (21, [some (.inr (.inr (some (6, v0)))), some (.inl v1), some (.inl (mu 9 0 v2.toNatClampNeg)), some (.inl v3)], [], mem E mu2 la3)) (s2 := (18, [some (.inr (.inr (some (6, v0)))), some (.inl v1), some (.inl (mu 9 0 v2.toNatClampNeg)), some (.inl v3)], [], mem E mu2 la3)) rfl rfl rfl rfl (fun hc => ?_) (fun hc => ?_)
    · have h := h.1 hc
      dsimp only
      refine Ev.steps 1 (ip' := 22) (ls' := [some (.inr (.inr (some (6, v0)))), some (.inl v1), some (.inl (mu 9 0 v2.toNatClampNeg)), some (.inl v3)]) (st' := [.inl (0 : Int32)]) (M' := mem E mu2 la3) rfl ?_
      exact Ev.retZ rfl rfl (Or.inl rfl) ⟨_, _, _, rfl, rfl, h⟩
    · have h := h.2 hc
      dsimp only
      refine Ev.steps 2 (ip' := 20) (ls' := [some (.inr (.inr (some (6, v0)))), some (.inl v1), some (.inl (mu 9 0 v2.toNatClampNeg)), some (.inl v3)]) (st' := [.inl v1, .inl (mu 9 0 v2.toNatClampNeg)]) (M' := mem E mu2 la3) rfl ?_
      refine Ev.br (c := v1 ≤ (mu 9 0 v2.toNatClampNeg)) (s1 := (23, [some (.inr (.inr (some (6, v0)))), some (.inl v1), some (.inl (mu 9 0 v2.toNatClampNeg)), some (.inl v3)], [], mem E mu2 la3)) (s2 := (21, [some (.inr (.inr (some (6, v0)))), some (.inl v1), some (.inl (mu 9 0 v2.toNatClampNeg)), some (.inl v3)], [], mem E mu2 la3)) rfl rfl rfl rfl (fun hc => ?_) (fun hc => ?_)
      · have h := h.1 hc
        dsimp only
        refine Ev.steps 2 (ip' := 25) (ls' := [some (.inr (.inr (some (6, v0)))), some (.inl v1), some (.inl (mu 9 0 v2.toNatClampNeg)), some (.inl v3)]) (st' := [.inl v1, .inl (mu 9 0 v2.toNatClampNeg)]) (M' := mem E mu2 la3) rfl ?_
        refine Ev.br (c := ¬ (mu 9 0 v2.toNatClampNeg) = v1) (s1 := (28, [some (.inr (.inr (some (6, v0)))), some (.inl v1), some (.inl (mu 9 0 v2.toNatClampNeg)), some (.inl v3)], [], mem E mu2 la3)) (s2 := (26, [some (.inr (.inr (some (6, v0)))), some (.inl v1), some (.inl (mu 9 0 v2.toNatClampNeg)), some (.inl v3)], [], mem E mu2 la3)) rfl rfl rfl rfl (fun hc => ?_) (fun hc => ?_)
        · have h := h.1 hc
          dsimp only
          refine Ev.steps 2 (ip' := 4) (ls' := [some (.inr (.inr (some (6, v0)))), some (.inl v1), some (.inl (mu 9 0 v2.toNatClampNeg)), some (.inl (v3 + (1 : Int32)))]) (st' := []) (M' := mem E mu2 la3) rfl ?_
          exact h
        · have h := h.2 hc
          dsimp only
          refine Ev.steps 1 (ip' := 27) (ls' := [some (.inr (.inr (some (6, v0)))), some (.inl v1), some (.inl (mu 9 0 v2.toNatClampNeg)), some (.inl v3)]) (st' := [.inl (1 : Int32)]) (M' := mem E mu2 la3) rfl ?_
          exact Ev.retZ rfl rfl (Or.inr rfl) ⟨_, _, _, rfl, rfl, h⟩
      · have h := h.2 hc
        dsimp only
        refine Ev.steps 1 (ip' := 22) (ls' := [some (.inr (.inr (some (6, v0)))), some (.inl v1), some (.inl (mu 9 0 v2.toNatClampNeg)), some (.inl v3)]) (st' := [.inl (0 : Int32)]) (M' := mem E mu2 la3) rfl ?_
        exact Ev.retZ rfl rfl (Or.inl rfl) ⟨_, _, _, rfl, rfl, h⟩
set_option maxRecDepth 100000 in
/-- AnnCups.tellsWhoTookWhat(LAnnCups$Row;)Z -/
theorem vc_X6_tellsWhoTookWhat {E : mEv} {d : Nat} {c : Nat} (a0 : Nat) {mu : fMu} {la : fLa} {Q : Int32 → fMu → fLa → Prop} (h : Ev E (d + 1) mi_123 6 [some (.inr (.inr (some (6, c)))), some (.inr (.inr (some (3, a0)))), some (.inl (mu 0 0 3)), some (.inl (0 : Int32)), none, none] [] (mem E mu la) (qI E Q)) : FnI E (d + 1) mi_123 [.inr (.inr (some (6, c))), .inr (.inr (some (3, a0)))] mu la Q := by
  unfold FnI
  show Ev E (d + 1) mi_123 0 [some (.inr (.inr (some (6, c)))), some (.inr (.inr (some (3, a0)))), none, none, none, none] [] (mem E mu la) (qI E Q)
  refine Ev.steps 6 (ip' := 6) (ls' := [some (.inr (.inr (some (6, c)))), some (.inr (.inr (some (3, a0)))), some (.inl (mu 0 0 3)), some (.inl (0 : Int32)), none, none]) (st' := []) (M' := mem E mu la) rfl ?_
  exact h
set_option maxRecDepth 100000 in
theorem vc_X6_tellsWhoTookWhat_6 {E : mEv} {d : Nat}  (v0 : Nat) (v1 : Nat) (v2 : Int32) (v3 : Int32) {mu : fMu} {la : fLa} {Q : Int32 → fMu → fLa → Prop} (h : ((mu 3 v1 0) ≤ (v3 + (1 : Int32)) → (Q (1 : Int32) mu la)) ∧ (¬ ((mu 3 v1 0) ≤ (v3 + (1 : Int32))) → (vp_in v3 40 ∧ (vp_in (v3 + (1 : Int32)) 40 ∧ (FnI E d mi_14 [.inr (.inr (some (1, 0))), .inl (mu 21 v1 v3.toNatClampNeg)] mu la (fun x1 mu2 la3 => (x1 = 0 → (Q (0 : Int32) mu2 la3)) ∧ (¬ (x1 = 0) → ((¬ (v2 &&& ((1 : Int32) <<< ((mu 21 v1 v3.toNatClampNeg) &&& 31))) = 0 → (Q (0 : Int32) mu2 la3)) ∧ (¬ (¬ (v2 &&& ((1 : Int32) <<< ((mu 21 v1 v3.toNatClampNeg) &&& 31))) = 0) → (FnI E d mi_14 [.inr (.inr (some (1, 0))), .inl (mu 21 v1 (v3 + (1 : Int32)).toNatClampNeg)] mu2 la3 (fun x4 mu5 la6 => (¬ x4 = 0 → (Ev E (d + 1) mi_123 6 [some (.inr (.inr (some (6, v0)))), some (.inr (.inr (some (3, v1)))), some (.inl (v2 ||| ((1 : Int32) <<< ((mu 21 v1 v3.toNatClampNeg) &&& 31)))), some (.inl (v3 + (2 : Int32))), none, none] [] (mem E mu5 la6) (qI E Q))) ∧ (¬ (¬ x4 = 0) → (((mu 21 v1 (v3 + (1 : Int32)).toNatClampNeg) = (-9 : Int32) → (Ev E (d + 1) mi_123 6 [some (.inr (.inr (some (6, v0)))), some (.inr (.inr (some (3, v1)))), some (.inl (v2 ||| ((1 : Int32) <<< ((mu 21 v1 v3.toNatClampNeg) &&& 31)))), some (.inl (v3 + (2 : Int32))), none, none] [] (mem E mu5 la6) (qI E Q))) ∧ (¬ ((mu 21 v1 (v3 + (1 : Int32)).toNatClampNeg) = (-9 : Int32)) → (Q (0 : Int32) mu5 la6))))))))))))))) : Ev E (d + 1) mi_123 6 [some (.inr (.inr (some (6, v0)))), some (.inr (.inr (some (3, v1)))), some (.inl v2), some (.inl v3), none, none] [] (mem E mu la) (qI E Q) := by
  refine Ev.steps 5 (ip' := 11) (ls' := [some (.inr (.inr (some (6, v0)))), some (.inr (.inr (some (3, v1)))), some (.inl v2), some (.inl v3), none, none]) (st' := [.inl (mu 3 v1 0), .inl (v3 + (1 : Int32))]) (M' := mem E mu la) rfl ?_
  refine Ev.br (c := (mu 3 v1 0) ≤ (v3 + (1 : Int32))) (s1 := (53, [some (.inr (.inr (some (6, v0)))), some (.inr (.inr (some (3, v1)))), some (.inl v2), some (.inl v3), none, none], [], mem E mu la)) (s2 := (12, [some (.inr (.inr (some (6, v0)))), some (.inr (.inr (some (3, v1)))), some (.inl v2), some (.inl v3), none, none], [], mem E mu la)) rfl rfl rfl rfl (fun hc => ?_) (fun hc => ?_)
  · have h := h.1 hc
    dsimp only
    refine Ev.steps 1 (ip' := 54) (ls' := [some (.inr (.inr (some (6, v0)))), some (.inr (.inr (some (3, v1)))), some (.inl v2), some (.inl v3), none, none]) (st' := [.inl (1 : Int32)]) (M' := mem E mu la) rfl ?_
    exact Ev.retZ rfl rfl (Or.inr rfl) ⟨_, _, _, rfl, rfl, h⟩
  · have h := h.2 hc
    dsimp only
    refine Ev.steps 3 (ip' := 15) (ls' := [some (.inr (.inr (some (6, v0)))), some (.inr (.inr (some (3, v1)))), some (.inl v2), some (.inl v3), none, none]) (st' := [.inl v3, .inr (.inr (some (21, v1)))]) (M' := mem E mu la) rfl ?_
    refine Ev.ial rfl rfl (by decide) h.1 ?_
    have h := h.2
    refine Ev.steps 6 (ip' := 22) (ls' := [some (.inr (.inr (some (6, v0)))), some (.inr (.inr (some (3, v1)))), some (.inl v2), some (.inl v3), some (.inl (mu 21 v1 v3.toNatClampNeg)), none]) (st' := [.inl (v3 + (1 : Int32)), .inr (.inr (some (21, v1)))]) (M' := mem E mu la) rfl ?_
    refine Ev.ial rfl rfl (by decide) h.1 ?_
    have h := h.2
    refine Ev.steps 4 (ip' := 27) (ls' := [some (.inr (.inr (some (6, v0)))), some (.inr (.inr (some (3, v1)))), some (.inl v2), some (.inl v3), some (.inl (mu 21 v1 v3.toNatClampNeg)), some (.inl (mu 21 v1 (v3 + (1 : Int32)).toNatClampNeg))]) (st' := [.inl (mu 21 v1 v3.toNatClampNeg), .inr (.inr (some (1, 0)))]) (M' := mem E mu la) rfl ?_
    refine Ev.ci (J := mi_14) (as := [.inr (.inr (some (1, 0))), .inl (mu 21 v1 v3.toNatClampNeg)]) (rest := []) rfl rfl rfl (Nat.le_of_ble_eq_true rfl) h (fun x1 mu2 la3 h => ?_)
    refine Ev.br (c := x1 = 0) (s1 := (43, [some (.inr (.inr (some (6, v0)))), some (.inr (.inr (some (3, v1)))), some (.inl v2), some (.inl v3), some (.inl (mu 21 v1 v3.toNatClampNeg)), some (.inl (mu 21 v1 (v3 + (1 : Int32)).toNatClampNeg))], [], mem E mu2 la3)) (s2 := (29, [some (.inr (.inr (some (6, v0)))), some (.inr (.inr (some (3, v1)))), some (.inl v2), some (.inl v3), some (.inl (mu 21 v1 v3.toNatClampNeg)), some (.inl (mu 21 v1 (v3 + (1 : Int32)).toNatClampNeg))], [], mem E mu2 la3)) rfl rfl rfl rfl (fun hc => ?_) (fun hc => ?_)
    · have h := h.1 hc
      dsimp only
      refine Ev.steps 1 (ip' := 44) (ls' := [some (.inr (.inr (some (6, v0)))), some (.inr (.inr (some (3, v1)))), some (.inl v2), some (.inl v3), some (.inl (mu 21 v1 v3.toNatClampNeg)), some (.inl (mu 21 v1 (v3 + (1 : Int32)).toNatClampNeg))]) (st' := [.inl (0 : Int32)]) (M' := mem E mu2 la3) rfl ?_
      exact Ev.retZ rfl rfl (Or.inl rfl) ⟨_, _, _, rfl, rfl, h⟩
    · have h := h.2 hc
      dsimp only
      refine Ev.steps 5 (ip' := 34) (ls' := [some (.inr (.inr (some (6, v0)))), some (.inr (.inr (some (3, v1)))), some (.inl v2), some (.inl v3), some (.inl (mu 21 v1 v3.toNatClampNeg)), some (.inl (mu 21 v1 (v3 + (1 : Int32)).toNatClampNeg))]) (st' := [.inl (v2 &&& ((1 : Int32) <<< ((mu 21 v1 v3.toNatClampNeg) &&& 31)))]) (M' := mem E mu2 la3) rfl ?_
      refine Ev.br (c := ¬ (v2 &&& ((1 : Int32) <<< ((mu 21 v1 v3.toNatClampNeg) &&& 31))) = 0) (s1 := (43, [some (.inr (.inr (some (6, v0)))), some (.inr (.inr (some (3, v1)))), some (.inl v2), some (.inl v3), some (.inl (mu 21 v1 v3.toNatClampNeg)), some (.inl (mu 21 v1 (v3 + (1 : Int32)).toNatClampNeg))], [], mem E mu2 la3)) (s2 := (35, [some (.inr (.inr (some (6, v0)))), some (.inr (.inr (some (3, v1)))), some (.inl v2), some (.inl v3), some (.inl (mu 21 v1 v3.toNatClampNeg)), some (.inl (mu 21 v1 (v3 + (1 : Int32)).toNatClampNeg))], [], mem E mu2 la3)) rfl rfl rfl rfl (fun hc => ?_) (fun hc => ?_)
      · have h := h.1 hc
        dsimp only
        refine Ev.steps 1 (ip' := 44) (ls' := [some (.inr (.inr (some (6, v0)))), some (.inr (.inr (some (3, v1)))), some (.inl v2), some (.inl v3), some (.inl (mu 21 v1 v3.toNatClampNeg)), some (.inl (mu 21 v1 (v3 + (1 : Int32)).toNatClampNeg))]) (st' := [.inl (0 : Int32)]) (M' := mem E mu2 la3) rfl ?_
        exact Ev.retZ rfl rfl (Or.inl rfl) ⟨_, _, _, rfl, rfl, h⟩
      · have h := h.2 hc
        dsimp only
        refine Ev.steps 3 (ip' := 38) (ls' := [some (.inr (.inr (some (6, v0)))), some (.inr (.inr (some (3, v1)))), some (.inl v2), some (.inl v3), some (.inl (mu 21 v1 v3.toNatClampNeg)), some (.inl (mu 21 v1 (v3 + (1 : Int32)).toNatClampNeg))]) (st' := [.inl (mu 21 v1 (v3 + (1 : Int32)).toNatClampNeg), .inr (.inr (some (1, 0)))]) (M' := mem E mu2 la3) rfl ?_
        refine Ev.ci (J := mi_14) (as := [.inr (.inr (some (1, 0))), .inl (mu 21 v1 (v3 + (1 : Int32)).toNatClampNeg)]) (rest := []) rfl rfl rfl (Nat.le_of_ble_eq_true rfl) h (fun x4 mu5 la6 h => ?_)
        refine Ev.br (c := ¬ x4 = 0) (s1 := (45, [some (.inr (.inr (some (6, v0)))), some (.inr (.inr (some (3, v1)))), some (.inl v2), some (.inl v3), some (.inl (mu 21 v1 v3.toNatClampNeg)), some (.inl (mu 21 v1 (v3 + (1 : Int32)).toNatClampNeg))], [], mem E mu5 la6)) (s2 := (40, [some (.inr (.inr (some (6, v0)))), some (.inr (.inr (some (3, v1)))), some (.inl v2), some (.inl v3), some (.inl (mu 21 v1 v3.toNatClampNeg)), some (.inl (mu 21 v1 (v3 + (1 : Int32)).toNatClampNeg))], [], mem E mu5 la6)) rfl rfl rfl rfl (fun hc => ?_) (fun hc => ?_)
        · have h := h.1 hc
          dsimp only
          refine Ev.steps 8 (ip' := 6) (ls' := [some (.inr (.inr (some (6, v0)))), some (.inr (.inr (some (3, v1)))), some (.inl (v2 ||| ((1 : Int32) <<< ((mu 21 v1 v3.toNatClampNeg) &&& 31)))), some (.inl (v3 + (2 : Int32))), some (.inl (mu 21 v1 v3.toNatClampNeg)), some (.inl (mu 21 v1 (v3 + (1 : Int32)).toNatClampNeg))]) (st' := []) (M' := mem E mu5 la6) rfl ?_
          refine Ev.drop (ls := [some (.inr (.inr (some (6, v0)))), some (.inr (.inr (some (3, v1)))), some (.inl (v2 ||| ((1 : Int32) <<< ((mu 21 v1 v3.toNatClampNeg) &&& 31)))), some (.inl (v3 + (2 : Int32))), none, none]) ⟨Or.inr rfl, Or.inr rfl, Or.inr rfl, Or.inr rfl, Or.inl rfl, Or.inl rfl, trivial⟩ ?_
          exact h
        · have h := h.2 hc
          dsimp only
          refine Ev.steps 2 (ip' := 42) (ls' := [some (.inr (.inr (some (6, v0)))), some (.inr (.inr (some (3, v1)))), some (.inl v2), some (.inl v3), some (.inl (mu 21 v1 v3.toNatClampNeg)), some (.inl (mu 21 v1 (v3 + (1 : Int32)).toNatClampNeg))]) (st' := [.inl (-9 : Int32), .inl (mu 21 v1 (v3 + (1 : Int32)).toNatClampNeg)]) (M' := mem E mu5 la6) rfl ?_
          refine Ev.br (c := (mu 21 v1 (v3 + (1 : Int32)).toNatClampNeg) = (-9 : Int32)) (s1 := (45, [some (.inr (.inr (some (6, v0)))), some (.inr (.inr (some (3, v1)))), some (.inl v2), some (.inl v3), some (.inl (mu 21 v1 v3.toNatClampNeg)), some (.inl (mu 21 v1 (v3 + (1 : Int32)).toNatClampNeg))], [], mem E mu5 la6)) (s2 := (43, [some (.inr (.inr (some (6, v0)))), some (.inr (.inr (some (3, v1)))), some (.inl v2), some (.inl v3), some (.inl (mu 21 v1 v3.toNatClampNeg)), some (.inl (mu 21 v1 (v3 + (1 : Int32)).toNatClampNeg))], [], mem E mu5 la6)) rfl rfl rfl rfl (fun hc => ?_) (fun hc => ?_)
          · have h := h.1 hc
            dsimp only
            refine Ev.steps 8 (ip' := 6) (ls' := [some (.inr (.inr (some (6, v0)))), some (.inr (.inr (some (3, v1)))), some (.inl (v2 ||| ((1 : Int32) <<< ((mu 21 v1 v3.toNatClampNeg) &&& 31)))), some (.inl (v3 + (2 : Int32))), some (.inl (mu 21 v1 v3.toNatClampNeg)), some (.inl (mu 21 v1 (v3 + (1 : Int32)).toNatClampNeg))]) (st' := []) (M' := mem E mu5 la6) rfl ?_
            refine Ev.drop (ls := [some (.inr (.inr (some (6, v0)))), some (.inr (.inr (some (3, v1)))), some (.inl (v2 ||| ((1 : Int32) <<< ((mu 21 v1 v3.toNatClampNeg) &&& 31)))), some (.inl (v3 + (2 : Int32))), none, none]) ⟨Or.inr rfl, Or.inr rfl, Or.inr rfl, Or.inr rfl, Or.inl rfl, Or.inl rfl, trivial⟩ ?_
            exact h
          · have h := h.2 hc
            dsimp only
            refine Ev.steps 1 (ip' := 44) (ls' := [some (.inr (.inr (some (6, v0)))), some (.inr (.inr (some (3, v1)))), some (.inl v2), some (.inl v3), some (.inl (mu 21 v1 v3.toNatClampNeg)), some (.inl (mu 21 v1 (v3 + (1 : Int32)).toNatClampNeg))]) (st' := [.inl (0 : Int32)]) (M' := mem E mu5 la6) rfl ?_
            exact Ev.retZ rfl rfl (Or.inl rfl) ⟨_, _, _, rfl, rfl, h⟩
