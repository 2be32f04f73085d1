set_option maxRecDepth 100000 in
/-- AnnCups.mark(II)I -/
theorem vc_X6_mark {E : mEv} {d : Nat} {c : Nat} (a0 : Int32) (a1 : Int32) {mu : fMu} {la : fLa} {Q : Int32 → fMu → fLa → Prop} (h : FnI E d mi_14 [.inr (.inr (some (1, 0))), .inl a0] mu la (fun x1 mu2 la3 => (x1 = 0 → (Q (-1 : Int32) mu2 la3)) ∧ (¬ (x1 = 0) → ((a1 < (1 : Int32) → (Q (-1 : Int32) mu2 la3)) ∧ (¬ (a1 < (1 : Int32)) → ((a1 ≤ (5 : Int32) → (vp_in a0 6 ∧ (FnI E d mi_105 [.inl (mu2 10 0 a0.toNatClampNeg), .inl a1] mu2 la3 (fun x4 mu5 la6 => (¬ x4 = 0 → ((a1 = 1 → (FnI E d mi_117 [.inr (.inr (some (6, c))), .inl a0] mu5 la6 (fun x7 mu8 la9 => Q x7 mu8 la9))) ∧ (¬ a1 = 1 → ((a1 = 2 → (FnI E d mi_118 [.inr (.inr (some (6, c))), .inl a0] mu5 la6 (fun x10 mu11 la12 => Q x10 mu11 la12))) ∧ (¬ a1 = 2 → ((a1 = 3 → (vp_in a0 6 ∧ (FnI E d mi_227 [.inl (mu5 15 0 a0.toNatClampNeg)] mu5 la6 (fun x13 mu14 la15 => Q x13 mu14 la15)))) ∧ (¬ a1 = 3 → ((a1 = 4 → (vp_in a0 6 ∧ (Q (mu5 17 0 a0.toNatClampNeg) mu5 la6))) ∧ (¬ a1 = 4 → (vp_in a0 6 ∧ (FnI E d mi_108 [.inl (mu5 11 0 a0.toNatClampNeg)] mu5 la6 (fun x16 mu17 la18 => Q x16 mu17 la18)))))))))))) ∧ (¬ (¬ x4 = 0) → (FnI E d mi_95 [.inr (.inr (some (6, c))), .inl (3 : Int32)] mu5 la6 (fun x19 mu20 la21 => Q x19 mu20 la21))))))) ∧ (¬ (a1 ≤ (5 : Int32)) → (Q (-1 : Int32) mu2 la3)))))))) : FnI E (d + 1) mi_61 [.inr (.inr (some (6, c))), .inl a0, .inl a1] mu la Q := by
  unfold FnI
  show Ev E (d + 1) mi_61 0 [some (.inr (.inr (some (6, c)))), some (.inl a0), some (.inl a1)] [] (mem E mu la) (qI E Q)
  refine Ev.steps 3 (ip' := 3) (ls' := [some (.inr (.inr (some (6, c)))), some (.inl a0), some (.inl a1)]) (st' := [.inl a0, .inr (.inr (some (1, 0)))]) (M' := mem E mu la) rfl ?_
  refine Ev.ci (J := mi_14) (as := [.inr (.inr (some (1, 0))), .inl a0]) (rest := []) rfl rfl rfl (Nat.le_of_ble_eq_true rfl) h (fun x1 mu2 la3 h => ?_)
  refine Ev.br (c := x1 = 0) (s1 := (11, [some (.inr (.inr (some (6, c)))), some (.inl a0), some (.inl a1)], [], mem E mu2 la3)) (s2 := (5, [some (.inr (.inr (some (6, c)))), some (.inl a0), some (.inl a1)], [], mem E mu2 la3)) rfl rfl rfl rfl (fun hc => ?_) (fun hc => ?_)
  · have h := h.1 hc
    dsimp only
    refine Ev.steps 1 (ip' := 12) (ls' := [some (.inr (.inr (some (6, c)))), some (.inl a0), some (.inl a1)]) (st' := [.inl (-1 : Int32)]) (M' := mem E mu2 la3) rfl ?_
    exact Ev.ret rfl rfl ⟨_, _, _, rfl, rfl, h⟩
  · have h := h.2 hc
    dsimp only
    refine Ev.steps 2 (ip' := 7) (ls' := [some (.inr (.inr (some (6, c)))), some (.inl a0), some (.inl a1)]) (st' := [.inl (1 : Int32), .inl a1]) (M' := mem E mu2 la3) rfl ?_
    refine Ev.br (c := a1 < (1 : Int32)) (s1 := (11, [some (.inr (.inr (some (6, c)))), some (.inl a0), some (.inl a1)], [], mem E mu2 la3)) (s2 := (8, [some (.inr (.inr (some (6, c)))), some (.inl a0), some (.inl a1)], [], mem E mu2 la3)) rfl rfl rfl rfl (fun hc => ?_) (fun hc => ?_)
    · have h := h.1 hc
      dsimp only
      refine Ev.steps 1 (ip' := 12) (ls' := [some (.inr (.inr (some (6, c)))), some (.inl a0), some (.inl a1)]) (st' := [.inl (-1 : Int32)]) (M' := mem E mu2 la3) rfl ?_
      exact Ev.ret rfl rfl ⟨_, _, _, rfl, rfl, h⟩
    · have h := h.2 hc
      dsimp only
      refine Ev.steps 2 (ip' := 10) (ls' := [some (.inr (.inr (some (6, c)))), some (.inl a0), some (.inl a1)]) (st' := [.inl (5 : Int32), .inl a1]) (M' := mem E mu2 la3) rfl ?_
      refine Ev.br (c := a1 ≤ (5 : Int32)) (s1 := (13, [some (.inr (.inr (some (6, c)))), some (.inl a0), some (.inl a1)], [], mem E mu2 la3)) (s2 := (11, [some (.inr (.inr (some (6, c)))), some (.inl a0), some (.inl a1)], [], mem E mu2 la3)) rfl rfl rfl rfl (fun hc => ?_) (fun hc => ?_)
      · have h := h.1 hc
        dsimp only
        refine Ev.steps 4 (ip' := 17) (ls' := [some (.inr (.inr (some (6, c)))), some (.inl a0), some (.inl a1)]) (st' := [.inl a0, .inr (.inr (some (10, 0)))]) (M' := mem E mu2 la3) rfl ?_
        refine Ev.ial rfl rfl (by decide) h.1 ?_
        have h := h.2
        refine Ev.steps 1 (ip' := 19) (ls' := [some (.inr (.inr (some (6, c)))), some (.inl a0), some (.inl a1)]) (st' := [.inl a1, .inl (mu2 10 0 a0.toNatClampNeg)]) (M' := mem E mu2 la3) rfl ?_
        refine Ev.ci (J := mi_105) (as := [.inl (mu2 10 0 a0.toNatClampNeg), .inl a1]) (rest := []) rfl rfl rfl (Nat.le_of_ble_eq_true rfl) h (fun x4 mu5 la6 h => ?_)
        refine Ev.br (c := ¬ x4 = 0) (s1 := (25, [some (.inr (.inr (some (6, c)))), some (.inl a0), some (.inl a1)], [], mem E mu5 la6)) (s2 := (21, [some (.inr (.inr (some (6, c)))), some (.inl a0), some (.inl a1)], [], mem E mu5 la6)) rfl rfl rfl rfl (fun hc => ?_) (fun hc => ?_)
        · have h := h.1 hc
          dsimp only
          refine Ev.steps 1 (ip' := 26) (ls' := [some (.inr (.inr (some (6, c)))), some (.inl a0), some (.inl a1)]) (st' := [.inl a1]) (M' := mem E mu5 la6) rfl ?_
          by_cases hc0 : a1 = 1
          · refine Ev.one (s' := (27, [some (.inr (.inr (some (6, c)))), some (.inl a0), some (.inl a1)], [], mem E mu5 la6)) rfl rfl rfl (by rw [hc0]; rfl) ?_
            have h := h.1 hc0
            dsimp only
            refine Ev.steps 2 (ip' := 29) (ls' := [some (.inr (.inr (some (6, c)))), some (.inl a0), some (.inl a1)]) (st' := [.inl a0, .inr (.inr (some (6, c)))]) (M' := mem E mu5 la6) rfl ?_
            refine Ev.ci (J := mi_117) (as := [.inr (.inr (some (6, c))), .inl a0]) (rest := []) rfl rfl rfl (Nat.le_of_ble_eq_true rfl) h (fun x7 mu8 la9 h => ?_)
            exact Ev.ret rfl rfl ⟨_, _, _, rfl, rfl, h⟩
          · have h := h.2 hc0
            by_cases hc1 : a1 = 2
            · refine Ev.one (s' := (31, [some (.inr (.inr (some (6, c)))), some (.inl a0), some (.inl a1)], [], mem E mu5 la6)) rfl rfl rfl (by rw [hc1]; rfl) ?_
              have h := h.1 hc1
              dsimp only
              refine Ev.steps 2 (ip' := 33) (ls' := [some (.inr (.inr (some (6, c)))), some (.inl a0), some (.inl a1)]) (st' := [.inl a0, .inr (.inr (some (6, c)))]) (M' := mem E mu5 la6) rfl ?_
              refine Ev.ci (J := mi_118) (as := [.inr (.inr (some (6, c))), .inl a0]) (rest := []) rfl rfl rfl (Nat.le_of_ble_eq_true rfl) h (fun x10 mu11 la12 h => ?_)
              exact Ev.ret rfl rfl ⟨_, _, _, rfl, rfl, h⟩
            · have h := h.2 hc1
              by_cases hc2 : a1 = 3
              · refine Ev.one (s' := (35, [some (.inr (.inr (some (6, c)))), some (.inl a0), some (.inl a1)], [], mem E mu5 la6)) rfl rfl rfl (by rw [hc2]; rfl) ?_
                have h := h.1 hc2
                dsimp only
                refine Ev.steps 4 (ip' := 39) (ls' := [some (.inr (.inr (some (6, c)))), some (.inl a0), some (.inl a1)]) (st' := [.inl a0, .inr (.inr (some (15, 0)))]) (M' := mem E mu5 la6) rfl ?_
                refine Ev.ial rfl rfl (by decide) h.1 ?_
                have h := h.2
                refine Ev.ci (J := mi_227) (as := [.inl (mu5 15 0 a0.toNatClampNeg)]) (rest := []) rfl rfl rfl (Nat.le_of_ble_eq_true rfl) h (fun x13 mu14 la15 h => ?_)
                exact Ev.ret rfl rfl ⟨_, _, _, rfl, rfl, h⟩
              · have h := h.2 hc2
                by_cases hc3 : a1 = 4
                · refine Ev.one (s' := (42, [some (.inr (.inr (some (6, c)))), some (.inl a0), some (.inl a1)], [], mem E mu5 la6)) rfl rfl rfl (by rw [hc3]; rfl) ?_
                  have h := h.1 hc3
                  dsimp only
                  refine Ev.steps 4 (ip' := 46) (ls' := [some (.inr (.inr (some (6, c)))), some (.inl a0), some (.inl a1)]) (st' := [.inl a0, .inr (.inr (some (17, 0)))]) (M' := mem E mu5 la6) rfl ?_
                  refine Ev.ial rfl rfl (by decide) h.1 ?_
                  have h := h.2
                  exact Ev.ret rfl rfl ⟨_, _, _, rfl, rfl, h⟩
                · have h := h.2 hc3
                  refine Ev.one (s' := (48, [some (.inr (.inr (some (6, c)))), some (.inl a0), some (.inl a1)], [], mem E mu5 la6)) rfl rfl rfl (if_pos (tsw_out a1 1 4 (fun z h1 h2 => by
                    rcases (show z = 1 ∨ z = 2 ∨ z = 3 ∨ z = 4 by omega) with rfl | rfl | rfl | rfl
                    · exact fun e => hc0 (Int32.toInt_inj.mp e)
                    · exact fun e => hc1 (Int32.toInt_inj.mp e)
                    · exact fun e => hc2 (Int32.toInt_inj.mp e)
                    · exact fun e => hc3 (Int32.toInt_inj.mp e)))) ?_
                  dsimp only
                  refine Ev.steps 4 (ip' := 52) (ls' := [some (.inr (.inr (some (6, c)))), some (.inl a0), some (.inl a1)]) (st' := [.inl a0, .inr (.inr (some (11, 0)))]) (M' := mem E mu5 la6) rfl ?_
                  refine Ev.ial rfl rfl (by decide) h.1 ?_
                  have h := h.2
                  refine Ev.ci (J := mi_108) (as := [.inl (mu5 11 0 a0.toNatClampNeg)]) (rest := []) rfl rfl rfl (Nat.le_of_ble_eq_true rfl) h (fun x16 mu17 la18 h => ?_)
                  exact Ev.ret rfl rfl ⟨_, _, _, rfl, rfl, h⟩
        · have h := h.2 hc
          dsimp only
          refine Ev.steps 2 (ip' := 23) (ls' := [some (.inr (.inr (some (6, c)))), some (.inl a0), some (.inl a1)]) (st' := [.inl (3 : Int32), .inr (.inr (some (6, c)))]) (M' := mem E mu5 la6) rfl ?_
          refine Ev.ci (J := mi_95) (as := [.inr (.inr (some (6, c))), .inl (3 : Int32)]) (rest := []) rfl rfl rfl (Nat.le_of_ble_eq_true rfl) h (fun x19 mu20 la21 h => ?_)
          exact Ev.ret rfl rfl ⟨_, _, _, rfl, rfl, h⟩
      · have h := h.2 hc
        dsimp only
        refine Ev.steps 1 (ip' := 12) (ls' := [some (.inr (.inr (some (6, c)))), some (.inl a0), some (.inl a1)]) (st' := [.inl (-1 : Int32)]) (M' := mem E mu2 la3) rfl ?_
        exact Ev.ret rfl rfl ⟨_, _, _, rfl, rfl, h⟩
set_option maxRecDepth 100000 in
/-- AnnCups.holds(I)I -/
theorem vc_X6_holds {E : mEv} {d : Nat} {c : Nat} (a0 : Int32) {mu : fMu} {la : fLa} {Q : Int32 → fMu → fLa → Prop} (h : FnI E d mi_14 [.inr (.inr (some (1, 0))), .inl a0] mu la (fun x1 mu2 la3 => (x1 = 0 → (Q (-1 : Int32) mu2 la3)) ∧ (¬ (x1 = 0) → (vp_in a0 6 ∧ (Q (mu2 9 0 a0.toNatClampNeg) mu2 la3))))) : FnI E (d + 1) mi_62 [.inr (.inr (some (6, c))), .inl a0] mu la Q := by
  unfold FnI
  show Ev E (d + 1) mi_62 0 [some (.inr (.inr (some (6, c)))), some (.inl a0)] [] (mem E mu la) (qI E Q)
  refine Ev.steps 3 (ip' := 3) (ls' := [some (.inr (.inr (some (6, c)))), some (.inl a0)]) (st' := [.inl a0, .inr (.inr (some (1, 0)))]) (M' := mem E mu la) rfl ?_
  refine Ev.ci (J := mi_14) (as := [.inr (.inr (some (1, 0))), .inl a0]) (rest := []) rfl rfl rfl (Nat.le_of_ble_eq_true rfl) h (fun x1 mu2 la3 h => ?_)
  refine Ev.br (c := x1 = 0) (s1 := (11, [some (.inr (.inr (some (6, c)))), some (.inl a0)], [], mem E mu2 la3)) (s2 := (5, [some (.inr (.inr (some (6, c)))), some (.inl a0)], [], mem E mu2 la3)) rfl rfl rfl rfl (fun hc => ?_) (fun hc => ?_)
  · have h := h.1 hc
    dsimp only
    refine Ev.steps 1 (ip' := 12) (ls' := [some (.inr (.inr (some (6, c)))), some (.inl a0)]) (st' := [.inl (-1 : Int32)]) (M' := mem E mu2 la3) rfl ?_
    exact Ev.ret rfl rfl ⟨_, _, _, rfl, rfl, h⟩
  · have h := h.2 hc
    dsimp only
    refine Ev.steps 4 (ip' := 9) (ls' := [some (.inr (.inr (some (6, c)))), some (.inl a0)]) (st' := [.inl a0, .inr (.inr (some (9, 0)))]) (M' := mem E mu2 la3) rfl ?_
    refine Ev.ial rfl rfl (by decide) h.1 ?_
    have h := h.2
    refine Ev.steps 1 (ip' := 12) (ls' := [some (.inr (.inr (some (6, c)))), some (.inl a0)]) (st' := [.inl (mu2 9 0 a0.toNatClampNeg)]) (M' := mem E mu2 la3) rfl ?_
    exact Ev.ret rfl rfl ⟨_, _, _, rfl, rfl, h⟩
set_option maxRecDepth 100000 in
/-- AnnCups.make(I)I -/
theorem vc_X6_make {E : mEv} {d : Nat} {c : Nat} (a0 : Int32) {mu : fMu} {la : fLa} {Q : Int32 → fMu → fLa → Prop} (h : FnI E d mi_14 [.inr (.inr (some (1, 0))), .inl a0] mu la (fun x1 mu2 la3 => (¬ x1 = 0 → (FnI E d mi_3 [.inr (.inr (some (0, 0))), .inl a0] mu2 la3 (fun x4 mu5 la6 => (x4 = 0 → (((mu5 2 0 0) < (40 : Int32) → (FnV E d mi_119 [.inr (.inr (some (6, c))), .inl (1 : Int32), .inl a0, .inl (0 : Int32)] mu5 la6 (fun mu8 la9 => vp_in a0 6 ∧ (FnI E d mi_14 [.inr (.inr (some (1, 0))), .inl (mu8 8 0 a0.toNatClampNeg)] mu8 la9 (fun x10 mu11 la12 => (x10 = 0 → (Q (-9 : Int32) mu11 la12)) ∧ (¬ (x10 = 0) → (vp_in a0 6 ∧ (Q (mu11 8 0 a0.toNatClampNeg) mu11 la12)))))))) ∧ (¬ ((mu5 2 0 0) < (40 : Int32)) → (Q (-2 : Int32) mu5 la6)))) ∧ (¬ (x4 = 0) → (Q (-4 : Int32) mu5 la6))))) ∧ (¬ (¬ x1 = 0) → (Q (-1 : Int32) mu2 la3)))) : FnI E (d + 1) mi_63 [.inr (.inr (some (6, c))), .inl a0] mu la Q := by
  unfold FnI
  show Ev E (d + 1) mi_63 0 [some (.inr (.inr (some (6, c)))), some (.inl a0)] [] (mem E mu la) (qI E Q)
  refine Ev.steps 3 (ip' := 3) (ls' := [some (.inr (.inr (some (6, c)))), some (.inl a0)]) (st' := [.inl a0, .inr (.inr (some (1, 0)))]) (M' := mem E mu la) rfl ?_
  refine Ev.ci (J := mi_14) (as := [.inr (.inr (some (1, 0))), .inl a0]) (rest := []) rfl rfl rfl (Nat.le_of_ble_eq_true rfl) h (fun x1 mu2 la3 h => ?_)
  refine Ev.br (c := ¬ x1 = 0) (s1 := (7, [some (.inr (.inr (some (6, c)))), some (.inl a0)], [], mem E mu2 la3)) (s2 := (5, [some (.inr (.inr (some (6, c)))), some (.inl a0)], [], mem E mu2 la3)) rfl rfl rfl rfl (fun hc => ?_) (fun hc => ?_)
  · have h := h.1 hc
    dsimp only
    refine Ev.steps 3 (ip' := 10) (ls' := [some (.inr (.inr (some (6, c)))), some (.inl a0)]) (st' := [.inl a0, .inr (.inr (some (0, 0)))]) (M' := mem E mu2 la3) rfl ?_
    refine Ev.ci (J := mi_3) (as := [.inr (.inr (some (0, 0))), .inl a0]) (rest := []) rfl rfl rfl (Nat.le_of_ble_eq_true rfl) h (fun x4 mu5 la6 h => ?_)
    refine Ev.br (c := x4 = 0) (s1 := (14, [some (.inr (.inr (some (6, c)))), some (.inl a0)], [], mem E mu5 la6)) (s2 := (12, [some (.inr (.inr (some (6, c)))), some (.inl a0)], [], mem E mu5 la6)) rfl rfl rfl rfl (fun hc => ?_) (fun hc => ?_)
    · have h := h.1 hc
      dsimp only
      refine Ev.steps 4 (ip' := 18) (ls' := [some (.inr (.inr (some (6, c)))), some (.inl a0)]) (st' := [.inl (40 : Int32), .inl (mu5 2 0 0)]) (M' := mem E mu5 la6) rfl ?_
      refine Ev.br (c := (mu5 2 0 0) < (40 : Int32)) (s1 := (21, [some (.inr (.inr (some (6, c)))), some (.inl a0)], [], mem E mu5 la6)) (s2 := (19, [some (.inr (.inr (some (6, c)))), some (.inl a0)], [], mem E mu5 la6)) rfl rfl rfl rfl (fun hc => ?_) (fun hc => ?_)
      · have h := h.1 hc
        dsimp only
        refine Ev.steps 4 (ip' := 25) (ls' := [some (.inr (.inr (some (6, c)))), some (.inl a0)]) (st' := [.inl (0 : Int32), .inl a0, .inl (1 : Int32), .inr (.inr (some (6, c)))]) (M' := mem E mu5 la6) rfl ?_
        refine Ev.cv (J := mi_119) (as := [.inr (.inr (some (6, c))), .inl (1 : Int32), .inl a0, .inl (0 : Int32)]) (rest := []) rfl rfl rfl (Nat.le_of_ble_eq_true rfl) h (fun mu8 la9 h => ?_)
        refine Ev.steps 6 (ip' := 32) (ls' := [some (.inr (.inr (some (6, c)))), some (.inl a0)]) (st' := [.inl a0, .inr (.inr (some (8, 0))), .inr (.inr (some (1, 0)))]) (M' := mem E mu8 la9) rfl ?_
        refine Ev.ial rfl rfl (by decide) h.1 ?_
        have h := h.2
        refine Ev.ci (J := mi_14) (as := [.inr (.inr (some (1, 0))), .inl (mu8 8 0 a0.toNatClampNeg)]) (rest := []) rfl rfl rfl (Nat.le_of_ble_eq_true rfl) h (fun x10 mu11 la12 h => ?_)
        refine Ev.br (c := x10 = 0) (s1 := (41, [some (.inr (.inr (some (6, c)))), some (.inl a0)], [], mem E mu11 la12)) (s2 := (35, [some (.inr (.inr (some (6, c)))), some (.inl a0)], [], mem E mu11 la12)) rfl rfl rfl rfl (fun hc => ?_) (fun hc => ?_)
        · have h := h.1 hc
          dsimp only
          refine Ev.steps 1 (ip' := 42) (ls' := [some (.inr (.inr (some (6, c)))), some (.inl a0)]) (st' := [.inl (-9 : Int32)]) (M' := mem E mu11 la12) rfl ?_
          exact Ev.ret rfl rfl ⟨_, _, _, rfl, rfl, h⟩
        · have h := h.2 hc
          dsimp only
          refine Ev.steps 4 (ip' := 39) (ls' := [some (.inr (.inr (some (6, c)))), some (.inl a0)]) (st' := [.inl a0, .inr (.inr (some (8, 0)))]) (M' := mem E mu11 la12) rfl ?_
          refine Ev.ial rfl rfl (by decide) h.1 ?_
          have h := h.2
          refine Ev.steps 1 (ip' := 42) (ls' := [some (.inr (.inr (some (6, c)))), some (.inl a0)]) (st' := [.inl (mu11 8 0 a0.toNatClampNeg)]) (M' := mem E mu11 la12) rfl ?_
          exact Ev.ret rfl rfl ⟨_, _, _, rfl, rfl, h⟩
      · have h := h.2 hc
        dsimp only
        refine Ev.steps 1 (ip' := 20) (ls' := [some (.inr (.inr (some (6, c)))), some (.inl a0)]) (st' := [.inl (-2 : Int32)]) (M' := mem E mu5 la6) rfl ?_
        exact Ev.ret rfl rfl ⟨_, _, _, rfl, rfl, h⟩
    · have h := h.2 hc
      dsimp only
      refine Ev.steps 1 (ip' := 13) (ls' := [some (.inr (.inr (some (6, c)))), some (.inl a0)]) (st' := [.inl (-4 : Int32)]) (M' := mem E mu5 la6) rfl ?_
      exact Ev.ret rfl rfl ⟨_, _, _, rfl, rfl, h⟩
  · have h := h.2 hc
    dsimp only
    refine Ev.steps 1 (ip' := 6) (ls' := [some (.inr (.inr (some (6, c)))), some (.inl a0)]) (st' := [.inl (-1 : Int32)]) (M' := mem E mu2 la3) rfl ?_
    exact Ev.ret rfl rfl ⟨_, _, _, rfl, rfl, h⟩
set_option maxRecDepth 100000 in
/-- AnnCups.change(II)I -/
theorem vc_X6_change {E : mEv} {d : Nat} {c : Nat} (a0 : Int32) (a1 : Int32) {mu : fMu} {la : fLa} {Q : Int32 → fMu → fLa → Prop} (h : FnI E d mi_14 [.inr (.inr (some (1, 0))), .inl a0] mu la (fun x1 mu2 la3 => (x1 = 0 → (Q (-1 : Int32) mu2 la3)) ∧ (¬ (x1 = 0) → (FnI E d mi_14 [.inr (.inr (some (1, 0))), .inl a1] mu2 la3 (fun x4 mu5 la6 => (x4 = 0 → (Q (-1 : Int32) mu5 la6)) ∧ (¬ (x4 = 0) → ((a0 = a1 → (Q (-1 : Int32) mu5 la6)) ∧ (¬ (a0 = a1) → (FnI E d mi_15 [.inr (.inr (some (1, 0))), .inl a0] mu5 la6 (fun x7 mu8 la9 => (x7 = 0 → (Q (-1 : Int32) mu8 la9)) ∧ (¬ (x7 = 0) → (FnI E d mi_15 [.inr (.inr (some (1, 0))), .inl a1] mu8 la9 (fun x10 mu11 la12 => (¬ x10 = 0 → (vp_in a0 6 ∧ ((¬ (mu11 9 0 a0.toNatClampNeg) = (-9 : Int32) → (((mu11 2 0 0) < (40 : Int32) → (FnV E d mi_119 [.inr (.inr (some (6, c))), .inl (2 : Int32), .inl a0, .inl a1] mu11 la12 (fun mu14 la15 => FnI E d mi_12 [.inr (.inr (some (0, 0)))] mu14 la15 (fun x16 mu17 la18 => Q x16 mu17 la18)))) ∧ (¬ ((mu11 2 0 0) < (40 : Int32)) → (Q (-2 : Int32) mu11 la12)))) ∧ (¬ (¬ (mu11 9 0 a0.toNatClampNeg) = (-9 : Int32)) → (vp_in a1 6 ∧ ((¬ (mu11 9 0 a1.toNatClampNeg) = (-9 : Int32) → (((mu11 2 0 0) < (40 : Int32) → (FnV E d mi_119 [.inr (.inr (some (6, c))), .inl (2 : Int32), .inl a0, .inl a1] mu11 la12 (fun mu20 la21 => FnI E d mi_12 [.inr (.inr (some (0, 0)))] mu20 la21 (fun x22 mu23 la24 => Q x22 mu23 la24)))) ∧ (¬ ((mu11 2 0 0) < (40 : Int32)) → (Q (-2 : Int32) mu11 la12)))) ∧ (¬ (¬ (mu11 9 0 a1.toNatClampNeg) = (-9 : Int32)) → (Q (-4 : Int32) mu11 la12)))))))) ∧ (¬ (¬ x10 = 0) → (Q (-1 : Int32) mu11 la12))))))))))))))) : FnI E (d + 1) mi_64 [.inr (.inr (some (6, c))), .inl a0, .inl a1] mu la Q := by
  unfold FnI
  show Ev E (d + 1) mi_64 0 [some (.inr (.inr (some (6, c)))), some (.inl a0), some (.inl a1)] [] (mem E mu la) (qI E Q)
  refine Ev.steps 3 (ip' := 3) (ls' := [some (.inr (.inr (some (6, c)))), some (.inl a0), some (.inl a1)]) (st' := [.inl a0, .inr (.inr (some (1, 0)))]) (M' := mem E mu la) rfl ?_
  refine Ev.ci (J := mi_14) (as := [.inr (.inr (some (1, 0))), .inl a0]) (rest := []) rfl rfl rfl (Nat.le_of_ble_eq_true rfl) h (fun x1 mu2 la3 h => ?_)
  refine Ev.br (c := x1 = 0) (s1 := (23, [some (.inr (.inr (some (6, c)))), some (.inl a0), some (.inl a1)], [], mem E mu2 la3)) (s2 := (5, [some (.inr (.inr (some (6, c)))), some (.inl a0), some (.inl a1)], [], mem E mu2 la3)) rfl rfl rfl rfl (fun hc => ?_) (fun hc => ?_)
  · have h := h.1 hc
    dsimp only
    refine Ev.steps 1 (ip' := 24) (ls' := [some (.inr (.inr (some (6, c)))), some (.inl a0), some (.inl a1)]) (st' := [.inl (-1 : Int32)]) (M' := mem E mu2 la3) rfl ?_
    exact Ev.ret rfl rfl ⟨_, _, _, rfl, rfl, h⟩
  · have h := h.2 hc
    dsimp only
    refine Ev.steps 3 (ip' := 8) (ls' := [some (.inr (.inr (some (6, c)))), some (.inl a0), some (.inl a1)]) (st' := [.inl a1, .inr (.inr (some (1, 0)))]) (M' := mem E mu2 la3) rfl ?_
    refine Ev.ci (J := mi_14) (as := [.inr (.inr (some (1, 0))), .inl a1]) (rest := []) rfl rfl rfl (Nat.le_of_ble_eq_true rfl) h (fun x4 mu5 la6 h => ?_)
    refine Ev.br (c := x4 = 0) (s1 := (23, [some (.inr (.inr (some (6, c)))), some (.inl a0), some (.inl a1)], [], mem E mu5 la6)) (s2 := (10, [some (.inr (.inr (some (6, c)))), some (.inl a0), some (.inl a1)], [], mem E mu5 la6)) rfl rfl rfl rfl (fun hc => ?_) (fun hc => ?_)
    · have h := h.1 hc
      dsimp only
      refine Ev.steps 1 (ip' := 24) (ls' := [some (.inr (.inr (some (6, c)))), some (.inl a0), some (.inl a1)]) (st' := [.inl (-1 : Int32)]) (M' := mem E mu5 la6) rfl ?_
      exact Ev.ret rfl rfl ⟨_, _, _, rfl, rfl, h⟩
    · have h := h.2 hc
      dsimp only
      refine Ev.steps 2 (ip' := 12) (ls' := [some (.inr (.inr (some (6, c)))), some (.inl a0), some (.inl a1)]) (st' := [.inl a1, .inl a0]) (M' := mem E mu5 la6) rfl ?_
      refine Ev.br (c := a0 = a1) (s1 := (23, [some (.inr (.inr (some (6, c)))), some (.inl a0), some (.inl a1)], [], mem E mu5 la6)) (s2 := (13, [some (.inr (.inr (some (6, c)))), some (.inl a0), some (.inl a1)], [], mem E mu5 la6)) rfl rfl rfl rfl (fun hc => ?_) (fun hc => ?_)
      · have h := h.1 hc
        dsimp only
        refine Ev.steps 1 (ip' := 24) (ls' := [some (.inr (.inr (some (6, c)))), some (.inl a0), some (.inl a1)]) (st' := [.inl (-1 : Int32)]) (M' := mem E mu5 la6) rfl ?_
        exact Ev.ret rfl rfl ⟨_, _, _, rfl, rfl, h⟩
      · have h := h.2 hc
        dsimp only
        refine Ev.steps 3 (ip' := 16) (ls' := [some (.inr (.inr (some (6, c)))), some (.inl a0), some (.inl a1)]) (st' := [.inl a0, .inr (.inr (some (1, 0)))]) (M' := mem E mu5 la6) rfl ?_
        refine Ev.ci (J := mi_15) (as := [.inr (.inr (some (1, 0))), .inl a0]) (rest := []) rfl rfl rfl (Nat.le_of_ble_eq_true rfl) h (fun x7 mu8 la9 h => ?_)
        refine Ev.br (c := x7 = 0) (s1 := (23, [some (.inr (.inr (some (6, c)))), some (.inl a0), some (.inl a1)], [], mem E mu8 la9)) (s2 := (18, [some (.inr (.inr (some (6, c)))), some (.inl a0), some (.inl a1)], [], mem E mu8 la9)) rfl rfl rfl rfl (fun hc => ?_) (fun hc => ?_)
        · have h := h.1 hc
          dsimp only
          refine Ev.steps 1 (ip' := 24) (ls' := [some (.inr (.inr (some (6, c)))), some (.inl a0), some (.inl a1)]) (st' := [.inl (-1 : Int32)]) (M' := mem E mu8 la9) rfl ?_
          exact Ev.ret rfl rfl ⟨_, _, _, rfl, rfl, h⟩
        · have h := h.2 hc
          dsimp only
          refine Ev.steps 3 (ip' := 21) (ls' := [some (.inr (.inr (some (6, c)))), some (.inl a0), some (.inl a1)]) (st' := [.inl a1, .inr (.inr (some (1, 0)))]) (M' := mem E mu8 la9) rfl ?_
          refine Ev.ci (J := mi_15) (as := [.inr (.inr (some (1, 0))), .inl a1]) (rest := []) rfl rfl rfl (Nat.le_of_ble_eq_true rfl) h (fun x10 mu11 la12 h => ?_)
          refine Ev.br (c := ¬ x10 = 0) (s1 := (25, [some (.inr (.inr (some (6, c)))), some (.inl a0), some (.inl a1)], [], mem E mu11 la12)) (s2 := (23, [some (.inr (.inr (some (6, c)))), some (.inl a0), some (.inl a1)], [], mem E mu11 la12)) rfl rfl rfl rfl (fun hc => ?_) (fun hc => ?_)
          · have h := h.1 hc
            dsimp only
            refine Ev.steps 4 (ip' := 29) (ls' := [some (.inr (.inr (some (6, c)))), some (.inl a0), some (.inl a1)]) (st' := [.inl a0, .inr (.inr (some (9, 0)))]) (M' := mem E mu11 la12) rfl ?_
            refine Ev.ial rfl rfl (by decide) h.1 ?_
            have h := h.2
            refine Ev.steps 1 (ip' := 31) (ls' := [some (.inr (.inr (some (6, c)))), some (.inl a0), some (.inl a1)]) (st' := [.inl (-9 : Int32), .inl (mu11 9 0 a0.toNatClampNeg)]) (M' := mem E mu11 la12) rfl ?_
            refine Ev.br (c := ¬ (mu11 9 0 a0.toNatClampNeg) = (-9 : Int32)) (s1 := (41, [some (.inr (.inr (some (6, c)))), some (.inl a0), some (.inl a1)], [], mem E mu11 la12)) (s2 := (32, [some (.inr (.inr (some (6, c)))), some (.inl a0), some (.inl a1)], [], mem E mu11 la12)) rfl rfl rfl rfl (fun hc => ?_) (fun hc => ?_)
            · have h := h.1 hc
              dsimp only
              refine Ev.steps 4 (ip' := 45) (ls' := [some (.inr (.inr (some (6, c)))), some (.inl a0), some (.inl a1)]) (st' := [.inl (40 : Int32), .inl (mu11 2 0 0)]) (M' := mem E mu11 la12) rfl ?_
              refine Ev.br (c := (mu11 2 0 0) < (40 : Int32)) (s1 := (48, [some (.inr (.inr (some (6, c)))), some (.inl a0), some (.inl a1)], [], mem E mu11 la12)) (s2 := (46, [some (.inr (.inr (some (6, c)))), some (.inl a0), some (.inl a1)], [], mem E mu11 la12)) rfl rfl rfl rfl (fun hc => ?_) (fun hc => ?_)
              · have h := h.1 hc
                dsimp only
                refine Ev.steps 4 (ip' := 52) (ls' := [some (.inr (.inr (some (6, c)))), some (.inl a0), some (.inl a1)]) (st' := [.inl a1, .inl a0, .inl (2 : Int32), .inr (.inr (some (6, c)))]) (M' := mem E mu11 la12) rfl ?_
                refine Ev.cv (J := mi_119) (as := [.inr (.inr (some (6, c))), .inl (2 : Int32), .inl a0, .inl a1]) (rest := []) rfl rfl rfl (Nat.le_of_ble_eq_true rfl) h (fun mu14 la15 h => ?_)
                refine Ev.steps 2 (ip' := 55) (ls' := [some (.inr (.inr (some (6, c)))), some (.inl a0), some (.inl a1)]) (st' := [.inr (.inr (some (0, 0)))]) (M' := mem E mu14 la15) rfl ?_
                refine Ev.ci (J := mi_12) (as := [.inr (.inr (some (0, 0)))]) (rest := []) rfl rfl rfl (Nat.le_of_ble_eq_true rfl) h (fun x16 mu17 la18 h => ?_)
                exact Ev.ret rfl rfl ⟨_, _, _, rfl, rfl, h⟩
              · have h := h.2 hc
                dsimp only
                refine Ev.steps 1 (ip' := 47) (ls' := [some (.inr (.inr (some (6, c)))), some (.inl a0), some (.inl a1)]) (st' := [.inl (-2 : Int32)]) (M' := mem E mu11 la12) rfl ?_
                exact Ev.ret rfl rfl ⟨_, _, _, rfl, rfl, h⟩
            · have h := h.2 hc
              dsimp only
              refine Ev.steps 4 (ip' := 36) (ls' := [some (.inr (.inr (some (6, c)))), some (.inl a0), some (.inl a1)]) (st' := [.inl a1, .inr (.inr (some (9, 0)))]) (M' := mem E mu11 la12) rfl ?_
              refine Ev.ial rfl rfl (by decide) h.1 ?_
              have h := h.2
              refine Ev.steps 1 (ip' := 38) (ls' := [some (.inr (.inr (some (6, c)))), some (.inl a0), some (.inl a1)]) (st' := [.inl (-9 : Int32), .inl (mu11 9 0 a1.toNatClampNeg)]) (M' := mem E mu11 la12) rfl ?_
              refine Ev.br (c := ¬ (mu11 9 0 a1.toNatClampNeg) = (-9 : Int32)) (s1 := (41, [some (.inr (.inr (some (6, c)))), some (.inl a0), some (.inl a1)], [], mem E mu11 la12)) (s2 := (39, [some (.inr (.inr (some (6, c)))), some (.inl a0), some (.inl a1)], [], mem E mu11 la12)) rfl rfl rfl rfl (fun hc => ?_) (fun hc => ?_)
              · have h := h.1 hc
                dsimp only
                refine Ev.steps 4 (ip' := 45) (ls' := [some (.inr (.inr (some (6, c)))), some (.inl a0), some (.inl a1)]) (st' := [.inl (40 : Int32), .inl (mu11 2 0 0)]) (M' := mem E mu11 la12) rfl ?_
                refine Ev.br (c := (mu11 2 0 0) < (40 : Int32)) (s1 := (48, [some (.inr (.inr (some (6, c)))), some (.inl a0), some (.inl a1)], [], mem E mu11 la12)) (s2 := (46, [some (.inr (.inr (some (6, c)))), some (.inl a0), some (.inl a1)], [], mem E mu11 la12)) rfl rfl rfl rfl (fun hc => ?_) (fun hc => ?_)
                · have h := h.1 hc
                  dsimp only
                  refine Ev.steps 4 (ip' := 52) (ls' := [some (.inr (.inr (some (6, c)))), some (.inl a0), some (.inl a1)]) (st' := [.inl a1, .inl a0, .inl (2 : Int32), .inr (.inr (some (6, c)))]) (M' := mem E mu11 la12) rfl ?_
                  refine Ev.cv (J := mi_119) (as := [.inr (.inr (some (6, c))), .inl (2 : Int32), .inl a0, .inl a1]) (rest := []) rfl rfl rfl (Nat.le_of_ble_eq_true rfl) h (fun mu20 la21 h => ?_)
                  refine Ev.steps 2 (ip' := 55) (ls' := [some (.inr (.inr (some (6, c)))), some (.inl a0), some (.inl a1)]) (st' := [.inr (.inr (some (0, 0)))]) (M' := mem E mu20 la21) rfl ?_
                  refine Ev.ci (J := mi_12) (as := [.inr (.inr (some (0, 0)))]) (rest := []) rfl rfl rfl (Nat.le_of_ble_eq_true rfl) h (fun x22 mu23 la24 h => ?_)
                  exact Ev.ret rfl rfl ⟨_, _, _, rfl, rfl, h⟩
                · have h := h.2 hc
                  dsimp only
                  refine Ev.steps 1 (ip' := 47) (ls' := [some (.inr (.inr (some (6, c)))), some (.inl a0), some (.inl a1)]) (st' := [.inl (-2 : Int32)]) (M' := mem E mu11 la12) rfl ?_
                  exact Ev.ret rfl rfl ⟨_, _, _, rfl, rfl, h⟩
              · have h := h.2 hc
                dsimp only
                refine Ev.steps 1 (ip' := 40) (ls' := [some (.inr (.inr (some (6, c)))), some (.inl a0), some (.inl a1)]) (st' := [.inl (-4 : Int32)]) (M' := mem E mu11 la12) rfl ?_
                exact Ev.ret rfl rfl ⟨_, _, _, rfl, rfl, h⟩
          · have h := h.2 hc
            dsimp only
            refine Ev.steps 1 (ip' := 24) (ls' := [some (.inr (.inr (some (6, c)))), some (.inl a0), some (.inl a1)]) (st' := [.inl (-1 : Int32)]) (M' := mem E mu11 la12) rfl ?_
            exact Ev.ret rfl rfl ⟨_, _, _, rfl, rfl, h⟩
set_option maxRecDepth 100000 in
/-- AnnCups.toss(I)I -/
theorem vc_X6_toss {E : mEv} {d : Nat} {c : Nat} (a0 : Int32) {mu : fMu} {la : fLa} {Q : Int32 → fMu → fLa → Prop} (h : FnI E d mi_14 [.inr (.inr (some (1, 0))), .inl a0] mu la (fun x1 mu2 la3 => (¬ x1 = 0 → (vp_in a0 6 ∧ (((mu2 8 0 a0.toNatClampNeg) = (6 : Int32) → (((mu2 2 0 0) < (40 : Int32) → (FnV E d mi_119 [.inr (.inr (some (6, c))), .inl (3 : Int32), .inl a0, .inl (0 : Int32)] mu2 la3 (fun mu5 la6 => FnI E d mi_10 [.inr (.inr (some (0, 0)))] mu5 la6 (fun x7 mu8 la9 => FnI E d mi_227 [.inl x7] mu8 la9 (fun x10 mu11 la12 => Q x10 mu11 la12))))) ∧ (¬ ((mu2 2 0 0) < (40 : Int32)) → (Q (-2 : Int32) mu2 la3)))) ∧ (¬ ((mu2 8 0 a0.toNatClampNeg) = (6 : Int32)) → (Q (-4 : Int32) mu2 la3))))) ∧ (¬ (¬ x1 = 0) → (Q (-1 : Int32) mu2 la3)))) : FnI E (d + 1) mi_65 [.inr (.inr (some (6, c))), .inl a0] mu la Q := by
  unfold FnI
  show Ev E (d + 1) mi_65 0 [some (.inr (.inr (some (6, c)))), some (.inl a0)] [] (mem E mu la) (qI E Q)
  refine Ev.steps 3 (ip' := 3) (ls' := [some (.inr (.inr (some (6, c)))), some (.inl a0)]) (st' := [.inl a0, .inr (.inr (some (1, 0)))]) (M' := mem E mu la) rfl ?_
  refine Ev.ci (J := mi_14) (as := [.inr (.inr (some (1, 0))), .inl a0]) (rest := []) rfl rfl rfl (Nat.le_of_ble_eq_true rfl) h (fun x1 mu2 la3 h => ?_)
  refine Ev.br (c := ¬ x1 = 0) (s1 := (7, [some (.inr (.inr (some (6, c)))), some (.inl a0)], [], mem E mu2 la3)) (s2 := (5, [some (.inr (.inr (some (6, c)))), some (.inl a0)], [], mem E mu2 la3)) rfl rfl rfl rfl (fun hc => ?_) (fun hc => ?_)
  · have h := h.1 hc
    dsimp only
    refine Ev.steps 4 (ip' := 11) (ls' := [some (.inr (.inr (some (6, c)))), some (.inl a0)]) (st' := [.inl a0, .inr (.inr (some (8, 0)))]) (M' := mem E mu2 la3) rfl ?_
    refine Ev.ial rfl rfl (by decide) h.1 ?_
    have h := h.2
    refine Ev.steps 1 (ip' := 13) (ls' := [some (.inr (.inr (some (6, c)))), some (.inl a0)]) (st' := [.inl (6 : Int32), .inl (mu2 8 0 a0.toNatClampNeg)]) (M' := mem E mu2 la3) rfl ?_
    refine Ev.br (c := (mu2 8 0 a0.toNatClampNeg) = (6 : Int32)) (s1 := (16, [some (.inr (.inr (some (6, c)))), some (.inl a0)], [], mem E mu2 la3)) (s2 := (14, [some (.inr (.inr (some (6, c)))), some (.inl a0)], [], mem E mu2 la3)) rfl rfl rfl rfl (fun hc => ?_) (fun hc => ?_)
    · have h := h.1 hc
      dsimp only
      refine Ev.steps 4 (ip' := 20) (ls' := [some (.inr (.inr (some (6, c)))), some (.inl a0)]) (st' := [.inl (40 : Int32), .inl (mu2 2 0 0)]) (M' := mem E mu2 la3) rfl ?_
      refine Ev.br (c := (mu2 2 0 0) < (40 : Int32)) (s1 := (23, [some (.inr (.inr (some (6, c)))), some (.inl a0)], [], mem E mu2 la3)) (s2 := (21, [some (.inr (.inr (some (6, c)))), some (.inl a0)], [], mem E mu2 la3)) rfl rfl rfl rfl (fun hc => ?_) (fun hc => ?_)
      · have h := h.1 hc
        dsimp only
        refine Ev.steps 4 (ip' := 27) (ls' := [some (.inr (.inr (some (6, c)))), some (.inl a0)]) (st' := [.inl (0 : Int32), .inl a0, .inl (3 : Int32), .inr (.inr (some (6, c)))]) (M' := mem E mu2 la3) rfl ?_
        refine Ev.cv (J := mi_119) (as := [.inr (.inr (some (6, c))), .inl (3 : Int32), .inl a0, .inl (0 : Int32)]) (rest := []) rfl rfl rfl (Nat.le_of_ble_eq_true rfl) h (fun mu5 la6 h => ?_)
        refine Ev.steps 2 (ip' := 30) (ls' := [some (.inr (.inr (some (6, c)))), some (.inl a0)]) (st' := [.inr (.inr (some (0, 0)))]) (M' := mem E mu5 la6) rfl ?_
        refine Ev.ci (J := mi_10) (as := [.inr (.inr (some (0, 0)))]) (rest := []) rfl rfl rfl (Nat.le_of_ble_eq_true rfl) h (fun x7 mu8 la9 h => ?_)
        refine Ev.ci (J := mi_227) (as := [.inl x7]) (rest := []) rfl rfl rfl (Nat.le_of_ble_eq_true rfl) h (fun x10 mu11 la12 h => ?_)
        exact Ev.ret rfl rfl ⟨_, _, _, rfl, rfl, h⟩
      · have h := h.2 hc
        dsimp only
        refine Ev.steps 1 (ip' := 22) (ls' := [some (.inr (.inr (some (6, c)))), some (.inl a0)]) (st' := [.inl (-2 : Int32)]) (M' := mem E mu2 la3) rfl ?_
        exact Ev.ret rfl rfl ⟨_, _, _, rfl, rfl, h⟩
    · have h := h.2 hc
      dsimp only
      refine Ev.steps 1 (ip' := 15) (ls' := [some (.inr (.inr (some (6, c)))), some (.inl a0)]) (st' := [.inl (-4 : Int32)]) (M' := mem E mu2 la3) rfl ?_
      exact Ev.ret rfl rfl ⟨_, _, _, rfl, rfl, h⟩
  · have h := h.2 hc
    dsimp only
    refine Ev.steps 1 (ip' := 6) (ls' := [some (.inr (.inr (some (6, c)))), some (.inl a0)]) (st' := [.inl (-1 : Int32)]) (M' := mem E mu2 la3) rfl ?_
    exact Ev.ret rfl rfl ⟨_, _, _, rfl, rfl, h⟩
set_option maxRecDepth 100000 in
/-- AnnCups.undo(I)I -/
theorem vc_X6_undo {E : mEv} {d : Nat} {c : Nat} (a0 : Int32) {mu : fMu} {la : fLa} {Q : Int32 → fMu → fLa → Prop} (h : (a0 < 0 → (Q (-1 : Int32) mu la)) ∧ (¬ (a0 < 0) → ((a0 ≤ (mu 2 0 0) → (∀ mu1 : fMu, mu1 = up3 mu 2 0 0 a0 → (FnV E d mi_9 [.inr (.inr (some (0, 0))), .inr (.inr (some (2, 0)))] mu1 la (fun mu3 la4 => Q ((mu 2 0 0) - a0) mu3 la4)))) ∧ (¬ (a0 ≤ (mu 2 0 0)) → (Q (-1 : Int32) mu la))))) : FnI E (d + 1) mi_66 [.inr (.inr (some (6, c))), .inl a0] mu la Q := by
  unfold FnI
  show Ev E (d + 1) mi_66 0 [some (.inr (.inr (some (6, c)))), some (.inl a0), none] [] (mem E mu la) (qI E Q)
  refine Ev.steps 1 (ip' := 1) (ls' := [some (.inr (.inr (some (6, c)))), some (.inl a0), none]) (st' := [.inl a0]) (M' := mem E mu la) rfl ?_
  refine Ev.br (c := a0 < 0) (s1 := (7, [some (.inr (.inr (some (6, c)))), some (.inl a0), none], [], mem E mu la)) (s2 := (2, [some (.inr (.inr (some (6, c)))), some (.inl a0), none], [], mem E mu la)) rfl rfl rfl rfl (fun hc => ?_) (fun hc => ?_)
  · have h := h.1 hc
    dsimp only
    refine Ev.steps 1 (ip' := 8) (ls' := [some (.inr (.inr (some (6, c)))), some (.inl a0), none]) (st' := [.inl (-1 : Int32)]) (M' := mem E mu la) rfl ?_
    exact Ev.ret rfl rfl ⟨_, _, _, rfl, rfl, h⟩
  · have h := h.2 hc
    dsimp only
    refine Ev.steps 4 (ip' := 6) (ls' := [some (.inr (.inr (some (6, c)))), some (.inl a0), none]) (st' := [.inl (mu 2 0 0), .inl a0]) (M' := mem E mu la) rfl ?_
    refine Ev.br (c := a0 ≤ (mu 2 0 0)) (s1 := (9, [some (.inr (.inr (some (6, c)))), some (.inl a0), none], [], mem E mu la)) (s2 := (7, [some (.inr (.inr (some (6, c)))), some (.inl a0), none], [], mem E mu la)) rfl rfl rfl rfl (fun hc => ?_) (fun hc => ?_)
    · have h := h.1 hc
      dsimp only
      refine Ev.steps 10 (ip' := 19) (ls' := [some (.inr (.inr (some (6, c)))), some (.inl a0), some (.inl ((mu 2 0 0) - a0))]) (st' := []) (M' := mem E (up3 mu 2 0 0 a0) la) rfl ?_
      generalize hgmu1 : up3 mu 2 0 0 a0 = mu1
      have h := h mu1 hgmu1.symm
      refine Ev.steps 4 (ip' := 23) (ls' := [some (.inr (.inr (some (6, c)))), some (.inl a0), some (.inl ((mu 2 0 0) - a0))]) (st' := [.inr (.inr (some (2, 0))), .inr (.inr (some (0, 0)))]) (M' := mem E mu1 la) rfl ?_
      refine Ev.cv (J := mi_9) (as := [.inr (.inr (some (0, 0))), .inr (.inr (some (2, 0)))]) (rest := []) rfl rfl rfl (Nat.le_of_ble_eq_true rfl) h (fun mu3 la4 h => ?_)
      refine Ev.steps 1 (ip' := 25) (ls' := [some (.inr (.inr (some (6, c)))), some (.inl a0), some (.inl ((mu 2 0 0) - a0))]) (st' := [.inl ((mu 2 0 0) - a0)]) (M' := mem E mu3 la4) rfl ?_
      exact Ev.ret rfl rfl ⟨_, _, _, rfl, rfl, h⟩
    · have h := h.2 hc
      dsimp only
      refine Ev.steps 1 (ip' := 8) (ls' := [some (.inr (.inr (some (6, c)))), some (.inl a0), none]) (st' := [.inl (-1 : Int32)]) (M' := mem E mu la) rfl ?_
      exact Ev.ret rfl rfl ⟨_, _, _, rfl, rfl, h⟩
set_option maxRecDepth 100000 in
/-- AnnCups.keep(I)I -/
theorem vc_X6_keep {E : mEv} {d : Nat} {c : Nat} (a0 : Int32) {mu : fMu} {la : fLa} {Q : Int32 → fMu → fLa → Prop} (h : FnR E d mi_98 [.inr (.inr (some (6, c))), .inl a0] mu la 2 (fun mu2 la3 => Q (-1 : Int32) mu2 la3) (fun x1 mu2 la3 => (¬ (mu2 1 0 0) = 0 → (FnV E d mi_25 [.inr (.inr (some (2, x1))), .inr (.inr (some (2, 0)))] mu2 la3 (fun mu5 la6 => Q (mu5 2 x1 0) mu5 la6))) ∧ (¬ (¬ (mu2 1 0 0) = 0) → (Q (-4 : Int32) mu2 la3)))) : FnI E (d + 1) mi_67 [.inr (.inr (some (6, c))), .inl a0] mu la Q := by
  unfold FnI
  show Ev E (d + 1) mi_67 0 [some (.inr (.inr (some (6, c)))), some (.inl a0), none] [] (mem E mu la) (qI E Q)
  refine Ev.steps 2 (ip' := 2) (ls' := [some (.inr (.inr (some (6, c)))), some (.inl a0), none]) (st' := [.inl a0, .inr (.inr (some (6, c)))]) (M' := mem E mu la) rfl ?_
  refine Ev.cr 2 (J := mi_98) (as := [.inr (.inr (some (6, c))), .inl a0]) (rest := []) rfl rfl rfl (Nat.le_of_ble_eq_true rfl) h (fun mu2 la3 h => ?_) (fun x1 mu2 la3 h => ?_)
  · refine Ev.steps 4 (ip' := 7) (ls' := [some (.inr (.inr (some (6, c)))), some (.inl a0), some (.inr (.inr none))]) (st' := [.inl (-1 : Int32)]) (M' := mem E mu2 la3) rfl ?_
    exact Ev.ret rfl rfl ⟨_, _, _, rfl, rfl, h⟩
  · refine Ev.steps 6 (ip' := 11) (ls' := [some (.inr (.inr (some (6, c)))), some (.inl a0), some (.inr (.inr (some (2, x1))))]) (st' := [.inl (mu2 1 0 0)]) (M' := mem E mu2 la3) rfl ?_
    refine Ev.br (c := ¬ (mu2 1 0 0) = 0) (s1 := (14, [some (.inr (.inr (some (6, c)))), some (.inl a0), some (.inr (.inr (some (2, x1))))], [], mem E mu2 la3)) (s2 := (12, [some (.inr (.inr (some (6, c)))), some (.inl a0), some (.inr (.inr (some (2, x1))))], [], mem E mu2 la3)) rfl rfl rfl rfl (fun hc => ?_) (fun hc => ?_)
    · have h := h.1 hc
      dsimp only
      refine Ev.steps 3 (ip' := 17) (ls' := [some (.inr (.inr (some (6, c)))), some (.inl a0), some (.inr (.inr (some (2, x1))))]) (st' := [.inr (.inr (some (2, 0))), .inr (.inr (some (2, x1)))]) (M' := mem E mu2 la3) rfl ?_
      refine Ev.cv (J := mi_25) (as := [.inr (.inr (some (2, x1))), .inr (.inr (some (2, 0)))]) (rest := []) rfl rfl rfl (Nat.le_of_ble_eq_true rfl) h (fun mu5 la6 h => ?_)
      refine Ev.steps 2 (ip' := 20) (ls' := [some (.inr (.inr (some (6, c)))), some (.inl a0), some (.inr (.inr (some (2, x1))))]) (st' := [.inl (mu5 2 x1 0)]) (M' := mem E mu5 la6) rfl ?_
      exact Ev.ret rfl rfl ⟨_, _, _, rfl, rfl, h⟩
    · have h := h.2 hc
      dsimp only
      refine Ev.steps 1 (ip' := 13) (ls' := [some (.inr (.inr (some (6, c)))), some (.inl a0), some (.inr (.inr (some (2, x1))))]) (st' := [.inl (-4 : Int32)]) (M' := mem E mu2 la3) rfl ?_
      exact Ev.ret rfl rfl ⟨_, _, _, rfl, rfl, h⟩
set_option maxRecDepth 100000 in
/-- AnnCups.on(I)I -/
theorem vc_X6_on {E : mEv} {d : Nat} {c : Nat} (a0 : Int32) {mu : fMu} {la : fLa} {Q : Int32 → fMu → fLa → Prop} (h : FnR E d mi_98 [.inr (.inr (some (6, c))), .inl a0] mu la 2 (fun mu2 la3 => Q (-1 : Int32) mu2 la3) (fun x1 mu2 la3 => (0 ≤ (mu2 2 x1 0) → (FnV E d mi_25 [.inr (.inr (some (2, 0))), .inr (.inr (some (2, x1)))] mu2 la3 (fun mu5 la6 => FnV E d mi_9 [.inr (.inr (some (0, 0))), .inr (.inr (some (2, 0)))] mu5 la6 (fun mu8 la9 => Q (mu8 2 0 0) mu8 la9)))) ∧ (¬ (0 ≤ (mu2 2 x1 0)) → (FnI E d mi_95 [.inr (.inr (some (6, c))), .inl (1 : Int32)] mu2 la3 (fun x10 mu11 la12 => Q x10 mu11 la12))))) : FnI E (d + 1) mi_68 [.inr (.inr (some (6, c))), .inl a0] mu la Q := by
  unfold FnI
  show Ev E (d + 1) mi_68 0 [some (.inr (.inr (some (6, c)))), some (.inl a0), none] [] (mem E mu la) (qI E Q)
  refine Ev.steps 2 (ip' := 2) (ls' := [some (.inr (.inr (some (6, c)))), some (.inl a0), none]) (st' := [.inl a0, .inr (.inr (some (6, c)))]) (M' := mem E mu la) rfl ?_
  refine Ev.cr 2 (J := mi_98) (as := [.inr (.inr (some (6, c))), .inl a0]) (rest := []) rfl rfl rfl (Nat.le_of_ble_eq_true rfl) h (fun mu2 la3 h => ?_) (fun x1 mu2 la3 h => ?_)
  · refine Ev.steps 4 (ip' := 7) (ls' := [some (.inr (.inr (some (6, c)))), some (.inl a0), some (.inr (.inr none))]) (st' := [.inl (-1 : Int32)]) (M' := mem E mu2 la3) rfl ?_
    exact Ev.ret rfl rfl ⟨_, _, _, rfl, rfl, h⟩
  · refine Ev.steps 5 (ip' := 10) (ls' := [some (.inr (.inr (some (6, c)))), some (.inl a0), some (.inr (.inr (some (2, x1))))]) (st' := [.inl (mu2 2 x1 0)]) (M' := mem E mu2 la3) rfl ?_
    refine Ev.br (c := 0 ≤ (mu2 2 x1 0)) (s1 := (15, [some (.inr (.inr (some (6, c)))), some (.inl a0), some (.inr (.inr (some (2, x1))))], [], mem E mu2 la3)) (s2 := (11, [some (.inr (.inr (some (6, c)))), some (.inl a0), some (.inr (.inr (some (2, x1))))], [], mem E mu2 la3)) rfl rfl rfl rfl (fun hc => ?_) (fun hc => ?_)
    · have h := h.1 hc
      dsimp only
      refine Ev.steps 3 (ip' := 18) (ls' := [some (.inr (.inr (some (6, c)))), some (.inl a0), some (.inr (.inr (some (2, x1))))]) (st' := [.inr (.inr (some (2, x1))), .inr (.inr (some (2, 0)))]) (M' := mem E mu2 la3) rfl ?_
      refine Ev.cv (J := mi_25) (as := [.inr (.inr (some (2, 0))), .inr (.inr (some (2, x1)))]) (rest := []) rfl rfl rfl (Nat.le_of_ble_eq_true rfl) h (fun mu5 la6 h => ?_)
      refine Ev.steps 4 (ip' := 23) (ls' := [some (.inr (.inr (some (6, c)))), some (.inl a0), some (.inr (.inr (some (2, x1))))]) (st' := [.inr (.inr (some (2, 0))), .inr (.inr (some (0, 0)))]) (M' := mem E mu5 la6) rfl ?_
      refine Ev.cv (J := mi_9) (as := [.inr (.inr (some (0, 0))), .inr (.inr (some (2, 0)))]) (rest := []) rfl rfl rfl (Nat.le_of_ble_eq_true rfl) h (fun mu8 la9 h => ?_)
      refine Ev.steps 3 (ip' := 27) (ls' := [some (.inr (.inr (some (6, c)))), some (.inl a0), some (.inr (.inr (some (2, x1))))]) (st' := [.inl (mu8 2 0 0)]) (M' := mem E mu8 la9) rfl ?_
      exact Ev.ret rfl rfl ⟨_, _, _, rfl, rfl, h⟩
    · have h := h.2 hc
      dsimp only
      refine Ev.steps 2 (ip' := 13) (ls' := [some (.inr (.inr (some (6, c)))), some (.inl a0), some (.inr (.inr (some (2, x1))))]) (st' := [.inl (1 : Int32), .inr (.inr (some (6, c)))]) (M' := mem E mu2 la3) rfl ?_
      refine Ev.ci (J := mi_95) (as := [.inr (.inr (some (6, c))), .inl (1 : Int32)]) (rest := []) rfl rfl rfl (Nat.le_of_ble_eq_true rfl) h (fun x10 mu11 la12 h => ?_)
      exact Ev.ret rfl rfl ⟨_, _, _, rfl, rfl, h⟩
set_option maxRecDepth 100000 in
/-- AnnCups.least(I)I -/
theorem vc_X6_least {E : mEv} {d : Nat} {c : Nat} (a0 : Int32) {mu : fMu} {la : fLa} {Q : Int32 → fMu → fLa → Prop} (h : FnI E d mi_121 [.inr (.inr (some (6, c))), .inl a0, .inl (0 : Int32)] mu la (fun x1 mu2 la3 => Q x1 mu2 la3)) : FnI E (d + 1) mi_69 [.inr (.inr (some (6, c))), .inl a0] mu la Q := by
  unfold FnI
  show Ev E (d + 1) mi_69 0 [some (.inr (.inr (some (6, c)))), some (.inl a0)] [] (mem E mu la) (qI E Q)
  refine Ev.steps 3 (ip' := 3) (ls' := [some (.inr (.inr (some (6, c)))), some (.inl a0)]) (st' := [.inl (0 : Int32), .inl a0, .inr (.inr (some (6, c)))]) (M' := mem E mu la) rfl ?_
  refine Ev.ci (J := mi_121) (as := [.inr (.inr (some (6, c))), .inl a0, .inl (0 : Int32)]) (rest := []) rfl rfl rfl (Nat.le_of_ble_eq_true rfl) h (fun x1 mu2 la3 h => ?_)
  exact Ev.ret rfl rfl ⟨_, _, _, rfl, rfl, h⟩
set_option maxRecDepth 100000 in
/-- AnnCups.latest(I)I -/
theorem vc_X6_latest {E : mEv} {d : Nat} {c : Nat} (a0 : Int32) {mu : fMu} {la : fLa} {Q : Int32 → fMu → fLa → Prop} (h : FnI E d mi_121 [.inr (.inr (some (6, c))), .inl a0, .inl (1 : Int32)] mu la (fun x1 mu2 la3 => Q x1 mu2 la3)) : FnI E (d + 1) mi_70 [.inr (.inr (some (6, c))), .inl a0] mu la Q := by
  unfold FnI
  show Ev E (d + 1) mi_70 0 [some (.inr (.inr (some (6, c)))), some (.inl a0)] [] (mem E mu la) (qI E Q)
  refine Ev.steps 3 (ip' := 3) (ls' := [some (.inr (.inr (some (6, c)))), some (.inl a0)]) (st' := [.inl (1 : Int32), .inl a0, .inr (.inr (some (6, c)))]) (M' := mem E mu la) rfl ?_
  refine Ev.ci (J := mi_121) (as := [.inr (.inr (some (6, c))), .inl a0, .inl (1 : Int32)]) (rest := []) rfl rfl rfl (Nat.le_of_ble_eq_true rfl) h (fun x1 mu2 la3 h => ?_)
  exact Ev.ret rfl rfl ⟨_, _, _, rfl, rfl, h⟩
set_option maxRecDepth 100000 in
/-- AnnCups.fewest(I)I -/
theorem vc_X6_fewest {E : mEv} {d : Nat} {c : Nat} (a0 : Int32) {mu : fMu} {la : fLa} {Q : Int32 → fMu → fLa → Prop} (h : FnI E d mi_121 [.inr (.inr (some (6, c))), .inl a0, .inl (2 : Int32)] mu la (fun x1 mu2 la3 => Q x1 mu2 la3)) : FnI E (d + 1) mi_71 [.inr (.inr (some (6, c))), .inl a0] mu la Q := by
  unfold FnI
  show Ev E (d + 1) mi_71 0 [some (.inr (.inr (some (6, c)))), some (.inl a0)] [] (mem E mu la) (qI E Q)
  refine Ev.steps 3 (ip' := 3) (ls' := [some (.inr (.inr (some (6, c)))), some (.inl a0)]) (st' := [.inl (2 : Int32), .inl a0, .inr (.inr (some (6, c)))]) (M' := mem E mu la) rfl ?_
  refine Ev.ci (J := mi_121) (as := [.inr (.inr (some (6, c))), .inl a0, .inl (2 : Int32)]) (rest := []) rfl rfl rfl (Nat.le_of_ble_eq_true rfl) h (fun x1 mu2 la3 h => ?_)
  exact Ev.ret rfl rfl ⟨_, _, _, rfl, rfl, h⟩
set_option maxRecDepth 100000 in
/-- AnnCups.orders(I)I -/
theorem vc_X6_orders {E : mEv} {d : Nat} {c : Nat} (a0 : Int32) {mu : fMu} {la : fLa} {Q : Int32 → fMu → fLa → Prop} (h : (a0 < 0 → (Q (-1 : Int32) mu la)) ∧ (¬ (a0 < 0) → ((a0 ≤ (6 : Int32) → ((¬ (mu 1 0 0) = 0 → (FnI E d mi_33 [.inr (.inr (some (4, 0))), .inr (.inr (some (0, 0))), .inl a0] mu la (fun x1 mu2 la3 => FnV E d mi_99 [.inr (.inr (some (6, c))), .inr (.inl x1.toInt64), .inr (.inl (1 : Int64))] mu2 la3 (fun mu5 la6 => Q (1 : Int32) mu5 la6)))) ∧ (¬ (¬ (mu 1 0 0) = 0) → (Q (-4 : Int32) mu la)))) ∧ (¬ (a0 ≤ (6 : Int32)) → (Q (-1 : Int32) mu la))))) : FnI E (d + 1) mi_72 [.inr (.inr (some (6, c))), .inl a0] mu la Q := by
  unfold FnI
  show Ev E (d + 1) mi_72 0 [some (.inr (.inr (some (6, c)))), some (.inl a0)] [] (mem E mu la) (qI E Q)
  refine Ev.steps 1 (ip' := 1) (ls' := [some (.inr (.inr (some (6, c)))), some (.inl a0)]) (st' := [.inl a0]) (M' := mem E mu la) rfl ?_
  refine Ev.br (c := a0 < 0) (s1 := (5, [some (.inr (.inr (some (6, c)))), some (.inl a0)], [], mem E mu la)) (s2 := (2, [some (.inr (.inr (some (6, c)))), some (.inl a0)], [], mem E mu la)) rfl rfl rfl rfl (fun hc => ?_) (fun hc => ?_)
  · have h := h.1 hc
    dsimp only
    refine Ev.steps 1 (ip' := 6) (ls' := [some (.inr (.inr (some (6, c)))), some (.inl a0)]) (st' := [.inl (-1 : Int32)]) (M' := mem E mu la) rfl ?_
    exact Ev.ret rfl rfl ⟨_, _, _, rfl, rfl, h⟩
  · have h := h.2 hc
    dsimp only
    refine Ev.steps 2 (ip' := 4) (ls' := [some (.inr (.inr (some (6, c)))), some (.inl a0)]) (st' := [.inl (6 : Int32), .inl a0]) (M' := mem E mu la) rfl ?_
    refine Ev.br (c := a0 ≤ (6 : Int32)) (s1 := (7, [some (.inr (.inr (some (6, c)))), some (.inl a0)], [], mem E mu la)) (s2 := (5, [some (.inr (.inr (some (6, c)))), some (.inl a0)], [], mem E mu la)) rfl rfl rfl rfl (fun hc => ?_) (fun hc => ?_)
    · have h := h.1 hc
      dsimp only
      refine Ev.steps 3 (ip' := 10) (ls' := [some (.inr (.inr (some (6, c)))), some (.inl a0)]) (st' := [.inl (mu 1 0 0)]) (M' := mem E mu la) rfl ?_
      refine Ev.br (c := ¬ (mu 1 0 0) = 0) (s1 := (13, [some (.inr (.inr (some (6, c)))), some (.inl a0)], [], mem E mu la)) (s2 := (11, [some (.inr (.inr (some (6, c)))), some (.inl a0)], [], mem E mu la)) rfl rfl rfl rfl (fun hc => ?_) (fun hc => ?_)
      · have h := h.1 hc
        dsimp only
        refine Ev.steps 6 (ip' := 19) (ls' := [some (.inr (.inr (some (6, c)))), some (.inl a0)]) (st' := [.inl a0, .inr (.inr (some (0, 0))), .inr (.inr (some (4, 0))), .inr (.inr (some (6, c)))]) (M' := mem E mu la) rfl ?_
        refine Ev.ci (J := mi_33) (as := [.inr (.inr (some (4, 0))), .inr (.inr (some (0, 0))), .inl a0]) (rest := [.inr (.inr (some (6, c)))]) rfl rfl rfl (Nat.le_of_ble_eq_true rfl) h (fun x1 mu2 la3 h => ?_)
        refine Ev.steps 2 (ip' := 22) (ls' := [some (.inr (.inr (some (6, c)))), some (.inl a0)]) (st' := [.inr (.inl (1 : Int64)), .inr (.inl x1.toInt64), .inr (.inr (some (6, c)))]) (M' := mem E mu2 la3) rfl ?_
        refine Ev.cv (J := mi_99) (as := [.inr (.inr (some (6, c))), .inr (.inl x1.toInt64), .inr (.inl (1 : Int64))]) (rest := []) rfl rfl rfl (Nat.le_of_ble_eq_true rfl) h (fun mu5 la6 h => ?_)
        refine Ev.steps 1 (ip' := 24) (ls' := [some (.inr (.inr (some (6, c)))), some (.inl a0)]) (st' := [.inl (1 : Int32)]) (M' := mem E mu5 la6) rfl ?_
        exact Ev.ret rfl rfl ⟨_, _, _, rfl, rfl, h⟩
      · have h := h.2 hc
        dsimp only
        refine Ev.steps 1 (ip' := 12) (ls' := [some (.inr (.inr (some (6, c)))), some (.inl a0)]) (st' := [.inl (-4 : Int32)]) (M' := mem E mu la) rfl ?_
        exact Ev.ret rfl rfl ⟨_, _, _, rfl, rfl, h⟩
    · have h := h.2 hc
      dsimp only
      refine Ev.steps 1 (ip' := 6) (ls' := [some (.inr (.inr (some (6, c)))), some (.inl a0)]) (st' := [.inl (-1 : Int32)]) (M' := mem E mu la) rfl ?_
      exact Ev.ret rfl rfl ⟨_, _, _, rfl, rfl, h⟩
set_option maxRecDepth 100000 in
/-- AnnCups.makes(I)I -/
theorem vc_X6_makes {E : mEv} {d : Nat} {c : Nat} (a0 : Int32) {mu : fMu} {la : fLa} {Q : Int32 → fMu → fLa → Prop} (h : FnR E d mi_96 [.inr (.inr (some (6, c))), .inl a0] mu la 3 (fun mu2 la3 => Q (-1 : Int32) mu2 la3) (fun x1 mu2 la3 => (¬ (mu2 1 0 0) = 0 → ((0 ≤ (mu2 3 x1 0) → (((mu2 3 x1 0) ≤ (6 : Int32) → (Ev E (d + 1) mi_73 31 [some (.inr (.inr (some (6, c)))), none, some (.inr (.inr (some (3, x1)))), some (.inl (0 : Int32))] [] (mem E mu2 la3) (qI E Q))) ∧ (¬ ((mu2 3 x1 0) ≤ (6 : Int32)) → (FnI E d mi_95 [.inr (.inr (some (6, c))), .inl (5 : Int32)] mu2 la3 (fun x4 mu5 la6 => Q x4 mu5 la6))))) ∧ (¬ (0 ≤ (mu2 3 x1 0)) → (FnI E d mi_95 [.inr (.inr (some (6, c))), .inl (1 : Int32)] mu2 la3 (fun x7 mu8 la9 => Q x7 mu8 la9))))) ∧ (¬ (¬ (mu2 1 0 0) = 0) → (Q (-4 : Int32) mu2 la3)))) : FnI E (d + 1) mi_73 [.inr (.inr (some (6, c))), .inl a0] mu la Q := by
  unfold FnI
  show Ev E (d + 1) mi_73 0 [some (.inr (.inr (some (6, c)))), some (.inl a0), none, none] [] (mem E mu la) (qI E Q)
  refine Ev.steps 2 (ip' := 2) (ls' := [some (.inr (.inr (some (6, c)))), some (.inl a0), none, none]) (st' := [.inl a0, .inr (.inr (some (6, c)))]) (M' := mem E mu la) rfl ?_
  refine Ev.cr 3 (J := mi_96) (as := [.inr (.inr (some (6, c))), .inl a0]) (rest := []) rfl rfl rfl (Nat.le_of_ble_eq_true rfl) h (fun mu2 la3 h => ?_) (fun x1 mu2 la3 h => ?_)
  · refine Ev.steps 4 (ip' := 7) (ls' := [some (.inr (.inr (some (6, c)))), some (.inl a0), some (.inr (.inr none)), none]) (st' := [.inl (-1 : Int32)]) (M' := mem E mu2 la3) rfl ?_
    exact Ev.ret rfl rfl ⟨_, _, _, rfl, rfl, h⟩
  · refine Ev.steps 6 (ip' := 11) (ls' := [some (.inr (.inr (some (6, c)))), some (.inl a0), some (.inr (.inr (some (3, x1)))), none]) (st' := [.inl (mu2 1 0 0)]) (M' := mem E mu2 la3) rfl ?_
    refine Ev.br (c := ¬ (mu2 1 0 0) = 0) (s1 := (14, [some (.inr (.inr (some (6, c)))), some (.inl a0), some (.inr (.inr (some (3, x1)))), none], [], mem E mu2 la3)) (s2 := (12, [some (.inr (.inr (some (6, c)))), some (.inl a0), some (.inr (.inr (some (3, x1)))), none], [], mem E mu2 la3)) rfl rfl rfl rfl (fun hc => ?_) (fun hc => ?_)
    · have h := h.1 hc
      dsimp only
      refine Ev.steps 2 (ip' := 16) (ls' := [some (.inr (.inr (some (6, c)))), some (.inl a0), some (.inr (.inr (some (3, x1)))), none]) (st' := [.inl (mu2 3 x1 0)]) (M' := mem E mu2 la3) rfl ?_
      refine Ev.br (c := 0 ≤ (mu2 3 x1 0)) (s1 := (21, [some (.inr (.inr (some (6, c)))), some (.inl a0), some (.inr (.inr (some (3, x1)))), none], [], mem E mu2 la3)) (s2 := (17, [some (.inr (.inr (some (6, c)))), some (.inl a0), some (.inr (.inr (some (3, x1)))), none], [], mem E mu2 la3)) rfl rfl rfl rfl (fun hc => ?_) (fun hc => ?_)
      · have h := h.1 hc
        dsimp only
        refine Ev.steps 3 (ip' := 24) (ls' := [some (.inr (.inr (some (6, c)))), some (.inl a0), some (.inr (.inr (some (3, x1)))), none]) (st' := [.inl (6 : Int32), .inl (mu2 3 x1 0)]) (M' := mem E mu2 la3) rfl ?_
        refine Ev.br (c := (mu2 3 x1 0) ≤ (6 : Int32)) (s1 := (29, [some (.inr (.inr (some (6, c)))), some (.inl a0), some (.inr (.inr (some (3, x1)))), none], [], mem E mu2 la3)) (s2 := (25, [some (.inr (.inr (some (6, c)))), some (.inl a0), some (.inr (.inr (some (3, x1)))), none], [], mem E mu2 la3)) rfl rfl rfl rfl (fun hc => ?_) (fun hc => ?_)
        · have h := h.1 hc
          dsimp only
          refine Ev.steps 2 (ip' := 31) (ls' := [some (.inr (.inr (some (6, c)))), some (.inl a0), some (.inr (.inr (some (3, x1)))), some (.inl (0 : Int32))]) (st' := []) (M' := mem E mu2 la3) rfl ?_
          refine Ev.drop (ls := [some (.inr (.inr (some (6, c)))), none, some (.inr (.inr (some (3, x1)))), some (.inl (0 : Int32))]) ⟨Or.inr rfl, Or.inl rfl, Or.inr rfl, Or.inr rfl, trivial⟩ ?_
          exact h
        · have h := h.2 hc
          dsimp only
          refine Ev.steps 2 (ip' := 27) (ls' := [some (.inr (.inr (some (6, c)))), some (.inl a0), some (.inr (.inr (some (3, x1)))), none]) (st' := [.inl (5 : Int32), .inr (.inr (some (6, c)))]) (M' := mem E mu2 la3) rfl ?_
          refine Ev.ci (J := mi_95) (as := [.inr (.inr (some (6, c))), .inl (5 : Int32)]) (rest := []) rfl rfl rfl (Nat.le_of_ble_eq_true rfl) h (fun x4 mu5 la6 h => ?_)
          exact Ev.ret rfl rfl ⟨_, _, _, rfl, rfl, h⟩
      · have h := h.2 hc
        dsimp only
        refine Ev.steps 2 (ip' := 19) (ls' := [some (.inr (.inr (some (6, c)))), some (.inl a0), some (.inr (.inr (some (3, x1)))), none]) (st' := [.inl (1 : Int32), .inr (.inr (some (6, c)))]) (M' := mem E mu2 la3) rfl ?_
        refine Ev.ci (J := mi_95) (as := [.inr (.inr (some (6, c))), .inl (1 : Int32)]) (rest := []) rfl rfl rfl (Nat.le_of_ble_eq_true rfl) h (fun x7 mu8 la9 h => ?_)
        exact Ev.ret rfl rfl ⟨_, _, _, rfl, rfl, h⟩
    · have h := h.2 hc
      dsimp only
      refine Ev.steps 1 (ip' := 13) (ls' := [some (.inr (.inr (some (6, c)))), some (.inl a0), some (.inr (.inr (some (3, x1)))), none]) (st' := [.inl (-4 : Int32)]) (M' := mem E mu2 la3) rfl ?_
      exact Ev.ret rfl rfl ⟨_, _, _, rfl, rfl, h⟩
set_option maxRecDepth 100000 in
theorem vc_X6_makes_31 {E : mEv} {d : Nat}  (v0 : Nat) (v2 : Nat) (v3 : Int32) {mu : fMu} {la : fLa} {Q : Int32 → fMu → fLa → Prop} (h : ((mu 3 v2 0) ≤ v3 → (FnV E d mi_2 [.inr (.inr (some (0, 1))), .inr (.inr (some (0, 0)))] mu la (fun mu11 la12 => Ev E (d + 1) mi_73 56 [some (.inr (.inr (some (6, v0)))), none, some (.inr (.inr (some (3, v2)))), some (.inl (0 : Int32))] [] (mem E mu11 la12) (qI E Q)))) ∧ (¬ ((mu 3 v2 0) ≤ v3) → (vp_in v3 40 ∧ (FnI E d mi_14 [.inr (.inr (some (1, 0))), .inl (mu 21 v2 v3.toNatClampNeg)] mu la (fun x13 mu14 la15 => (¬ x13 = 0 → (Ev E (d + 1) mi_73 31 [some (.inr (.inr (some (6, v0)))), none, some (.inr (.inr (some (3, v2)))), some (.inl (v3 + (1 : Int32)))] [] (mem E mu14 la15) (qI E Q))) ∧ (¬ (¬ x13 = 0) → (FnI E d mi_95 [.inr (.inr (some (6, v0))), .inl (3 : Int32)] mu14 la15 (fun x16 mu17 la18 => Q x16 mu17 la18)))))))) : Ev E (d + 1) mi_73 31 [some (.inr (.inr (some (6, v0)))), none, some (.inr (.inr (some (3, v2)))), some (.inl v3)] [] (mem E mu la) (qI E Q) := by
  refine Ev.steps 3 (ip' := 34) (ls' := [some (.inr (.inr (some (6, v0)))), none, some (.inr (.inr (some (3, v2)))), some (.inl v3)]) (st' := [.inl (mu 3 v2 0), .inl v3]) (M' := mem E mu la) rfl ?_
  refine Ev.br (c := (mu 3 v2 0) ≤ v3) (s1 := (49, [some (.inr (.inr (some (6, v0)))), none, some (.inr (.inr (some (3, v2)))), some (.inl v3)], [], mem E mu la)) (s2 := (35, [some (.inr (.inr (some (6, v0)))), none, some (.inr (.inr (some (3, v2)))), some (.inl v3)], [], mem E mu la)) rfl rfl rfl rfl (fun hc => ?_) (fun hc => ?_)
  · have h := h.1 hc
    dsimp only
    refine Ev.steps 4 (ip' := 53) (ls' := [some (.inr (.inr (some (6, v0)))), none, some (.inr (.inr (some (3, v2)))), some (.inl v3)]) (st' := [.inr (.inr (some (0, 0))), .inr (.inr (some (0, 1)))]) (M' := mem E mu la) rfl ?_
    refine Ev.cv (J := mi_2) (as := [.inr (.inr (some (0, 1))), .inr (.inr (some (0, 0)))]) (rest := []) rfl rfl rfl (Nat.le_of_ble_eq_true rfl) h (fun mu11 la12 h => ?_)
    refine Ev.steps 2 (ip' := 56) (ls' := [some (.inr (.inr (some (6, v0)))), none, some (.inr (.inr (some (3, v2)))), some (.inl (0 : Int32))]) (st' := []) (M' := mem E mu11 la12) rfl ?_
    exact h
  · have h := h.2 hc
    dsimp only
    refine Ev.steps 5 (ip' := 40) (ls' := [some (.inr (.inr (some (6, v0)))), none, some (.inr (.inr (some (3, v2)))), some (.inl v3)]) (st' := [.inl v3, .inr (.inr (some (21, v2))), .inr (.inr (some (1, 0)))]) (M' := mem E mu la) rfl ?_
    refine Ev.ial rfl rfl (by decide) h.1 ?_
    have h := h.2
    refine Ev.ci (J := mi_14) (as := [.inr (.inr (some (1, 0))), .inl (mu 21 v2 v3.toNatClampNeg)]) (rest := []) rfl rfl rfl (Nat.le_of_ble_eq_true rfl) h (fun x13 mu14 la15 h => ?_)
    refine Ev.br (c := ¬ x13 = 0) (s1 := (47, [some (.inr (.inr (some (6, v0)))), none, some (.inr (.inr (some (3, v2)))), some (.inl v3)], [], mem E mu14 la15)) (s2 := (43, [some (.inr (.inr (some (6, v0)))), none, some (.inr (.inr (some (3, v2)))), some (.inl v3)], [], mem E mu14 la15)) rfl rfl rfl rfl (fun hc => ?_) (fun hc => ?_)
    · have h := h.1 hc
      dsimp only
      refine Ev.steps 2 (ip' := 31) (ls' := [some (.inr (.inr (some (6, v0)))), none, some (.inr (.inr (some (3, v2)))), some (.inl (v3 + (1 : Int32)))]) (st' := []) (M' := mem E mu14 la15) rfl ?_
      exact h
    · have h := h.2 hc
      dsimp only
      refine Ev.steps 2 (ip' := 45) (ls' := [some (.inr (.inr (some (6, v0)))), none, some (.inr (.inr (some (3, v2)))), some (.inl v3)]) (st' := [.inl (3 : Int32), .inr (.inr (some (6, v0)))]) (M' := mem E mu14 la15) rfl ?_
      refine Ev.ci (J := mi_95) (as := [.inr (.inr (some (6, v0))), .inl (3 : Int32)]) (rest := []) rfl rfl rfl (Nat.le_of_ble_eq_true rfl) h (fun x16 mu17 la18 h => ?_)
      exact Ev.ret rfl rfl ⟨_, _, _, rfl, rfl, h⟩
set_option maxRecDepth 100000 in
theorem vc_X6_makes_56 {E : mEv} {d : Nat}  (v0 : Nat) (v2 : Nat) (v3 : Int32) {mu : fMu} {la : fLa} {Q : Int32 → fMu → fLa → Prop} (h : ((mu 3 v2 0) ≤ v3 → (FnI E d mi_12 [.inr (.inr (some (0, 1)))] mu la (fun x19 mu20 la21 => ∀ mu22 : fMu, mu22 = up3 mu20 6 v0 11 x19 → (Q (mu22 0 1 1) mu22 la21)))) ∧ (¬ ((mu 3 v2 0) ≤ v3) → (vp_in v3 40 ∧ (FnI E d mi_3 [.inr (.inr (some (0, 1))), .inl (mu 21 v2 v3.toNatClampNeg)] mu la (fun x23 mu24 la25 => (¬ x23 = 0 → (FnI E d mi_12 [.inr (.inr (some (0, 1)))] mu24 la25 (fun x26 mu27 la28 => ∀ mu29 : fMu, mu29 = up3 mu27 6 v0 11 x26 → (Q (mu29 0 1 1) mu29 la28)))) ∧ (¬ (¬ x23 = 0) → (vp_in v3 40 ∧ (FnV E d mi_4 [.inr (.inr (some (0, 1))), .inl (mu24 21 v2 v3.toNatClampNeg)] mu24 la25 (fun mu31 la32 => Ev E (d + 1) mi_73 56 [some (.inr (.inr (some (6, v0)))), none, some (.inr (.inr (some (3, v2)))), some (.inl (v3 + (1 : Int32)))] [] (mem E mu31 la32) (qI E Q)))))))))) : Ev E (d + 1) mi_73 56 [some (.inr (.inr (some (6, v0)))), none, some (.inr (.inr (some (3, v2)))), some (.inl v3)] [] (mem E mu la) (qI E Q) := by
  refine Ev.steps 3 (ip' := 59) (ls' := [some (.inr (.inr (some (6, v0)))), none, some (.inr (.inr (some (3, v2)))), some (.inl v3)]) (st' := [.inl (mu 3 v2 0), .inl v3]) (M' := mem E mu la) rfl ?_
  refine Ev.br (c := (mu 3 v2 0) ≤ v3) (s1 := (77, [some (.inr (.inr (some (6, v0)))), none, some (.inr (.inr (some (3, v2)))), some (.inl v3)], [], mem E mu la)) (s2 := (60, [some (.inr (.inr (some (6, v0)))), none, some (.inr (.inr (some (3, v2)))), some (.inl v3)], [], mem E mu la)) rfl rfl rfl rfl (fun hc => ?_) (fun hc => ?_)
  · have h := h.1 hc
    dsimp only
    refine Ev.steps 3 (ip' := 80) (ls' := [some (.inr (.inr (some (6, v0)))), none, some (.inr (.inr (some (3, v2)))), some (.inl v3)]) (st' := [.inr (.inr (some (0, 1))), .inr (.inr (some (6, v0)))]) (M' := mem E mu la) rfl ?_
    refine Ev.ci (J := mi_12) (as := [.inr (.inr (some (0, 1)))]) (rest := [.inr (.inr (some (6, v0)))]) rfl rfl rfl (Nat.le_of_ble_eq_true rfl) h (fun x19 mu20 la21 h => ?_)
    refine Ev.steps 1 (ip' := 82) (ls' := [some (.inr (.inr (some (6, v0)))), none, some (.inr (.inr (some (3, v2)))), some (.inl v3)]) (st' := []) (M' := mem E (up3 mu20 6 v0 11 x19) la21) rfl ?_
    generalize hgmu22 : up3 mu20 6 v0 11 x19 = mu22
    have h := h mu22 hgmu22.symm
    refine Ev.steps 3 (ip' := 85) (ls' := [some (.inr (.inr (some (6, v0)))), none, some (.inr (.inr (some (3, v2)))), some (.inl v3)]) (st' := [.inl (mu22 0 1 1)]) (M' := mem E mu22 la21) rfl ?_
    exact Ev.ret rfl rfl ⟨_, _, _, rfl, rfl, h⟩
  · have h := h.2 hc
    dsimp only
    refine Ev.steps 5 (ip' := 65) (ls' := [some (.inr (.inr (some (6, v0)))), none, some (.inr (.inr (some (3, v2)))), some (.inl v3)]) (st' := [.inl v3, .inr (.inr (some (21, v2))), .inr (.inr (some (0, 1)))]) (M' := mem E mu la) rfl ?_
    refine Ev.ial rfl rfl (by decide) h.1 ?_
    have h := h.2
    refine Ev.ci (J := mi_3) (as := [.inr (.inr (some (0, 1))), .inl (mu 21 v2 v3.toNatClampNeg)]) (rest := []) rfl rfl rfl (Nat.le_of_ble_eq_true rfl) h (fun x23 mu24 la25 h => ?_)
    refine Ev.br (c := ¬ x23 = 0) (s1 := (77, [some (.inr (.inr (some (6, v0)))), none, some (.inr (.inr (some (3, v2)))), some (.inl v3)], [], mem E mu24 la25)) (s2 := (68, [some (.inr (.inr (some (6, v0)))), none, some (.inr (.inr (some (3, v2)))), some (.inl v3)], [], mem E mu24 la25)) rfl rfl rfl rfl (fun hc => ?_) (fun hc => ?_)
    · have h := h.1 hc
      dsimp only
      refine Ev.steps 3 (ip' := 80) (ls' := [some (.inr (.inr (some (6, v0)))), none, some (.inr (.inr (some (3, v2)))), some (.inl v3)]) (st' := [.inr (.inr (some (0, 1))), .inr (.inr (some (6, v0)))]) (M' := mem E mu24 la25) rfl ?_
      refine Ev.ci (J := mi_12) (as := [.inr (.inr (some (0, 1)))]) (rest := [.inr (.inr (some (6, v0)))]) rfl rfl rfl (Nat.le_of_ble_eq_true rfl) h (fun x26 mu27 la28 h => ?_)
      refine Ev.steps 1 (ip' := 82) (ls' := [some (.inr (.inr (some (6, v0)))), none, some (.inr (.inr (some (3, v2)))), some (.inl v3)]) (st' := []) (M' := mem E (up3 mu27 6 v0 11 x26) la28) rfl ?_
      generalize hgmu29 : up3 mu27 6 v0 11 x26 = mu29
      have h := h mu29 hgmu29.symm
      refine Ev.steps 3 (ip' := 85) (ls' := [some (.inr (.inr (some (6, v0)))), none, some (.inr (.inr (some (3, v2)))), some (.inl v3)]) (st' := [.inl (mu29 0 1 1)]) (M' := mem E mu29 la28) rfl ?_
      exact Ev.ret rfl rfl ⟨_, _, _, rfl, rfl, h⟩
    · have h := h.2 hc
      dsimp only
      refine Ev.steps 5 (ip' := 73) (ls' := [some (.inr (.inr (some (6, v0)))), none, some (.inr (.inr (some (3, v2)))), some (.inl v3)]) (st' := [.inl v3, .inr (.inr (some (21, v2))), .inr (.inr (some (0, 1)))]) (M' := mem E mu24 la25) rfl ?_
      refine Ev.ial rfl rfl (by decide) h.1 ?_
      have h := h.2
      refine Ev.cv (J := mi_4) (as := [.inr (.inr (some (0, 1))), .inl (mu24 21 v2 v3.toNatClampNeg)]) (rest := []) rfl rfl rfl (Nat.le_of_ble_eq_true rfl) h (fun mu31 la32 h => ?_)
      refine Ev.steps 2 (ip' := 56) (ls' := [some (.inr (.inr (some (6, v0)))), none, some (.inr (.inr (some (3, v2)))), some (.inl (v3 + (1 : Int32)))]) (st' := []) (M' := mem E mu31 la32) rfl ?_
      exact h
set_option maxRecDepth 100000 in
/-- AnnCups.done(II)I -/
theorem vc_X6_done {E : mEv} {d : Nat} {c : Nat} (a0 : Int32) (a1 : Int32) {mu : fMu} {la : fLa} {Q : Int32 → fMu → fLa → Prop} (h : FnR E d mi_96 [.inr (.inr (some (6, c))), .inl a1] mu la 3 (fun mu2 la3 => Q (-1 : Int32) mu2 la3) (fun x1 mu2 la3 => (a0 < 0 → (Q (-1 : Int32) mu2 la3)) ∧ (¬ (a0 < 0) → ((a0 ≤ (99 : Int32) → ((¬ (mu2 1 0 0) = 0 → (((mu2 0 0 1) ≤ a0 → (FnV E d mi_34 [.inr (.inr (some (4, 0))), .inr (.inr (some (0, 0))), .inl a0] mu2 la3 (fun mu5 la6 => FnV E d mi_35 [.inr (.inr (some (4, 0))), .inr (.inr (some (3, x1)))] mu5 la6 (fun mu8 la9 => Q (mu8 4 0 3) mu8 la9)))) ∧ (¬ ((mu2 0 0 1) ≤ a0) → (Q (-6 : Int32) mu2 la3)))) ∧ (¬ (¬ (mu2 1 0 0) = 0) → (Q (-4 : Int32) mu2 la3)))) ∧ (¬ (a0 ≤ (99 : Int32)) → (Q (-1 : Int32) mu2 la3)))))) : FnI E (d + 1) mi_74 [.inr (.inr (some (6, c))), .inl a0, .inl a1] mu la Q := by
  unfold FnI
  show Ev E (d + 1) mi_74 0 [some (.inr (.inr (some (6, c)))), some (.inl a0), some (.inl a1), none] [] (mem E mu la) (qI E Q)
  refine Ev.steps 2 (ip' := 2) (ls' := [some (.inr (.inr (some (6, c)))), some (.inl a0), some (.inl a1), none]) (st' := [.inl a1, .inr (.inr (some (6, c)))]) (M' := mem E mu la) rfl ?_
  refine Ev.cr 3 (J := mi_96) (as := [.inr (.inr (some (6, c))), .inl a1]) (rest := []) rfl rfl rfl (Nat.le_of_ble_eq_true rfl) h (fun mu2 la3 h => ?_) (fun x1 mu2 la3 h => ?_)
  · refine Ev.steps 4 (ip' := 12) (ls' := [some (.inr (.inr (some (6, c)))), some (.inl a0), some (.inl a1), some (.inr (.inr none))]) (st' := [.inl (-1 : Int32)]) (M' := mem E mu2 la3) rfl ?_
    exact Ev.ret rfl rfl ⟨_, _, _, rfl, rfl, h⟩
  · refine Ev.steps 4 (ip' := 7) (ls' := [some (.inr (.inr (some (6, c)))), some (.inl a0), some (.inl a1), some (.inr (.inr (some (3, x1))))]) (st' := [.inl a0]) (M' := mem E mu2 la3) rfl ?_
    refine Ev.br (c := a0 < 0) (s1 := (11, [some (.inr (.inr (some (6, c)))), some (.inl a0), some (.inl a1), some (.inr (.inr (some (3, x1))))], [], mem E mu2 la3)) (s2 := (8, [some (.inr (.inr (some (6, c)))), some (.inl a0), some (.inl a1), some (.inr (.inr (some (3, x1))))], [], mem E mu2 la3)) rfl rfl rfl rfl (fun hc => ?_) (fun hc => ?_)
    · have h := h.1 hc
      dsimp only
      refine Ev.steps 1 (ip' := 12) (ls' := [some (.inr (.inr (some (6, c)))), some (.inl a0), some (.inl a1), some (.inr (.inr (some (3, x1))))]) (st' := [.inl (-1 : Int32)]) (M' := mem E mu2 la3) rfl ?_
      exact Ev.ret rfl rfl ⟨_, _, _, rfl, rfl, h⟩
    · have h := h.2 hc
      dsimp only
      refine Ev.steps 2 (ip' := 10) (ls' := [some (.inr (.inr (some (6, c)))), some (.inl a0), some (.inl a1), some (.inr (.inr (some (3, x1))))]) (st' := [.inl (99 : Int32), .inl a0]) (M' := mem E mu2 la3) rfl ?_
      refine Ev.br (c := a0 ≤ (99 : Int32)) (s1 := (13, [some (.inr (.inr (some (6, c)))), some (.inl a0), some (.inl a1), some (.inr (.inr (some (3, x1))))], [], mem E mu2 la3)) (s2 := (11, [some (.inr (.inr (some (6, c)))), some (.inl a0), some (.inl a1), some (.inr (.inr (some (3, x1))))], [], mem E mu2 la3)) rfl rfl rfl rfl (fun hc => ?_) (fun hc => ?_)
      · have h := h.1 hc
        dsimp only
        refine Ev.steps 3 (ip' := 16) (ls' := [some (.inr (.inr (some (6, c)))), some (.inl a0), some (.inl a1), some (.inr (.inr (some (3, x1))))]) (st' := [.inl (mu2 1 0 0)]) (M' := mem E mu2 la3) rfl ?_
        refine Ev.br (c := ¬ (mu2 1 0 0) = 0) (s1 := (19, [some (.inr (.inr (some (6, c)))), some (.inl a0), some (.inl a1), some (.inr (.inr (some (3, x1))))], [], mem E mu2 la3)) (s2 := (17, [some (.inr (.inr (some (6, c)))), some (.inl a0), some (.inl a1), some (.inr (.inr (some (3, x1))))], [], mem E mu2 la3)) rfl rfl rfl rfl (fun hc => ?_) (fun hc => ?_)
        · have h := h.1 hc
          dsimp only
          refine Ev.steps 4 (ip' := 23) (ls' := [some (.inr (.inr (some (6, c)))), some (.inl a0), some (.inl a1), some (.inr (.inr (some (3, x1))))]) (st' := [.inl a0, .inl (mu2 0 0 1)]) (M' := mem E mu2 la3) rfl ?_
          refine Ev.br (c := (mu2 0 0 1) ≤ a0) (s1 := (26, [some (.inr (.inr (some (6, c)))), some (.inl a0), some (.inl a1), some (.inr (.inr (some (3, x1))))], [], mem E mu2 la3)) (s2 := (24, [some (.inr (.inr (some (6, c)))), some (.inl a0), some (.inl a1), some (.inr (.inr (some (3, x1))))], [], mem E mu2 la3)) rfl rfl rfl rfl (fun hc => ?_) (fun hc => ?_)
          · have h := h.1 hc
            dsimp only
            refine Ev.steps 5 (ip' := 31) (ls' := [some (.inr (.inr (some (6, c)))), some (.inl a0), some (.inl a1), some (.inr (.inr (some (3, x1))))]) (st' := [.inl a0, .inr (.inr (some (0, 0))), .inr (.inr (some (4, 0)))]) (M' := mem E mu2 la3) rfl ?_
            refine Ev.cv (J := mi_34) (as := [.inr (.inr (some (4, 0))), .inr (.inr (some (0, 0))), .inl a0]) (rest := []) rfl rfl rfl (Nat.le_of_ble_eq_true rfl) h (fun mu5 la6 h => ?_)
            refine Ev.steps 3 (ip' := 35) (ls' := [some (.inr (.inr (some (6, c)))), some (.inl a0), some (.inl a1), some (.inr (.inr (some (3, x1))))]) (st' := [.inr (.inr (some (3, x1))), .inr (.inr (some (4, 0)))]) (M' := mem E mu5 la6) rfl ?_
            refine Ev.cv (J := mi_35) (as := [.inr (.inr (some (4, 0))), .inr (.inr (some (3, x1)))]) (rest := []) rfl rfl rfl (Nat.le_of_ble_eq_true rfl) h (fun mu8 la9 h => ?_)
            refine Ev.steps 3 (ip' := 39) (ls' := [some (.inr (.inr (some (6, c)))), some (.inl a0), some (.inl a1), some (.inr (.inr (some (3, x1))))]) (st' := [.inl (mu8 4 0 3)]) (M' := mem E mu8 la9) rfl ?_
            exact Ev.ret rfl rfl ⟨_, _, _, rfl, rfl, h⟩
          · have h := h.2 hc
            dsimp only
            refine Ev.steps 1 (ip' := 25) (ls' := [some (.inr (.inr (some (6, c)))), some (.inl a0), some (.inl a1), some (.inr (.inr (some (3, x1))))]) (st' := [.inl (-6 : Int32)]) (M' := mem E mu2 la3) rfl ?_
            exact Ev.ret rfl rfl ⟨_, _, _, rfl, rfl, h⟩
        · have h := h.2 hc
          dsimp only
          refine Ev.steps 1 (ip' := 18) (ls' := [some (.inr (.inr (some (6, c)))), some (.inl a0), some (.inl a1), some (.inr (.inr (some (3, x1))))]) (st' := [.inl (-4 : Int32)]) (M' := mem E mu2 la3) rfl ?_
          exact Ev.ret rfl rfl ⟨_, _, _, rfl, rfl, h⟩
      · have h := h.2 hc
        dsimp only
        refine Ev.steps 1 (ip' := 12) (ls' := [some (.inr (.inr (some (6, c)))), some (.inl a0), some (.inl a1), some (.inr (.inr (some (3, x1))))]) (st' := [.inl (-1 : Int32)]) (M' := mem E mu2 la3) rfl ?_
        exact Ev.ret rfl rfl ⟨_, _, _, rfl, rfl, h⟩
set_option maxRecDepth 100000 in
/-- AnnCups.wrong()I -/
theorem vc_X6_wrong {E : mEv} {d : Nat} {c : Nat} {mu : fMu} {la : fLa} {Q : Int32 → fMu → fLa → Prop} (h : FnI E d mi_11 [.inr (.inr (some (0, 0)))] mu la (fun x1 mu2 la3 => Q x1 mu2 la3)) : FnI E (d + 1) mi_75 [.inr (.inr (some (6, c)))] mu la Q := by
  unfold FnI
  show Ev E (d + 1) mi_75 0 [some (.inr (.inr (some (6, c))))] [] (mem E mu la) (qI E Q)
  refine Ev.steps 2 (ip' := 2) (ls' := [some (.inr (.inr (some (6, c))))]) (st' := [.inr (.inr (some (0, 0)))]) (M' := mem E mu la) rfl ?_
  refine Ev.ci (J := mi_11) (as := [.inr (.inr (some (0, 0)))]) (rest := []) rfl rfl rfl (Nat.le_of_ble_eq_true rfl) h (fun x1 mu2 la3 h => ?_)
  exact Ev.ret rfl rfl ⟨_, _, _, rfl, rfl, h⟩
set_option maxRecDepth 100000 in
/-- AnnCups.mends()I -/
theorem vc_X6_mends {E : mEv} {d : Nat} {c : Nat} {mu : fMu} {la : fLa} {Q : Int32 → fMu → fLa → Prop} (h : Ev E (d + 1) mi_76 4 [some (.inr (.inr (some (6, c)))), some (.inl (0 : Int32)), some (.inl (0 : Int32)), none] [] (mem E mu la) (qI E Q)) : FnI E (d + 1) mi_76 [.inr (.inr (some (6, c)))] mu la Q := by
  unfold FnI
  show Ev E (d + 1) mi_76 0 [some (.inr (.inr (some (6, c)))), none, none, none] [] (mem E mu la) (qI E Q)
  refine Ev.steps 4 (ip' := 4) (ls' := [some (.inr (.inr (some (6, c)))), some (.inl (0 : Int32)), some (.inl (0 : Int32)), none]) (st' := []) (M' := mem E mu la) rfl ?_
  exact h
set_option maxRecDepth 100000 in
theorem vc_X6_mends_4 {E : mEv} {d : Nat}  (v0 : Nat) (v1 : Int32) (v2 : Int32) {mu : fMu} {la : fLa} {Q : Int32 → fMu → fLa → Prop} (h : ((mu 1 0 0) ≤ v2 → (FnI E d mi_12 [.inr (.inr (some (0, 0)))] mu la (fun x1 mu2 la3 => Q (x1 - v1) mu2 la3))) ∧ (¬ ((mu 1 0 0) ≤ v2) → (vp_in v2 6 ∧ (FnI E d mi_14 [.inr (.inr (some (1, 0))), .inl (mu 9 0 v2.toNatClampNeg)] mu la (fun x4 mu5 la6 => (x4 = 0 → (((mu 9 0 v2.toNatClampNeg) = v2 → (Ev E (d + 1) mi_76 4 [some (.inr (.inr (some (6, v0)))), some (.inl v1), some (.inl (v2 + (1 : Int32))), none] [] (mem E mu5 la6) (qI E Q))) ∧ (¬ ((mu 9 0 v2.toNatClampNeg) = v2) → (FnI E d mi_122 [.inr (.inr (some (6, v0))), .inl v2] mu5 la6 (fun x7 mu8 la9 => (x7 = 0 → (Ev E (d + 1) mi_76 4 [some (.inr (.inr (some (6, v0)))), some (.inl v1), some (.inl (v2 + (1 : Int32))), none] [] (mem E mu8 la9) (qI E Q))) ∧ (¬ (x7 = 0) → (Ev E (d + 1) mi_76 4 [some (.inr (.inr (some (6, v0)))), some (.inl (v1 + (1 : Int32))), some (.inl (v2 + (1 : Int32))), none] [] (mem E mu8 la9) (qI E Q)))))))) ∧ (¬ (x4 = 0) → (FnI E d mi_15 [.inr (.inr (some (1, 0))), .inl (mu 9 0 v2.toNatClampNeg)] mu5 la6 (fun x10 mu11 la12 => (¬ x10 = 0 → (((mu 9 0 v2.toNatClampNeg) = v2 → (Ev E (d + 1) mi_76 4 [some (.inr (.inr (some (6, v0)))), some (.inl v1), some (.inl (v2 + (1 : Int32))), none] [] (mem E mu11 la12) (qI E Q))) ∧ (¬ ((mu 9 0 v2.toNatClampNeg) = v2) → (FnI E d mi_122 [.inr (.inr (some (6, v0))), .inl v2] mu11 la12 (fun x13 mu14 la15 => (x13 = 0 → (Ev E (d + 1) mi_76 4 [some (.inr (.inr (some (6, v0)))), some (.inl v1), some (.inl (v2 + (1 : Int32))), none] [] (mem E mu14 la15) (qI E Q))) ∧ (¬ (x13 = 0) → (Ev E (d + 1) mi_76 4 [some (.inr (.inr (some (6, v0)))), some (.inl (v1 + (1 : Int32))), some (.inl (v2 + (1 : Int32))), none] [] (mem E mu14 la15) (qI E Q)))))))) ∧ (¬ (¬ x10 = 0) → (Q (-9 : Int32) mu11 la12)))))))))) : Ev E (d + 1) mi_76 4 [some (.inr (.inr (some (6, v0)))), some (.inl v1), some (.inl v2), none] [] (mem E mu la) (qI E Q) := by
  refine Ev.steps 4 (ip' := 8) (ls' := [some (.inr (.inr (some (6, v0)))), some (.inl v1), some (.inl v2), none]) (st' := [.inl (mu 1 0 0), .inl v2]) (M' := mem E mu la) rfl ?_
  refine Ev.br (c := (mu 1 0 0) ≤ v2) (s1 := (37, [some (.inr (.inr (some (6, v0)))), some (.inl v1), some (.inl v2), none], [], mem E mu la)) (s2 := (9, [some (.inr (.inr (some (6, v0)))), some (.inl v1), some (.inl v2), none], [], mem E mu la)) rfl rfl rfl rfl (fun hc => ?_) (fun hc => ?_)
  · have h := h.1 hc
    dsimp only
    refine Ev.steps 2 (ip' := 39) (ls' := [some (.inr (.inr (some (6, v0)))), some (.inl v1), some (.inl v2), none]) (st' := [.inr (.inr (some (0, 0)))]) (M' := mem E mu la) rfl ?_
    refine Ev.ci (J := mi_12) (as := [.inr (.inr (some (0, 0)))]) (rest := []) rfl rfl rfl (Nat.le_of_ble_eq_true rfl) h (fun x1 mu2 la3 h => ?_)
    refine Ev.steps 2 (ip' := 42) (ls' := [some (.inr (.inr (some (6, v0)))), some (.inl v1), some (.inl v2), none]) (st' := [.inl (x1 - v1)]) (M' := mem E mu2 la3) rfl ?_
    exact Ev.ret rfl rfl ⟨_, _, _, rfl, rfl, h⟩
  · have h := h.2 hc
    dsimp only
    refine Ev.steps 4 (ip' := 13) (ls' := [some (.inr (.inr (some (6, v0)))), some (.inl v1), some (.inl v2), none]) (st' := [.inl v2, .inr (.inr (some (9, 0)))]) (M' := mem E mu la) rfl ?_
    refine Ev.ial rfl rfl (by decide) h.1 ?_
    have h := h.2
    refine Ev.steps 4 (ip' := 18) (ls' := [some (.inr (.inr (some (6, v0)))), some (.inl v1), some (.inl v2), some (.inl (mu 9 0 v2.toNatClampNeg))]) (st' := [.inl (mu 9 0 v2.toNatClampNeg), .inr (.inr (some (1, 0)))]) (M' := mem E mu la) rfl ?_
    refine Ev.ci (J := mi_14) (as := [.inr (.inr (some (1, 0))), .inl (mu 9 0 v2.toNatClampNeg)]) (rest := []) rfl rfl rfl (Nat.le_of_ble_eq_true rfl) h (fun x4 mu5 la6 h => ?_)
    refine Ev.br (c := x4 = 0) (s1 := (27, [some (.inr (.inr (some (6, v0)))), some (.inl v1), some (.inl v2), some (.inl (mu 9 0 v2.toNatClampNeg))], [], mem E mu5 la6)) (s2 := (20, [some (.inr (.inr (some (6, v0)))), some (.inl v1), some (.inl v2), some (.inl (mu 9 0 v2.toNatClampNeg))], [], mem E mu5 la6)) rfl rfl rfl rfl (fun hc => ?_) (fun hc => ?_)
    · have h := h.1 hc
      dsimp only
      refine Ev.steps 2 (ip' := 29) (ls' := [some (.inr (.inr (some (6, v0)))), some (.inl v1), some (.inl v2), some (.inl (mu 9 0 v2.toNatClampNeg))]) (st' := [.inl v2, .inl (mu 9 0 v2.toNatClampNeg)]) (M' := mem E mu5 la6) rfl ?_
      refine Ev.br (c := (mu 9 0 v2.toNatClampNeg) = v2) (s1 := (35, [some (.inr (.inr (some (6, v0)))), some (.inl v1), some (.inl v2), some (.inl (mu 9 0 v2.toNatClampNeg))], [], mem E mu5 la6)) (s2 := (30, [some (.inr (.inr (some (6, v0)))), some (.inl v1), some (.inl v2), some (.inl (mu 9 0 v2.toNatClampNeg))], [], mem E mu5 la6)) rfl rfl rfl rfl (fun hc => ?_) (fun hc => ?_)
      · have h := h.1 hc
        dsimp only
        refine Ev.steps 2 (ip' := 4) (ls' := [some (.inr (.inr (some (6, v0)))), some (.inl v1), some (.inl (v2 + (1 : Int32))), some (.inl (mu 9 0 v2.toNatClampNeg))]) (st' := []) (M' := mem E mu5 la6) rfl ?_
        refine Ev.drop (ls := [some (.inr (.inr (some (6, v0)))), some (.inl v1), some (.inl (v2 + (1 : Int32))), none]) ⟨Or.inr rfl, Or.inr rfl, Or.inr rfl, Or.inl rfl, trivial⟩ ?_
        exact h
      · have h := h.2 hc
        dsimp only
        refine Ev.steps 2 (ip' := 32) (ls' := [some (.inr (.inr (some (6, v0)))), some (.inl v1), some (.inl v2), some (.inl (mu 9 0 v2.toNatClampNeg))]) (st' := [.inl v2, .inr (.inr (some (6, v0)))]) (M' := mem E mu5 la6) rfl ?_
        refine Ev.ci (J := mi_122) (as := [.inr (.inr (some (6, v0))), .inl v2]) (rest := []) rfl rfl rfl (Nat.le_of_ble_eq_true rfl) h (fun x7 mu8 la9 h => ?_)
        refine Ev.br (c := x7 = 0) (s1 := (35, [some (.inr (.inr (some (6, v0)))), some (.inl v1), some (.inl v2), some (.inl (mu 9 0 v2.toNatClampNeg))], [], mem E mu8 la9)) (s2 := (34, [some (.inr (.inr (some (6, v0)))), some (.inl v1), some (.inl v2), some (.inl (mu 9 0 v2.toNatClampNeg))], [], mem E mu8 la9)) rfl rfl rfl rfl (fun hc => ?_) (fun hc => ?_)
        · have h := h.1 hc
          dsimp only
          refine Ev.steps 2 (ip' := 4) (ls' := [some (.inr (.inr (some (6, v0)))), some (.inl v1), some (.inl (v2 + (1 : Int32))), some (.inl (mu 9 0 v2.toNatClampNeg))]) (st' := []) (M' := mem E mu8 la9) rfl ?_
          refine Ev.drop (ls := [some (.inr (.inr (some (6, v0)))), some (.inl v1), some (.inl (v2 + (1 : Int32))), none]) ⟨Or.inr rfl, Or.inr rfl, Or.inr rfl, Or.inl rfl, trivial⟩ ?_
          exact h
        · have h := h.2 hc
          dsimp only
          refine Ev.steps 3 (ip' := 4) (ls' := [some (.inr (.inr (some (6, v0)))), some (.inl (v1 + (1 : Int32))), some (.inl (v2 + (1 : Int32))), some (.inl (mu 9 0 v2.toNatClampNeg))]) (st' := []) (M' := mem E mu8 la9) rfl ?_
          refine Ev.drop (ls := [some (.inr (.inr (some (6, v0)))), some (.inl (v1 + (1 : Int32))), some (.inl (v2 + (1 : Int32))), none]) ⟨Or.inr rfl, Or.inr rfl, Or.inr rfl, Or.inl rfl, trivial⟩ ?_
          exact h
    · have h := h.2 hc
      dsimp only
      refine Ev.steps 3 (ip' := 23) (ls' := [some (.inr (.inr (some (6, v0)))), some (.inl v1), some (.inl v2), some (.inl (mu 9 0 v2.toNatClampNeg))]) (st' := [.inl (mu 9 0 v2.toNatClampNeg), .inr (.inr (some (1, 0)))]) (M' := mem E mu5 la6) rfl ?_
      refine Ev.ci (J := mi_15) (as := [.inr (.inr (some (1, 0))), .inl (mu 9 0 v2.toNatClampNeg)]) (rest := []) rfl rfl rfl (Nat.le_of_ble_eq_true rfl) h (fun x10 mu11 la12 h => ?_)
      refine Ev.br (c := ¬ x10 = 0) (s1 := (27, [some (.inr (.inr (some (6, v0)))), some (.inl v1), some (.inl v2), some (.inl (mu 9 0 v2.toNatClampNeg))], [], mem E mu11 la12)) (s2 := (25, [some (.inr (.inr (some (6, v0)))), some (.inl v1), some (.inl v2), some (.inl (mu 9 0 v2.toNatClampNeg))], [], mem E mu11 la12)) rfl rfl rfl rfl (fun hc => ?_) (fun hc => ?_)
      · have h := h.1 hc
        dsimp only
        refine Ev.steps 2 (ip' := 29) (ls' := [some (.inr (.inr (some (6, v0)))), some (.inl v1), some (.inl v2), some (.inl (mu 9 0 v2.toNatClampNeg))]) (st' := [.inl v2, .inl (mu 9 0 v2.toNatClampNeg)]) (M' := mem E mu11 la12) rfl ?_
        refine Ev.br (c := (mu 9 0 v2.toNatClampNeg) = v2) (s1 := (35, [some (.inr (.inr (some (6, v0)))), some (.inl v1), some (.inl v2), some (.inl (mu 9 0 v2.toNatClampNeg))], [], mem E mu11 la12)) (s2 := (30, [some (.inr (.inr (some (6, v0)))), some (.inl v1), some (.inl v2), some (.inl (mu 9 0 v2.toNatClampNeg))], [], mem E mu11 la12)) rfl rfl rfl rfl (fun hc => ?_) (fun hc => ?_)
        · have h := h.1 hc
          dsimp only
          refine Ev.steps 2 (ip' := 4) (ls' := [some (.inr (.inr (some (6, v0)))), some (.inl v1), some (.inl (v2 + (1 : Int32))), some (.inl (mu 9 0 v2.toNatClampNeg))]) (st' := []) (M' := mem E mu11 la12) rfl ?_
          refine Ev.drop (ls := [some (.inr (.inr (some (6, v0)))), some (.inl v1), some (.inl (v2 + (1 : Int32))), none]) ⟨Or.inr rfl, Or.inr rfl, Or.inr rfl, Or.inl rfl, trivial⟩ ?_
          exact h
        · have h := h.2 hc
          dsimp only
          refine Ev.steps 2 (ip' := 32) (ls' := [some (.inr (.inr (some (6, v0)))), some (.inl v1), some (.inl v2), some (.inl (mu 9 0 v2.toNatClampNeg))]) (st' := [.inl v2, .inr (.inr (some (6, v0)))]) (M' := mem E mu11 la12) rfl ?_
          refine Ev.ci (J := mi_122) (as := [.inr (.inr (some (6, v0))), .inl v2]) (rest := []) rfl rfl rfl (Nat.le_of_ble_eq_true rfl) h (fun x13 mu14 la15 h => ?_)
          refine Ev.br (c := x13 = 0) (s1 := (35, [some (.inr (.inr (some (6, v0)))), some (.inl v1), some (.inl v2), some (.inl (mu 9 0 v2.toNatClampNeg))], [], mem E mu14 la15)) (s2 := (34, [some (.inr (.inr (some (6, v0)))), some (.inl v1), some (.inl v2), some (.inl (mu 9 0 v2.toNatClampNeg))], [], mem E mu14 la15)) rfl rfl rfl rfl (fun hc => ?_) (fun hc => ?_)
          · have h := h.1 hc
            dsimp only
            refine Ev.steps 2 (ip' := 4) (ls' := [some (.inr (.inr (some (6, v0)))), some (.inl v1), some (.inl (v2 + (1 : Int32))), some (.inl (mu 9 0 v2.toNatClampNeg))]) (st' := []) (M' := mem E mu14 la15) rfl ?_
            refine Ev.drop (ls := [some (.inr (.inr (some (6, v0)))), some (.inl v1), some (.inl (v2 + (1 : Int32))), none]) ⟨Or.inr rfl, Or.inr rfl, Or.inr rfl, Or.inl rfl, trivial⟩ ?_
            exact h
          · have h := h.2 hc
            dsimp only
            refine Ev.steps 3 (ip' := 4) (ls' := [some (.inr (.inr (some (6, v0)))), some (.inl (v1 + (1 : Int32))), some (.inl (v2 + (1 : Int32))), some (.inl (mu 9 0 v2.toNatClampNeg))]) (st' := []) (M' := mem E mu14 la15) rfl ?_
            refine Ev.drop (ls := [some (.inr (.inr (some (6, v0)))), some (.inl (v1 + (1 : Int32))), some (.inl (v2 + (1 : Int32))), none]) ⟨Or.inr rfl, Or.inr rfl, Or.inr rfl, Or.inl rfl, trivial⟩ ?_
            exact h
      · have h := h.2 hc
        dsimp only
        refine Ev.steps 1 (ip' := 26) (ls' := [some (.inr (.inr (some (6, v0)))), some (.inl v1), some (.inl v2), some (.inl (mu 9 0 v2.toNatClampNeg))]) (st' := [.inl (-9 : Int32)]) (M' := mem E mu11 la12) rfl ?_
        exact Ev.ret rfl rfl ⟨_, _, _, rfl, rfl, h⟩
