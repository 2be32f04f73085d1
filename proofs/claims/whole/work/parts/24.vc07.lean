set_option maxRecDepth 100000 in
/-- AnnCups.wouldTakeSo(LAnnCups$Row;I)Z -/
theorem vc_X6_wouldTakeSo {E : mEv} {d : Nat} {c : Nat} (a0 : Nat) (a1 : Int32) {mu : fMu} {la : fLa} {Q : Int32 → fMu → fLa → Prop} (h : Ev E (d + 1) mi_124 6 [some (.inr (.inr (some (6, c)))), some (.inr (.inr (some (3, a0)))), some (.inl a1), some (.inl (mu 0 0 4)), some (.inl (0 : Int32)), none, none] [] (mem E mu la) (qI E Q)) : FnI E (d + 1) mi_124 [.inr (.inr (some (6, c))), .inr (.inr (some (3, a0))), .inl a1] mu la Q := by
  unfold FnI
  show Ev E (d + 1) mi_124 0 [some (.inr (.inr (some (6, c)))), some (.inr (.inr (some (3, a0)))), some (.inl a1), none, none, none, none] [] (mem E mu la) (qI E Q)
  refine Ev.steps 6 (ip' := 6) (ls' := [some (.inr (.inr (some (6, c)))), some (.inr (.inr (some (3, a0)))), some (.inl a1), some (.inl (mu 0 0 4)), some (.inl (0 : Int32)), none, none]) (st' := []) (M' := mem E mu la) rfl ?_
  exact h
set_option maxRecDepth 100000 in
theorem vc_X6_wouldTakeSo_6 {E : mEv} {d : Nat}  (v0 : Nat) (v1 : Nat) (v2 : Int32) (v3 : Int32) (v4 : Int32) {mu : fMu} {la : fLa} {Q : Int32 → fMu → fLa → Prop} (h : ((mu 3 v1 0) ≤ (v4 + (1 : Int32)) → (Q (1 : Int32) mu la)) ∧ (¬ ((mu 3 v1 0) ≤ (v4 + (1 : Int32))) → (vp_in v4 40 ∧ (FnI E d mi_14 [.inr (.inr (some (1, 0))), .inl (mu 21 v1 v4.toNatClampNeg)] mu la (fun x1 mu2 la3 => (¬ x1 = 0 → (vp_in (mu 21 v1 v4.toNatClampNeg) 6 ∧ (FnI E d mi_19 [.inr (.inr (some (1, 0))), .inl (mu2 14 0 (mu 21 v1 v4.toNatClampNeg).toNatClampNeg), .inl v2] mu2 la3 (fun x4 mu5 la6 => FnI E d mi_103 [.inl (x4 &&& (v3 ^^^ (-1 : Int32)))] mu5 la6 (fun x7 mu8 la9 => vp_in (v4 + (1 : Int32)) 40 ∧ ((x7 = (mu8 21 v1 (v4 + (1 : Int32)).toNatClampNeg) → (FnI E d mi_104 [.inl x7] mu8 la9 (fun x10 mu11 la12 => Ev E (d + 1) mi_124 6 [some (.inr (.inr (some (6, v0)))), some (.inr (.inr (some (3, v1)))), some (.inl v2), some (.inl (v3 ||| x10)), some (.inl (v4 + (2 : Int32))), none, none] [] (mem E mu11 la12) (qI E Q)))) ∧ (¬ (x7 = (mu8 21 v1 (v4 + (1 : Int32)).toNatClampNeg)) → (Q (0 : Int32) mu8 la9)))))))) ∧ (¬ (¬ x1 = 0) → (Q (0 : Int32) mu2 la3))))))) : Ev E (d + 1) mi_124 6 [some (.inr (.inr (some (6, v0)))), some (.inr (.inr (some (3, v1)))), some (.inl v2), some (.inl v3), some (.inl v4), none, none] [] (mem E mu la) (qI E Q) := by
  refine Ev.steps 5 (ip' := 11) (ls' := [some (.inr (.inr (some (6, v0)))), some (.inr (.inr (some (3, v1)))), some (.inl v2), some (.inl v3), some (.inl v4), none, none]) (st' := [.inl (mu 3 v1 0), .inl (v4 + (1 : Int32))]) (M' := mem E mu la) rfl ?_
  refine Ev.br (c := (mu 3 v1 0) ≤ (v4 + (1 : Int32))) (s1 := (56, [some (.inr (.inr (some (6, v0)))), some (.inr (.inr (some (3, v1)))), some (.inl v2), some (.inl v3), some (.inl v4), none, none], [], mem E mu la)) (s2 := (12, [some (.inr (.inr (some (6, v0)))), some (.inr (.inr (some (3, v1)))), some (.inl v2), some (.inl v3), some (.inl v4), none, none], [], mem E mu la)) rfl rfl rfl rfl (fun hc => ?_) (fun hc => ?_)
  · have h := h.1 hc
    dsimp only
    refine Ev.steps 1 (ip' := 57) (ls' := [some (.inr (.inr (some (6, v0)))), some (.inr (.inr (some (3, v1)))), some (.inl v2), some (.inl v3), some (.inl v4), none, none]) (st' := [.inl (1 : Int32)]) (M' := mem E mu la) rfl ?_
    exact Ev.retZ rfl rfl (Or.inr rfl) ⟨_, _, _, rfl, rfl, h⟩
  · have h := h.2 hc
    dsimp only
    refine Ev.steps 3 (ip' := 15) (ls' := [some (.inr (.inr (some (6, v0)))), some (.inr (.inr (some (3, v1)))), some (.inl v2), some (.inl v3), some (.inl v4), none, none]) (st' := [.inl v4, .inr (.inr (some (21, v1)))]) (M' := mem E mu la) rfl ?_
    refine Ev.ial rfl rfl (by decide) h.1 ?_
    have h := h.2
    refine Ev.steps 4 (ip' := 20) (ls' := [some (.inr (.inr (some (6, v0)))), some (.inr (.inr (some (3, v1)))), some (.inl v2), some (.inl v3), some (.inl v4), some (.inl (mu 21 v1 v4.toNatClampNeg)), none]) (st' := [.inl (mu 21 v1 v4.toNatClampNeg), .inr (.inr (some (1, 0)))]) (M' := mem E mu la) rfl ?_
    refine Ev.ci (J := mi_14) (as := [.inr (.inr (some (1, 0))), .inl (mu 21 v1 v4.toNatClampNeg)]) (rest := []) rfl rfl rfl (Nat.le_of_ble_eq_true rfl) h (fun x1 mu2 la3 h => ?_)
    refine Ev.br (c := ¬ x1 = 0) (s1 := (24, [some (.inr (.inr (some (6, v0)))), some (.inr (.inr (some (3, v1)))), some (.inl v2), some (.inl v3), some (.inl v4), some (.inl (mu 21 v1 v4.toNatClampNeg)), none], [], mem E mu2 la3)) (s2 := (22, [some (.inr (.inr (some (6, v0)))), some (.inr (.inr (some (3, v1)))), some (.inl v2), some (.inl v3), some (.inl v4), some (.inl (mu 21 v1 v4.toNatClampNeg)), none], [], mem E mu2 la3)) rfl rfl rfl rfl (fun hc => ?_) (fun hc => ?_)
    · have h := h.1 hc
      dsimp only
      refine Ev.steps 6 (ip' := 30) (ls' := [some (.inr (.inr (some (6, v0)))), some (.inr (.inr (some (3, v1)))), some (.inl v2), some (.inl v3), some (.inl v4), some (.inl (mu 21 v1 v4.toNatClampNeg)), none]) (st' := [.inl (mu 21 v1 v4.toNatClampNeg), .inr (.inr (some (14, 0))), .inr (.inr (some (1, 0)))]) (M' := mem E mu2 la3) rfl ?_
      refine Ev.ial rfl rfl (by decide) h.1 ?_
      have h := h.2
      refine Ev.steps 1 (ip' := 32) (ls' := [some (.inr (.inr (some (6, v0)))), some (.inr (.inr (some (3, v1)))), some (.inl v2), some (.inl v3), some (.inl v4), some (.inl (mu 21 v1 v4.toNatClampNeg)), none]) (st' := [.inl v2, .inl (mu2 14 0 (mu 21 v1 v4.toNatClampNeg).toNatClampNeg), .inr (.inr (some (1, 0)))]) (M' := mem E mu2 la3) rfl ?_
      refine Ev.ci (J := mi_19) (as := [.inr (.inr (some (1, 0))), .inl (mu2 14 0 (mu 21 v1 v4.toNatClampNeg).toNatClampNeg), .inl v2]) (rest := []) rfl rfl rfl (Nat.le_of_ble_eq_true rfl) h (fun x4 mu5 la6 h => ?_)
      refine Ev.steps 4 (ip' := 37) (ls' := [some (.inr (.inr (some (6, v0)))), some (.inr (.inr (some (3, v1)))), some (.inl v2), some (.inl v3), some (.inl v4), some (.inl (mu 21 v1 v4.toNatClampNeg)), none]) (st' := [.inl (x4 &&& (v3 ^^^ (-1 : Int32)))]) (M' := mem E mu5 la6) rfl ?_
      refine Ev.ci (J := mi_103) (as := [.inl (x4 &&& (v3 ^^^ (-1 : Int32)))]) (rest := []) rfl rfl rfl (Nat.le_of_ble_eq_true rfl) h (fun x7 mu8 la9 h => ?_)
      refine Ev.steps 7 (ip' := 45) (ls' := [some (.inr (.inr (some (6, v0)))), some (.inr (.inr (some (3, v1)))), some (.inl v2), some (.inl v3), some (.inl v4), some (.inl (mu 21 v1 v4.toNatClampNeg)), some (.inl x7)]) (st' := [.inl (v4 + (1 : Int32)), .inr (.inr (some (21, v1))), .inl x7]) (M' := mem E mu8 la9) rfl ?_
      refine Ev.ial rfl rfl (by decide) h.1 ?_
      have h := h.2
      refine Ev.br (c := x7 = (mu8 21 v1 (v4 + (1 : Int32)).toNatClampNeg)) (s1 := (49, [some (.inr (.inr (some (6, v0)))), some (.inr (.inr (some (3, v1)))), some (.inl v2), some (.inl v3), some (.inl v4), some (.inl (mu 21 v1 v4.toNatClampNeg)), some (.inl x7)], [], mem E mu8 la9)) (s2 := (47, [some (.inr (.inr (some (6, v0)))), some (.inr (.inr (some (3, v1)))), some (.inl v2), some (.inl v3), some (.inl v4), some (.inl (mu 21 v1 v4.toNatClampNeg)), some (.inl x7)], [], mem E mu8 la9)) rfl rfl rfl rfl (fun hc => ?_) (fun hc => ?_)
      · have h := h.1 hc
        dsimp only
        refine Ev.steps 2 (ip' := 51) (ls' := [some (.inr (.inr (some (6, v0)))), some (.inr (.inr (some (3, v1)))), some (.inl v2), some (.inl v3), some (.inl v4), some (.inl (mu 21 v1 v4.toNatClampNeg)), some (.inl x7)]) (st' := [.inl x7, .inl v3]) (M' := mem E mu8 la9) rfl ?_
        refine Ev.ci (J := mi_104) (as := [.inl x7]) (rest := [.inl v3]) rfl rfl rfl (Nat.le_of_ble_eq_true rfl) h (fun x10 mu11 la12 h => ?_)
        refine Ev.steps 4 (ip' := 6) (ls' := [some (.inr (.inr (some (6, v0)))), some (.inr (.inr (some (3, v1)))), some (.inl v2), some (.inl (v3 ||| x10)), some (.inl (v4 + (2 : Int32))), some (.inl (mu 21 v1 v4.toNatClampNeg)), some (.inl x7)]) (st' := []) (M' := mem E mu11 la12) rfl ?_
        refine Ev.drop (ls := [some (.inr (.inr (some (6, v0)))), some (.inr (.inr (some (3, v1)))), some (.inl v2), some (.inl (v3 ||| x10)), some (.inl (v4 + (2 : Int32))), none, none]) ⟨Or.inr rfl, Or.inr rfl, Or.inr rfl, Or.inr rfl, Or.inr rfl, Or.inl rfl, Or.inl rfl, trivial⟩ ?_
        exact h
      · have h := h.2 hc
        dsimp only
        refine Ev.steps 1 (ip' := 48) (ls' := [some (.inr (.inr (some (6, v0)))), some (.inr (.inr (some (3, v1)))), some (.inl v2), some (.inl v3), some (.inl v4), some (.inl (mu 21 v1 v4.toNatClampNeg)), some (.inl x7)]) (st' := [.inl (0 : Int32)]) (M' := mem E mu8 la9) rfl ?_
        exact Ev.retZ rfl rfl (Or.inl rfl) ⟨_, _, _, rfl, rfl, h⟩
    · have h := h.2 hc
      dsimp only
      refine Ev.steps 1 (ip' := 23) (ls' := [some (.inr (.inr (some (6, v0)))), some (.inr (.inr (some (3, v1)))), some (.inl v2), some (.inl v3), some (.inl v4), some (.inl (mu 21 v1 v4.toNatClampNeg)), none]) (st' := [.inl (0 : Int32)]) (M' := mem E mu2 la3) rfl ?_
      exact Ev.retZ rfl rfl (Or.inl rfl) ⟨_, _, _, rfl, rfl, h⟩
set_option maxRecDepth 100000 in
/-- AnnCups.barTurn(LAnnCups$Counter;I)I -/
theorem vc_X6_barTurn {E : mEv} {d : Nat} (a0 : Nat) (a1 : Int32) {mu : fMu} {la : fLa} {Q : Int32 → fMu → fLa → Prop} (h : (0 < a1 → (FnI E d mi_16 [.inr (.inr (some (1, 0)))] mu la (fun x1 mu2 la3 => (¬ (mu 0 a0 3) = x1 → (Ev E (d + 1) mi_125 19 [some (.inr (.inr (some (0, a0)))), some (.inl a1), some (.inl (7 : Int32)), some (.inl (0 : Int32)), none, none, none] [] (mem E mu2 la3) (qI E Q))) ∧ (¬ (¬ (mu 0 a0 3) = x1) → (FnI E d mi_126 [.inr (.inr (some (0, a0))), .inl a1] mu2 la3 (fun x4 mu5 la6 => Q x4 mu5 la6)))))) ∧ (¬ (0 < a1) → (FnI E d mi_12 [.inr (.inr (some (0, a0)))] mu la (fun x7 mu8 la9 => Q x7 mu8 la9)))) : FnI E (d + 1) mi_125 [.inr (.inr (some (0, a0))), .inl a1] mu la Q := by
  unfold FnI
  show Ev E (d + 1) mi_125 0 [some (.inr (.inr (some (0, a0)))), some (.inl a1), none, none, none, none, none] [] (mem E mu la) (qI E Q)
  refine Ev.steps 1 (ip' := 1) (ls' := [some (.inr (.inr (some (0, a0)))), some (.inl a1), none, none, none, none, none]) (st' := [.inl a1]) (M' := mem E mu la) rfl ?_
  refine Ev.br (c := 0 < a1) (s1 := (5, [some (.inr (.inr (some (0, a0)))), some (.inl a1), none, none, none, none, none], [], mem E mu la)) (s2 := (2, [some (.inr (.inr (some (0, a0)))), some (.inl a1), none, none, none, none, none], [], mem E mu la)) rfl rfl rfl rfl (fun hc => ?_) (fun hc => ?_)
  · have h := h.1 hc
    dsimp only
    refine Ev.steps 4 (ip' := 9) (ls' := [some (.inr (.inr (some (0, a0)))), some (.inl a1), none, none, none, none, none]) (st' := [.inr (.inr (some (1, 0))), .inl (mu 0 a0 3)]) (M' := mem E mu la) rfl ?_
    refine Ev.ci (J := mi_16) (as := [.inr (.inr (some (1, 0)))]) (rest := [.inl (mu 0 a0 3)]) rfl rfl rfl (Nat.le_of_ble_eq_true rfl) h (fun x1 mu2 la3 h => ?_)
    refine Ev.br (c := ¬ (mu 0 a0 3) = x1) (s1 := (15, [some (.inr (.inr (some (0, a0)))), some (.inl a1), none, none, none, none, none], [], mem E mu2 la3)) (s2 := (11, [some (.inr (.inr (some (0, a0)))), some (.inl a1), none, none, none, none, none], [], mem E mu2 la3)) rfl rfl rfl rfl (fun hc => ?_) (fun hc => ?_)
    · have h := h.1 hc
      dsimp only
      refine Ev.steps 4 (ip' := 19) (ls' := [some (.inr (.inr (some (0, a0)))), some (.inl a1), some (.inl (7 : Int32)), some (.inl (0 : Int32)), none, none, none]) (st' := []) (M' := mem E mu2 la3) rfl ?_
      exact h
    · have h := h.2 hc
      dsimp only
      refine Ev.steps 2 (ip' := 13) (ls' := [some (.inr (.inr (some (0, a0)))), some (.inl a1), none, none, none, none, none]) (st' := [.inl a1, .inr (.inr (some (0, a0)))]) (M' := mem E mu2 la3) rfl ?_
      refine Ev.ci (J := mi_126) (as := [.inr (.inr (some (0, a0))), .inl a1]) (rest := []) rfl rfl rfl (Nat.le_of_ble_eq_true rfl) h (fun x4 mu5 la6 h => ?_)
      exact Ev.ret rfl rfl ⟨_, _, _, rfl, rfl, h⟩
  · have h := h.2 hc
    dsimp only
    refine Ev.steps 1 (ip' := 3) (ls' := [some (.inr (.inr (some (0, a0)))), some (.inl a1), none, none, none, none, none]) (st' := [.inr (.inr (some (0, a0)))]) (M' := mem E mu la) rfl ?_
    refine Ev.ci (J := mi_12) (as := [.inr (.inr (some (0, a0)))]) (rest := []) rfl rfl rfl (Nat.le_of_ble_eq_true rfl) h (fun x7 mu8 la9 h => ?_)
    exact Ev.ret rfl rfl ⟨_, _, _, rfl, rfl, h⟩
set_option maxRecDepth 100000 in
theorem vc_X6_barTurn_19 {E : mEv} {d : Nat}  (v0 : Nat) (v1 : Int32) (v2 : Int32) (v3 : Int32) {mu : fMu} {la : fLa} {Q : Int32 → fMu → fLa → Prop} (h : ((mu 1 0 0) ≤ v3 → (Q v2 mu la)) ∧ (¬ ((mu 1 0 0) ≤ v3) → (FnI E d mi_3 [.inr (.inr (some (0, v0))), .inl v3] mu la (fun x10 mu11 la12 => (¬ x10 = 0 → (Ev E (d + 1) mi_125 19 [some (.inr (.inr (some (0, v0)))), some (.inl v1), some (.inl v2), some (.inl (v3 + (1 : Int32))), none, none, none] [] (mem E mu11 la12) (qI E Q))) ∧ (¬ (¬ x10 = 0) → (FnV E d mi_4 [.inr (.inr (some (0, v0))), .inl v3] mu11 la12 (fun mu14 la15 => FnI E d mi_126 [.inr (.inr (some (0, v0))), .inl v1] mu14 la15 (fun x16 mu17 la18 => FnV E d mi_5 [.inr (.inr (some (0, v0))), .inl v3, .inl (mu11 0 v0 1), .inl (mu11 0 v0 2), .inl (mu11 0 v0 4)] mu17 la18 (fun mu20 la21 => Ev E (d + 1) mi_125 19 [some (.inr (.inr (some (0, v0)))), some (.inl v1), some (.inl (if x16 < v2 then x16 else v2)), some (.inl (v3 + (1 : Int32))), none, none, none] [] (mem E mu20 la21) (qI E Q)))))))))) : Ev E (d + 1) mi_125 19 [some (.inr (.inr (some (0, v0)))), some (.inl v1), some (.inl v2), some (.inl v3), none, none, none] [] (mem E mu la) (qI E Q) := by
  refine Ev.steps 4 (ip' := 23) (ls' := [some (.inr (.inr (some (0, v0)))), some (.inl v1), some (.inl v2), some (.inl v3), none, none, none]) (st' := [.inl (mu 1 0 0), .inl v3]) (M' := mem E mu la) rfl ?_
  refine Ev.br (c := (mu 1 0 0) ≤ v3) (s1 := (54, [some (.inr (.inr (some (0, v0)))), some (.inl v1), some (.inl v2), some (.inl v3), none, none, none], [], mem E mu la)) (s2 := (24, [some (.inr (.inr (some (0, v0)))), some (.inl v1), some (.inl v2), some (.inl v3), none, none, none], [], mem E mu la)) rfl rfl rfl rfl (fun hc => ?_) (fun hc => ?_)
  · have h := h.1 hc
    dsimp only
    refine Ev.steps 1 (ip' := 55) (ls' := [some (.inr (.inr (some (0, v0)))), some (.inl v1), some (.inl v2), some (.inl v3), none, none, none]) (st' := [.inl v2]) (M' := mem E mu la) rfl ?_
    exact Ev.ret rfl rfl ⟨_, _, _, rfl, rfl, h⟩
  · have h := h.2 hc
    dsimp only
    refine Ev.steps 2 (ip' := 26) (ls' := [some (.inr (.inr (some (0, v0)))), some (.inl v1), some (.inl v2), some (.inl v3), none, none, none]) (st' := [.inl v3, .inr (.inr (some (0, v0)))]) (M' := mem E mu la) rfl ?_
    refine Ev.ci (J := mi_3) (as := [.inr (.inr (some (0, v0))), .inl v3]) (rest := []) rfl rfl rfl (Nat.le_of_ble_eq_true rfl) h (fun x10 mu11 la12 h => ?_)
    refine Ev.br (c := ¬ x10 = 0) (s1 := (52, [some (.inr (.inr (some (0, v0)))), some (.inl v1), some (.inl v2), some (.inl v3), none, none, none], [], mem E mu11 la12)) (s2 := (28, [some (.inr (.inr (some (0, v0)))), some (.inl v1), some (.inl v2), some (.inl v3), none, none, none], [], mem E mu11 la12)) rfl rfl rfl rfl (fun hc => ?_) (fun hc => ?_)
    · have h := h.1 hc
      dsimp only
      refine Ev.steps 2 (ip' := 19) (ls' := [some (.inr (.inr (some (0, v0)))), some (.inl v1), some (.inl v2), some (.inl (v3 + (1 : Int32))), none, none, none]) (st' := []) (M' := mem E mu11 la12) rfl ?_
      exact h
    · have h := h.2 hc
      dsimp only
      refine Ev.steps 11 (ip' := 39) (ls' := [some (.inr (.inr (some (0, v0)))), some (.inl v1), some (.inl v2), some (.inl v3), some (.inl (mu11 0 v0 1)), some (.inl (mu11 0 v0 2)), some (.inl (mu11 0 v0 4))]) (st' := [.inl v3, .inr (.inr (some (0, v0)))]) (M' := mem E mu11 la12) rfl ?_
      refine Ev.cv (J := mi_4) (as := [.inr (.inr (some (0, v0))), .inl v3]) (rest := []) rfl rfl rfl (Nat.le_of_ble_eq_true rfl) h (fun mu14 la15 h => ?_)
      refine Ev.steps 3 (ip' := 43) (ls' := [some (.inr (.inr (some (0, v0)))), some (.inl v1), some (.inl v2), some (.inl v3), some (.inl (mu11 0 v0 1)), some (.inl (mu11 0 v0 2)), some (.inl (mu11 0 v0 4))]) (st' := [.inl v1, .inr (.inr (some (0, v0))), .inl v2]) (M' := mem E mu14 la15) rfl ?_
      refine Ev.ci (J := mi_126) (as := [.inr (.inr (some (0, v0))), .inl v1]) (rest := [.inl v2]) rfl rfl rfl (Nat.le_of_ble_eq_true rfl) h (fun x16 mu17 la18 h => ?_)
      refine Ev.steps 7 (ip' := 51) (ls' := [some (.inr (.inr (some (0, v0)))), some (.inl v1), some (.inl (if x16 < v2 then x16 else v2)), some (.inl v3), some (.inl (mu11 0 v0 1)), some (.inl (mu11 0 v0 2)), some (.inl (mu11 0 v0 4))]) (st' := [.inl (mu11 0 v0 4), .inl (mu11 0 v0 2), .inl (mu11 0 v0 1), .inl v3, .inr (.inr (some (0, v0)))]) (M' := mem E mu17 la18) rfl ?_
      refine Ev.cv (J := mi_5) (as := [.inr (.inr (some (0, v0))), .inl v3, .inl (mu11 0 v0 1), .inl (mu11 0 v0 2), .inl (mu11 0 v0 4)]) (rest := []) rfl rfl rfl (Nat.le_of_ble_eq_true rfl) h (fun mu20 la21 h => ?_)
      refine Ev.steps 2 (ip' := 19) (ls' := [some (.inr (.inr (some (0, v0)))), some (.inl v1), some (.inl (if x16 < v2 then x16 else v2)), some (.inl (v3 + (1 : Int32))), some (.inl (mu11 0 v0 1)), some (.inl (mu11 0 v0 2)), some (.inl (mu11 0 v0 4))]) (st' := []) (M' := mem E mu20 la21) rfl ?_
      refine Ev.drop (ls := [some (.inr (.inr (some (0, v0)))), some (.inl v1), some (.inl (if x16 < v2 then x16 else v2)), some (.inl (v3 + (1 : Int32))), none, none, none]) ⟨Or.inr rfl, Or.inr rfl, Or.inr rfl, Or.inr rfl, Or.inl rfl, Or.inl rfl, Or.inl rfl, trivial⟩ ?_
      exact h
set_option maxRecDepth 100000 in
/-- AnnCups.wagTurn(LAnnCups$Counter;I)I -/
theorem vc_X6_wagTurn {E : mEv} {d : Nat} (a0 : Nat) (a1 : Int32) {mu : fMu} {la : fLa} {Q : Int32 → fMu → fLa → Prop} (h : FnI E d mi_125 [.inr (.inr (some (0, a0))), .inl (a1 - (1 : Int32))] mu la (fun x1 mu2 la3 => Ev E (d + 1) mi_126 8 [some (.inr (.inr (some (0, a0)))), some (.inl a1), some (.inl x1), some (.inl (0 : Int32)), none] [] (mem E mu2 la3) (qI E Q))) : FnI E (d + 1) mi_126 [.inr (.inr (some (0, a0))), .inl a1] mu la Q := by
  unfold FnI
  show Ev E (d + 1) mi_126 0 [some (.inr (.inr (some (0, a0)))), some (.inl a1), none, none, none] [] (mem E mu la) (qI E Q)
  refine Ev.steps 4 (ip' := 4) (ls' := [some (.inr (.inr (some (0, a0)))), some (.inl a1), none, none, none]) (st' := [.inl (a1 - (1 : Int32)), .inr (.inr (some (0, a0)))]) (M' := mem E mu la) rfl ?_
  refine Ev.ci (J := mi_125) (as := [.inr (.inr (some (0, a0))), .inl (a1 - (1 : Int32))]) (rest := []) rfl rfl rfl (Nat.le_of_ble_eq_true rfl) h (fun x1 mu2 la3 h => ?_)
  refine Ev.steps 3 (ip' := 8) (ls' := [some (.inr (.inr (some (0, a0)))), some (.inl a1), some (.inl x1), some (.inl (0 : Int32)), none]) (st' := []) (M' := mem E mu2 la3) rfl ?_
  exact h
set_option maxRecDepth 100000 in
theorem vc_X6_wagTurn_8 {E : mEv} {d : Nat}  (v0 : Nat) (v1 : Int32) (v2 : Int32) (v3 : Int32) {mu : fMu} {la : fLa} {Q : Int32 → fMu → fLa → Prop} (h : ((mu 1 0 0) ≤ v3 → (Q v2 mu la)) ∧ (¬ ((mu 1 0 0) ≤ v3) → (Ev E (d + 1) mi_126 17 [some (.inr (.inr (some (0, v0)))), some (.inl v1), some (.inl v2), some (.inl v3), some (.inl (v3 + (1 : Int32)))] [] (mem E mu la) (qI E Q)))) : Ev E (d + 1) mi_126 8 [some (.inr (.inr (some (0, v0)))), some (.inl v1), some (.inl v2), some (.inl v3), none] [] (mem E mu la) (qI E Q) := by
  refine Ev.steps 4 (ip' := 12) (ls' := [some (.inr (.inr (some (0, v0)))), some (.inl v1), some (.inl v2), some (.inl v3), none]) (st' := [.inl (mu 1 0 0), .inl v3]) (M' := mem E mu la) rfl ?_
  refine Ev.br (c := (mu 1 0 0) ≤ v3) (s1 := (54, [some (.inr (.inr (some (0, v0)))), some (.inl v1), some (.inl v2), some (.inl v3), none], [], mem E mu la)) (s2 := (13, [some (.inr (.inr (some (0, v0)))), some (.inl v1), some (.inl v2), some (.inl v3), none], [], mem E mu la)) rfl rfl rfl rfl (fun hc => ?_) (fun hc => ?_)
  · have h := h.1 hc
    dsimp only
    refine Ev.steps 1 (ip' := 55) (ls' := [some (.inr (.inr (some (0, v0)))), some (.inl v1), some (.inl v2), some (.inl v3), none]) (st' := [.inl v2]) (M' := mem E mu la) rfl ?_
    exact Ev.ret rfl rfl ⟨_, _, _, rfl, rfl, h⟩
  · have h := h.2 hc
    dsimp only
    refine Ev.steps 4 (ip' := 17) (ls' := [some (.inr (.inr (some (0, v0)))), some (.inl v1), some (.inl v2), some (.inl v3), some (.inl (v3 + (1 : Int32)))]) (st' := []) (M' := mem E mu la) rfl ?_
    exact h
set_option maxRecDepth 100000 in
theorem vc_X6_wagTurn_17 {E : mEv} {d : Nat}  (v0 : Nat) (v1 : Int32) (v2 : Int32) (v3 : Int32) (v4 : Int32) {mu : fMu} {la : fLa} {Q : Int32 → fMu → fLa → Prop} (h : ((mu 1 0 0) ≤ v4 → (Ev E (d + 1) mi_126 8 [some (.inr (.inr (some (0, v0)))), some (.inl v1), some (.inl v2), some (.inl (v3 + (1 : Int32))), none] [] (mem E mu la) (qI E Q))) ∧ (¬ ((mu 1 0 0) ≤ v4) → (vp_in v3 6 ∧ (((mu 9 v0 v3.toNatClampNeg) = (-9 : Int32) → (Ev E (d + 1) mi_126 17 [some (.inr (.inr (some (0, v0)))), some (.inl v1), some (.inl v2), some (.inl v3), some (.inl (v4 + (1 : Int32)))] [] (mem E mu la) (qI E Q))) ∧ (¬ ((mu 9 v0 v3.toNatClampNeg) = (-9 : Int32)) → (vp_in v4 6 ∧ (((mu 9 v0 v4.toNatClampNeg) = (-9 : Int32) → (Ev E (d + 1) mi_126 17 [some (.inr (.inr (some (0, v0)))), some (.inl v1), some (.inl v2), some (.inl v3), some (.inl (v4 + (1 : Int32)))] [] (mem E mu la) (qI E Q))) ∧ (¬ ((mu 9 v0 v4.toNatClampNeg) = (-9 : Int32)) → (FnV E d mi_6 [.inr (.inr (some (0, v0))), .inl v3, .inl v4] mu la (fun mu5 la6 => FnI E d mi_125 [.inr (.inr (some (0, v0))), .inl (v1 - (1 : Int32))] mu5 la6 (fun x7 mu8 la9 => FnV E d mi_6 [.inr (.inr (some (0, v0))), .inl v3, .inl v4] mu8 la9 (fun mu11 la12 => Ev E (d + 1) mi_126 17 [some (.inr (.inr (some (0, v0)))), some (.inl v1), some (.inl (if v2 < x7 then x7 else v2)), some (.inl v3), some (.inl (v4 + (1 : Int32)))] [] (mem E mu11 la12) (qI E Q))))))))))))) : Ev E (d + 1) mi_126 17 [some (.inr (.inr (some (0, v0)))), some (.inl v1), some (.inl v2), some (.inl v3), some (.inl v4)] [] (mem E mu la) (qI E Q) := by
  refine Ev.steps 4 (ip' := 21) (ls' := [some (.inr (.inr (some (0, v0)))), some (.inl v1), some (.inl v2), some (.inl v3), some (.inl v4)]) (st' := [.inl (mu 1 0 0), .inl v4]) (M' := mem E mu la) rfl ?_
  refine Ev.br (c := (mu 1 0 0) ≤ v4) (s1 := (52, [some (.inr (.inr (some (0, v0)))), some (.inl v1), some (.inl v2), some (.inl v3), some (.inl v4)], [], mem E mu la)) (s2 := (22, [some (.inr (.inr (some (0, v0)))), some (.inl v1), some (.inl v2), some (.inl v3), some (.inl v4)], [], mem E mu la)) rfl rfl rfl rfl (fun hc => ?_) (fun hc => ?_)
  · have h := h.1 hc
    dsimp only
    refine Ev.steps 2 (ip' := 8) (ls' := [some (.inr (.inr (some (0, v0)))), some (.inl v1), some (.inl v2), some (.inl (v3 + (1 : Int32))), some (.inl v4)]) (st' := []) (M' := mem E mu la) rfl ?_
    refine Ev.drop (ls := [some (.inr (.inr (some (0, v0)))), some (.inl v1), some (.inl v2), some (.inl (v3 + (1 : Int32))), none]) ⟨Or.inr rfl, Or.inr rfl, Or.inr rfl, Or.inr rfl, Or.inl rfl, trivial⟩ ?_
    exact h
  · have h := h.2 hc
    dsimp only
    refine Ev.steps 3 (ip' := 25) (ls' := [some (.inr (.inr (some (0, v0)))), some (.inl v1), some (.inl v2), some (.inl v3), some (.inl v4)]) (st' := [.inl v3, .inr (.inr (some (9, v0)))]) (M' := mem E mu la) rfl ?_
    refine Ev.ial rfl rfl (by decide) h.1 ?_
    have h := h.2
    refine Ev.steps 1 (ip' := 27) (ls' := [some (.inr (.inr (some (0, v0)))), some (.inl v1), some (.inl v2), some (.inl v3), some (.inl v4)]) (st' := [.inl (-9 : Int32), .inl (mu 9 v0 v3.toNatClampNeg)]) (M' := mem E mu la) rfl ?_
    refine Ev.br (c := (mu 9 v0 v3.toNatClampNeg) = (-9 : Int32)) (s1 := (50, [some (.inr (.inr (some (0, v0)))), some (.inl v1), some (.inl v2), some (.inl v3), some (.inl v4)], [], mem E mu la)) (s2 := (28, [some (.inr (.inr (some (0, v0)))), some (.inl v1), some (.inl v2), some (.inl v3), some (.inl v4)], [], mem E mu la)) rfl rfl rfl rfl (fun hc => ?_) (fun hc => ?_)
    · have h := h.1 hc
      dsimp only
      refine Ev.steps 2 (ip' := 17) (ls' := [some (.inr (.inr (some (0, v0)))), some (.inl v1), some (.inl v2), some (.inl v3), some (.inl (v4 + (1 : Int32)))]) (st' := []) (M' := mem E mu la) rfl ?_
      exact h
    · have h := h.2 hc
      dsimp only
      refine Ev.steps 3 (ip' := 31) (ls' := [some (.inr (.inr (some (0, v0)))), some (.inl v1), some (.inl v2), some (.inl v3), some (.inl v4)]) (st' := [.inl v4, .inr (.inr (some (9, v0)))]) (M' := mem E mu la) rfl ?_
      refine Ev.ial rfl rfl (by decide) h.1 ?_
      have h := h.2
      refine Ev.steps 1 (ip' := 33) (ls' := [some (.inr (.inr (some (0, v0)))), some (.inl v1), some (.inl v2), some (.inl v3), some (.inl v4)]) (st' := [.inl (-9 : Int32), .inl (mu 9 v0 v4.toNatClampNeg)]) (M' := mem E mu la) rfl ?_
      refine Ev.br (c := (mu 9 v0 v4.toNatClampNeg) = (-9 : Int32)) (s1 := (50, [some (.inr (.inr (some (0, v0)))), some (.inl v1), some (.inl v2), some (.inl v3), some (.inl v4)], [], mem E mu la)) (s2 := (34, [some (.inr (.inr (some (0, v0)))), some (.inl v1), some (.inl v2), some (.inl v3), some (.inl v4)], [], mem E mu la)) rfl rfl rfl rfl (fun hc => ?_) (fun hc => ?_)
      · have h := h.1 hc
        dsimp only
        refine Ev.steps 2 (ip' := 17) (ls' := [some (.inr (.inr (some (0, v0)))), some (.inl v1), some (.inl v2), some (.inl v3), some (.inl (v4 + (1 : Int32)))]) (st' := []) (M' := mem E mu la) rfl ?_
        exact h
      · have h := h.2 hc
        dsimp only
        refine Ev.steps 3 (ip' := 37) (ls' := [some (.inr (.inr (some (0, v0)))), some (.inl v1), some (.inl v2), some (.inl v3), some (.inl v4)]) (st' := [.inl v4, .inl v3, .inr (.inr (some (0, v0)))]) (M' := mem E mu la) rfl ?_
        refine Ev.cv (J := mi_6) (as := [.inr (.inr (some (0, v0))), .inl v3, .inl v4]) (rest := []) rfl rfl rfl (Nat.le_of_ble_eq_true rfl) h (fun mu5 la6 h => ?_)
        refine Ev.steps 5 (ip' := 43) (ls' := [some (.inr (.inr (some (0, v0)))), some (.inl v1), some (.inl v2), some (.inl v3), some (.inl v4)]) (st' := [.inl (v1 - (1 : Int32)), .inr (.inr (some (0, v0))), .inl v2]) (M' := mem E mu5 la6) rfl ?_
        refine Ev.ci (J := mi_125) (as := [.inr (.inr (some (0, v0))), .inl (v1 - (1 : Int32))]) (rest := [.inl v2]) rfl rfl rfl (Nat.le_of_ble_eq_true rfl) h (fun x7 mu8 la9 h => ?_)
        refine Ev.steps 5 (ip' := 49) (ls' := [some (.inr (.inr (some (0, v0)))), some (.inl v1), some (.inl (if v2 < x7 then x7 else v2)), some (.inl v3), some (.inl v4)]) (st' := [.inl v4, .inl v3, .inr (.inr (some (0, v0)))]) (M' := mem E mu8 la9) rfl ?_
        refine Ev.cv (J := mi_6) (as := [.inr (.inr (some (0, v0))), .inl v3, .inl v4]) (rest := []) rfl rfl rfl (Nat.le_of_ble_eq_true rfl) h (fun mu11 la12 h => ?_)
        refine Ev.steps 2 (ip' := 17) (ls' := [some (.inr (.inr (some (0, v0)))), some (.inl v1), some (.inl (if v2 < x7 then x7 else v2)), some (.inl v3), some (.inl (v4 + (1 : Int32)))]) (st' := []) (M' := mem E mu11 la12) rfl ?_
        exact h
set_option maxRecDepth 100000 in
/-- AnnCups.wrongWithout(I)I -/
theorem vc_X6_wrongWithout {E : mEv} {d : Nat} {c : Nat} (a0 : Int32) {mu : fMu} {la : fLa} {Q : Int32 → fMu → fLa → Prop} (h : FnI E d mi_12 [.inr (.inr (some (0, 0)))] mu la (fun x1 mu2 la3 => Ev E (d + 1) mi_127 12 [some (.inr (.inr (some (6, c)))), none, some (.inl ((mu 0 0 4) ||| a0)), some (.inl x1), some (.inl (0 : Int32)), none] [] (mem E mu2 la3) (qI E Q))) : FnI E (d + 1) mi_127 [.inr (.inr (some (6, c))), .inl a0] mu la Q := by
  unfold FnI
  show Ev E (d + 1) mi_127 0 [some (.inr (.inr (some (6, c)))), some (.inl a0), none, none, none, none] [] (mem E mu la) (qI E Q)
  refine Ev.steps 8 (ip' := 8) (ls' := [some (.inr (.inr (some (6, c)))), some (.inl a0), some (.inl ((mu 0 0 4) ||| a0)), none, none, none]) (st' := [.inr (.inr (some (0, 0)))]) (M' := mem E mu la) rfl ?_
  refine Ev.ci (J := mi_12) (as := [.inr (.inr (some (0, 0)))]) (rest := []) rfl rfl rfl (Nat.le_of_ble_eq_true rfl) h (fun x1 mu2 la3 h => ?_)
  refine Ev.steps 3 (ip' := 12) (ls' := [some (.inr (.inr (some (6, c)))), some (.inl a0), some (.inl ((mu 0 0 4) ||| a0)), some (.inl x1), some (.inl (0 : Int32)), none]) (st' := []) (M' := mem E mu2 la3) rfl ?_
  refine Ev.drop (ls := [some (.inr (.inr (some (6, c)))), none, some (.inl ((mu 0 0 4) ||| a0)), some (.inl x1), some (.inl (0 : Int32)), none]) ⟨Or.inr rfl, Or.inl rfl, Or.inr rfl, Or.inr rfl, Or.inr rfl, Or.inr rfl, trivial⟩ ?_
  exact h
set_option maxRecDepth 100000 in
theorem vc_X6_wrongWithout_12 {E : mEv} {d : Nat}  (v0 : Nat) (v2 : Int32) (v3 : Int32) (v4 : Int32) {mu : fMu} {la : fLa} {Q : Int32 → fMu → fLa → Prop} (h : ((mu 1 0 0) ≤ v4 → (Q v3 mu la)) ∧ (¬ ((mu 1 0 0) ≤ v4) → (FnI E d mi_3 [.inr (.inr (some (0, 0))), .inl v4] mu la (fun x4 mu5 la6 => (¬ x4 = 0 → (Ev E (d + 1) mi_127 12 [some (.inr (.inr (some (6, v0)))), none, some (.inl v2), some (.inl v3), some (.inl (v4 + (1 : Int32))), none] [] (mem E mu5 la6) (qI E Q))) ∧ (¬ (¬ x4 = 0) → (FnI E d mi_18 [.inr (.inr (some (1, 0))), .inl v4, .inl v2] mu5 la6 (fun x7 mu8 la9 => FnI E d mi_104 [.inl x7] mu8 la9 (fun x10 mu11 la12 => (x7 = (-9 : Int32) → (Ev E (d + 1) mi_127 12 [some (.inr (.inr (some (6, v0)))), none, some (.inl (v2 ||| x10)), some (.inl (v3 + (0 : Int32))), some (.inl (v4 + (1 : Int32))), none] [] (mem E mu11 la12) (qI E Q))) ∧ (¬ (x7 = (-9 : Int32)) → ((x7 = v4 → (Ev E (d + 1) mi_127 12 [some (.inr (.inr (some (6, v0)))), none, some (.inl (v2 ||| x10)), some (.inl (v3 + (0 : Int32))), some (.inl (v4 + (1 : Int32))), none] [] (mem E mu11 la12) (qI E Q))) ∧ (¬ (x7 = v4) → (Ev E (d + 1) mi_127 12 [some (.inr (.inr (some (6, v0)))), none, some (.inl (v2 ||| x10)), some (.inl (v3 + (1 : Int32))), some (.inl (v4 + (1 : Int32))), none] [] (mem E mu11 la12) (qI E Q))))))))))))) : Ev E (d + 1) mi_127 12 [some (.inr (.inr (some (6, v0)))), none, some (.inl v2), some (.inl v3), some (.inl v4), none] [] (mem E mu la) (qI E Q) := by
  refine Ev.steps 4 (ip' := 16) (ls' := [some (.inr (.inr (some (6, v0)))), none, some (.inl v2), some (.inl v3), some (.inl v4), none]) (st' := [.inl (mu 1 0 0), .inl v4]) (M' := mem E mu la) rfl ?_
  refine Ev.br (c := (mu 1 0 0) ≤ v4) (s1 := (47, [some (.inr (.inr (some (6, v0)))), none, some (.inl v2), some (.inl v3), some (.inl v4), none], [], mem E mu la)) (s2 := (17, [some (.inr (.inr (some (6, v0)))), none, some (.inl v2), some (.inl v3), some (.inl v4), none], [], mem E mu la)) rfl rfl rfl rfl (fun hc => ?_) (fun hc => ?_)
  · have h := h.1 hc
    dsimp only
    refine Ev.steps 1 (ip' := 48) (ls' := [some (.inr (.inr (some (6, v0)))), none, some (.inl v2), some (.inl v3), some (.inl v4), none]) (st' := [.inl v3]) (M' := mem E mu la) rfl ?_
    exact Ev.ret rfl rfl ⟨_, _, _, rfl, rfl, h⟩
  · have h := h.2 hc
    dsimp only
    refine Ev.steps 3 (ip' := 20) (ls' := [some (.inr (.inr (some (6, v0)))), none, some (.inl v2), some (.inl v3), some (.inl v4), none]) (st' := [.inl v4, .inr (.inr (some (0, 0)))]) (M' := mem E mu la) rfl ?_
    refine Ev.ci (J := mi_3) (as := [.inr (.inr (some (0, 0))), .inl v4]) (rest := []) rfl rfl rfl (Nat.le_of_ble_eq_true rfl) h (fun x4 mu5 la6 h => ?_)
    refine Ev.br (c := ¬ x4 = 0) (s1 := (45, [some (.inr (.inr (some (6, v0)))), none, some (.inl v2), some (.inl v3), some (.inl v4), none], [], mem E mu5 la6)) (s2 := (22, [some (.inr (.inr (some (6, v0)))), none, some (.inl v2), some (.inl v3), some (.inl v4), none], [], mem E mu5 la6)) rfl rfl rfl rfl (fun hc => ?_) (fun hc => ?_)
    · have h := h.1 hc
      dsimp only
      refine Ev.steps 2 (ip' := 12) (ls' := [some (.inr (.inr (some (6, v0)))), none, some (.inl v2), some (.inl v3), some (.inl (v4 + (1 : Int32))), none]) (st' := []) (M' := mem E mu5 la6) rfl ?_
      exact h
    · have h := h.2 hc
      dsimp only
      refine Ev.steps 4 (ip' := 26) (ls' := [some (.inr (.inr (some (6, v0)))), none, some (.inl v2), some (.inl v3), some (.inl v4), none]) (st' := [.inl v2, .inl v4, .inr (.inr (some (1, 0)))]) (M' := mem E mu5 la6) rfl ?_
      refine Ev.ci (J := mi_18) (as := [.inr (.inr (some (1, 0))), .inl v4, .inl v2]) (rest := []) rfl rfl rfl (Nat.le_of_ble_eq_true rfl) h (fun x7 mu8 la9 h => ?_)
      refine Ev.steps 3 (ip' := 30) (ls' := [some (.inr (.inr (some (6, v0)))), none, some (.inl v2), some (.inl v3), some (.inl v4), some (.inl x7)]) (st' := [.inl x7, .inl v2]) (M' := mem E mu8 la9) rfl ?_
      refine Ev.ci (J := mi_104) (as := [.inl x7]) (rest := [.inl v2]) rfl rfl rfl (Nat.le_of_ble_eq_true rfl) h (fun x10 mu11 la12 h => ?_)
      refine Ev.steps 5 (ip' := 36) (ls' := [some (.inr (.inr (some (6, v0)))), none, some (.inl (v2 ||| x10)), some (.inl v3), some (.inl v4), some (.inl x7)]) (st' := [.inl (-9 : Int32), .inl x7, .inl v3]) (M' := mem E mu11 la12) rfl ?_
      refine Ev.br (c := x7 = (-9 : Int32)) (s1 := (42, [some (.inr (.inr (some (6, v0)))), none, some (.inl (v2 ||| x10)), some (.inl v3), some (.inl v4), some (.inl x7)], [.inl v3], mem E mu11 la12)) (s2 := (37, [some (.inr (.inr (some (6, v0)))), none, some (.inl (v2 ||| x10)), some (.inl v3), some (.inl v4), some (.inl x7)], [.inl v3], mem E mu11 la12)) rfl rfl rfl rfl (fun hc => ?_) (fun hc => ?_)
      · have h := h.1 hc
        dsimp only
        refine Ev.steps 5 (ip' := 12) (ls' := [some (.inr (.inr (some (6, v0)))), none, some (.inl (v2 ||| x10)), some (.inl (v3 + (0 : Int32))), some (.inl (v4 + (1 : Int32))), some (.inl x7)]) (st' := []) (M' := mem E mu11 la12) rfl ?_
        refine Ev.drop (ls := [some (.inr (.inr (some (6, v0)))), none, some (.inl (v2 ||| x10)), some (.inl (v3 + (0 : Int32))), some (.inl (v4 + (1 : Int32))), none]) ⟨Or.inr rfl, Or.inr rfl, Or.inr rfl, Or.inr rfl, Or.inr rfl, Or.inl rfl, trivial⟩ ?_
        exact h
      · have h := h.2 hc
        dsimp only
        refine Ev.steps 2 (ip' := 39) (ls' := [some (.inr (.inr (some (6, v0)))), none, some (.inl (v2 ||| x10)), some (.inl v3), some (.inl v4), some (.inl x7)]) (st' := [.inl v4, .inl x7, .inl v3]) (M' := mem E mu11 la12) rfl ?_
        refine Ev.br (c := x7 = v4) (s1 := (42, [some (.inr (.inr (some (6, v0)))), none, some (.inl (v2 ||| x10)), some (.inl v3), some (.inl v4), some (.inl x7)], [.inl v3], mem E mu11 la12)) (s2 := (40, [some (.inr (.inr (some (6, v0)))), none, some (.inl (v2 ||| x10)), some (.inl v3), some (.inl v4), some (.inl x7)], [.inl v3], mem E mu11 la12)) rfl rfl rfl rfl (fun hc => ?_) (fun hc => ?_)
        · have h := h.1 hc
          dsimp only
          refine Ev.steps 5 (ip' := 12) (ls' := [some (.inr (.inr (some (6, v0)))), none, some (.inl (v2 ||| x10)), some (.inl (v3 + (0 : Int32))), some (.inl (v4 + (1 : Int32))), some (.inl x7)]) (st' := []) (M' := mem E mu11 la12) rfl ?_
          refine Ev.drop (ls := [some (.inr (.inr (some (6, v0)))), none, some (.inl (v2 ||| x10)), some (.inl (v3 + (0 : Int32))), some (.inl (v4 + (1 : Int32))), none]) ⟨Or.inr rfl, Or.inr rfl, Or.inr rfl, Or.inr rfl, Or.inr rfl, Or.inl rfl, trivial⟩ ?_
          exact h
        · have h := h.2 hc
          dsimp only
          refine Ev.steps 6 (ip' := 12) (ls' := [some (.inr (.inr (some (6, v0)))), none, some (.inl (v2 ||| x10)), some (.inl (v3 + (1 : Int32))), some (.inl (v4 + (1 : Int32))), some (.inl x7)]) (st' := []) (M' := mem E mu11 la12) rfl ?_
          refine Ev.drop (ls := [some (.inr (.inr (some (6, v0)))), none, some (.inl (v2 ||| x10)), some (.inl (v3 + (1 : Int32))), some (.inl (v4 + (1 : Int32))), none]) ⟨Or.inr rfl, Or.inr rfl, Or.inr rfl, Or.inr rfl, Or.inr rfl, Or.inl rfl, trivial⟩ ?_
          exact h
set_option maxRecDepth 100000 in
/-- AnnCupsModel.in(JJJ)Z -/
theorem vc_X7_in {E : mEv} {d : Nat} (a0 : Int64) (a1 : Int64) (a2 : Int64) {mu : fMu} {la : fLa} {Q : Int32 → fMu → fLa → Prop} (h : ((lg_cmp a0 a1) < 0 → (Q (0 : Int32) mu la)) ∧ (¬ ((lg_cmp a0 a1) < 0) → ((0 < (lg_cmp a0 a2) → (Q (0 : Int32) mu la)) ∧ (¬ (0 < (lg_cmp a0 a2)) → (Q (1 : Int32) mu la))))) : FnI E d mi_129 [.inr (.inl a0), .inr (.inl a1), .inr (.inl a2)] mu la Q := by
  unfold FnI
  show Ev E d mi_129 0 [some (.inr (.inl a0)), none, some (.inr (.inl a1)), none, some (.inr (.inl a2)), none] [] (mem E mu la) (qI E Q)
  refine Ev.steps 3 (ip' := 3) (ls' := [some (.inr (.inl a0)), none, some (.inr (.inl a1)), none, some (.inr (.inl a2)), none]) (st' := [.inl (lg_cmp a0 a1)]) (M' := mem E mu la) rfl ?_
  refine Ev.br (c := (lg_cmp a0 a1) < 0) (s1 := (10, [some (.inr (.inl a0)), none, some (.inr (.inl a1)), none, some (.inr (.inl a2)), none], [], mem E mu la)) (s2 := (4, [some (.inr (.inl a0)), none, some (.inr (.inl a1)), none, some (.inr (.inl a2)), none], [], mem E mu la)) rfl rfl rfl rfl (fun hc => ?_) (fun hc => ?_)
  · have h := h.1 hc
    dsimp only
    refine Ev.steps 1 (ip' := 11) (ls' := [some (.inr (.inl a0)), none, some (.inr (.inl a1)), none, some (.inr (.inl a2)), none]) (st' := [.inl (0 : Int32)]) (M' := mem E mu la) rfl ?_
    exact Ev.retZ rfl rfl (Or.inl rfl) ⟨_, _, _, rfl, rfl, h⟩
  · have h := h.2 hc
    dsimp only
    refine Ev.steps 3 (ip' := 7) (ls' := [some (.inr (.inl a0)), none, some (.inr (.inl a1)), none, some (.inr (.inl a2)), none]) (st' := [.inl (lg_cmp a0 a2)]) (M' := mem E mu la) rfl ?_
    refine Ev.br (c := 0 < (lg_cmp a0 a2)) (s1 := (10, [some (.inr (.inl a0)), none, some (.inr (.inl a1)), none, some (.inr (.inl a2)), none], [], mem E mu la)) (s2 := (8, [some (.inr (.inl a0)), none, some (.inr (.inl a1)), none, some (.inr (.inl a2)), none], [], mem E mu la)) rfl rfl rfl rfl (fun hc => ?_) (fun hc => ?_)
    · have h := h.1 hc
      dsimp only
      refine Ev.steps 1 (ip' := 11) (ls' := [some (.inr (.inl a0)), none, some (.inr (.inl a1)), none, some (.inr (.inl a2)), none]) (st' := [.inl (0 : Int32)]) (M' := mem E mu la) rfl ?_
      exact Ev.retZ rfl rfl (Or.inl rfl) ⟨_, _, _, rfl, rfl, h⟩
    · have h := h.2 hc
      dsimp only
      refine Ev.steps 2 (ip' := 11) (ls' := [some (.inr (.inl a0)), none, some (.inr (.inl a1)), none, some (.inr (.inl a2)), none]) (st' := [.inl (1 : Int32)]) (M' := mem E mu la) rfl ?_
      exact Ev.retZ rfl rfl (Or.inr rfl) ⟨_, _, _, rfl, rfl, h⟩
set_option maxRecDepth 100000 in
/-- AnnCupsModel.has(II)Z -/
theorem vc_X7_has {E : mEv} {d : Nat} (a0 : Int32) (a1 : Int32) {mu : fMu} {la : fLa} {Q : Int32 → fMu → fLa → Prop} (h : (¬ ((a0 >>> (a1 &&& 31)) &&& (1 : Int32)) = (1 : Int32) → (Q (0 : Int32) mu la)) ∧ (¬ (¬ ((a0 >>> (a1 &&& 31)) &&& (1 : Int32)) = (1 : Int32)) → (Q (1 : Int32) mu la))) : FnI E d mi_130 [.inl a0, .inl a1] mu la Q := by
  unfold FnI
  show Ev E d mi_130 0 [some (.inl a0), some (.inl a1)] [] (mem E mu la) (qI E Q)
  refine Ev.steps 6 (ip' := 6) (ls' := [some (.inl a0), some (.inl a1)]) (st' := [.inl (1 : Int32), .inl ((a0 >>> (a1 &&& 31)) &&& (1 : Int32))]) (M' := mem E mu la) rfl ?_
  refine Ev.br (c := ¬ ((a0 >>> (a1 &&& 31)) &&& (1 : Int32)) = (1 : Int32)) (s1 := (9, [some (.inl a0), some (.inl a1)], [], mem E mu la)) (s2 := (7, [some (.inl a0), some (.inl a1)], [], mem E mu la)) rfl rfl rfl rfl (fun hc => ?_) (fun hc => ?_)
  · have h := h.1 hc
    dsimp only
    refine Ev.steps 1 (ip' := 10) (ls' := [some (.inl a0), some (.inl a1)]) (st' := [.inl (0 : Int32)]) (M' := mem E mu la) rfl ?_
    exact Ev.retZ rfl rfl (Or.inl rfl) ⟨_, _, _, rfl, rfl, h⟩
  · have h := h.2 hc
    dsimp only
    refine Ev.steps 2 (ip' := 10) (ls' := [some (.inl a0), some (.inl a1)]) (st' := [.inl (1 : Int32)]) (M' := mem E mu la) rfl ?_
    exact Ev.retZ rfl rfl (Or.inr rfl) ⟨_, _, _, rfl, rfl, h⟩
set_option maxRecDepth 100000 in
/-- AnnCupsModel.bits(I)I -/
theorem vc_X7_bits {E : mEv} {d : Nat} (a0 : Int32) {mu : fMu} {la : fLa} {Q : Int32 → fMu → fLa → Prop} (h : Ev E d mi_131 4 [none, some (.inl (0 : Int32)), some (.inl a0)] [] (mem E mu la) (qI E Q)) : FnI E d mi_131 [.inl a0] mu la Q := by
  unfold FnI
  show Ev E d mi_131 0 [some (.inl a0), none, none] [] (mem E mu la) (qI E Q)
  refine Ev.steps 4 (ip' := 4) (ls' := [some (.inl a0), some (.inl (0 : Int32)), some (.inl a0)]) (st' := []) (M' := mem E mu la) rfl ?_
  refine Ev.drop (ls := [none, some (.inl (0 : Int32)), some (.inl a0)]) ⟨Or.inl rfl, Or.inr rfl, Or.inr rfl, trivial⟩ ?_
  exact h
set_option maxRecDepth 100000 in
theorem vc_X7_bits_4 {E : mEv} {d : Nat}  (v1 : Int32) (v2 : Int32) {mu : fMu} {la : fLa} {Q : Int32 → fMu → fLa → Prop} (h : (v2 = 0 → (Q v1 mu la)) ∧ (¬ (v2 = 0) → (Ev E d mi_131 4 [none, some (.inl (v1 + (1 : Int32))), some (.inl (v2 &&& (v2 - (1 : Int32))))] [] (mem E mu la) (qI E Q)))) : Ev E d mi_131 4 [none, some (.inl v1), some (.inl v2)] [] (mem E mu la) (qI E Q) := by
  refine Ev.steps 1 (ip' := 5) (ls' := [none, some (.inl v1), some (.inl v2)]) (st' := [.inl v2]) (M' := mem E mu la) rfl ?_
  refine Ev.br (c := v2 = 0) (s1 := (14, [none, some (.inl v1), some (.inl v2)], [], mem E mu la)) (s2 := (6, [none, some (.inl v1), some (.inl v2)], [], mem E mu la)) rfl rfl rfl rfl (fun hc => ?_) (fun hc => ?_)
  · have h := h.1 hc
    dsimp only
    refine Ev.steps 1 (ip' := 15) (ls' := [none, some (.inl v1), some (.inl v2)]) (st' := [.inl v1]) (M' := mem E mu la) rfl ?_
    exact Ev.ret rfl rfl ⟨_, _, _, rfl, rfl, h⟩
  · have h := h.2 hc
    dsimp only
    refine Ev.steps 8 (ip' := 4) (ls' := [none, some (.inl (v1 + (1 : Int32))), some (.inl (v2 &&& (v2 - (1 : Int32))))]) (st' := []) (M' := mem E mu la) rfl ?_
    exact h
set_option maxRecDepth 100000 in
/-- AnnCupsModel.found(I)I -/
theorem vc_X7_found {E : mEv} {d : Nat} {c : Nat} (a0 : Int32) {mu : fMu} {la : fLa} {Q : Int32 → fMu → fLa → Prop} (h : ∀ mu1 : fMu, mu1 = up3 mu 7 c 20 a0 → (vp_in a0 6 ∧ (vp_in a0 6 ∧ ∀ mu2 : fMu, mu2 = up3 mu1 43 c a0.toNatClampNeg ((mu1 43 c a0.toNatClampNeg) + (1 : Int32)) → (Q (-3 : Int32) mu2 la)))) : FnI E d mi_132 [.inr (.inr (some (7, c))), .inl a0] mu la Q := by
  unfold FnI
  show Ev E d mi_132 0 [some (.inr (.inr (some (7, c)))), some (.inl a0)] [] (mem E mu la) (qI E Q)
  refine Ev.steps 3 (ip' := 3) (ls' := [some (.inr (.inr (some (7, c)))), some (.inl a0)]) (st' := []) (M' := mem E (up3 mu 7 c 20 a0) la) rfl ?_
  generalize hgmu1 : up3 mu 7 c 20 a0 = mu1
  have h := h mu1 hgmu1.symm
  refine Ev.steps 4 (ip' := 7) (ls' := [some (.inr (.inr (some (7, c)))), some (.inl a0)]) (st' := [.inl a0, .inr (.inr (some (43, c))), .inl a0, .inr (.inr (some (43, c)))]) (M' := mem E mu1 la) rfl ?_
  refine Ev.ial rfl rfl (by decide) h.1 ?_
  have h := h.2
  refine Ev.steps 2 (ip' := 10) (ls' := [some (.inr (.inr (some (7, c)))), some (.inl a0)]) (st' := [.inl ((mu1 43 c a0.toNatClampNeg) + (1 : Int32)), .inl a0, .inr (.inr (some (43, c)))]) (M' := mem E mu1 la) rfl ?_
  refine Ev.ias rfl rfl h.1 ?_
  have h := h.2
  generalize hgmu2 : up3 mu1 43 c a0.toNatClampNeg ((mu1 43 c a0.toNatClampNeg) + (1 : Int32)) = mu2
  have h := h mu2 hgmu2.symm
  refine Ev.steps 1 (ip' := 12) (ls' := [some (.inr (.inr (some (7, c)))), some (.inl a0)]) (st' := [.inl (-3 : Int32)]) (M' := mem E mu2 la) rfl ?_
  exact Ev.ret rfl rfl ⟨_, _, _, rfl, rfl, h⟩
set_option maxRecDepth 100000 in
/-- AnnCupsModel.tell(I)I -/
theorem vc_X7_tell {E : mEv} {d : Nat} {c : Nat} (a0 : Int32) {mu : fMu} {la : fLa} {Q : Int32 → fMu → fLa → Prop} (h : ∀ mu1 : fMu, mu1 = up3 mu 7 c 17 a0 → (Q (1 : Int32) mu1 la)) : FnI E d mi_133 [.inr (.inr (some (7, c))), .inl a0] mu la Q := by
  unfold FnI
  show Ev E d mi_133 0 [some (.inr (.inr (some (7, c)))), some (.inl a0)] [] (mem E mu la) (qI E Q)
  refine Ev.steps 3 (ip' := 3) (ls' := [some (.inr (.inr (some (7, c)))), some (.inl a0)]) (st' := []) (M' := mem E (up3 mu 7 c 17 a0) la) rfl ?_
  generalize hgmu1 : up3 mu 7 c 17 a0 = mu1
  have h := h mu1 hgmu1.symm
  refine Ev.steps 1 (ip' := 4) (ls' := [some (.inr (.inr (some (7, c)))), some (.inl a0)]) (st' := [.inl (1 : Int32)]) (M' := mem E mu1 la) rfl ?_
  exact Ev.ret rfl rfl ⟨_, _, _, rfl, rfl, h⟩
set_option maxRecDepth 100000 in
/-- AnnCupsModel.answer(II)I -/
theorem vc_X7_answer {E : mEv} {d : Nat} {c : Nat} (a0 : Int32) (a1 : Int32) {mu : fMu} {la : fLa} {Q : Int32 → fMu → fLa → Prop} (h : ∀ mu1 : fMu, mu1 = up3 mu 7 c 17 a1 → (Q a0 mu1 la)) : FnI E d mi_134 [.inr (.inr (some (7, c))), .inl a0, .inl a1] mu la Q := by
  unfold FnI
  show Ev E d mi_134 0 [some (.inr (.inr (some (7, c)))), some (.inl a0), some (.inl a1)] [] (mem E mu la) (qI E Q)
  refine Ev.steps 3 (ip' := 3) (ls' := [some (.inr (.inr (some (7, c)))), some (.inl a0), some (.inl a1)]) (st' := []) (M' := mem E (up3 mu 7 c 17 a1) la) rfl ?_
  generalize hgmu1 : up3 mu 7 c 17 a1 = mu1
  have h := h mu1 hgmu1.symm
  refine Ev.steps 1 (ip' := 4) (ls' := [some (.inr (.inr (some (7, c)))), some (.inl a0), some (.inl a1)]) (st' := [.inl a0]) (M' := mem E mu1 la) rfl ?_
  exact Ev.ret rfl rfl ⟨_, _, _, rfl, rfl, h⟩
set_option maxRecDepth 100000 in
/-- AnnCupsModel.isRow(I)Z -/
theorem vc_X7_isRow {E : mEv} {d : Nat} (a0 : Int32) {mu : fMu} {la : fLa} {Q : Int32 → fMu → fLa → Prop} (h : FnI E d mi_129 [.inr (.inl a0.toInt64), .inr (.inl (0 : Int64)), .inr (.inl (5 : Int64))] mu la (fun x1 mu2 la3 => (x1 = 0 ∨ x1 = 1) ∧ Q x1 mu2 la3)) : FnI E (d + 1) mi_135 [.inl a0] mu la Q := by
  unfold FnI
  show Ev E (d + 1) mi_135 0 [some (.inl a0)] [] (mem E mu la) (qI E Q)
  refine Ev.steps 4 (ip' := 4) (ls' := [some (.inl a0)]) (st' := [.inr (.inl (5 : Int64)), .inr (.inl (0 : Int64)), .inr (.inl a0.toInt64)]) (M' := mem E mu la) rfl ?_
  refine Ev.ci (J := mi_129) (as := [.inr (.inl a0.toInt64), .inr (.inl (0 : Int64)), .inr (.inl (5 : Int64))]) (rest := []) rfl rfl rfl (Nat.le_of_ble_eq_true rfl) h (fun x1 mu2 la3 h => ?_)
  exact Ev.retZ rfl rfl h.1 ⟨_, _, _, rfl, rfl, h.2⟩
set_option maxRecDepth 100000 in
/-- AnnCupsModel.isText(I)Z -/
theorem vc_X7_isText {E : mEv} {d : Nat} (a0 : Int32) {mu : fMu} {la : fLa} {Q : Int32 → fMu → fLa → Prop} (h : FnI E d mi_129 [.inr (.inl a0.toInt64), .inr (.inl (0 : Int64)), .inr (.inl (3 : Int64))] mu la (fun x1 mu2 la3 => (x1 = 0 ∨ x1 = 1) ∧ Q x1 mu2 la3)) : FnI E (d + 1) mi_136 [.inl a0] mu la Q := by
  unfold FnI
  show Ev E (d + 1) mi_136 0 [some (.inl a0)] [] (mem E mu la) (qI E Q)
  refine Ev.steps 4 (ip' := 4) (ls' := [some (.inl a0)]) (st' := [.inr (.inl (3 : Int64)), .inr (.inl (0 : Int64)), .inr (.inl a0.toInt64)]) (M' := mem E mu la) rfl ?_
  refine Ev.ci (J := mi_129) (as := [.inr (.inl a0.toInt64), .inr (.inl (0 : Int64)), .inr (.inl (3 : Int64))]) (rest := []) rfl rfl rfl (Nat.le_of_ble_eq_true rfl) h (fun x1 mu2 la3 h => ?_)
  exact Ev.retZ rfl rfl h.1 ⟨_, _, _, rfl, rfl, h.2⟩
set_option maxRecDepth 100000 in
/-- AnnCupsModel.row(II)I -/
theorem vc_X7_row {E : mEv} {d : Nat} {c : Nat} (a0 : Int32) (a1 : Int32) {mu : fMu} {la : fLa} {Q : Int32 → fMu → fLa → Prop} (h : FnI E d mi_135 [.inl a0] mu la (fun x1 mu2 la3 => (x1 = 0 → (Q (-1 : Int32) mu2 la3)) ∧ (¬ (x1 = 0) → ((a1 ≤ (40 : Int32) → ((0 ≤ a1 → (vp_in a0 6 ∧ ∀ mu4 : fMu, mu4 = up3 mu2 29 c a0.toNatClampNeg a1 → (Ev E (d + 1) mi_137 21 [some (.inr (.inr (some (7, c)))), some (.inl a0), some (.inl a1), some (.inl (0 : Int32))] [] (mem E mu4 la3) (qI E Q)))) ∧ (¬ (0 ≤ a1) → (FnI E d mi_132 [.inr (.inr (some (7, c))), .inl (5 : Int32)] mu2 la3 (fun x5 mu6 la7 => Q x5 mu6 la7))))) ∧ (¬ (a1 ≤ (40 : Int32)) → (Q (-1 : Int32) mu2 la3)))))) : FnI E (d + 1) mi_137 [.inr (.inr (some (7, c))), .inl a0, .inl a1] mu la Q := by
  unfold FnI
  show Ev E (d + 1) mi_137 0 [some (.inr (.inr (some (7, c)))), some (.inl a0), some (.inl a1), none] [] (mem E mu la) (qI E Q)
  refine Ev.steps 1 (ip' := 1) (ls' := [some (.inr (.inr (some (7, c)))), some (.inl a0), some (.inl a1), none]) (st' := [.inl a0]) (M' := mem E mu la) rfl ?_
  refine Ev.ci (J := mi_135) (as := [.inl a0]) (rest := []) rfl rfl rfl (Nat.le_of_ble_eq_true rfl) h (fun x1 mu2 la3 h => ?_)
  refine Ev.br (c := x1 = 0) (s1 := (6, [some (.inr (.inr (some (7, c)))), some (.inl a0), some (.inl a1), none], [], mem E mu2 la3)) (s2 := (3, [some (.inr (.inr (some (7, c)))), some (.inl a0), some (.inl a1), none], [], mem E mu2 la3)) rfl rfl rfl rfl (fun hc => ?_) (fun hc => ?_)
  · have h := h.1 hc
    dsimp only
    refine Ev.steps 1 (ip' := 7) (ls' := [some (.inr (.inr (some (7, c)))), some (.inl a0), some (.inl a1), none]) (st' := [.inl (-1 : Int32)]) (M' := mem E mu2 la3) rfl ?_
    exact Ev.ret rfl rfl ⟨_, _, _, rfl, rfl, h⟩
  · have h := h.2 hc
    dsimp only
    refine Ev.steps 2 (ip' := 5) (ls' := [some (.inr (.inr (some (7, c)))), some (.inl a0), some (.inl a1), none]) (st' := [.inl (40 : Int32), .inl a1]) (M' := mem E mu2 la3) rfl ?_
    refine Ev.br (c := a1 ≤ (40 : Int32)) (s1 := (8, [some (.inr (.inr (some (7, c)))), some (.inl a0), some (.inl a1), none], [], mem E mu2 la3)) (s2 := (6, [some (.inr (.inr (some (7, c)))), some (.inl a0), some (.inl a1), none], [], mem E mu2 la3)) rfl rfl rfl rfl (fun hc => ?_) (fun hc => ?_)
    · have h := h.1 hc
      dsimp only
      refine Ev.steps 1 (ip' := 9) (ls' := [some (.inr (.inr (some (7, c)))), some (.inl a0), some (.inl a1), none]) (st' := [.inl a1]) (M' := mem E mu2 la3) rfl ?_
      refine Ev.br (c := 0 ≤ a1) (s1 := (14, [some (.inr (.inr (some (7, c)))), some (.inl a0), some (.inl a1), none], [], mem E mu2 la3)) (s2 := (10, [some (.inr (.inr (some (7, c)))), some (.inl a0), some (.inl a1), none], [], mem E mu2 la3)) rfl rfl rfl rfl (fun hc => ?_) (fun hc => ?_)
      · have h := h.1 hc
        dsimp only
        refine Ev.steps 4 (ip' := 18) (ls' := [some (.inr (.inr (some (7, c)))), some (.inl a0), some (.inl a1), none]) (st' := [.inl a1, .inl a0, .inr (.inr (some (29, c)))]) (M' := mem E mu2 la3) rfl ?_
        refine Ev.ias rfl rfl h.1 ?_
        have h := h.2
        generalize hgmu4 : up3 mu2 29 c a0.toNatClampNeg a1 = mu4
        have h := h mu4 hgmu4.symm
        refine Ev.steps 2 (ip' := 21) (ls' := [some (.inr (.inr (some (7, c)))), some (.inl a0), some (.inl a1), some (.inl (0 : Int32))]) (st' := []) (M' := mem E mu4 la3) rfl ?_
        exact h
      · have h := h.2 hc
        dsimp only
        refine Ev.steps 2 (ip' := 12) (ls' := [some (.inr (.inr (some (7, c)))), some (.inl a0), some (.inl a1), none]) (st' := [.inl (5 : Int32), .inr (.inr (some (7, c)))]) (M' := mem E mu2 la3) rfl ?_
        refine Ev.ci (J := mi_132) (as := [.inr (.inr (some (7, c))), .inl (5 : Int32)]) (rest := []) rfl rfl rfl (Nat.le_of_ble_eq_true rfl) h (fun x5 mu6 la7 h => ?_)
        exact Ev.ret rfl rfl ⟨_, _, _, rfl, rfl, h⟩
    · have h := h.2 hc
      dsimp only
      refine Ev.steps 1 (ip' := 7) (ls' := [some (.inr (.inr (some (7, c)))), some (.inl a0), some (.inl a1), none]) (st' := [.inl (-1 : Int32)]) (M' := mem E mu2 la3) rfl ?_
      exact Ev.ret rfl rfl ⟨_, _, _, rfl, rfl, h⟩
set_option maxRecDepth 100000 in
theorem vc_X7_row_21 {E : mEv} {d : Nat}  (v0 : Nat) (v1 : Int32) (v2 : Int32) (v3 : Int32) {mu : fMu} {la : fLa} {Q : Int32 → fMu → fLa → Prop} (h : ((40 : Int32) ≤ v3 → (Q v2 mu la)) ∧ (¬ ((40 : Int32) ≤ v3) → (vp_in (((40 : Int32) * v1) + v3) 240 ∧ ∀ mu8 : fMu, mu8 = up3 mu 30 v0 (((40 : Int32) * v1) + v3).toNatClampNeg (0 : Int32) → (Ev E (d + 1) mi_137 21 [some (.inr (.inr (some (7, v0)))), some (.inl v1), some (.inl v2), some (.inl (v3 + (1 : Int32)))] [] (mem E mu8 la) (qI E Q))))) : Ev E (d + 1) mi_137 21 [some (.inr (.inr (some (7, v0)))), some (.inl v1), some (.inl v2), some (.inl v3)] [] (mem E mu la) (qI E Q) := by
  refine Ev.steps 2 (ip' := 23) (ls' := [some (.inr (.inr (some (7, v0)))), some (.inl v1), some (.inl v2), some (.inl v3)]) (st' := [.inl (40 : Int32), .inl v3]) (M' := mem E mu la) rfl ?_
  refine Ev.br (c := (40 : Int32) ≤ v3) (s1 := (35, [some (.inr (.inr (some (7, v0)))), some (.inl v1), some (.inl v2), some (.inl v3)], [], mem E mu la)) (s2 := (24, [some (.inr (.inr (some (7, v0)))), some (.inl v1), some (.inl v2), some (.inl v3)], [], mem E mu la)) rfl rfl rfl rfl (fun hc => ?_) (fun hc => ?_)
  · have h := h.1 hc
    dsimp only
    refine Ev.steps 1 (ip' := 36) (ls' := [some (.inr (.inr (some (7, v0)))), some (.inl v1), some (.inl v2), some (.inl v3)]) (st' := [.inl v2]) (M' := mem E mu la) rfl ?_
    exact Ev.ret rfl rfl ⟨_, _, _, rfl, rfl, h⟩
  · have h := h.2 hc
    dsimp only
    refine Ev.steps 8 (ip' := 32) (ls' := [some (.inr (.inr (some (7, v0)))), some (.inl v1), some (.inl v2), some (.inl v3)]) (st' := [.inl (0 : Int32), .inl (((40 : Int32) * v1) + v3), .inr (.inr (some (30, v0)))]) (M' := mem E mu la) rfl ?_
    refine Ev.ias rfl rfl h.1 ?_
    have h := h.2
    generalize hgmu8 : up3 mu 30 v0 (((40 : Int32) * v1) + v3).toNatClampNeg (0 : Int32) = mu8
    have h := h mu8 hgmu8.symm
    refine Ev.steps 2 (ip' := 21) (ls' := [some (.inr (.inr (some (7, v0)))), some (.inl v1), some (.inl v2), some (.inl (v3 + (1 : Int32)))]) (st' := []) (M' := mem E mu8 la) rfl ?_
    exact h
set_option maxRecDepth 100000 in
/-- AnnCupsModel.lay(III)I -/
theorem vc_X7_lay {E : mEv} {d : Nat} {c : Nat} (a0 : Int32) (a1 : Int32) (a2 : Int32) {mu : fMu} {la : fLa} {Q : Int32 → fMu → fLa → Prop} (h : FnI E d mi_135 [.inl a0] mu la (fun x1 mu2 la3 => (¬ x1 = 0 → (vp_in a0 6 ∧ ((0 ≤ (mu2 29 c a0.toNatClampNeg) → (vp_in a0 6 ∧ (FnI E d mi_129 [.inr (.inl a1.toInt64), .inr (.inl (0 : Int64)), .inr (.inl (((mu2 29 c a0.toNatClampNeg) - (1 : Int32)).toInt64))] mu2 la3 (fun x4 mu5 la6 => (¬ x4 = 0 → (vp_in (((40 : Int32) * a0) + a1) 240 ∧ (vp_in (((40 : Int32) * a0) + a1) 240 ∧ ∀ mu7 : fMu, mu7 = up3 mu5 30 c (((40 : Int32) * a0) + a1).toNatClampNeg a2 → (FnI E d mi_133 [.inr (.inr (some (7, c))), .inl (mu5 30 c (((40 : Int32) * a0) + a1).toNatClampNeg)] mu7 la6 (fun x8 mu9 la10 => Q x8 mu9 la10))))) ∧ (¬ (¬ x4 = 0) → (FnI E d mi_132 [.inr (.inr (some (7, c))), .inl (2 : Int32)] mu5 la6 (fun x11 mu12 la13 => Q x11 mu12 la13))))))) ∧ (¬ (0 ≤ (mu2 29 c a0.toNatClampNeg)) → (FnI E d mi_132 [.inr (.inr (some (7, c))), .inl (1 : Int32)] mu2 la3 (fun x14 mu15 la16 => Q x14 mu15 la16)))))) ∧ (¬ (¬ x1 = 0) → (Q (-1 : Int32) mu2 la3)))) : FnI E (d + 1) mi_138 [.inr (.inr (some (7, c))), .inl a0, .inl a1, .inl a2] mu la Q := by
  unfold FnI
  show Ev E (d + 1) mi_138 0 [some (.inr (.inr (some (7, c)))), some (.inl a0), some (.inl a1), some (.inl a2), none] [] (mem E mu la) (qI E Q)
  refine Ev.steps 1 (ip' := 1) (ls' := [some (.inr (.inr (some (7, c)))), some (.inl a0), some (.inl a1), some (.inl a2), none]) (st' := [.inl a0]) (M' := mem E mu la) rfl ?_
  refine Ev.ci (J := mi_135) (as := [.inl a0]) (rest := []) rfl rfl rfl (Nat.le_of_ble_eq_true rfl) h (fun x1 mu2 la3 h => ?_)
  refine Ev.br (c := ¬ x1 = 0) (s1 := (5, [some (.inr (.inr (some (7, c)))), some (.inl a0), some (.inl a1), some (.inl a2), none], [], mem E mu2 la3)) (s2 := (3, [some (.inr (.inr (some (7, c)))), some (.inl a0), some (.inl a1), some (.inl a2), none], [], mem E mu2 la3)) rfl rfl rfl rfl (fun hc => ?_) (fun hc => ?_)
  · have h := h.1 hc
    dsimp only
    refine Ev.steps 3 (ip' := 8) (ls' := [some (.inr (.inr (some (7, c)))), some (.inl a0), some (.inl a1), some (.inl a2), none]) (st' := [.inl a0, .inr (.inr (some (29, c)))]) (M' := mem E mu2 la3) rfl ?_
    refine Ev.ial rfl rfl (by decide) h.1 ?_
    have h := h.2
    refine Ev.br (c := 0 ≤ (mu2 29 c a0.toNatClampNeg)) (s1 := (14, [some (.inr (.inr (some (7, c)))), some (.inl a0), some (.inl a1), some (.inl a2), none], [], mem E mu2 la3)) (s2 := (10, [some (.inr (.inr (some (7, c)))), some (.inl a0), some (.inl a1), some (.inl a2), none], [], mem E mu2 la3)) rfl rfl rfl rfl (fun hc => ?_) (fun hc => ?_)
    · have h := h.1 hc
      dsimp only
      refine Ev.steps 6 (ip' := 20) (ls' := [some (.inr (.inr (some (7, c)))), some (.inl a0), some (.inl a1), some (.inl a2), none]) (st' := [.inl a0, .inr (.inr (some (29, c))), .inr (.inl (0 : Int64)), .inr (.inl a1.toInt64)]) (M' := mem E mu2 la3) rfl ?_
      refine Ev.ial rfl rfl (by decide) h.1 ?_
      have h := h.2
      refine Ev.steps 3 (ip' := 24) (ls' := [some (.inr (.inr (some (7, c)))), some (.inl a0), some (.inl a1), some (.inl a2), none]) (st' := [.inr (.inl (((mu2 29 c a0.toNatClampNeg) - (1 : Int32)).toInt64)), .inr (.inl (0 : Int64)), .inr (.inl a1.toInt64)]) (M' := mem E mu2 la3) rfl ?_
      refine Ev.ci (J := mi_129) (as := [.inr (.inl a1.toInt64), .inr (.inl (0 : Int64)), .inr (.inl (((mu2 29 c a0.toNatClampNeg) - (1 : Int32)).toInt64))]) (rest := []) rfl rfl rfl (Nat.le_of_ble_eq_true rfl) h (fun x4 mu5 la6 h => ?_)
      refine Ev.br (c := ¬ x4 = 0) (s1 := (30, [some (.inr (.inr (some (7, c)))), some (.inl a0), some (.inl a1), some (.inl a2), none], [], mem E mu5 la6)) (s2 := (26, [some (.inr (.inr (some (7, c)))), some (.inl a0), some (.inl a1), some (.inl a2), none], [], mem E mu5 la6)) rfl rfl rfl rfl (fun hc => ?_) (fun hc => ?_)
      · have h := h.1 hc
        dsimp only
        refine Ev.steps 7 (ip' := 37) (ls' := [some (.inr (.inr (some (7, c)))), some (.inl a0), some (.inl a1), some (.inl a2), none]) (st' := [.inl (((40 : Int32) * a0) + a1), .inr (.inr (some (30, c)))]) (M' := mem E mu5 la6) rfl ?_
        refine Ev.ial rfl rfl (by decide) h.1 ?_
        have h := h.2
        refine Ev.steps 9 (ip' := 47) (ls' := [some (.inr (.inr (some (7, c)))), some (.inl a0), some (.inl a1), some (.inl a2), some (.inl (mu5 30 c (((40 : Int32) * a0) + a1).toNatClampNeg))]) (st' := [.inl a2, .inl (((40 : Int32) * a0) + a1), .inr (.inr (some (30, c)))]) (M' := mem E mu5 la6) rfl ?_
        refine Ev.ias rfl rfl h.1 ?_
        have h := h.2
        generalize hgmu7 : up3 mu5 30 c (((40 : Int32) * a0) + a1).toNatClampNeg a2 = mu7
        have h := h mu7 hgmu7.symm
        refine Ev.steps 2 (ip' := 50) (ls' := [some (.inr (.inr (some (7, c)))), some (.inl a0), some (.inl a1), some (.inl a2), some (.inl (mu5 30 c (((40 : Int32) * a0) + a1).toNatClampNeg))]) (st' := [.inl (mu5 30 c (((40 : Int32) * a0) + a1).toNatClampNeg), .inr (.inr (some (7, c)))]) (M' := mem E mu7 la6) rfl ?_
        refine Ev.ci (J := mi_133) (as := [.inr (.inr (some (7, c))), .inl (mu5 30 c (((40 : Int32) * a0) + a1).toNatClampNeg)]) (rest := []) rfl rfl rfl (Nat.le_of_ble_eq_true rfl) h (fun x8 mu9 la10 h => ?_)
        exact Ev.ret rfl rfl ⟨_, _, _, rfl, rfl, h⟩
      · have h := h.2 hc
        dsimp only
        refine Ev.steps 2 (ip' := 28) (ls' := [some (.inr (.inr (some (7, c)))), some (.inl a0), some (.inl a1), some (.inl a2), none]) (st' := [.inl (2 : Int32), .inr (.inr (some (7, c)))]) (M' := mem E mu5 la6) rfl ?_
        refine Ev.ci (J := mi_132) (as := [.inr (.inr (some (7, c))), .inl (2 : Int32)]) (rest := []) rfl rfl rfl (Nat.le_of_ble_eq_true rfl) h (fun x11 mu12 la13 h => ?_)
        exact Ev.ret rfl rfl ⟨_, _, _, rfl, rfl, h⟩
    · have h := h.2 hc
      dsimp only
      refine Ev.steps 2 (ip' := 12) (ls' := [some (.inr (.inr (some (7, c)))), some (.inl a0), some (.inl a1), some (.inl a2), none]) (st' := [.inl (1 : Int32), .inr (.inr (some (7, c)))]) (M' := mem E mu2 la3) rfl ?_
      refine Ev.ci (J := mi_132) (as := [.inr (.inr (some (7, c))), .inl (1 : Int32)]) (rest := []) rfl rfl rfl (Nat.le_of_ble_eq_true rfl) h (fun x14 mu15 la16 h => ?_)
      exact Ev.ret rfl rfl ⟨_, _, _, rfl, rfl, h⟩
  · have h := h.2 hc
    dsimp only
    refine Ev.steps 1 (ip' := 4) (ls' := [some (.inr (.inr (some (7, c)))), some (.inl a0), some (.inl a1), some (.inl a2), none]) (st' := [.inl (-1 : Int32)]) (M' := mem E mu2 la3) rfl ?_
    exact Ev.ret rfl rfl ⟨_, _, _, rfl, rfl, h⟩
set_option maxRecDepth 100000 in
/-- AnnCupsModel.at(II)I -/
theorem vc_X7_at {E : mEv} {d : Nat} {c : Nat} (a0 : Int32) (a1 : Int32) {mu : fMu} {la : fLa} {Q : Int32 → fMu → fLa → Prop} (h : FnI E d mi_135 [.inl a0] mu la (fun x1 mu2 la3 => (¬ x1 = 0 → (vp_in a0 6 ∧ ((0 ≤ (mu2 29 c a0.toNatClampNeg) → (vp_in a0 6 ∧ (FnI E d mi_129 [.inr (.inl a1.toInt64), .inr (.inl (0 : Int64)), .inr (.inl (((mu2 29 c a0.toNatClampNeg) - (1 : Int32)).toInt64))] mu2 la3 (fun x4 mu5 la6 => (x4 = 0 → (FnI E d mi_132 [.inr (.inr (some (7, c))), .inl (2 : Int32)] mu5 la6 (fun x7 mu8 la9 => Q x7 mu8 la9))) ∧ (¬ (x4 = 0) → (vp_in (((40 : Int32) * a0) + a1) 240 ∧ (FnI E d mi_133 [.inr (.inr (some (7, c))), .inl (mu5 30 c (((40 : Int32) * a0) + a1).toNatClampNeg)] mu5 la6 (fun x10 mu11 la12 => Q x10 mu11 la12)))))))) ∧ (¬ (0 ≤ (mu2 29 c a0.toNatClampNeg)) → (FnI E d mi_132 [.inr (.inr (some (7, c))), .inl (1 : Int32)] mu2 la3 (fun x13 mu14 la15 => Q x13 mu14 la15)))))) ∧ (¬ (¬ x1 = 0) → (Q (-1 : Int32) mu2 la3)))) : FnI E (d + 1) mi_139 [.inr (.inr (some (7, c))), .inl a0, .inl a1] mu la Q := by
  unfold FnI
  show Ev E (d + 1) mi_139 0 [some (.inr (.inr (some (7, c)))), some (.inl a0), some (.inl a1)] [] (mem E mu la) (qI E Q)
  refine Ev.steps 1 (ip' := 1) (ls' := [some (.inr (.inr (some (7, c)))), some (.inl a0), some (.inl a1)]) (st' := [.inl a0]) (M' := mem E mu la) rfl ?_
  refine Ev.ci (J := mi_135) (as := [.inl a0]) (rest := []) rfl rfl rfl (Nat.le_of_ble_eq_true rfl) h (fun x1 mu2 la3 h => ?_)
  refine Ev.br (c := ¬ x1 = 0) (s1 := (5, [some (.inr (.inr (some (7, c)))), some (.inl a0), some (.inl a1)], [], mem E mu2 la3)) (s2 := (3, [some (.inr (.inr (some (7, c)))), some (.inl a0), some (.inl a1)], [], mem E mu2 la3)) rfl rfl rfl rfl (fun hc => ?_) (fun hc => ?_)
  · have h := h.1 hc
    dsimp only
    refine Ev.steps 3 (ip' := 8) (ls' := [some (.inr (.inr (some (7, c)))), some (.inl a0), some (.inl a1)]) (st' := [.inl a0, .inr (.inr (some (29, c)))]) (M' := mem E mu2 la3) rfl ?_
    refine Ev.ial rfl rfl (by decide) h.1 ?_
    have h := h.2
    refine Ev.br (c := 0 ≤ (mu2 29 c a0.toNatClampNeg)) (s1 := (14, [some (.inr (.inr (some (7, c)))), some (.inl a0), some (.inl a1)], [], mem E mu2 la3)) (s2 := (10, [some (.inr (.inr (some (7, c)))), some (.inl a0), some (.inl a1)], [], mem E mu2 la3)) rfl rfl rfl rfl (fun hc => ?_) (fun hc => ?_)
    · have h := h.1 hc
      dsimp only
      refine Ev.steps 6 (ip' := 20) (ls' := [some (.inr (.inr (some (7, c)))), some (.inl a0), some (.inl a1)]) (st' := [.inl a0, .inr (.inr (some (29, c))), .inr (.inl (0 : Int64)), .inr (.inl a1.toInt64)]) (M' := mem E mu2 la3) rfl ?_
      refine Ev.ial rfl rfl (by decide) h.1 ?_
      have h := h.2
      refine Ev.steps 3 (ip' := 24) (ls' := [some (.inr (.inr (some (7, c)))), some (.inl a0), some (.inl a1)]) (st' := [.inr (.inl (((mu2 29 c a0.toNatClampNeg) - (1 : Int32)).toInt64)), .inr (.inl (0 : Int64)), .inr (.inl a1.toInt64)]) (M' := mem E mu2 la3) rfl ?_
      refine Ev.ci (J := mi_129) (as := [.inr (.inl a1.toInt64), .inr (.inl (0 : Int64)), .inr (.inl (((mu2 29 c a0.toNatClampNeg) - (1 : Int32)).toInt64))]) (rest := []) rfl rfl rfl (Nat.le_of_ble_eq_true rfl) h (fun x4 mu5 la6 h => ?_)
      refine Ev.br (c := x4 = 0) (s1 := (37, [some (.inr (.inr (some (7, c)))), some (.inl a0), some (.inl a1)], [], mem E mu5 la6)) (s2 := (26, [some (.inr (.inr (some (7, c)))), some (.inl a0), some (.inl a1)], [], mem E mu5 la6)) rfl rfl rfl rfl (fun hc => ?_) (fun hc => ?_)
      · have h := h.1 hc
        dsimp only
        refine Ev.steps 2 (ip' := 39) (ls' := [some (.inr (.inr (some (7, c)))), some (.inl a0), some (.inl a1)]) (st' := [.inl (2 : Int32), .inr (.inr (some (7, c)))]) (M' := mem E mu5 la6) rfl ?_
        refine Ev.ci (J := mi_132) (as := [.inr (.inr (some (7, c))), .inl (2 : Int32)]) (rest := []) rfl rfl rfl (Nat.le_of_ble_eq_true rfl) h (fun x7 mu8 la9 h => ?_)
        exact Ev.ret rfl rfl ⟨_, _, _, rfl, rfl, h⟩
      · have h := h.2 hc
        dsimp only
        refine Ev.steps 8 (ip' := 34) (ls' := [some (.inr (.inr (some (7, c)))), some (.inl a0), some (.inl a1)]) (st' := [.inl (((40 : Int32) * a0) + a1), .inr (.inr (some (30, c))), .inr (.inr (some (7, c)))]) (M' := mem E mu5 la6) rfl ?_
        refine Ev.ial rfl rfl (by decide) h.1 ?_
        have h := h.2
        refine Ev.ci (J := mi_133) (as := [.inr (.inr (some (7, c))), .inl (mu5 30 c (((40 : Int32) * a0) + a1).toNatClampNeg)]) (rest := []) rfl rfl rfl (Nat.le_of_ble_eq_true rfl) h (fun x10 mu11 la12 h => ?_)
        refine Ev.steps 1 (ip' := 40) (ls' := [some (.inr (.inr (some (7, c)))), some (.inl a0), some (.inl a1)]) (st' := [.inl x10]) (M' := mem E mu11 la12) rfl ?_
        exact Ev.ret rfl rfl ⟨_, _, _, rfl, rfl, h⟩
    · have h := h.2 hc
      dsimp only
      refine Ev.steps 2 (ip' := 12) (ls' := [some (.inr (.inr (some (7, c)))), some (.inl a0), some (.inl a1)]) (st' := [.inl (1 : Int32), .inr (.inr (some (7, c)))]) (M' := mem E mu2 la3) rfl ?_
      refine Ev.ci (J := mi_132) (as := [.inr (.inr (some (7, c))), .inl (1 : Int32)]) (rest := []) rfl rfl rfl (Nat.le_of_ble_eq_true rfl) h (fun x13 mu14 la15 h => ?_)
      exact Ev.ret rfl rfl ⟨_, _, _, rfl, rfl, h⟩
  · have h := h.2 hc
    dsimp only
    refine Ev.steps 1 (ip' := 4) (ls' := [some (.inr (.inr (some (7, c)))), some (.inl a0), some (.inl a1)]) (st' := [.inl (-1 : Int32)]) (M' := mem E mu2 la3) rfl ?_
    exact Ev.ret rfl rfl ⟨_, _, _, rfl, rfl, h⟩
set_option maxRecDepth 100000 in
/-- AnnCupsModel.tear(I)I -/
theorem vc_X7_tear {E : mEv} {d : Nat} {c : Nat} (a0 : Int32) {mu : fMu} {la : fLa} {Q : Int32 → fMu → fLa → Prop} (h : FnI E d mi_135 [.inl a0] mu la (fun x1 mu2 la3 => (¬ x1 = 0 → (vp_in a0 6 ∧ ((0 ≤ (mu2 29 c a0.toNatClampNeg) → (vp_in a0 6 ∧ ∀ mu4 : fMu, mu4 = up3 mu2 29 c a0.toNatClampNeg (-1 : Int32) → (Q (1 : Int32) mu4 la3))) ∧ (¬ (0 ≤ (mu2 29 c a0.toNatClampNeg)) → (FnI E d mi_132 [.inr (.inr (some (7, c))), .inl (1 : Int32)] mu2 la3 (fun x5 mu6 la7 => Q x5 mu6 la7)))))) ∧ (¬ (¬ x1 = 0) → (Q (-1 : Int32) mu2 la3)))) : FnI E (d + 1) mi_140 [.inr (.inr (some (7, c))), .inl a0] mu la Q := by
  unfold FnI
  show Ev E (d + 1) mi_140 0 [some (.inr (.inr (some (7, c)))), some (.inl a0)] [] (mem E mu la) (qI E Q)
  refine Ev.steps 1 (ip' := 1) (ls' := [some (.inr (.inr (some (7, c)))), some (.inl a0)]) (st' := [.inl a0]) (M' := mem E mu la) rfl ?_
  refine Ev.ci (J := mi_135) (as := [.inl a0]) (rest := []) rfl rfl rfl (Nat.le_of_ble_eq_true rfl) h (fun x1 mu2 la3 h => ?_)
  refine Ev.br (c := ¬ x1 = 0) (s1 := (5, [some (.inr (.inr (some (7, c)))), some (.inl a0)], [], mem E mu2 la3)) (s2 := (3, [some (.inr (.inr (some (7, c)))), some (.inl a0)], [], mem E mu2 la3)) rfl rfl rfl rfl (fun hc => ?_) (fun hc => ?_)
  · have h := h.1 hc
    dsimp only
    refine Ev.steps 3 (ip' := 8) (ls' := [some (.inr (.inr (some (7, c)))), some (.inl a0)]) (st' := [.inl a0, .inr (.inr (some (29, c)))]) (M' := mem E mu2 la3) rfl ?_
    refine Ev.ial rfl rfl (by decide) h.1 ?_
    have h := h.2
    refine Ev.br (c := 0 ≤ (mu2 29 c a0.toNatClampNeg)) (s1 := (14, [some (.inr (.inr (some (7, c)))), some (.inl a0)], [], mem E mu2 la3)) (s2 := (10, [some (.inr (.inr (some (7, c)))), some (.inl a0)], [], mem E mu2 la3)) rfl rfl rfl rfl (fun hc => ?_) (fun hc => ?_)
    · have h := h.1 hc
      dsimp only
      refine Ev.steps 4 (ip' := 18) (ls' := [some (.inr (.inr (some (7, c)))), some (.inl a0)]) (st' := [.inl (-1 : Int32), .inl a0, .inr (.inr (some (29, c)))]) (M' := mem E mu2 la3) rfl ?_
      refine Ev.ias rfl rfl h.1 ?_
      have h := h.2
      generalize hgmu4 : up3 mu2 29 c a0.toNatClampNeg (-1 : Int32) = mu4
      have h := h mu4 hgmu4.symm
      refine Ev.steps 1 (ip' := 20) (ls' := [some (.inr (.inr (some (7, c)))), some (.inl a0)]) (st' := [.inl (1 : Int32)]) (M' := mem E mu4 la3) rfl ?_
      exact Ev.ret rfl rfl ⟨_, _, _, rfl, rfl, h⟩
    · have h := h.2 hc
      dsimp only
      refine Ev.steps 2 (ip' := 12) (ls' := [some (.inr (.inr (some (7, c)))), some (.inl a0)]) (st' := [.inl (1 : Int32), .inr (.inr (some (7, c)))]) (M' := mem E mu2 la3) rfl ?_
      refine Ev.ci (J := mi_132) (as := [.inr (.inr (some (7, c))), .inl (1 : Int32)]) (rest := []) rfl rfl rfl (Nat.le_of_ble_eq_true rfl) h (fun x5 mu6 la7 h => ?_)
      exact Ev.ret rfl rfl ⟨_, _, _, rfl, rfl, h⟩
  · have h := h.2 hc
    dsimp only
    refine Ev.steps 1 (ip' := 4) (ls' := [some (.inr (.inr (some (7, c)))), some (.inl a0)]) (st' := [.inl (-1 : Int32)]) (M' := mem E mu2 la3) rfl ?_
    exact Ev.ret rfl rfl ⟨_, _, _, rfl, rfl, h⟩
set_option maxRecDepth 100000 in
/-- AnnCupsModel.copy(IIIII)I -/
theorem vc_X7_copy {E : mEv} {d : Nat} {c : Nat} (a0 : Int32) (a1 : Int32) (a2 : Int32) (a3 : Int32) (a4 : Int32) {mu : fMu} {la : fLa} {Q : Int32 → fMu → fLa → Prop} (h : FnI E d mi_135 [.inl a0] mu la (fun x1 mu2 la3 => (x1 = 0 → (Q (-1 : Int32) mu2 la3)) ∧ (¬ (x1 = 0) → (FnI E d mi_135 [.inl a2] mu2 la3 (fun x4 mu5 la6 => (¬ x4 = 0 → ((0 ≤ a4 → (vp_in a0 6 ∧ (((mu5 29 c a0.toNatClampNeg) < 0 → (FnI E d mi_132 [.inr (.inr (some (7, c))), .inl (1 : Int32)] mu5 la6 (fun x7 mu8 la9 => Q x7 mu8 la9))) ∧ (¬ ((mu5 29 c a0.toNatClampNeg) < 0) → (vp_in a2 6 ∧ ((0 ≤ (mu5 29 c a2.toNatClampNeg) → ((a1 < 0 → (FnI E d mi_132 [.inr (.inr (some (7, c))), .inl (2 : Int32)] mu5 la6 (fun x10 mu11 la12 => Q x10 mu11 la12))) ∧ (¬ (a1 < 0) → ((a3 < 0 → (FnI E d mi_132 [.inr (.inr (some (7, c))), .inl (2 : Int32)] mu5 la6 (fun x13 mu14 la15 => Q x13 mu14 la15))) ∧ (¬ (a3 < 0) → (vp_in a0 6 ∧ ((0 < (lg_cmp (a1.toInt64 + a4.toInt64) ((mu5 29 c a0.toNatClampNeg).toInt64)) → (FnI E d mi_132 [.inr (.inr (some (7, c))), .inl (2 : Int32)] mu5 la6 (fun x16 mu17 la18 => Q x16 mu17 la18))) ∧ (¬ (0 < (lg_cmp (a1.toInt64 + a4.toInt64) ((mu5 29 c a0.toNatClampNeg).toInt64))) → (vp_in a2 6 ∧ (((lg_cmp (a3.toInt64 + a4.toInt64) ((mu5 29 c a2.toNatClampNeg).toInt64)) ≤ 0 → (Ev E (d + 1) mi_141 62 [some (.inr (.inr (some (7, c)))), some (.inl a0), some (.inl a1), some (.inl a2), some (.inl a3), some (.inl a4), some (.inl (0 : Int32)), none] [] (mem E mu5 la6) (qI E Q))) ∧ (¬ ((lg_cmp (a3.toInt64 + a4.toInt64) ((mu5 29 c a2.toNatClampNeg).toInt64)) ≤ 0) → (FnI E d mi_132 [.inr (.inr (some (7, c))), .inl (2 : Int32)] mu5 la6 (fun x19 mu20 la21 => Q x19 mu20 la21))))))))))))) ∧ (¬ (0 ≤ (mu5 29 c a2.toNatClampNeg)) → (FnI E d mi_132 [.inr (.inr (some (7, c))), .inl (1 : Int32)] mu5 la6 (fun x22 mu23 la24 => Q x22 mu23 la24))))))))) ∧ (¬ (0 ≤ a4) → (FnI E d mi_132 [.inr (.inr (some (7, c))), .inl (5 : Int32)] mu5 la6 (fun x25 mu26 la27 => Q x25 mu26 la27))))) ∧ (¬ (¬ x4 = 0) → (Q (-1 : Int32) mu5 la6))))))) : FnI E (d + 1) mi_141 [.inr (.inr (some (7, c))), .inl a0, .inl a1, .inl a2, .inl a3, .inl a4] mu la Q := by
  unfold FnI
  show Ev E (d + 1) mi_141 0 [some (.inr (.inr (some (7, c)))), some (.inl a0), some (.inl a1), some (.inl a2), some (.inl a3), some (.inl a4), none, none] [] (mem E mu la) (qI E Q)
  refine Ev.steps 1 (ip' := 1) (ls' := [some (.inr (.inr (some (7, c)))), some (.inl a0), some (.inl a1), some (.inl a2), some (.inl a3), some (.inl a4), none, none]) (st' := [.inl a0]) (M' := mem E mu la) rfl ?_
  refine Ev.ci (J := mi_135) (as := [.inl a0]) (rest := []) rfl rfl rfl (Nat.le_of_ble_eq_true rfl) h (fun x1 mu2 la3 h => ?_)
  refine Ev.br (c := x1 = 0) (s1 := (6, [some (.inr (.inr (some (7, c)))), some (.inl a0), some (.inl a1), some (.inl a2), some (.inl a3), some (.inl a4), none, none], [], mem E mu2 la3)) (s2 := (3, [some (.inr (.inr (some (7, c)))), some (.inl a0), some (.inl a1), some (.inl a2), some (.inl a3), some (.inl a4), none, none], [], mem E mu2 la3)) rfl rfl rfl rfl (fun hc => ?_) (fun hc => ?_)
  · have h := h.1 hc
    dsimp only
    refine Ev.steps 1 (ip' := 7) (ls' := [some (.inr (.inr (some (7, c)))), some (.inl a0), some (.inl a1), some (.inl a2), some (.inl a3), some (.inl a4), none, none]) (st' := [.inl (-1 : Int32)]) (M' := mem E mu2 la3) rfl ?_
    exact Ev.ret rfl rfl ⟨_, _, _, rfl, rfl, h⟩
  · have h := h.2 hc
    dsimp only
    refine Ev.steps 1 (ip' := 4) (ls' := [some (.inr (.inr (some (7, c)))), some (.inl a0), some (.inl a1), some (.inl a2), some (.inl a3), some (.inl a4), none, none]) (st' := [.inl a2]) (M' := mem E mu2 la3) rfl ?_
    refine Ev.ci (J := mi_135) (as := [.inl a2]) (rest := []) rfl rfl rfl (Nat.le_of_ble_eq_true rfl) h (fun x4 mu5 la6 h => ?_)
    refine Ev.br (c := ¬ x4 = 0) (s1 := (8, [some (.inr (.inr (some (7, c)))), some (.inl a0), some (.inl a1), some (.inl a2), some (.inl a3), some (.inl a4), none, none], [], mem E mu5 la6)) (s2 := (6, [some (.inr (.inr (some (7, c)))), some (.inl a0), some (.inl a1), some (.inl a2), some (.inl a3), some (.inl a4), none, none], [], mem E mu5 la6)) rfl rfl rfl rfl (fun hc => ?_) (fun hc => ?_)
    · have h := h.1 hc
      dsimp only
      refine Ev.steps 1 (ip' := 9) (ls' := [some (.inr (.inr (some (7, c)))), some (.inl a0), some (.inl a1), some (.inl a2), some (.inl a3), some (.inl a4), none, none]) (st' := [.inl a4]) (M' := mem E mu5 la6) rfl ?_
      refine Ev.br (c := 0 ≤ a4) (s1 := (14, [some (.inr (.inr (some (7, c)))), some (.inl a0), some (.inl a1), some (.inl a2), some (.inl a3), some (.inl a4), none, none], [], mem E mu5 la6)) (s2 := (10, [some (.inr (.inr (some (7, c)))), some (.inl a0), some (.inl a1), some (.inl a2), some (.inl a3), some (.inl a4), none, none], [], mem E mu5 la6)) rfl rfl rfl rfl (fun hc => ?_) (fun hc => ?_)
      · have h := h.1 hc
        dsimp only
        refine Ev.steps 3 (ip' := 17) (ls' := [some (.inr (.inr (some (7, c)))), some (.inl a0), some (.inl a1), some (.inl a2), some (.inl a3), some (.inl a4), none, none]) (st' := [.inl a0, .inr (.inr (some (29, c)))]) (M' := mem E mu5 la6) rfl ?_
        refine Ev.ial rfl rfl (by decide) h.1 ?_
        have h := h.2
        refine Ev.br (c := (mu5 29 c a0.toNatClampNeg) < 0) (s1 := (24, [some (.inr (.inr (some (7, c)))), some (.inl a0), some (.inl a1), some (.inl a2), some (.inl a3), some (.inl a4), none, none], [], mem E mu5 la6)) (s2 := (19, [some (.inr (.inr (some (7, c)))), some (.inl a0), some (.inl a1), some (.inl a2), some (.inl a3), some (.inl a4), none, none], [], mem E mu5 la6)) rfl rfl rfl rfl (fun hc => ?_) (fun hc => ?_)
        · have h := h.1 hc
          dsimp only
          refine Ev.steps 2 (ip' := 26) (ls' := [some (.inr (.inr (some (7, c)))), some (.inl a0), some (.inl a1), some (.inl a2), some (.inl a3), some (.inl a4), none, none]) (st' := [.inl (1 : Int32), .inr (.inr (some (7, c)))]) (M' := mem E mu5 la6) rfl ?_
          refine Ev.ci (J := mi_132) (as := [.inr (.inr (some (7, c))), .inl (1 : Int32)]) (rest := []) rfl rfl rfl (Nat.le_of_ble_eq_true rfl) h (fun x7 mu8 la9 h => ?_)
          exact Ev.ret rfl rfl ⟨_, _, _, rfl, rfl, h⟩
        · have h := h.2 hc
          dsimp only
          refine Ev.steps 3 (ip' := 22) (ls' := [some (.inr (.inr (some (7, c)))), some (.inl a0), some (.inl a1), some (.inl a2), some (.inl a3), some (.inl a4), none, none]) (st' := [.inl a2, .inr (.inr (some (29, c)))]) (M' := mem E mu5 la6) rfl ?_
          refine Ev.ial rfl rfl (by decide) h.1 ?_
          have h := h.2
          refine Ev.br (c := 0 ≤ (mu5 29 c a2.toNatClampNeg)) (s1 := (28, [some (.inr (.inr (some (7, c)))), some (.inl a0), some (.inl a1), some (.inl a2), some (.inl a3), some (.inl a4), none, none], [], mem E mu5 la6)) (s2 := (24, [some (.inr (.inr (some (7, c)))), some (.inl a0), some (.inl a1), some (.inl a2), some (.inl a3), some (.inl a4), none, none], [], mem E mu5 la6)) rfl rfl rfl rfl (fun hc => ?_) (fun hc => ?_)
          · have h := h.1 hc
            dsimp only
            refine Ev.steps 1 (ip' := 29) (ls' := [some (.inr (.inr (some (7, c)))), some (.inl a0), some (.inl a1), some (.inl a2), some (.inl a3), some (.inl a4), none, none]) (st' := [.inl a1]) (M' := mem E mu5 la6) rfl ?_
            refine Ev.br (c := a1 < 0) (s1 := (56, [some (.inr (.inr (some (7, c)))), some (.inl a0), some (.inl a1), some (.inl a2), some (.inl a3), some (.inl a4), none, none], [], mem E mu5 la6)) (s2 := (30, [some (.inr (.inr (some (7, c)))), some (.inl a0), some (.inl a1), some (.inl a2), some (.inl a3), some (.inl a4), none, none], [], mem E mu5 la6)) rfl rfl rfl rfl (fun hc => ?_) (fun hc => ?_)
            · have h := h.1 hc
              dsimp only
              refine Ev.steps 2 (ip' := 58) (ls' := [some (.inr (.inr (some (7, c)))), some (.inl a0), some (.inl a1), some (.inl a2), some (.inl a3), some (.inl a4), none, none]) (st' := [.inl (2 : Int32), .inr (.inr (some (7, c)))]) (M' := mem E mu5 la6) rfl ?_
              refine Ev.ci (J := mi_132) (as := [.inr (.inr (some (7, c))), .inl (2 : Int32)]) (rest := []) rfl rfl rfl (Nat.le_of_ble_eq_true rfl) h (fun x10 mu11 la12 h => ?_)
              exact Ev.ret rfl rfl ⟨_, _, _, rfl, rfl, h⟩
            · have h := h.2 hc
              dsimp only
              refine Ev.steps 1 (ip' := 31) (ls' := [some (.inr (.inr (some (7, c)))), some (.inl a0), some (.inl a1), some (.inl a2), some (.inl a3), some (.inl a4), none, none]) (st' := [.inl a3]) (M' := mem E mu5 la6) rfl ?_
              refine Ev.br (c := a3 < 0) (s1 := (56, [some (.inr (.inr (some (7, c)))), some (.inl a0), some (.inl a1), some (.inl a2), some (.inl a3), some (.inl a4), none, none], [], mem E mu5 la6)) (s2 := (32, [some (.inr (.inr (some (7, c)))), some (.inl a0), some (.inl a1), some (.inl a2), some (.inl a3), some (.inl a4), none, none], [], mem E mu5 la6)) rfl rfl rfl rfl (fun hc => ?_) (fun hc => ?_)
              · have h := h.1 hc
                dsimp only
                refine Ev.steps 2 (ip' := 58) (ls' := [some (.inr (.inr (some (7, c)))), some (.inl a0), some (.inl a1), some (.inl a2), some (.inl a3), some (.inl a4), none, none]) (st' := [.inl (2 : Int32), .inr (.inr (some (7, c)))]) (M' := mem E mu5 la6) rfl ?_
                refine Ev.ci (J := mi_132) (as := [.inr (.inr (some (7, c))), .inl (2 : Int32)]) (rest := []) rfl rfl rfl (Nat.le_of_ble_eq_true rfl) h (fun x13 mu14 la15 h => ?_)
                exact Ev.ret rfl rfl ⟨_, _, _, rfl, rfl, h⟩
              · have h := h.2 hc
                dsimp only
                refine Ev.steps 8 (ip' := 40) (ls' := [some (.inr (.inr (some (7, c)))), some (.inl a0), some (.inl a1), some (.inl a2), some (.inl a3), some (.inl a4), none, none]) (st' := [.inl a0, .inr (.inr (some (29, c))), .inr (.inl (a1.toInt64 + a4.toInt64))]) (M' := mem E mu5 la6) rfl ?_
                refine Ev.ial rfl rfl (by decide) h.1 ?_
                have h := h.2
                refine Ev.steps 2 (ip' := 43) (ls' := [some (.inr (.inr (some (7, c)))), some (.inl a0), some (.inl a1), some (.inl a2), some (.inl a3), some (.inl a4), none, none]) (st' := [.inl (lg_cmp (a1.toInt64 + a4.toInt64) ((mu5 29 c a0.toNatClampNeg).toInt64))]) (M' := mem E mu5 la6) rfl ?_
                refine Ev.br (c := 0 < (lg_cmp (a1.toInt64 + a4.toInt64) ((mu5 29 c a0.toNatClampNeg).toInt64))) (s1 := (56, [some (.inr (.inr (some (7, c)))), some (.inl a0), some (.inl a1), some (.inl a2), some (.inl a3), some (.inl a4), none, none], [], mem E mu5 la6)) (s2 := (44, [some (.inr (.inr (some (7, c)))), some (.inl a0), some (.inl a1), some (.inl a2), some (.inl a3), some (.inl a4), none, none], [], mem E mu5 la6)) rfl rfl rfl rfl (fun hc => ?_) (fun hc => ?_)
                · have h := h.1 hc
                  dsimp only
                  refine Ev.steps 2 (ip' := 58) (ls' := [some (.inr (.inr (some (7, c)))), some (.inl a0), some (.inl a1), some (.inl a2), some (.inl a3), some (.inl a4), none, none]) (st' := [.inl (2 : Int32), .inr (.inr (some (7, c)))]) (M' := mem E mu5 la6) rfl ?_
                  refine Ev.ci (J := mi_132) (as := [.inr (.inr (some (7, c))), .inl (2 : Int32)]) (rest := []) rfl rfl rfl (Nat.le_of_ble_eq_true rfl) h (fun x16 mu17 la18 h => ?_)
                  exact Ev.ret rfl rfl ⟨_, _, _, rfl, rfl, h⟩
                · have h := h.2 hc
                  dsimp only
                  refine Ev.steps 8 (ip' := 52) (ls' := [some (.inr (.inr (some (7, c)))), some (.inl a0), some (.inl a1), some (.inl a2), some (.inl a3), some (.inl a4), none, none]) (st' := [.inl a2, .inr (.inr (some (29, c))), .inr (.inl (a3.toInt64 + a4.toInt64))]) (M' := mem E mu5 la6) rfl ?_
                  refine Ev.ial rfl rfl (by decide) h.1 ?_
                  have h := h.2
                  refine Ev.steps 2 (ip' := 55) (ls' := [some (.inr (.inr (some (7, c)))), some (.inl a0), some (.inl a1), some (.inl a2), some (.inl a3), some (.inl a4), none, none]) (st' := [.inl (lg_cmp (a3.toInt64 + a4.toInt64) ((mu5 29 c a2.toNatClampNeg).toInt64))]) (M' := mem E mu5 la6) rfl ?_
                  refine Ev.br (c := (lg_cmp (a3.toInt64 + a4.toInt64) ((mu5 29 c a2.toNatClampNeg).toInt64)) ≤ 0) (s1 := (60, [some (.inr (.inr (some (7, c)))), some (.inl a0), some (.inl a1), some (.inl a2), some (.inl a3), some (.inl a4), none, none], [], mem E mu5 la6)) (s2 := (56, [some (.inr (.inr (some (7, c)))), some (.inl a0), some (.inl a1), some (.inl a2), some (.inl a3), some (.inl a4), none, none], [], mem E mu5 la6)) rfl rfl rfl rfl (fun hc => ?_) (fun hc => ?_)
                  · have h := h.1 hc
                    dsimp only
                    refine Ev.steps 2 (ip' := 62) (ls' := [some (.inr (.inr (some (7, c)))), some (.inl a0), some (.inl a1), some (.inl a2), some (.inl a3), some (.inl a4), some (.inl (0 : Int32)), none]) (st' := []) (M' := mem E mu5 la6) rfl ?_
                    exact h
                  · have h := h.2 hc
                    dsimp only
                    refine Ev.steps 2 (ip' := 58) (ls' := [some (.inr (.inr (some (7, c)))), some (.inl a0), some (.inl a1), some (.inl a2), some (.inl a3), some (.inl a4), none, none]) (st' := [.inl (2 : Int32), .inr (.inr (some (7, c)))]) (M' := mem E mu5 la6) rfl ?_
                    refine Ev.ci (J := mi_132) (as := [.inr (.inr (some (7, c))), .inl (2 : Int32)]) (rest := []) rfl rfl rfl (Nat.le_of_ble_eq_true rfl) h (fun x19 mu20 la21 h => ?_)
                    exact Ev.ret rfl rfl ⟨_, _, _, rfl, rfl, h⟩
          · have h := h.2 hc
            dsimp only
            refine Ev.steps 2 (ip' := 26) (ls' := [some (.inr (.inr (some (7, c)))), some (.inl a0), some (.inl a1), some (.inl a2), some (.inl a3), some (.inl a4), none, none]) (st' := [.inl (1 : Int32), .inr (.inr (some (7, c)))]) (M' := mem E mu5 la6) rfl ?_
            refine Ev.ci (J := mi_132) (as := [.inr (.inr (some (7, c))), .inl (1 : Int32)]) (rest := []) rfl rfl rfl (Nat.le_of_ble_eq_true rfl) h (fun x22 mu23 la24 h => ?_)
            exact Ev.ret rfl rfl ⟨_, _, _, rfl, rfl, h⟩
      · have h := h.2 hc
        dsimp only
        refine Ev.steps 2 (ip' := 12) (ls' := [some (.inr (.inr (some (7, c)))), some (.inl a0), some (.inl a1), some (.inl a2), some (.inl a3), some (.inl a4), none, none]) (st' := [.inl (5 : Int32), .inr (.inr (some (7, c)))]) (M' := mem E mu5 la6) rfl ?_
        refine Ev.ci (J := mi_132) (as := [.inr (.inr (some (7, c))), .inl (5 : Int32)]) (rest := []) rfl rfl rfl (Nat.le_of_ble_eq_true rfl) h (fun x25 mu26 la27 h => ?_)
        exact Ev.ret rfl rfl ⟨_, _, _, rfl, rfl, h⟩
    · have h := h.2 hc
      dsimp only
      refine Ev.steps 1 (ip' := 7) (ls' := [some (.inr (.inr (some (7, c)))), some (.inl a0), some (.inl a1), some (.inl a2), some (.inl a3), some (.inl a4), none, none]) (st' := [.inl (-1 : Int32)]) (M' := mem E mu5 la6) rfl ?_
      exact Ev.ret rfl rfl ⟨_, _, _, rfl, rfl, h⟩
set_option maxRecDepth 100000 in
theorem vc_X7_copy_62 {E : mEv} {d : Nat}  (v0 : Nat) (v1 : Int32) (v2 : Int32) (v3 : Int32) (v4 : Int32) (v5 : Int32) (v6 : Int32) {mu : fMu} {la : fLa} {Q : Int32 → fMu → fLa → Prop} (h : (v5 ≤ v6 → (Q (1 : Int32) mu la)) ∧ (¬ (v5 ≤ v6) → ((v4 ≤ v2 → (vp_in ((((40 : Int32) * v1) + v2) + v6) 240 ∧ (vp_in ((((40 : Int32) * v3) + v4) + v6) 240 ∧ ∀ mu28 : fMu, mu28 = up3 mu 30 v0 ((((40 : Int32) * v3) + v4) + v6).toNatClampNeg (mu 30 v0 ((((40 : Int32) * v1) + v2) + v6).toNatClampNeg) → (Ev E (d + 1) mi_141 62 [some (.inr (.inr (some (7, v0)))), some (.inl v1), some (.inl v2), some (.inl v3), some (.inl v4), some (.inl v5), some (.inl (v6 + (1 : Int32))), none] [] (mem E mu28 la) (qI E Q))))) ∧ (¬ (v4 ≤ v2) → (vp_in ((((40 : Int32) * v1) + v2) + ((v5 - (1 : Int32)) - v6)) 240 ∧ (vp_in ((((40 : Int32) * v3) + v4) + ((v5 - (1 : Int32)) - v6)) 240 ∧ ∀ mu29 : fMu, mu29 = up3 mu 30 v0 ((((40 : Int32) * v3) + v4) + ((v5 - (1 : Int32)) - v6)).toNatClampNeg (mu 30 v0 ((((40 : Int32) * v1) + v2) + ((v5 - (1 : Int32)) - v6)).toNatClampNeg) → (Ev E (d + 1) mi_141 62 [some (.inr (.inr (some (7, v0)))), some (.inl v1), some (.inl v2), some (.inl v3), some (.inl v4), some (.inl v5), some (.inl (v6 + (1 : Int32))), none] [] (mem E mu29 la) (qI E Q)))))))) : Ev E (d + 1) mi_141 62 [some (.inr (.inr (some (7, v0)))), some (.inl v1), some (.inl v2), some (.inl v3), some (.inl v4), some (.inl v5), some (.inl v6), none] [] (mem E mu la) (qI E Q) := by
  refine Ev.steps 2 (ip' := 64) (ls' := [some (.inr (.inr (some (7, v0)))), some (.inl v1), some (.inl v2), some (.inl v3), some (.inl v4), some (.inl v5), some (.inl v6), none]) (st' := [.inl v5, .inl v6]) (M' := mem E mu la) rfl ?_
  refine Ev.br (c := v5 ≤ v6) (s1 := (98, [some (.inr (.inr (some (7, v0)))), some (.inl v1), some (.inl v2), some (.inl v3), some (.inl v4), some (.inl v5), some (.inl v6), none], [], mem E mu la)) (s2 := (65, [some (.inr (.inr (some (7, v0)))), some (.inl v1), some (.inl v2), some (.inl v3), some (.inl v4), some (.inl v5), some (.inl v6), none], [], mem E mu la)) rfl rfl rfl rfl (fun hc => ?_) (fun hc => ?_)
  · have h := h.1 hc
    dsimp only
    refine Ev.steps 1 (ip' := 99) (ls' := [some (.inr (.inr (some (7, v0)))), some (.inl v1), some (.inl v2), some (.inl v3), some (.inl v4), some (.inl v5), some (.inl v6), none]) (st' := [.inl (1 : Int32)]) (M' := mem E mu la) rfl ?_
    exact Ev.ret rfl rfl ⟨_, _, _, rfl, rfl, h⟩
  · have h := h.2 hc
    dsimp only
    refine Ev.steps 2 (ip' := 67) (ls' := [some (.inr (.inr (some (7, v0)))), some (.inl v1), some (.inl v2), some (.inl v3), some (.inl v4), some (.inl v5), some (.inl v6), none]) (st' := [.inl v2, .inl v4]) (M' := mem E mu la) rfl ?_
    refine Ev.br (c := v4 ≤ v2) (s1 := (74, [some (.inr (.inr (some (7, v0)))), some (.inl v1), some (.inl v2), some (.inl v3), some (.inl v4), some (.inl v5), some (.inl v6), none], [], mem E mu la)) (s2 := (68, [some (.inr (.inr (some (7, v0)))), some (.inl v1), some (.inl v2), some (.inl v3), some (.inl v4), some (.inl v5), some (.inl v6), none], [], mem E mu la)) rfl rfl rfl rfl (fun hc => ?_) (fun hc => ?_)
    · have h := h.1 hc
      dsimp only
      refine Ev.steps 20 (ip' := 94) (ls' := [some (.inr (.inr (some (7, v0)))), some (.inl v1), some (.inl v2), some (.inl v3), some (.inl v4), some (.inl v5), some (.inl v6), some (.inl v6)]) (st' := [.inl ((((40 : Int32) * v1) + v2) + v6), .inr (.inr (some (30, v0))), .inl ((((40 : Int32) * v3) + v4) + v6), .inr (.inr (some (30, v0)))]) (M' := mem E mu la) rfl ?_
      refine Ev.ial rfl rfl (by decide) h.1 ?_
      have h := h.2
      refine Ev.ias rfl rfl h.1 ?_
      have h := h.2
      generalize hgmu28 : up3 mu 30 v0 ((((40 : Int32) * v3) + v4) + v6).toNatClampNeg (mu 30 v0 ((((40 : Int32) * v1) + v2) + v6).toNatClampNeg) = mu28
      have h := h mu28 hgmu28.symm
      refine Ev.steps 2 (ip' := 62) (ls' := [some (.inr (.inr (some (7, v0)))), some (.inl v1), some (.inl v2), some (.inl v3), some (.inl v4), some (.inl v5), some (.inl (v6 + (1 : Int32))), some (.inl v6)]) (st' := []) (M' := mem E mu28 la) rfl ?_
      refine Ev.drop (ls := [some (.inr (.inr (some (7, v0)))), some (.inl v1), some (.inl v2), some (.inl v3), some (.inl v4), some (.inl v5), some (.inl (v6 + (1 : Int32))), none]) ⟨Or.inr rfl, Or.inr rfl, Or.inr rfl, Or.inr rfl, Or.inr rfl, Or.inr rfl, Or.inr rfl, Or.inl rfl, trivial⟩ ?_
      exact h
    · have h := h.2 hc
      dsimp only
      refine Ev.steps 25 (ip' := 94) (ls' := [some (.inr (.inr (some (7, v0)))), some (.inl v1), some (.inl v2), some (.inl v3), some (.inl v4), some (.inl v5), some (.inl v6), some (.inl ((v5 - (1 : Int32)) - v6))]) (st' := [.inl ((((40 : Int32) * v1) + v2) + ((v5 - (1 : Int32)) - v6)), .inr (.inr (some (30, v0))), .inl ((((40 : Int32) * v3) + v4) + ((v5 - (1 : Int32)) - v6)), .inr (.inr (some (30, v0)))]) (M' := mem E mu la) rfl ?_
      refine Ev.ial rfl rfl (by decide) h.1 ?_
      have h := h.2
      refine Ev.ias rfl rfl h.1 ?_
      have h := h.2
      generalize hgmu29 : up3 mu 30 v0 ((((40 : Int32) * v3) + v4) + ((v5 - (1 : Int32)) - v6)).toNatClampNeg (mu 30 v0 ((((40 : Int32) * v1) + v2) + ((v5 - (1 : Int32)) - v6)).toNatClampNeg) = mu29
      have h := h mu29 hgmu29.symm
      refine Ev.steps 2 (ip' := 62) (ls' := [some (.inr (.inr (some (7, v0)))), some (.inl v1), some (.inl v2), some (.inl v3), some (.inl v4), some (.inl v5), some (.inl (v6 + (1 : Int32))), some (.inl ((v5 - (1 : Int32)) - v6))]) (st' := []) (M' := mem E mu29 la) rfl ?_
      refine Ev.drop (ls := [some (.inr (.inr (some (7, v0)))), some (.inl v1), some (.inl v2), some (.inl v3), some (.inl v4), some (.inl v5), some (.inl (v6 + (1 : Int32))), none]) ⟨Or.inr rfl, Or.inr rfl, Or.inr rfl, Or.inr rfl, Or.inr rfl, Or.inr rfl, Or.inr rfl, Or.inl rfl, trivial⟩ ?_
      exact h
