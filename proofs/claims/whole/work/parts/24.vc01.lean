set_option maxRecDepth 100000 in
/-- AnnCups.Row.layAnew(I)V -/
theorem vc_X3_layAnew {E : mEv} {d : Nat} {c : Nat} (a0 : Int32) {mu : fMu} {la : fLa} {Q : fMu → fLa → Prop} (h : ∀ mu1 : fMu, mu1 = up3 mu 3 c 0 a0 → (FnV E d mi_228 [.inr (.inr (some (21, c))), .inl (0 : Int32)] mu1 la (fun mu3 la4 => Q mu3 la4))) : FnV E (d + 1) mi_27 [.inr (.inr (some (3, c))), .inl a0] mu la Q := by
  unfold FnV
  show Ev E (d + 1) mi_27 0 [some (.inr (.inr (some (3, c)))), some (.inl a0)] [] (mem E mu la) (qV E Q)
  refine Ev.steps 3 (ip' := 3) (ls' := [some (.inr (.inr (some (3, c)))), some (.inl a0)]) (st' := []) (M' := mem E (up3 mu 3 c 0 a0) la) rfl ?_
  generalize hgmu1 : up3 mu 3 c 0 a0 = mu1
  have h := h mu1 hgmu1.symm
  refine Ev.steps 3 (ip' := 6) (ls' := [some (.inr (.inr (some (3, c)))), some (.inl a0)]) (st' := [.inl (0 : Int32), .inr (.inr (some (21, c)))]) (M' := mem E mu1 la) rfl ?_
  refine Ev.cv (J := mi_228) (as := [.inr (.inr (some (21, c))), .inl (0 : Int32)]) (rest := []) rfl rfl rfl (Nat.le_of_ble_eq_true rfl) h (fun mu3 la4 h => ?_)
  exact Ev.ret rfl rfl ⟨_, _, rfl, rfl, h⟩
set_option maxRecDepth 100000 in
/-- AnnCups.Row.hasPlace(I)Z -/
theorem vc_X3_hasPlace {E : mEv} {d : Nat} {c : Nat} (a0 : Int32) {mu : fMu} {la : fLa} {Q : Int32 → fMu → fLa → Prop} (h : (a0 < 0 → (Q (0 : Int32) mu la)) ∧ (¬ (a0 < 0) → (((mu 3 c 0) ≤ a0 → (Q (0 : Int32) mu la)) ∧ (¬ ((mu 3 c 0) ≤ a0) → (Q (1 : Int32) mu la))))) : FnI E d mi_28 [.inr (.inr (some (3, c))), .inl a0] mu la Q := by
  unfold FnI
  show Ev E d mi_28 0 [some (.inr (.inr (some (3, c)))), some (.inl a0)] [] (mem E mu la) (qI E Q)
  refine Ev.steps 1 (ip' := 1) (ls' := [some (.inr (.inr (some (3, c)))), some (.inl a0)]) (st' := [.inl a0]) (M' := mem E mu la) rfl ?_
  refine Ev.br (c := a0 < 0) (s1 := (8, [some (.inr (.inr (some (3, c)))), some (.inl a0)], [], mem E mu la)) (s2 := (2, [some (.inr (.inr (some (3, c)))), some (.inl a0)], [], mem E mu la)) rfl rfl rfl rfl (fun hc => ?_) (fun hc => ?_)
  · have h := h.1 hc
    dsimp only
    refine Ev.steps 1 (ip' := 9) (ls' := [some (.inr (.inr (some (3, c)))), some (.inl a0)]) (st' := [.inl (0 : Int32)]) (M' := mem E mu la) rfl ?_
    exact Ev.retZ rfl rfl (Or.inl rfl) ⟨_, _, _, rfl, rfl, h⟩
  · have h := h.2 hc
    dsimp only
    refine Ev.steps 3 (ip' := 5) (ls' := [some (.inr (.inr (some (3, c)))), some (.inl a0)]) (st' := [.inl (mu 3 c 0), .inl a0]) (M' := mem E mu la) rfl ?_
    refine Ev.br (c := (mu 3 c 0) ≤ a0) (s1 := (8, [some (.inr (.inr (some (3, c)))), some (.inl a0)], [], mem E mu la)) (s2 := (6, [some (.inr (.inr (some (3, c)))), some (.inl a0)], [], mem E mu la)) rfl rfl rfl rfl (fun hc => ?_) (fun hc => ?_)
    · have h := h.1 hc
      dsimp only
      refine Ev.steps 1 (ip' := 9) (ls' := [some (.inr (.inr (some (3, c)))), some (.inl a0)]) (st' := [.inl (0 : Int32)]) (M' := mem E mu la) rfl ?_
      exact Ev.retZ rfl rfl (Or.inl rfl) ⟨_, _, _, rfl, rfl, h⟩
    · have h := h.2 hc
      dsimp only
      refine Ev.steps 2 (ip' := 9) (ls' := [some (.inr (.inr (some (3, c)))), some (.inl a0)]) (st' := [.inl (1 : Int32)]) (M' := mem E mu la) rfl ?_
      exact Ev.retZ rfl rfl (Or.inr rfl) ⟨_, _, _, rfl, rfl, h⟩
set_option maxRecDepth 100000 in
/-- AnnCups.Row.hasPlaces(II)Z -/
theorem vc_X3_hasPlaces {E : mEv} {d : Nat} {c : Nat} (a0 : Int32) (a1 : Int32) {mu : fMu} {la : fLa} {Q : Int32 → fMu → fLa → Prop} (h : (a0 < 0 → (Q (0 : Int32) mu la)) ∧ (¬ (a0 < 0) → (((mu 3 c 0) < a0 → (Q (0 : Int32) mu la)) ∧ (¬ ((mu 3 c 0) < a0) → ((((mu 3 c 0) - a0) < a1 → (Q (0 : Int32) mu la)) ∧ (¬ (((mu 3 c 0) - a0) < a1) → (Q (1 : Int32) mu la))))))) : FnI E d mi_29 [.inr (.inr (some (3, c))), .inl a0, .inl a1] mu la Q := by
  unfold FnI
  show Ev E d mi_29 0 [some (.inr (.inr (some (3, c)))), some (.inl a0), some (.inl a1)] [] (mem E mu la) (qI E Q)
  refine Ev.steps 1 (ip' := 1) (ls' := [some (.inr (.inr (some (3, c)))), some (.inl a0), some (.inl a1)]) (st' := [.inl a0]) (M' := mem E mu la) rfl ?_
  refine Ev.br (c := a0 < 0) (s1 := (14, [some (.inr (.inr (some (3, c)))), some (.inl a0), some (.inl a1)], [], mem E mu la)) (s2 := (2, [some (.inr (.inr (some (3, c)))), some (.inl a0), some (.inl a1)], [], mem E mu la)) rfl rfl rfl rfl (fun hc => ?_) (fun hc => ?_)
  · have h := h.1 hc
    dsimp only
    refine Ev.steps 1 (ip' := 15) (ls' := [some (.inr (.inr (some (3, c)))), some (.inl a0), some (.inl a1)]) (st' := [.inl (0 : Int32)]) (M' := mem E mu la) rfl ?_
    exact Ev.retZ rfl rfl (Or.inl rfl) ⟨_, _, _, rfl, rfl, h⟩
  · have h := h.2 hc
    dsimp only
    refine Ev.steps 3 (ip' := 5) (ls' := [some (.inr (.inr (some (3, c)))), some (.inl a0), some (.inl a1)]) (st' := [.inl (mu 3 c 0), .inl a0]) (M' := mem E mu la) rfl ?_
    refine Ev.br (c := (mu 3 c 0) < a0) (s1 := (14, [some (.inr (.inr (some (3, c)))), some (.inl a0), some (.inl a1)], [], mem E mu la)) (s2 := (6, [some (.inr (.inr (some (3, c)))), some (.inl a0), some (.inl a1)], [], mem E mu la)) rfl rfl rfl rfl (fun hc => ?_) (fun hc => ?_)
    · have h := h.1 hc
      dsimp only
      refine Ev.steps 1 (ip' := 15) (ls' := [some (.inr (.inr (some (3, c)))), some (.inl a0), some (.inl a1)]) (st' := [.inl (0 : Int32)]) (M' := mem E mu la) rfl ?_
      exact Ev.retZ rfl rfl (Or.inl rfl) ⟨_, _, _, rfl, rfl, h⟩
    · have h := h.2 hc
      dsimp only
      refine Ev.steps 5 (ip' := 11) (ls' := [some (.inr (.inr (some (3, c)))), some (.inl a0), some (.inl a1)]) (st' := [.inl ((mu 3 c 0) - a0), .inl a1]) (M' := mem E mu la) rfl ?_
      refine Ev.br (c := ((mu 3 c 0) - a0) < a1) (s1 := (14, [some (.inr (.inr (some (3, c)))), some (.inl a0), some (.inl a1)], [], mem E mu la)) (s2 := (12, [some (.inr (.inr (some (3, c)))), some (.inl a0), some (.inl a1)], [], mem E mu la)) rfl rfl rfl rfl (fun hc => ?_) (fun hc => ?_)
      · have h := h.1 hc
        dsimp only
        refine Ev.steps 1 (ip' := 15) (ls' := [some (.inr (.inr (some (3, c)))), some (.inl a0), some (.inl a1)]) (st' := [.inl (0 : Int32)]) (M' := mem E mu la) rfl ?_
        exact Ev.retZ rfl rfl (Or.inl rfl) ⟨_, _, _, rfl, rfl, h⟩
      · have h := h.2 hc
        dsimp only
        refine Ev.steps 2 (ip' := 15) (ls' := [some (.inr (.inr (some (3, c)))), some (.inl a0), some (.inl a1)]) (st' := [.inl (1 : Int32)]) (M' := mem E mu la) rfl ?_
        exact Ev.retZ rfl rfl (Or.inr rfl) ⟨_, _, _, rfl, rfl, h⟩
set_option maxRecDepth 100000 in
/-- AnnCups.Row.mixedInto(J)J -/
theorem vc_X3_mixedInto {E : mEv} {d : Nat} {c : Nat} (a0 : Int64) {mu : fMu} {la : fLa} {Q : Int64 → fMu → fLa → Prop} (h : Ev E d mi_30 10 [some (.inr (.inr (some (3, c)))), none, none, some (.inr (.inl (((31 : Int64) * a0) + ((mu 3 c 0).toInt64)))), none, some (.inl (0 : Int32))] [] (mem E mu la) (qL E Q)) : FnL E d mi_30 [.inr (.inr (some (3, c))), .inr (.inl a0)] mu la Q := by
  unfold FnL
  show Ev E d mi_30 0 [some (.inr (.inr (some (3, c)))), some (.inr (.inl a0)), none, none, none, none] [] (mem E mu la) (qL E Q)
  refine Ev.steps 10 (ip' := 10) (ls' := [some (.inr (.inr (some (3, c)))), some (.inr (.inl a0)), none, some (.inr (.inl (((31 : Int64) * a0) + ((mu 3 c 0).toInt64)))), none, some (.inl (0 : Int32))]) (st' := []) (M' := mem E mu la) rfl ?_
  refine Ev.drop (ls := [some (.inr (.inr (some (3, c)))), none, none, some (.inr (.inl (((31 : Int64) * a0) + ((mu 3 c 0).toInt64)))), none, some (.inl (0 : Int32))]) ⟨Or.inr rfl, Or.inl rfl, Or.inr rfl, Or.inr rfl, Or.inr rfl, Or.inr rfl, trivial⟩ ?_
  exact h
set_option maxRecDepth 100000 in
theorem vc_X3_mixedInto_10 {E : mEv} {d : Nat}  (v0 : Nat) (v3 : Int64) (v5 : Int32) {mu : fMu} {la : fLa} {Q : Int64 → fMu → fLa → Prop} (h : ((mu 3 v0 0) ≤ v5 → (Q v3 mu la)) ∧ (¬ ((mu 3 v0 0) ≤ v5) → (vp_in v5 40 ∧ (Ev E d mi_30 10 [some (.inr (.inr (some (3, v0)))), none, none, some (.inr (.inl (((31 : Int64) * v3) + ((mu 21 v0 v5.toNatClampNeg).toInt64)))), none, some (.inl (v5 + (1 : Int32)))] [] (mem E mu la) (qL E Q))))) : Ev E d mi_30 10 [some (.inr (.inr (some (3, v0)))), none, none, some (.inr (.inl v3)), none, some (.inl v5)] [] (mem E mu la) (qL E Q) := by
  refine Ev.steps 3 (ip' := 13) (ls' := [some (.inr (.inr (some (3, v0)))), none, none, some (.inr (.inl v3)), none, some (.inl v5)]) (st' := [.inl (mu 3 v0 0), .inl v5]) (M' := mem E mu la) rfl ?_
  refine Ev.br (c := (mu 3 v0 0) ≤ v5) (s1 := (26, [some (.inr (.inr (some (3, v0)))), none, none, some (.inr (.inl v3)), none, some (.inl v5)], [], mem E mu la)) (s2 := (14, [some (.inr (.inr (some (3, v0)))), none, none, some (.inr (.inl v3)), none, some (.inl v5)], [], mem E mu la)) rfl rfl rfl rfl (fun hc => ?_) (fun hc => ?_)
  · have h := h.1 hc
    dsimp only
    refine Ev.steps 1 (ip' := 27) (ls' := [some (.inr (.inr (some (3, v0)))), none, none, some (.inr (.inl v3)), none, some (.inl v5)]) (st' := [.inr (.inl v3)]) (M' := mem E mu la) rfl ?_
    exact Ev.ret rfl rfl ⟨_, _, _, rfl, rfl, h⟩
  · have h := h.2 hc
    dsimp only
    refine Ev.steps 6 (ip' := 20) (ls' := [some (.inr (.inr (some (3, v0)))), none, none, some (.inr (.inl v3)), none, some (.inl v5)]) (st' := [.inl v5, .inr (.inr (some (21, v0))), .inr (.inl ((31 : Int64) * v3))]) (M' := mem E mu la) rfl ?_
    refine Ev.ial rfl rfl (by decide) h.1 ?_
    have h := h.2
    refine Ev.steps 5 (ip' := 10) (ls' := [some (.inr (.inr (some (3, v0)))), none, none, some (.inr (.inl (((31 : Int64) * v3) + ((mu 21 v0 v5.toNatClampNeg).toInt64)))), none, some (.inl (v5 + (1 : Int32)))]) (st' := []) (M' := mem E mu la) rfl ?_
    exact h
set_option maxRecDepth 100000 in
/-- AnnCups.Search.findBest(LAnnCups$Counter;I)V -/
theorem vc_X4_findBest {E : mEv} {d : Nat} {c : Nat} (a0 : Nat) (a1 : Int32) {mu : fMu} {la : fLa} {Q : fMu → fLa → Prop} (h : ∀ mu1 : fMu, mu1 = up3 mu 4 c 3 (0 : Int32) → (∀ mu2 : fMu, mu2 = up3 mu1 4 c 4 (0 : Int32) → (∀ mu3 : fMu, mu3 = up3 mu2 4 c 6 (1000000 : Int32) → ((¬ a1 = 0 → (∀ mu4 : fMu, mu4 = up3 mu3 4 c 5 (0 : Int32) → ((¬ a1 = (2 : Int32) → (((mu4 4 c 5) = 0 → (FnV E d mi_39 [.inr (.inr (some (4, c))), .inl (0 : Int32), .inl (mu4 0 a0 3), .inl (mu4 0 a0 1), .inl (mu4 0 a0 2), .inl (mu4 0 a0 1)] mu4 la (fun mu6 la7 => Q mu6 la7))) ∧ (¬ ((mu4 4 c 5) = 0) → (FnV E d mi_39 [.inr (.inr (some (4, c))), .inl (0 : Int32), .inl (mu4 0 a0 3), .inl (mu4 0 a0 1), .inl (mu4 0 a0 2), .inl (0 : Int32)] mu4 la (fun mu9 la10 => Q mu9 la10))))) ∧ (¬ (¬ a1 = (2 : Int32)) → (FnI E d mi_12 [.inr (.inr (some (0, a0)))] mu4 la (fun x11 mu12 la13 => FnV E d mi_40 [.inr (.inr (some (4, c))), .inl (0 : Int32), .inl (mu4 0 a0 3), .inl (mu4 0 a0 4), .inl x11] mu12 la13 (fun mu15 la16 => Q mu15 la16))))))) ∧ (¬ (¬ a1 = 0) → (∀ mu17 : fMu, mu17 = up3 mu3 4 c 5 (1 : Int32) → ((¬ a1 = (2 : Int32) → (((mu17 4 c 5) = 0 → (FnV E d mi_39 [.inr (.inr (some (4, c))), .inl (0 : Int32), .inl (mu17 0 a0 3), .inl (mu17 0 a0 1), .inl (mu17 0 a0 2), .inl (mu17 0 a0 1)] mu17 la (fun mu19 la20 => Q mu19 la20))) ∧ (¬ ((mu17 4 c 5) = 0) → (FnV E d mi_39 [.inr (.inr (some (4, c))), .inl (0 : Int32), .inl (mu17 0 a0 3), .inl (mu17 0 a0 1), .inl (mu17 0 a0 2), .inl (0 : Int32)] mu17 la (fun mu22 la23 => Q mu22 la23))))) ∧ (¬ (¬ a1 = (2 : Int32)) → (FnI E d mi_12 [.inr (.inr (some (0, a0)))] mu17 la (fun x24 mu25 la26 => FnV E d mi_40 [.inr (.inr (some (4, c))), .inl (0 : Int32), .inl (mu17 0 a0 3), .inl (mu17 0 a0 4), .inl x24] mu25 la26 (fun mu28 la29 => Q mu28 la29))))))))))) : FnV E (d + 1) mi_32 [.inr (.inr (some (4, c))), .inr (.inr (some (0, a0))), .inl a1] mu la Q := by
  unfold FnV
  show Ev E (d + 1) mi_32 0 [some (.inr (.inr (some (4, c)))), some (.inr (.inr (some (0, a0)))), some (.inl a1)] [] (mem E mu la) (qV E Q)
  refine Ev.steps 3 (ip' := 3) (ls' := [some (.inr (.inr (some (4, c)))), some (.inr (.inr (some (0, a0)))), some (.inl a1)]) (st' := []) (M' := mem E (up3 mu 4 c 3 (0 : Int32)) la) rfl ?_
  generalize hgmu1 : up3 mu 4 c 3 (0 : Int32) = mu1
  have h := h mu1 hgmu1.symm
  refine Ev.steps 3 (ip' := 6) (ls' := [some (.inr (.inr (some (4, c)))), some (.inr (.inr (some (0, a0)))), some (.inl a1)]) (st' := []) (M' := mem E (up3 mu1 4 c 4 (0 : Int32)) la) rfl ?_
  generalize hgmu2 : up3 mu1 4 c 4 (0 : Int32) = mu2
  have h := h mu2 hgmu2.symm
  refine Ev.steps 3 (ip' := 9) (ls' := [some (.inr (.inr (some (4, c)))), some (.inr (.inr (some (0, a0)))), some (.inl a1)]) (st' := []) (M' := mem E (up3 mu2 4 c 6 (1000000 : Int32)) la) rfl ?_
  generalize hgmu3 : up3 mu2 4 c 6 (1000000 : Int32) = mu3
  have h := h mu3 hgmu3.symm
  refine Ev.steps 2 (ip' := 11) (ls' := [some (.inr (.inr (some (4, c)))), some (.inr (.inr (some (0, a0)))), some (.inl a1)]) (st' := [.inl a1, .inr (.inr (some (4, c)))]) (M' := mem E mu3 la) rfl ?_
  refine Ev.br (c := ¬ a1 = 0) (s1 := (14, [some (.inr (.inr (some (4, c)))), some (.inr (.inr (some (0, a0)))), some (.inl a1)], [.inr (.inr (some (4, c)))], mem E mu3 la)) (s2 := (12, [some (.inr (.inr (some (4, c)))), some (.inr (.inr (some (0, a0)))), some (.inl a1)], [.inr (.inr (some (4, c)))], mem E mu3 la)) rfl rfl rfl rfl (fun hc => ?_) (fun hc => ?_)
  · have h := h.1 hc
    dsimp only
    refine Ev.steps 1 (ip' := 15) (ls' := [some (.inr (.inr (some (4, c)))), some (.inr (.inr (some (0, a0)))), some (.inl a1)]) (st' := [.inl (0 : Int32), .inr (.inr (some (4, c)))]) (M' := mem E mu3 la) rfl ?_
    refine Ev.wantP (c := (0 : Int32) = 0 ∨ (0 : Int32) = 1) (s2 := (16, [some (.inr (.inr (some (4, c)))), some (.inr (.inr (some (0, a0)))), some (.inl a1)], [], mem E (up3 mu3 4 c 5 (0 : Int32)) la)) rfl rfl rfl rfl (by decide) ?_
    dsimp only
    generalize hgmu4 : up3 mu3 4 c 5 (0 : Int32) = mu4
    have h := h mu4 hgmu4.symm
    refine Ev.steps 2 (ip' := 18) (ls' := [some (.inr (.inr (some (4, c)))), some (.inr (.inr (some (0, a0)))), some (.inl a1)]) (st' := [.inl (2 : Int32), .inl a1]) (M' := mem E mu4 la) rfl ?_
    refine Ev.br (c := ¬ a1 = (2 : Int32)) (s1 := (29, [some (.inr (.inr (some (4, c)))), some (.inr (.inr (some (0, a0)))), some (.inl a1)], [], mem E mu4 la)) (s2 := (19, [some (.inr (.inr (some (4, c)))), some (.inr (.inr (some (0, a0)))), some (.inl a1)], [], mem E mu4 la)) rfl rfl rfl rfl (fun hc => ?_) (fun hc => ?_)
    · have h := h.1 hc
      dsimp only
      refine Ev.steps 10 (ip' := 39) (ls' := [some (.inr (.inr (some (4, c)))), some (.inr (.inr (some (0, a0)))), some (.inl a1)]) (st' := [.inl (mu4 4 c 5), .inl (mu4 0 a0 2), .inl (mu4 0 a0 1), .inl (mu4 0 a0 3), .inl (0 : Int32), .inr (.inr (some (4, c)))]) (M' := mem E mu4 la) rfl ?_
      refine Ev.br (c := (mu4 4 c 5) = 0) (s1 := (42, [some (.inr (.inr (some (4, c)))), some (.inr (.inr (some (0, a0)))), some (.inl a1)], [.inl (mu4 0 a0 2), .inl (mu4 0 a0 1), .inl (mu4 0 a0 3), .inl (0 : Int32), .inr (.inr (some (4, c)))], mem E mu4 la)) (s2 := (40, [some (.inr (.inr (some (4, c)))), some (.inr (.inr (some (0, a0)))), some (.inl a1)], [.inl (mu4 0 a0 2), .inl (mu4 0 a0 1), .inl (mu4 0 a0 3), .inl (0 : Int32), .inr (.inr (some (4, c)))], mem E mu4 la)) rfl rfl rfl rfl (fun hc => ?_) (fun hc => ?_)
      · have h := h.1 hc
        dsimp only
        refine Ev.steps 2 (ip' := 44) (ls' := [some (.inr (.inr (some (4, c)))), some (.inr (.inr (some (0, a0)))), some (.inl a1)]) (st' := [.inl (mu4 0 a0 1), .inl (mu4 0 a0 2), .inl (mu4 0 a0 1), .inl (mu4 0 a0 3), .inl (0 : Int32), .inr (.inr (some (4, c)))]) (M' := mem E mu4 la) rfl ?_
        refine Ev.cv (J := mi_39) (as := [.inr (.inr (some (4, c))), .inl (0 : Int32), .inl (mu4 0 a0 3), .inl (mu4 0 a0 1), .inl (mu4 0 a0 2), .inl (mu4 0 a0 1)]) (rest := []) rfl rfl rfl (Nat.le_of_ble_eq_true rfl) h (fun mu6 la7 h => ?_)
        exact Ev.ret rfl rfl ⟨_, _, rfl, rfl, h⟩
      · have h := h.2 hc
        dsimp only
        refine Ev.steps 2 (ip' := 44) (ls' := [some (.inr (.inr (some (4, c)))), some (.inr (.inr (some (0, a0)))), some (.inl a1)]) (st' := [.inl (0 : Int32), .inl (mu4 0 a0 2), .inl (mu4 0 a0 1), .inl (mu4 0 a0 3), .inl (0 : Int32), .inr (.inr (some (4, c)))]) (M' := mem E mu4 la) rfl ?_
        refine Ev.cv (J := mi_39) (as := [.inr (.inr (some (4, c))), .inl (0 : Int32), .inl (mu4 0 a0 3), .inl (mu4 0 a0 1), .inl (mu4 0 a0 2), .inl (0 : Int32)]) (rest := []) rfl rfl rfl (Nat.le_of_ble_eq_true rfl) h (fun mu9 la10 h => ?_)
        exact Ev.ret rfl rfl ⟨_, _, rfl, rfl, h⟩
    · have h := h.2 hc
      dsimp only
      refine Ev.steps 7 (ip' := 26) (ls' := [some (.inr (.inr (some (4, c)))), some (.inr (.inr (some (0, a0)))), some (.inl a1)]) (st' := [.inr (.inr (some (0, a0))), .inl (mu4 0 a0 4), .inl (mu4 0 a0 3), .inl (0 : Int32), .inr (.inr (some (4, c)))]) (M' := mem E mu4 la) rfl ?_
      refine Ev.ci (J := mi_12) (as := [.inr (.inr (some (0, a0)))]) (rest := [.inl (mu4 0 a0 4), .inl (mu4 0 a0 3), .inl (0 : Int32), .inr (.inr (some (4, c)))]) rfl rfl rfl (Nat.le_of_ble_eq_true rfl) h (fun x11 mu12 la13 h => ?_)
      refine Ev.cv (J := mi_40) (as := [.inr (.inr (some (4, c))), .inl (0 : Int32), .inl (mu4 0 a0 3), .inl (mu4 0 a0 4), .inl x11]) (rest := []) rfl rfl rfl (Nat.le_of_ble_eq_true rfl) h (fun mu15 la16 h => ?_)
      refine Ev.steps 1 (ip' := 45) (ls' := [some (.inr (.inr (some (4, c)))), some (.inr (.inr (some (0, a0)))), some (.inl a1)]) (st' := []) (M' := mem E mu15 la16) rfl ?_
      exact Ev.ret rfl rfl ⟨_, _, rfl, rfl, h⟩
  · have h := h.2 hc
    dsimp only
    refine Ev.steps 2 (ip' := 15) (ls' := [some (.inr (.inr (some (4, c)))), some (.inr (.inr (some (0, a0)))), some (.inl a1)]) (st' := [.inl (1 : Int32), .inr (.inr (some (4, c)))]) (M' := mem E mu3 la) rfl ?_
    refine Ev.wantP (c := (1 : Int32) = 0 ∨ (1 : Int32) = 1) (s2 := (16, [some (.inr (.inr (some (4, c)))), some (.inr (.inr (some (0, a0)))), some (.inl a1)], [], mem E (up3 mu3 4 c 5 (1 : Int32)) la)) rfl rfl rfl rfl (by decide) ?_
    dsimp only
    generalize hgmu17 : up3 mu3 4 c 5 (1 : Int32) = mu17
    have h := h mu17 hgmu17.symm
    refine Ev.steps 2 (ip' := 18) (ls' := [some (.inr (.inr (some (4, c)))), some (.inr (.inr (some (0, a0)))), some (.inl a1)]) (st' := [.inl (2 : Int32), .inl a1]) (M' := mem E mu17 la) rfl ?_
    refine Ev.br (c := ¬ a1 = (2 : Int32)) (s1 := (29, [some (.inr (.inr (some (4, c)))), some (.inr (.inr (some (0, a0)))), some (.inl a1)], [], mem E mu17 la)) (s2 := (19, [some (.inr (.inr (some (4, c)))), some (.inr (.inr (some (0, a0)))), some (.inl a1)], [], mem E mu17 la)) rfl rfl rfl rfl (fun hc => ?_) (fun hc => ?_)
    · have h := h.1 hc
      dsimp only
      refine Ev.steps 10 (ip' := 39) (ls' := [some (.inr (.inr (some (4, c)))), some (.inr (.inr (some (0, a0)))), some (.inl a1)]) (st' := [.inl (mu17 4 c 5), .inl (mu17 0 a0 2), .inl (mu17 0 a0 1), .inl (mu17 0 a0 3), .inl (0 : Int32), .inr (.inr (some (4, c)))]) (M' := mem E mu17 la) rfl ?_
      refine Ev.br (c := (mu17 4 c 5) = 0) (s1 := (42, [some (.inr (.inr (some (4, c)))), some (.inr (.inr (some (0, a0)))), some (.inl a1)], [.inl (mu17 0 a0 2), .inl (mu17 0 a0 1), .inl (mu17 0 a0 3), .inl (0 : Int32), .inr (.inr (some (4, c)))], mem E mu17 la)) (s2 := (40, [some (.inr (.inr (some (4, c)))), some (.inr (.inr (some (0, a0)))), some (.inl a1)], [.inl (mu17 0 a0 2), .inl (mu17 0 a0 1), .inl (mu17 0 a0 3), .inl (0 : Int32), .inr (.inr (some (4, c)))], mem E mu17 la)) rfl rfl rfl rfl (fun hc => ?_) (fun hc => ?_)
      · have h := h.1 hc
        dsimp only
        refine Ev.steps 2 (ip' := 44) (ls' := [some (.inr (.inr (some (4, c)))), some (.inr (.inr (some (0, a0)))), some (.inl a1)]) (st' := [.inl (mu17 0 a0 1), .inl (mu17 0 a0 2), .inl (mu17 0 a0 1), .inl (mu17 0 a0 3), .inl (0 : Int32), .inr (.inr (some (4, c)))]) (M' := mem E mu17 la) rfl ?_
        refine Ev.cv (J := mi_39) (as := [.inr (.inr (some (4, c))), .inl (0 : Int32), .inl (mu17 0 a0 3), .inl (mu17 0 a0 1), .inl (mu17 0 a0 2), .inl (mu17 0 a0 1)]) (rest := []) rfl rfl rfl (Nat.le_of_ble_eq_true rfl) h (fun mu19 la20 h => ?_)
        exact Ev.ret rfl rfl ⟨_, _, rfl, rfl, h⟩
      · have h := h.2 hc
        dsimp only
        refine Ev.steps 2 (ip' := 44) (ls' := [some (.inr (.inr (some (4, c)))), some (.inr (.inr (some (0, a0)))), some (.inl a1)]) (st' := [.inl (0 : Int32), .inl (mu17 0 a0 2), .inl (mu17 0 a0 1), .inl (mu17 0 a0 3), .inl (0 : Int32), .inr (.inr (some (4, c)))]) (M' := mem E mu17 la) rfl ?_
        refine Ev.cv (J := mi_39) (as := [.inr (.inr (some (4, c))), .inl (0 : Int32), .inl (mu17 0 a0 3), .inl (mu17 0 a0 1), .inl (mu17 0 a0 2), .inl (0 : Int32)]) (rest := []) rfl rfl rfl (Nat.le_of_ble_eq_true rfl) h (fun mu22 la23 h => ?_)
        exact Ev.ret rfl rfl ⟨_, _, rfl, rfl, h⟩
    · have h := h.2 hc
      dsimp only
      refine Ev.steps 7 (ip' := 26) (ls' := [some (.inr (.inr (some (4, c)))), some (.inr (.inr (some (0, a0)))), some (.inl a1)]) (st' := [.inr (.inr (some (0, a0))), .inl (mu17 0 a0 4), .inl (mu17 0 a0 3), .inl (0 : Int32), .inr (.inr (some (4, c)))]) (M' := mem E mu17 la) rfl ?_
      refine Ev.ci (J := mi_12) (as := [.inr (.inr (some (0, a0)))]) (rest := [.inl (mu17 0 a0 4), .inl (mu17 0 a0 3), .inl (0 : Int32), .inr (.inr (some (4, c)))]) rfl rfl rfl (Nat.le_of_ble_eq_true rfl) h (fun x24 mu25 la26 h => ?_)
      refine Ev.cv (J := mi_40) (as := [.inr (.inr (some (4, c))), .inl (0 : Int32), .inl (mu17 0 a0 3), .inl (mu17 0 a0 4), .inl x24]) (rest := []) rfl rfl rfl (Nat.le_of_ble_eq_true rfl) h (fun mu28 la29 h => ?_)
      refine Ev.steps 1 (ip' := 45) (ls' := [some (.inr (.inr (some (4, c)))), some (.inr (.inr (some (0, a0)))), some (.inl a1)]) (st' := []) (M' := mem E mu28 la29) rfl ?_
      exact Ev.ret rfl rfl ⟨_, _, rfl, rfl, h⟩
set_option maxRecDepth 100000 in
/-- AnnCups.Search.howManyWith(LAnnCups$Counter;I)I -/
theorem vc_X4_howManyWith {E : mEv} {d : Nat} {c : Nat} (a0 : Nat) (a1 : Int32) {mu : fMu} {la : fLa} {Q : Int32 → fMu → fLa → Prop} (h : ∀ mu1 : fMu, mu1 = up3 mu 4 c 7 (0 : Int32) → (FnI E d mi_12 [.inr (.inr (some (0, a0)))] mu1 la (fun x2 mu3 la4 => FnV E d mi_41 [.inr (.inr (some (4, c))), .inl (0 : Int32), .inl (mu1 0 a0 3), .inl (mu1 0 a0 4), .inl (a1 - x2)] mu3 la4 (fun mu6 la7 => Q (mu6 4 c 7) mu6 la7)))) : FnI E (d + 1) mi_33 [.inr (.inr (some (4, c))), .inr (.inr (some (0, a0))), .inl a1] mu la Q := by
  unfold FnI
  show Ev E (d + 1) mi_33 0 [some (.inr (.inr (some (4, c)))), some (.inr (.inr (some (0, a0)))), some (.inl a1)] [] (mem E mu la) (qI E Q)
  refine Ev.steps 3 (ip' := 3) (ls' := [some (.inr (.inr (some (4, c)))), some (.inr (.inr (some (0, a0)))), some (.inl a1)]) (st' := []) (M' := mem E (up3 mu 4 c 7 (0 : Int32)) la) rfl ?_
  generalize hgmu1 : up3 mu 4 c 7 (0 : Int32) = mu1
  have h := h mu1 hgmu1.symm
  refine Ev.steps 8 (ip' := 11) (ls' := [some (.inr (.inr (some (4, c)))), some (.inr (.inr (some (0, a0)))), some (.inl a1)]) (st' := [.inr (.inr (some (0, a0))), .inl a1, .inl (mu1 0 a0 4), .inl (mu1 0 a0 3), .inl (0 : Int32), .inr (.inr (some (4, c)))]) (M' := mem E mu1 la) rfl ?_
  refine Ev.ci (J := mi_12) (as := [.inr (.inr (some (0, a0)))]) (rest := [.inl a1, .inl (mu1 0 a0 4), .inl (mu1 0 a0 3), .inl (0 : Int32), .inr (.inr (some (4, c)))]) rfl rfl rfl (Nat.le_of_ble_eq_true rfl) h (fun x2 mu3 la4 h => ?_)
  refine Ev.steps 1 (ip' := 13) (ls' := [some (.inr (.inr (some (4, c)))), some (.inr (.inr (some (0, a0)))), some (.inl a1)]) (st' := [.inl (a1 - x2), .inl (mu1 0 a0 4), .inl (mu1 0 a0 3), .inl (0 : Int32), .inr (.inr (some (4, c)))]) (M' := mem E mu3 la4) rfl ?_
  refine Ev.cv (J := mi_41) (as := [.inr (.inr (some (4, c))), .inl (0 : Int32), .inl (mu1 0 a0 3), .inl (mu1 0 a0 4), .inl (a1 - x2)]) (rest := []) rfl rfl rfl (Nat.le_of_ble_eq_true rfl) h (fun mu6 la7 h => ?_)
  refine Ev.steps 2 (ip' := 16) (ls' := [some (.inr (.inr (some (4, c)))), some (.inr (.inr (some (0, a0)))), some (.inl a1)]) (st' := [.inl (mu6 4 c 7)]) (M' := mem E mu6 la7) rfl ?_
  exact Ev.ret rfl rfl ⟨_, _, _, rfl, rfl, h⟩
set_option maxRecDepth 100000 in
/-- AnnCups.Search.findMost(LAnnCups$Counter;I)V -/
theorem vc_X4_findMost {E : mEv} {d : Nat} {c : Nat} (a0 : Nat) (a1 : Int32) {mu : fMu} {la : fLa} {Q : fMu → fLa → Prop} (h : ∀ mu1 : fMu, mu1 = up3 mu 4 c 3 (0 : Int32) → (∀ mu2 : fMu, mu2 = up3 mu1 4 c 6 a1 → (FnV E d mi_42 [.inr (.inr (some (4, c))), .inl (0 : Int32), .inl (mu2 0 a0 3), .inl (mu2 0 a0 1), .inl (mu2 0 a0 2)] mu2 la (fun mu4 la5 => Q mu4 la5)))) : FnV E (d + 1) mi_34 [.inr (.inr (some (4, c))), .inr (.inr (some (0, a0))), .inl a1] mu la Q := by
  unfold FnV
  show Ev E (d + 1) mi_34 0 [some (.inr (.inr (some (4, c)))), some (.inr (.inr (some (0, a0)))), some (.inl a1)] [] (mem E mu la) (qV E Q)
  refine Ev.steps 3 (ip' := 3) (ls' := [some (.inr (.inr (some (4, c)))), some (.inr (.inr (some (0, a0)))), some (.inl a1)]) (st' := []) (M' := mem E (up3 mu 4 c 3 (0 : Int32)) la) rfl ?_
  generalize hgmu1 : up3 mu 4 c 3 (0 : Int32) = mu1
  have h := h mu1 hgmu1.symm
  refine Ev.steps 3 (ip' := 6) (ls' := [some (.inr (.inr (some (4, c)))), some (.inr (.inr (some (0, a0)))), some (.inl a1)]) (st' := []) (M' := mem E (up3 mu1 4 c 6 a1) la) rfl ?_
  generalize hgmu2 : up3 mu1 4 c 6 a1 = mu2
  have h := h mu2 hgmu2.symm
  refine Ev.steps 8 (ip' := 14) (ls' := [some (.inr (.inr (some (4, c)))), some (.inr (.inr (some (0, a0)))), some (.inl a1)]) (st' := [.inl (mu2 0 a0 2), .inl (mu2 0 a0 1), .inl (mu2 0 a0 3), .inl (0 : Int32), .inr (.inr (some (4, c)))]) (M' := mem E mu2 la) rfl ?_
  refine Ev.cv (J := mi_42) (as := [.inr (.inr (some (4, c))), .inl (0 : Int32), .inl (mu2 0 a0 3), .inl (mu2 0 a0 1), .inl (mu2 0 a0 2)]) (rest := []) rfl rfl rfl (Nat.le_of_ble_eq_true rfl) h (fun mu4 la5 h => ?_)
  exact Ev.ret rfl rfl ⟨_, _, rfl, rfl, h⟩
set_option maxRecDepth 100000 in
/-- AnnCups.Search.layBest(LAnnCups$Row;)V -/
theorem vc_X4_layBest {E : mEv} {d : Nat} {c : Nat} (a0 : Nat) {mu : fMu} {la : fLa} {Q : fMu → fLa → Prop} (h : FnV E d mi_27 [.inr (.inr (some (3, a0))), .inl (mu 4 c 3)] mu la (fun mu2 la3 => Ev E (d + 1) mi_35 6 [some (.inr (.inr (some (4, c)))), some (.inr (.inr (some (3, a0)))), some (.inl (0 : Int32))] [] (mem E mu2 la3) (qV E Q))) : FnV E (d + 1) mi_35 [.inr (.inr (some (4, c))), .inr (.inr (some (3, a0)))] mu la Q := by
  unfold FnV
  show Ev E (d + 1) mi_35 0 [some (.inr (.inr (some (4, c)))), some (.inr (.inr (some (3, a0)))), none] [] (mem E mu la) (qV E Q)
  refine Ev.steps 3 (ip' := 3) (ls' := [some (.inr (.inr (some (4, c)))), some (.inr (.inr (some (3, a0)))), none]) (st' := [.inl (mu 4 c 3), .inr (.inr (some (3, a0)))]) (M' := mem E mu la) rfl ?_
  refine Ev.cv (J := mi_27) (as := [.inr (.inr (some (3, a0))), .inl (mu 4 c 3)]) (rest := []) rfl rfl rfl (Nat.le_of_ble_eq_true rfl) h (fun mu2 la3 h => ?_)
  refine Ev.steps 2 (ip' := 6) (ls' := [some (.inr (.inr (some (4, c)))), some (.inr (.inr (some (3, a0)))), some (.inl (0 : Int32))]) (st' := []) (M' := mem E mu2 la3) rfl ?_
  exact h
set_option maxRecDepth 100000 in
theorem vc_X4_layBest_6 {E : mEv} {d : Nat}  (v0 : Nat) (v1 : Nat) (v2 : Int32) {mu : fMu} {la : fLa} {Q : fMu → fLa → Prop} (h : ((mu 4 v0 3) ≤ v2 → (Q mu la)) ∧ (¬ ((mu 4 v0 3) ≤ v2) → (vp_in v2 6 ∧ (vp_in v2 40 ∧ ∀ mu4 : fMu, mu4 = up3 mu 21 v1 v2.toNatClampNeg (mu 23 v0 v2.toNatClampNeg) → (Ev E (d + 1) mi_35 6 [some (.inr (.inr (some (4, v0)))), some (.inr (.inr (some (3, v1)))), some (.inl (v2 + (1 : Int32)))] [] (mem E mu4 la) (qV E Q)))))) : Ev E (d + 1) mi_35 6 [some (.inr (.inr (some (4, v0)))), some (.inr (.inr (some (3, v1)))), some (.inl v2)] [] (mem E mu la) (qV E Q) := by
  refine Ev.steps 3 (ip' := 9) (ls' := [some (.inr (.inr (some (4, v0)))), some (.inr (.inr (some (3, v1)))), some (.inl v2)]) (st' := [.inl (mu 4 v0 3), .inl v2]) (M' := mem E mu la) rfl ?_
  refine Ev.br (c := (mu 4 v0 3) ≤ v2) (s1 := (20, [some (.inr (.inr (some (4, v0)))), some (.inr (.inr (some (3, v1)))), some (.inl v2)], [], mem E mu la)) (s2 := (10, [some (.inr (.inr (some (4, v0)))), some (.inr (.inr (some (3, v1)))), some (.inl v2)], [], mem E mu la)) rfl rfl rfl rfl (fun hc => ?_) (fun hc => ?_)
  · have h := h.1 hc
    dsimp only
    exact Ev.ret rfl rfl ⟨_, _, rfl, rfl, h⟩
  · have h := h.2 hc
    dsimp only
    refine Ev.steps 6 (ip' := 16) (ls' := [some (.inr (.inr (some (4, v0)))), some (.inr (.inr (some (3, v1)))), some (.inl v2)]) (st' := [.inl v2, .inr (.inr (some (23, v0))), .inl v2, .inr (.inr (some (21, v1)))]) (M' := mem E mu la) rfl ?_
    refine Ev.ial rfl rfl (by decide) h.1 ?_
    have h := h.2
    refine Ev.ias rfl rfl h.1 ?_
    have h := h.2
    generalize hgmu4 : up3 mu 21 v1 v2.toNatClampNeg (mu 23 v0 v2.toNatClampNeg) = mu4
    have h := h mu4 hgmu4.symm
    refine Ev.steps 2 (ip' := 6) (ls' := [some (.inr (.inr (some (4, v0)))), some (.inr (.inr (some (3, v1)))), some (.inl (v2 + (1 : Int32)))]) (st' := []) (M' := mem E mu4 la) rfl ?_
    exact h
set_option maxRecDepth 100000 in
/-- AnnCups.Search.isWhole(II)Z -/
theorem vc_X4_isWhole {E : mEv} {d : Nat} {c : Nat} (a0 : Int32) (a1 : Int32) {mu : fMu} {la : fLa} {Q : Int32 → fMu → fLa → Prop} (h : ((6 : Int32) ≤ a0 → (Q (1 : Int32) mu la)) ∧ (¬ ((6 : Int32) ≤ a0) → (FnI E d mi_16 [.inr (.inr (some (1, 0)))] mu la (fun x1 mu2 la3 => (¬ a1 = x1 → (Q (0 : Int32) mu2 la3)) ∧ (¬ (¬ a1 = x1) → (Q (1 : Int32) mu2 la3)))))) : FnI E (d + 1) mi_36 [.inr (.inr (some (4, c))), .inl a0, .inl a1] mu la Q := by
  unfold FnI
  show Ev E (d + 1) mi_36 0 [some (.inr (.inr (some (4, c)))), some (.inl a0), some (.inl a1)] [] (mem E mu la) (qI E Q)
  refine Ev.steps 2 (ip' := 2) (ls' := [some (.inr (.inr (some (4, c)))), some (.inl a0), some (.inl a1)]) (st' := [.inl (6 : Int32), .inl a0]) (M' := mem E mu la) rfl ?_
  refine Ev.br (c := (6 : Int32) ≤ a0) (s1 := (8, [some (.inr (.inr (some (4, c)))), some (.inl a0), some (.inl a1)], [], mem E mu la)) (s2 := (3, [some (.inr (.inr (some (4, c)))), some (.inl a0), some (.inl a1)], [], mem E mu la)) rfl rfl rfl rfl (fun hc => ?_) (fun hc => ?_)
  · have h := h.1 hc
    dsimp only
    refine Ev.steps 2 (ip' := 11) (ls' := [some (.inr (.inr (some (4, c)))), some (.inl a0), some (.inl a1)]) (st' := [.inl (1 : Int32)]) (M' := mem E mu la) rfl ?_
    exact Ev.retZ rfl rfl (Or.inr rfl) ⟨_, _, _, rfl, rfl, h⟩
  · have h := h.2 hc
    dsimp only
    refine Ev.steps 3 (ip' := 6) (ls' := [some (.inr (.inr (some (4, c)))), some (.inl a0), some (.inl a1)]) (st' := [.inr (.inr (some (1, 0))), .inl a1]) (M' := mem E mu la) rfl ?_
    refine Ev.ci (J := mi_16) (as := [.inr (.inr (some (1, 0)))]) (rest := [.inl a1]) rfl rfl rfl (Nat.le_of_ble_eq_true rfl) h (fun x1 mu2 la3 h => ?_)
    refine Ev.br (c := ¬ a1 = x1) (s1 := (10, [some (.inr (.inr (some (4, c)))), some (.inl a0), some (.inl a1)], [], mem E mu2 la3)) (s2 := (8, [some (.inr (.inr (some (4, c)))), some (.inl a0), some (.inl a1)], [], mem E mu2 la3)) rfl rfl rfl rfl (fun hc => ?_) (fun hc => ?_)
    · have h := h.1 hc
      dsimp only
      refine Ev.steps 1 (ip' := 11) (ls' := [some (.inr (.inr (some (4, c)))), some (.inl a0), some (.inl a1)]) (st' := [.inl (0 : Int32)]) (M' := mem E mu2 la3) rfl ?_
      exact Ev.retZ rfl rfl (Or.inl rfl) ⟨_, _, _, rfl, rfl, h⟩
    · have h := h.2 hc
      dsimp only
      refine Ev.steps 2 (ip' := 11) (ls' := [some (.inr (.inr (some (4, c)))), some (.inl a0), some (.inl a1)]) (st' := [.inl (1 : Int32)]) (M' := mem E mu2 la3) rfl ?_
      exact Ev.retZ rfl rfl (Or.inr rfl) ⟨_, _, _, rfl, rfl, h⟩
set_option maxRecDepth 100000 in
/-- AnnCups.Search.rememberPath(I)V -/
theorem vc_X4_rememberPath {E : mEv} {d : Nat} {c : Nat} (a0 : Int32) {mu : fMu} {la : fLa} {Q : fMu → fLa → Prop} (h : ∀ mu1 : fMu, mu1 = up3 mu 4 c 3 a0 → (Ev E d mi_37 5 [some (.inr (.inr (some (4, c)))), some (.inl a0), some (.inl (0 : Int32))] [] (mem E mu1 la) (qV E Q))) : FnV E d mi_37 [.inr (.inr (some (4, c))), .inl a0] mu la Q := by
  unfold FnV
  show Ev E d mi_37 0 [some (.inr (.inr (some (4, c)))), some (.inl a0), none] [] (mem E mu la) (qV E Q)
  refine Ev.steps 3 (ip' := 3) (ls' := [some (.inr (.inr (some (4, c)))), some (.inl a0), none]) (st' := []) (M' := mem E (up3 mu 4 c 3 a0) la) rfl ?_
  generalize hgmu1 : up3 mu 4 c 3 a0 = mu1
  have h := h mu1 hgmu1.symm
  refine Ev.steps 2 (ip' := 5) (ls' := [some (.inr (.inr (some (4, c)))), some (.inl a0), some (.inl (0 : Int32))]) (st' := []) (M' := mem E mu1 la) rfl ?_
  exact h
set_option maxRecDepth 100000 in
theorem vc_X4_rememberPath_5 {E : mEv} {d : Nat}  (v0 : Nat) (v1 : Int32) (v2 : Int32) {mu : fMu} {la : fLa} {Q : fMu → fLa → Prop} (h : (v1 ≤ v2 → (Q mu la)) ∧ (¬ (v1 ≤ v2) → (vp_in v2 6 ∧ (vp_in v2 6 ∧ ∀ mu2 : fMu, mu2 = up3 mu 23 v0 v2.toNatClampNeg (mu 22 v0 v2.toNatClampNeg) → (Ev E d mi_37 5 [some (.inr (.inr (some (4, v0)))), some (.inl v1), some (.inl (v2 + (1 : Int32)))] [] (mem E mu2 la) (qV E Q)))))) : Ev E d mi_37 5 [some (.inr (.inr (some (4, v0)))), some (.inl v1), some (.inl v2)] [] (mem E mu la) (qV E Q) := by
  refine Ev.steps 2 (ip' := 7) (ls' := [some (.inr (.inr (some (4, v0)))), some (.inl v1), some (.inl v2)]) (st' := [.inl v1, .inl v2]) (M' := mem E mu la) rfl ?_
  refine Ev.br (c := v1 ≤ v2) (s1 := (18, [some (.inr (.inr (some (4, v0)))), some (.inl v1), some (.inl v2)], [], mem E mu la)) (s2 := (8, [some (.inr (.inr (some (4, v0)))), some (.inl v1), some (.inl v2)], [], mem E mu la)) rfl rfl rfl rfl (fun hc => ?_) (fun hc => ?_)
  · have h := h.1 hc
    dsimp only
    exact Ev.ret rfl rfl ⟨_, _, rfl, rfl, h⟩
  · have h := h.2 hc
    dsimp only
    refine Ev.steps 6 (ip' := 14) (ls' := [some (.inr (.inr (some (4, v0)))), some (.inl v1), some (.inl v2)]) (st' := [.inl v2, .inr (.inr (some (22, v0))), .inl v2, .inr (.inr (some (23, v0)))]) (M' := mem E mu la) rfl ?_
    refine Ev.ial rfl rfl (by decide) h.1 ?_
    have h := h.2
    refine Ev.ias rfl rfl h.1 ?_
    have h := h.2
    generalize hgmu2 : up3 mu 23 v0 v2.toNatClampNeg (mu 22 v0 v2.toNatClampNeg) = mu2
    have h := h mu2 hgmu2.symm
    refine Ev.steps 2 (ip' := 5) (ls' := [some (.inr (.inr (some (4, v0)))), some (.inl v1), some (.inl (v2 + (1 : Int32)))]) (st' := []) (M' := mem E mu2 la) rfl ?_
    exact h
set_option maxRecDepth 100000 in
/-- AnnCups.Search.improve(II)V -/
theorem vc_X4_improve {E : mEv} {d : Nat} {c : Nat} (a0 : Int32) (a1 : Int32) {mu : fMu} {la : fLa} {Q : fMu → fLa → Prop} (h : ∀ mu1 : fMu, mu1 = up3 mu 4 c 4 a1 → (∀ mu2 : fMu, mu2 = up3 mu1 4 c 6 (a1 - (1 : Int32)) → (FnV E d mi_37 [.inr (.inr (some (4, c))), .inl a0] mu2 la (fun mu4 la5 => Q mu4 la5)))) : FnV E (d + 1) mi_38 [.inr (.inr (some (4, c))), .inl a0, .inl a1] mu la Q := by
  unfold FnV
  show Ev E (d + 1) mi_38 0 [some (.inr (.inr (some (4, c)))), some (.inl a0), some (.inl a1)] [] (mem E mu la) (qV E Q)
  refine Ev.steps 3 (ip' := 3) (ls' := [some (.inr (.inr (some (4, c)))), some (.inl a0), some (.inl a1)]) (st' := []) (M' := mem E (up3 mu 4 c 4 a1) la) rfl ?_
  generalize hgmu1 : up3 mu 4 c 4 a1 = mu1
  have h := h mu1 hgmu1.symm
  refine Ev.steps 5 (ip' := 8) (ls' := [some (.inr (.inr (some (4, c)))), some (.inl a0), some (.inl a1)]) (st' := []) (M' := mem E (up3 mu1 4 c 6 (a1 - (1 : Int32))) la) rfl ?_
  generalize hgmu2 : up3 mu1 4 c 6 (a1 - (1 : Int32)) = mu2
  have h := h mu2 hgmu2.symm
  refine Ev.steps 2 (ip' := 10) (ls' := [some (.inr (.inr (some (4, c)))), some (.inl a0), some (.inl a1)]) (st' := [.inl a0, .inr (.inr (some (4, c)))]) (M' := mem E mu2 la) rfl ?_
  refine Ev.cv (J := mi_37) (as := [.inr (.inr (some (4, c))), .inl a0]) (rest := []) rfl rfl rfl (Nat.le_of_ble_eq_true rfl) h (fun mu4 la5 h => ?_)
  exact Ev.ret rfl rfl ⟨_, _, rfl, rfl, h⟩
set_option maxRecDepth 100000 in
/-- AnnCups.Search.tryByTime(LAnnCups$Search;IIIII)V -/
theorem vc_X4_tryByTime {E : mEv} {d : Nat} (a0 : Nat) (a1 : Int32) (a2 : Int32) (a3 : Int32) (a4 : Int32) (a5 : Int32) {mu : fMu} {la : fLa} {Q : fMu → fLa → Prop} (h : (a5 ≤ (mu 4 a0 6) → (FnI E d mi_36 [.inr (.inr (some (4, a0))), .inl a1, .inl a2] mu la (fun x1 mu2 la3 => (x1 = 0 → (Ev E (d + 1) mi_39 17 [some (.inr (.inr (some (4, a0)))), some (.inl a1), some (.inl a2), some (.inl a3), some (.inl a4), some (.inl a5), some (.inl (0 : Int32)), none, none] [] (mem E mu2 la3) (qV E Q))) ∧ (¬ (x1 = 0) → (FnV E d mi_38 [.inr (.inr (some (4, a0))), .inl a1, .inl a5] mu2 la3 (fun mu5 la6 => Q mu5 la6)))))) ∧ (¬ (a5 ≤ (mu 4 a0 6)) → (Q mu la))) : FnV E (d + 1) mi_39 [.inr (.inr (some (4, a0))), .inl a1, .inl a2, .inl a3, .inl a4, .inl a5] mu la Q := by
  unfold FnV
  show Ev E (d + 1) mi_39 0 [some (.inr (.inr (some (4, a0)))), some (.inl a1), some (.inl a2), some (.inl a3), some (.inl a4), some (.inl a5), none, none, none] [] (mem E mu la) (qV E Q)
  refine Ev.steps 3 (ip' := 3) (ls' := [some (.inr (.inr (some (4, a0)))), some (.inl a1), some (.inl a2), some (.inl a3), some (.inl a4), some (.inl a5), none, none, none]) (st' := [.inl (mu 4 a0 6), .inl a5]) (M' := mem E mu la) rfl ?_
  refine Ev.br (c := a5 ≤ (mu 4 a0 6)) (s1 := (5, [some (.inr (.inr (some (4, a0)))), some (.inl a1), some (.inl a2), some (.inl a3), some (.inl a4), some (.inl a5), none, none, none], [], mem E mu la)) (s2 := (4, [some (.inr (.inr (some (4, a0)))), some (.inl a1), some (.inl a2), some (.inl a3), some (.inl a4), some (.inl a5), none, none, none], [], mem E mu la)) rfl rfl rfl rfl (fun hc => ?_) (fun hc => ?_)
  · have h := h.1 hc
    dsimp only
    refine Ev.steps 3 (ip' := 8) (ls' := [some (.inr (.inr (some (4, a0)))), some (.inl a1), some (.inl a2), some (.inl a3), some (.inl a4), some (.inl a5), none, none, none]) (st' := [.inl a2, .inl a1, .inr (.inr (some (4, a0)))]) (M' := mem E mu la) rfl ?_
    refine Ev.ci (J := mi_36) (as := [.inr (.inr (some (4, a0))), .inl a1, .inl a2]) (rest := []) rfl rfl rfl (Nat.le_of_ble_eq_true rfl) h (fun x1 mu2 la3 h => ?_)
    refine Ev.br (c := x1 = 0) (s1 := (15, [some (.inr (.inr (some (4, a0)))), some (.inl a1), some (.inl a2), some (.inl a3), some (.inl a4), some (.inl a5), none, none, none], [], mem E mu2 la3)) (s2 := (10, [some (.inr (.inr (some (4, a0)))), some (.inl a1), some (.inl a2), some (.inl a3), some (.inl a4), some (.inl a5), none, none, none], [], mem E mu2 la3)) rfl rfl rfl rfl (fun hc => ?_) (fun hc => ?_)
    · have h := h.1 hc
      dsimp only
      refine Ev.steps 2 (ip' := 17) (ls' := [some (.inr (.inr (some (4, a0)))), some (.inl a1), some (.inl a2), some (.inl a3), some (.inl a4), some (.inl a5), some (.inl (0 : Int32)), none, none]) (st' := []) (M' := mem E mu2 la3) rfl ?_
      exact h
    · have h := h.2 hc
      dsimp only
      refine Ev.steps 3 (ip' := 13) (ls' := [some (.inr (.inr (some (4, a0)))), some (.inl a1), some (.inl a2), some (.inl a3), some (.inl a4), some (.inl a5), none, none, none]) (st' := [.inl a5, .inl a1, .inr (.inr (some (4, a0)))]) (M' := mem E mu2 la3) rfl ?_
      refine Ev.cv (J := mi_38) (as := [.inr (.inr (some (4, a0))), .inl a1, .inl a5]) (rest := []) rfl rfl rfl (Nat.le_of_ble_eq_true rfl) h (fun mu5 la6 h => ?_)
      exact Ev.ret rfl rfl ⟨_, _, rfl, rfl, h⟩
  · have h := h.2 hc
    dsimp only
    exact Ev.ret rfl rfl ⟨_, _, rfl, rfl, h⟩
set_option maxRecDepth 100000 in
theorem vc_X4_tryByTime_17 {E : mEv} {d : Nat}  (v0 : Nat) (v1 : Int32) (v2 : Int32) (v3 : Int32) (v4 : Int32) (v5 : Int32) (v6 : Int32) {mu : fMu} {la : fLa} {Q : fMu → fLa → Prop} (h : ((mu 1 0 0) ≤ v6 → (Q mu la)) ∧ (¬ ((mu 1 0 0) ≤ v6) → ((¬ (v2 &&& ((1 : Int32) <<< (v6 &&& 31))) = 0 → (Ev E (d + 1) mi_39 17 [some (.inr (.inr (some (4, v0)))), some (.inl v1), some (.inl v2), some (.inl v3), some (.inl v4), some (.inl v5), some (.inl (v6 + (1 : Int32))), none, none] [] (mem E mu la) (qV E Q))) ∧ (¬ (¬ (v2 &&& ((1 : Int32) <<< (v6 &&& 31))) = 0) → (FnI E d mi_17 [.inr (.inr (some (1, 0))), .inl v6, .inl v4] mu la (fun x7 mu8 la9 => ((mu8 4 v0 5) = 0 → (vp_in v1 6 ∧ ∀ mu10 : fMu, mu10 = up3 mu8 22 v0 v1.toNatClampNeg v6 → (FnI E d mi_15 [.inr (.inr (some (1, 0))), .inl v6] mu10 la9 (fun x11 mu12 la13 => (x11 = 0 → (FnV E d mi_39 [.inr (.inr (some (4, v0))), .inl (v1 + (1 : Int32)), .inl (v2 ||| ((1 : Int32) <<< (v6 &&& 31))), .inl (v3 + x7), .inl v6, .inl v5] mu12 la13 (fun mu15 la16 => Ev E (d + 1) mi_39 17 [some (.inr (.inr (some (4, v0)))), some (.inl v1), some (.inl v2), some (.inl v3), some (.inl v4), some (.inl v5), some (.inl (v6 + (1 : Int32))), none, none] [] (mem E mu15 la16) (qV E Q)))) ∧ (¬ (x11 = 0) → (FnV E d mi_39 [.inr (.inr (some (4, v0))), .inl (v1 + (1 : Int32)), .inl (v2 ||| ((1 : Int32) <<< (v6 &&& 31))), .inl (v3 + x7), .inl v6, .inl (v3 + x7)] mu12 la13 (fun mu18 la19 => Ev E (d + 1) mi_39 17 [some (.inr (.inr (some (4, v0)))), some (.inl v1), some (.inl v2), some (.inl v3), some (.inl v4), some (.inl v5), some (.inl (v6 + (1 : Int32))), none, none] [] (mem E mu18 la19) (qV E Q)))))))) ∧ (¬ ((mu8 4 v0 5) = 0) → (vp_in v1 6 ∧ ∀ mu20 : fMu, mu20 = up3 mu8 22 v0 v1.toNatClampNeg v6 → (FnI E d mi_15 [.inr (.inr (some (1, 0))), .inl v6] mu20 la9 (fun x21 mu22 la23 => (x21 = 0 → (FnV E d mi_39 [.inr (.inr (some (4, v0))), .inl (v1 + (1 : Int32)), .inl (v2 ||| ((1 : Int32) <<< (v6 &&& 31))), .inl (v3 + x7), .inl v6, .inl v5] mu22 la23 (fun mu25 la26 => Ev E (d + 1) mi_39 17 [some (.inr (.inr (some (4, v0)))), some (.inl v1), some (.inl v2), some (.inl v3), some (.inl v4), some (.inl v5), some (.inl (v6 + (1 : Int32))), none, none] [] (mem E mu25 la26) (qV E Q)))) ∧ (¬ (x21 = 0) → (FnV E d mi_39 [.inr (.inr (some (4, v0))), .inl (v1 + (1 : Int32)), .inl (v2 ||| ((1 : Int32) <<< (v6 &&& 31))), .inl (v3 + x7), .inl v6, .inl (v5 + (v3 + x7))] mu22 la23 (fun mu28 la29 => Ev E (d + 1) mi_39 17 [some (.inr (.inr (some (4, v0)))), some (.inl v1), some (.inl v2), some (.inl v3), some (.inl v4), some (.inl v5), some (.inl (v6 + (1 : Int32))), none, none] [] (mem E mu28 la29) (qV E Q)))))))))))))) : Ev E (d + 1) mi_39 17 [some (.inr (.inr (some (4, v0)))), some (.inl v1), some (.inl v2), some (.inl v3), some (.inl v4), some (.inl v5), some (.inl v6), none, none] [] (mem E mu la) (qV E Q) := by
  refine Ev.steps 4 (ip' := 21) (ls' := [some (.inr (.inr (some (4, v0)))), some (.inl v1), some (.inl v2), some (.inl v3), some (.inl v4), some (.inl v5), some (.inl v6), none, none]) (st' := [.inl (mu 1 0 0), .inl v6]) (M' := mem E mu la) rfl ?_
  refine Ev.br (c := (mu 1 0 0) ≤ v6) (s1 := (72, [some (.inr (.inr (some (4, v0)))), some (.inl v1), some (.inl v2), some (.inl v3), some (.inl v4), some (.inl v5), some (.inl v6), none, none], [], mem E mu la)) (s2 := (22, [some (.inr (.inr (some (4, v0)))), some (.inl v1), some (.inl v2), some (.inl v3), some (.inl v4), some (.inl v5), some (.inl v6), none, none], [], mem E mu la)) rfl rfl rfl rfl (fun hc => ?_) (fun hc => ?_)
  · have h := h.1 hc
    dsimp only
    exact Ev.ret rfl rfl ⟨_, _, rfl, rfl, h⟩
  · have h := h.2 hc
    dsimp only
    refine Ev.steps 5 (ip' := 27) (ls' := [some (.inr (.inr (some (4, v0)))), some (.inl v1), some (.inl v2), some (.inl v3), some (.inl v4), some (.inl v5), some (.inl v6), none, none]) (st' := [.inl (v2 &&& ((1 : Int32) <<< (v6 &&& 31)))]) (M' := mem E mu la) rfl ?_
    refine Ev.br (c := ¬ (v2 &&& ((1 : Int32) <<< (v6 &&& 31))) = 0) (s1 := (70, [some (.inr (.inr (some (4, v0)))), some (.inl v1), some (.inl v2), some (.inl v3), some (.inl v4), some (.inl v5), some (.inl v6), none, none], [], mem E mu la)) (s2 := (28, [some (.inr (.inr (some (4, v0)))), some (.inl v1), some (.inl v2), some (.inl v3), some (.inl v4), some (.inl v5), some (.inl v6), none, none], [], mem E mu la)) rfl rfl rfl rfl (fun hc => ?_) (fun hc => ?_)
    · have h := h.1 hc
      dsimp only
      refine Ev.steps 2 (ip' := 17) (ls' := [some (.inr (.inr (some (4, v0)))), some (.inl v1), some (.inl v2), some (.inl v3), some (.inl v4), some (.inl v5), some (.inl (v6 + (1 : Int32))), none, none]) (st' := []) (M' := mem E mu la) rfl ?_
      exact h
    · have h := h.2 hc
      dsimp only
      refine Ev.steps 5 (ip' := 33) (ls' := [some (.inr (.inr (some (4, v0)))), some (.inl v1), some (.inl v2), some (.inl v3), some (.inl v4), some (.inl v5), some (.inl v6), none, none]) (st' := [.inl v4, .inl v6, .inr (.inr (some (1, 0))), .inl v3]) (M' := mem E mu la) rfl ?_
      refine Ev.ci (J := mi_17) (as := [.inr (.inr (some (1, 0))), .inl v6, .inl v4]) (rest := [.inl v3]) rfl rfl rfl (Nat.le_of_ble_eq_true rfl) h (fun x7 mu8 la9 h => ?_)
      refine Ev.steps 4 (ip' := 38) (ls' := [some (.inr (.inr (some (4, v0)))), some (.inl v1), some (.inl v2), some (.inl v3), some (.inl v4), some (.inl v5), some (.inl v6), some (.inl (v3 + x7)), none]) (st' := [.inl (mu8 4 v0 5)]) (M' := mem E mu8 la9) rfl ?_
      refine Ev.br (c := (mu8 4 v0 5) = 0) (s1 := (43, [some (.inr (.inr (some (4, v0)))), some (.inl v1), some (.inl v2), some (.inl v3), some (.inl v4), some (.inl v5), some (.inl v6), some (.inl (v3 + x7)), none], [], mem E mu8 la9)) (s2 := (39, [some (.inr (.inr (some (4, v0)))), some (.inl v1), some (.inl v2), some (.inl v3), some (.inl v4), some (.inl v5), some (.inl v6), some (.inl (v3 + x7)), none], [], mem E mu8 la9)) rfl rfl rfl rfl (fun hc => ?_) (fun hc => ?_)
      · have h := h.1 hc
        dsimp only
        refine Ev.steps 6 (ip' := 49) (ls' := [some (.inr (.inr (some (4, v0)))), some (.inl v1), some (.inl v2), some (.inl v3), some (.inl v4), some (.inl v5), some (.inl v6), some (.inl (v3 + x7)), some (.inl (v3 + x7))]) (st' := [.inl v6, .inl v1, .inr (.inr (some (22, v0)))]) (M' := mem E mu8 la9) rfl ?_
        refine Ev.ias rfl rfl h.1 ?_
        have h := h.2
        generalize hgmu10 : up3 mu8 22 v0 v1.toNatClampNeg v6 = mu10
        have h := h mu10 hgmu10.symm
        refine Ev.steps 14 (ip' := 64) (ls' := [some (.inr (.inr (some (4, v0)))), some (.inl v1), some (.inl v2), some (.inl v3), some (.inl v4), some (.inl v5), some (.inl v6), some (.inl (v3 + x7)), some (.inl (v3 + x7))]) (st' := [.inl v6, .inr (.inr (some (1, 0))), .inl v6, .inl (v3 + x7), .inl (v2 ||| ((1 : Int32) <<< (v6 &&& 31))), .inl (v1 + (1 : Int32)), .inr (.inr (some (4, v0)))]) (M' := mem E mu10 la9) rfl ?_
        refine Ev.ci (J := mi_15) (as := [.inr (.inr (some (1, 0))), .inl v6]) (rest := [.inl v6, .inl (v3 + x7), .inl (v2 ||| ((1 : Int32) <<< (v6 &&& 31))), .inl (v1 + (1 : Int32)), .inr (.inr (some (4, v0)))]) rfl rfl rfl (Nat.le_of_ble_eq_true rfl) h (fun x11 mu12 la13 h => ?_)
        refine Ev.br (c := x11 = 0) (s1 := (68, [some (.inr (.inr (some (4, v0)))), some (.inl v1), some (.inl v2), some (.inl v3), some (.inl v4), some (.inl v5), some (.inl v6), some (.inl (v3 + x7)), some (.inl (v3 + x7))], [.inl v6, .inl (v3 + x7), .inl (v2 ||| ((1 : Int32) <<< (v6 &&& 31))), .inl (v1 + (1 : Int32)), .inr (.inr (some (4, v0)))], mem E mu12 la13)) (s2 := (66, [some (.inr (.inr (some (4, v0)))), some (.inl v1), some (.inl v2), some (.inl v3), some (.inl v4), some (.inl v5), some (.inl v6), some (.inl (v3 + x7)), some (.inl (v3 + x7))], [.inl v6, .inl (v3 + x7), .inl (v2 ||| ((1 : Int32) <<< (v6 &&& 31))), .inl (v1 + (1 : Int32)), .inr (.inr (some (4, v0)))], mem E mu12 la13)) rfl rfl rfl rfl (fun hc => ?_) (fun hc => ?_)
        · have h := h.1 hc
          dsimp only
          refine Ev.steps 1 (ip' := 69) (ls' := [some (.inr (.inr (some (4, v0)))), some (.inl v1), some (.inl v2), some (.inl v3), some (.inl v4), some (.inl v5), some (.inl v6), some (.inl (v3 + x7)), some (.inl (v3 + x7))]) (st' := [.inl v5, .inl v6, .inl (v3 + x7), .inl (v2 ||| ((1 : Int32) <<< (v6 &&& 31))), .inl (v1 + (1 : Int32)), .inr (.inr (some (4, v0)))]) (M' := mem E mu12 la13) rfl ?_
          refine Ev.cv (J := mi_39) (as := [.inr (.inr (some (4, v0))), .inl (v1 + (1 : Int32)), .inl (v2 ||| ((1 : Int32) <<< (v6 &&& 31))), .inl (v3 + x7), .inl v6, .inl v5]) (rest := []) rfl rfl rfl (Nat.le_of_ble_eq_true rfl) h (fun mu15 la16 h => ?_)
          refine Ev.steps 2 (ip' := 17) (ls' := [some (.inr (.inr (some (4, v0)))), some (.inl v1), some (.inl v2), some (.inl v3), some (.inl v4), some (.inl v5), some (.inl (v6 + (1 : Int32))), some (.inl (v3 + x7)), some (.inl (v3 + x7))]) (st' := []) (M' := mem E mu15 la16) rfl ?_
          refine Ev.drop (ls := [some (.inr (.inr (some (4, v0)))), some (.inl v1), some (.inl v2), some (.inl v3), some (.inl v4), some (.inl v5), some (.inl (v6 + (1 : Int32))), none, none]) ⟨Or.inr rfl, Or.inr rfl, Or.inr rfl, Or.inr rfl, Or.inr rfl, Or.inr rfl, Or.inr rfl, Or.inl rfl, Or.inl rfl, trivial⟩ ?_
          exact h
        · have h := h.2 hc
          dsimp only
          refine Ev.steps 2 (ip' := 69) (ls' := [some (.inr (.inr (some (4, v0)))), some (.inl v1), some (.inl v2), some (.inl v3), some (.inl v4), some (.inl v5), some (.inl v6), some (.inl (v3 + x7)), some (.inl (v3 + x7))]) (st' := [.inl (v3 + x7), .inl v6, .inl (v3 + x7), .inl (v2 ||| ((1 : Int32) <<< (v6 &&& 31))), .inl (v1 + (1 : Int32)), .inr (.inr (some (4, v0)))]) (M' := mem E mu12 la13) rfl ?_
          refine Ev.cv (J := mi_39) (as := [.inr (.inr (some (4, v0))), .inl (v1 + (1 : Int32)), .inl (v2 ||| ((1 : Int32) <<< (v6 &&& 31))), .inl (v3 + x7), .inl v6, .inl (v3 + x7)]) (rest := []) rfl rfl rfl (Nat.le_of_ble_eq_true rfl) h (fun mu18 la19 h => ?_)
          refine Ev.steps 2 (ip' := 17) (ls' := [some (.inr (.inr (some (4, v0)))), some (.inl v1), some (.inl v2), some (.inl v3), some (.inl v4), some (.inl v5), some (.inl (v6 + (1 : Int32))), some (.inl (v3 + x7)), some (.inl (v3 + x7))]) (st' := []) (M' := mem E mu18 la19) rfl ?_
          refine Ev.drop (ls := [some (.inr (.inr (some (4, v0)))), some (.inl v1), some (.inl v2), some (.inl v3), some (.inl v4), some (.inl v5), some (.inl (v6 + (1 : Int32))), none, none]) ⟨Or.inr rfl, Or.inr rfl, Or.inr rfl, Or.inr rfl, Or.inr rfl, Or.inr rfl, Or.inr rfl, Or.inl rfl, Or.inl rfl, trivial⟩ ?_
          exact h
      · have h := h.2 hc
        dsimp only
        refine Ev.steps 9 (ip' := 49) (ls' := [some (.inr (.inr (some (4, v0)))), some (.inl v1), some (.inl v2), some (.inl v3), some (.inl v4), some (.inl v5), some (.inl v6), some (.inl (v3 + x7)), some (.inl (v5 + (v3 + x7)))]) (st' := [.inl v6, .inl v1, .inr (.inr (some (22, v0)))]) (M' := mem E mu8 la9) rfl ?_
        refine Ev.ias rfl rfl h.1 ?_
        have h := h.2
        generalize hgmu20 : up3 mu8 22 v0 v1.toNatClampNeg v6 = mu20
        have h := h mu20 hgmu20.symm
        refine Ev.steps 14 (ip' := 64) (ls' := [some (.inr (.inr (some (4, v0)))), some (.inl v1), some (.inl v2), some (.inl v3), some (.inl v4), some (.inl v5), some (.inl v6), some (.inl (v3 + x7)), some (.inl (v5 + (v3 + x7)))]) (st' := [.inl v6, .inr (.inr (some (1, 0))), .inl v6, .inl (v3 + x7), .inl (v2 ||| ((1 : Int32) <<< (v6 &&& 31))), .inl (v1 + (1 : Int32)), .inr (.inr (some (4, v0)))]) (M' := mem E mu20 la9) rfl ?_
        refine Ev.ci (J := mi_15) (as := [.inr (.inr (some (1, 0))), .inl v6]) (rest := [.inl v6, .inl (v3 + x7), .inl (v2 ||| ((1 : Int32) <<< (v6 &&& 31))), .inl (v1 + (1 : Int32)), .inr (.inr (some (4, v0)))]) rfl rfl rfl (Nat.le_of_ble_eq_true rfl) h (fun x21 mu22 la23 h => ?_)
        refine Ev.br (c := x21 = 0) (s1 := (68, [some (.inr (.inr (some (4, v0)))), some (.inl v1), some (.inl v2), some (.inl v3), some (.inl v4), some (.inl v5), some (.inl v6), some (.inl (v3 + x7)), some (.inl (v5 + (v3 + x7)))], [.inl v6, .inl (v3 + x7), .inl (v2 ||| ((1 : Int32) <<< (v6 &&& 31))), .inl (v1 + (1 : Int32)), .inr (.inr (some (4, v0)))], mem E mu22 la23)) (s2 := (66, [some (.inr (.inr (some (4, v0)))), some (.inl v1), some (.inl v2), some (.inl v3), some (.inl v4), some (.inl v5), some (.inl v6), some (.inl (v3 + x7)), some (.inl (v5 + (v3 + x7)))], [.inl v6, .inl (v3 + x7), .inl (v2 ||| ((1 : Int32) <<< (v6 &&& 31))), .inl (v1 + (1 : Int32)), .inr (.inr (some (4, v0)))], mem E mu22 la23)) rfl rfl rfl rfl (fun hc => ?_) (fun hc => ?_)
        · have h := h.1 hc
          dsimp only
          refine Ev.steps 1 (ip' := 69) (ls' := [some (.inr (.inr (some (4, v0)))), some (.inl v1), some (.inl v2), some (.inl v3), some (.inl v4), some (.inl v5), some (.inl v6), some (.inl (v3 + x7)), some (.inl (v5 + (v3 + x7)))]) (st' := [.inl v5, .inl v6, .inl (v3 + x7), .inl (v2 ||| ((1 : Int32) <<< (v6 &&& 31))), .inl (v1 + (1 : Int32)), .inr (.inr (some (4, v0)))]) (M' := mem E mu22 la23) rfl ?_
          refine Ev.cv (J := mi_39) (as := [.inr (.inr (some (4, v0))), .inl (v1 + (1 : Int32)), .inl (v2 ||| ((1 : Int32) <<< (v6 &&& 31))), .inl (v3 + x7), .inl v6, .inl v5]) (rest := []) rfl rfl rfl (Nat.le_of_ble_eq_true rfl) h (fun mu25 la26 h => ?_)
          refine Ev.steps 2 (ip' := 17) (ls' := [some (.inr (.inr (some (4, v0)))), some (.inl v1), some (.inl v2), some (.inl v3), some (.inl v4), some (.inl v5), some (.inl (v6 + (1 : Int32))), some (.inl (v3 + x7)), some (.inl (v5 + (v3 + x7)))]) (st' := []) (M' := mem E mu25 la26) rfl ?_
          refine Ev.drop (ls := [some (.inr (.inr (some (4, v0)))), some (.inl v1), some (.inl v2), some (.inl v3), some (.inl v4), some (.inl v5), some (.inl (v6 + (1 : Int32))), none, none]) ⟨Or.inr rfl, Or.inr rfl, Or.inr rfl, Or.inr rfl, Or.inr rfl, Or.inr rfl, Or.inr rfl, Or.inl rfl, Or.inl rfl, trivial⟩ ?_
          exact h
        · have h := h.2 hc
          dsimp only
          refine Ev.steps 2 (ip' := 69) (ls' := [some (.inr (.inr (some (4, v0)))), some (.inl v1), some (.inl v2), some (.inl v3), some (.inl v4), some (.inl v5), some (.inl v6), some (.inl (v3 + x7)), some (.inl (v5 + (v3 + x7)))]) (st' := [.inl (v5 + (v3 + x7)), .inl v6, .inl (v3 + x7), .inl (v2 ||| ((1 : Int32) <<< (v6 &&& 31))), .inl (v1 + (1 : Int32)), .inr (.inr (some (4, v0)))]) (M' := mem E mu22 la23) rfl ?_
          refine Ev.cv (J := mi_39) (as := [.inr (.inr (some (4, v0))), .inl (v1 + (1 : Int32)), .inl (v2 ||| ((1 : Int32) <<< (v6 &&& 31))), .inl (v3 + x7), .inl v6, .inl (v5 + (v3 + x7))]) (rest := []) rfl rfl rfl (Nat.le_of_ble_eq_true rfl) h (fun mu28 la29 h => ?_)
          refine Ev.steps 2 (ip' := 17) (ls' := [some (.inr (.inr (some (4, v0)))), some (.inl v1), some (.inl v2), some (.inl v3), some (.inl v4), some (.inl v5), some (.inl (v6 + (1 : Int32))), some (.inl (v3 + x7)), some (.inl (v5 + (v3 + x7)))]) (st' := []) (M' := mem E mu28 la29) rfl ?_
          refine Ev.drop (ls := [some (.inr (.inr (some (4, v0)))), some (.inl v1), some (.inl v2), some (.inl v3), some (.inl v4), some (.inl v5), some (.inl (v6 + (1 : Int32))), none, none]) ⟨Or.inr rfl, Or.inr rfl, Or.inr rfl, Or.inr rfl, Or.inr rfl, Or.inr rfl, Or.inr rfl, Or.inl rfl, Or.inl rfl, trivial⟩ ?_
          exact h
set_option maxRecDepth 100000 in
/-- AnnCups.Search.tryByWrong(LAnnCups$Search;IIII)V -/
theorem vc_X4_tryByWrong {E : mEv} {d : Nat} (a0 : Nat) (a1 : Int32) (a2 : Int32) (a3 : Int32) (a4 : Int32) {mu : fMu} {la : fLa} {Q : fMu → fLa → Prop} (h : (a4 ≤ (mu 4 a0 6) → (FnI E d mi_36 [.inr (.inr (some (4, a0))), .inl a1, .inl a2] mu la (fun x1 mu2 la3 => (x1 = 0 → (Ev E (d + 1) mi_40 17 [some (.inr (.inr (some (4, a0)))), some (.inl a1), some (.inl a2), some (.inl a3), some (.inl a4), some (.inl (0 : Int32)), none, none] [] (mem E mu2 la3) (qV E Q))) ∧ (¬ (x1 = 0) → (FnV E d mi_38 [.inr (.inr (some (4, a0))), .inl a1, .inl a4] mu2 la3 (fun mu5 la6 => Q mu5 la6)))))) ∧ (¬ (a4 ≤ (mu 4 a0 6)) → (Q mu la))) : FnV E (d + 1) mi_40 [.inr (.inr (some (4, a0))), .inl a1, .inl a2, .inl a3, .inl a4] mu la Q := by
  unfold FnV
  show Ev E (d + 1) mi_40 0 [some (.inr (.inr (some (4, a0)))), some (.inl a1), some (.inl a2), some (.inl a3), some (.inl a4), none, none, none] [] (mem E mu la) (qV E Q)
  refine Ev.steps 3 (ip' := 3) (ls' := [some (.inr (.inr (some (4, a0)))), some (.inl a1), some (.inl a2), some (.inl a3), some (.inl a4), none, none, none]) (st' := [.inl (mu 4 a0 6), .inl a4]) (M' := mem E mu la) rfl ?_
  refine Ev.br (c := a4 ≤ (mu 4 a0 6)) (s1 := (5, [some (.inr (.inr (some (4, a0)))), some (.inl a1), some (.inl a2), some (.inl a3), some (.inl a4), none, none, none], [], mem E mu la)) (s2 := (4, [some (.inr (.inr (some (4, a0)))), some (.inl a1), some (.inl a2), some (.inl a3), some (.inl a4), none, none, none], [], mem E mu la)) rfl rfl rfl rfl (fun hc => ?_) (fun hc => ?_)
  · have h := h.1 hc
    dsimp only
    refine Ev.steps 3 (ip' := 8) (ls' := [some (.inr (.inr (some (4, a0)))), some (.inl a1), some (.inl a2), some (.inl a3), some (.inl a4), none, none, none]) (st' := [.inl a2, .inl a1, .inr (.inr (some (4, a0)))]) (M' := mem E mu la) rfl ?_
    refine Ev.ci (J := mi_36) (as := [.inr (.inr (some (4, a0))), .inl a1, .inl a2]) (rest := []) rfl rfl rfl (Nat.le_of_ble_eq_true rfl) h (fun x1 mu2 la3 h => ?_)
    refine Ev.br (c := x1 = 0) (s1 := (15, [some (.inr (.inr (some (4, a0)))), some (.inl a1), some (.inl a2), some (.inl a3), some (.inl a4), none, none, none], [], mem E mu2 la3)) (s2 := (10, [some (.inr (.inr (some (4, a0)))), some (.inl a1), some (.inl a2), some (.inl a3), some (.inl a4), none, none, none], [], mem E mu2 la3)) rfl rfl rfl rfl (fun hc => ?_) (fun hc => ?_)
    · have h := h.1 hc
      dsimp only
      refine Ev.steps 2 (ip' := 17) (ls' := [some (.inr (.inr (some (4, a0)))), some (.inl a1), some (.inl a2), some (.inl a3), some (.inl a4), some (.inl (0 : Int32)), none, none]) (st' := []) (M' := mem E mu2 la3) rfl ?_
      exact h
    · have h := h.2 hc
      dsimp only
      refine Ev.steps 3 (ip' := 13) (ls' := [some (.inr (.inr (some (4, a0)))), some (.inl a1), some (.inl a2), some (.inl a3), some (.inl a4), none, none, none]) (st' := [.inl a4, .inl a1, .inr (.inr (some (4, a0)))]) (M' := mem E mu2 la3) rfl ?_
      refine Ev.cv (J := mi_38) (as := [.inr (.inr (some (4, a0))), .inl a1, .inl a4]) (rest := []) rfl rfl rfl (Nat.le_of_ble_eq_true rfl) h (fun mu5 la6 h => ?_)
      exact Ev.ret rfl rfl ⟨_, _, rfl, rfl, h⟩
  · have h := h.2 hc
    dsimp only
    exact Ev.ret rfl rfl ⟨_, _, rfl, rfl, h⟩
set_option maxRecDepth 100000 in
theorem vc_X4_tryByWrong_17 {E : mEv} {d : Nat}  (v0 : Nat) (v1 : Int32) (v2 : Int32) (v3 : Int32) (v4 : Int32) (v5 : Int32) {mu : fMu} {la : fLa} {Q : fMu → fLa → Prop} (h : ((mu 1 0 0) ≤ v5 → (Q mu la)) ∧ (¬ ((mu 1 0 0) ≤ v5) → ((¬ (v2 &&& ((1 : Int32) <<< (v5 &&& 31))) = 0 → (Ev E (d + 1) mi_40 17 [some (.inr (.inr (some (4, v0)))), some (.inl v1), some (.inl v2), some (.inl v3), some (.inl v4), some (.inl (v5 + (1 : Int32))), none, none] [] (mem E mu la) (qV E Q))) ∧ (¬ (¬ (v2 &&& ((1 : Int32) <<< (v5 &&& 31))) = 0) → (FnI E d mi_18 [.inr (.inr (some (1, 0))), .inl v5, .inl v3] mu la (fun x7 mu8 la9 => (x7 = (-9 : Int32) → (vp_in v1 6 ∧ ∀ mu10 : fMu, mu10 = up3 mu8 22 v0 v1.toNatClampNeg v5 → (FnI E d mi_104 [.inl x7] mu10 la9 (fun x11 mu12 la13 => FnV E d mi_40 [.inr (.inr (some (4, v0))), .inl (v1 + (1 : Int32)), .inl (v2 ||| ((1 : Int32) <<< (v5 &&& 31))), .inl (v3 ||| x11), .inl (v4 + (0 : Int32))] mu12 la13 (fun mu15 la16 => Ev E (d + 1) mi_40 17 [some (.inr (.inr (some (4, v0)))), some (.inl v1), some (.inl v2), some (.inl v3), some (.inl v4), some (.inl (v5 + (1 : Int32))), none, none] [] (mem E mu15 la16) (qV E Q)))))) ∧ (¬ (x7 = (-9 : Int32)) → ((x7 = v5 → (vp_in v1 6 ∧ ∀ mu17 : fMu, mu17 = up3 mu8 22 v0 v1.toNatClampNeg v5 → (FnI E d mi_104 [.inl x7] mu17 la9 (fun x18 mu19 la20 => FnV E d mi_40 [.inr (.inr (some (4, v0))), .inl (v1 + (1 : Int32)), .inl (v2 ||| ((1 : Int32) <<< (v5 &&& 31))), .inl (v3 ||| x18), .inl (v4 + (0 : Int32))] mu19 la20 (fun mu22 la23 => Ev E (d + 1) mi_40 17 [some (.inr (.inr (some (4, v0)))), some (.inl v1), some (.inl v2), some (.inl v3), some (.inl v4), some (.inl (v5 + (1 : Int32))), none, none] [] (mem E mu22 la23) (qV E Q)))))) ∧ (¬ (x7 = v5) → (vp_in v1 6 ∧ ∀ mu24 : fMu, mu24 = up3 mu8 22 v0 v1.toNatClampNeg v5 → (FnI E d mi_104 [.inl x7] mu24 la9 (fun x25 mu26 la27 => FnV E d mi_40 [.inr (.inr (some (4, v0))), .inl (v1 + (1 : Int32)), .inl (v2 ||| ((1 : Int32) <<< (v5 &&& 31))), .inl (v3 ||| x25), .inl (v4 + (1 : Int32))] mu26 la27 (fun mu29 la30 => Ev E (d + 1) mi_40 17 [some (.inr (.inr (some (4, v0)))), some (.inl v1), some (.inl v2), some (.inl v3), some (.inl v4), some (.inl (v5 + (1 : Int32))), none, none] [] (mem E mu29 la30) (qV E Q)))))))))))))) : Ev E (d + 1) mi_40 17 [some (.inr (.inr (some (4, v0)))), some (.inl v1), some (.inl v2), some (.inl v3), some (.inl v4), some (.inl v5), none, none] [] (mem E mu la) (qV E Q) := by
  refine Ev.steps 4 (ip' := 21) (ls' := [some (.inr (.inr (some (4, v0)))), some (.inl v1), some (.inl v2), some (.inl v3), some (.inl v4), some (.inl v5), none, none]) (st' := [.inl (mu 1 0 0), .inl v5]) (M' := mem E mu la) rfl ?_
  refine Ev.br (c := (mu 1 0 0) ≤ v5) (s1 := (68, [some (.inr (.inr (some (4, v0)))), some (.inl v1), some (.inl v2), some (.inl v3), some (.inl v4), some (.inl v5), none, none], [], mem E mu la)) (s2 := (22, [some (.inr (.inr (some (4, v0)))), some (.inl v1), some (.inl v2), some (.inl v3), some (.inl v4), some (.inl v5), none, none], [], mem E mu la)) rfl rfl rfl rfl (fun hc => ?_) (fun hc => ?_)
  · have h := h.1 hc
    dsimp only
    exact Ev.ret rfl rfl ⟨_, _, rfl, rfl, h⟩
  · have h := h.2 hc
    dsimp only
    refine Ev.steps 5 (ip' := 27) (ls' := [some (.inr (.inr (some (4, v0)))), some (.inl v1), some (.inl v2), some (.inl v3), some (.inl v4), some (.inl v5), none, none]) (st' := [.inl (v2 &&& ((1 : Int32) <<< (v5 &&& 31)))]) (M' := mem E mu la) rfl ?_
    refine Ev.br (c := ¬ (v2 &&& ((1 : Int32) <<< (v5 &&& 31))) = 0) (s1 := (66, [some (.inr (.inr (some (4, v0)))), some (.inl v1), some (.inl v2), some (.inl v3), some (.inl v4), some (.inl v5), none, none], [], mem E mu la)) (s2 := (28, [some (.inr (.inr (some (4, v0)))), some (.inl v1), some (.inl v2), some (.inl v3), some (.inl v4), some (.inl v5), none, none], [], mem E mu la)) rfl rfl rfl rfl (fun hc => ?_) (fun hc => ?_)
    · have h := h.1 hc
      dsimp only
      refine Ev.steps 2 (ip' := 17) (ls' := [some (.inr (.inr (some (4, v0)))), some (.inl v1), some (.inl v2), some (.inl v3), some (.inl v4), some (.inl (v5 + (1 : Int32))), none, none]) (st' := []) (M' := mem E mu la) rfl ?_
      exact h
    · have h := h.2 hc
      dsimp only
      refine Ev.steps 4 (ip' := 32) (ls' := [some (.inr (.inr (some (4, v0)))), some (.inl v1), some (.inl v2), some (.inl v3), some (.inl v4), some (.inl v5), none, none]) (st' := [.inl v3, .inl v5, .inr (.inr (some (1, 0)))]) (M' := mem E mu la) rfl ?_
      refine Ev.ci (J := mi_18) (as := [.inr (.inr (some (1, 0))), .inl v5, .inl v3]) (rest := []) rfl rfl rfl (Nat.le_of_ble_eq_true rfl) h (fun x7 mu8 la9 h => ?_)
      refine Ev.steps 3 (ip' := 36) (ls' := [some (.inr (.inr (some (4, v0)))), some (.inl v1), some (.inl v2), some (.inl v3), some (.inl v4), some (.inl v5), some (.inl x7), none]) (st' := [.inl (-9 : Int32), .inl x7]) (M' := mem E mu8 la9) rfl ?_
      refine Ev.br (c := x7 = (-9 : Int32)) (s1 := (42, [some (.inr (.inr (some (4, v0)))), some (.inl v1), some (.inl v2), some (.inl v3), some (.inl v4), some (.inl v5), some (.inl x7), none], [], mem E mu8 la9)) (s2 := (37, [some (.inr (.inr (some (4, v0)))), some (.inl v1), some (.inl v2), some (.inl v3), some (.inl v4), some (.inl v5), some (.inl x7), none], [], mem E mu8 la9)) rfl rfl rfl rfl (fun hc => ?_) (fun hc => ?_)
      · have h := h.1 hc
        dsimp only
        refine Ev.steps 6 (ip' := 48) (ls' := [some (.inr (.inr (some (4, v0)))), some (.inl v1), some (.inl v2), some (.inl v3), some (.inl v4), some (.inl v5), some (.inl x7), some (.inl (0 : Int32))]) (st' := [.inl v5, .inl v1, .inr (.inr (some (22, v0)))]) (M' := mem E mu8 la9) rfl ?_
        refine Ev.ias rfl rfl h.1 ?_
        have h := h.2
        generalize hgmu10 : up3 mu8 22 v0 v1.toNatClampNeg v5 = mu10
        have h := h mu10 hgmu10.symm
        refine Ev.steps 11 (ip' := 60) (ls' := [some (.inr (.inr (some (4, v0)))), some (.inl v1), some (.inl v2), some (.inl v3), some (.inl v4), some (.inl v5), some (.inl x7), some (.inl (0 : Int32))]) (st' := [.inl x7, .inl v3, .inl (v2 ||| ((1 : Int32) <<< (v5 &&& 31))), .inl (v1 + (1 : Int32)), .inr (.inr (some (4, v0)))]) (M' := mem E mu10 la9) rfl ?_
        refine Ev.ci (J := mi_104) (as := [.inl x7]) (rest := [.inl v3, .inl (v2 ||| ((1 : Int32) <<< (v5 &&& 31))), .inl (v1 + (1 : Int32)), .inr (.inr (some (4, v0)))]) rfl rfl rfl (Nat.le_of_ble_eq_true rfl) h (fun x11 mu12 la13 h => ?_)
        refine Ev.steps 4 (ip' := 65) (ls' := [some (.inr (.inr (some (4, v0)))), some (.inl v1), some (.inl v2), some (.inl v3), some (.inl v4), some (.inl v5), some (.inl x7), some (.inl (0 : Int32))]) (st' := [.inl (v4 + (0 : Int32)), .inl (v3 ||| x11), .inl (v2 ||| ((1 : Int32) <<< (v5 &&& 31))), .inl (v1 + (1 : Int32)), .inr (.inr (some (4, v0)))]) (M' := mem E mu12 la13) rfl ?_
        refine Ev.cv (J := mi_40) (as := [.inr (.inr (some (4, v0))), .inl (v1 + (1 : Int32)), .inl (v2 ||| ((1 : Int32) <<< (v5 &&& 31))), .inl (v3 ||| x11), .inl (v4 + (0 : Int32))]) (rest := []) rfl rfl rfl (Nat.le_of_ble_eq_true rfl) h (fun mu15 la16 h => ?_)
        refine Ev.steps 2 (ip' := 17) (ls' := [some (.inr (.inr (some (4, v0)))), some (.inl v1), some (.inl v2), some (.inl v3), some (.inl v4), some (.inl (v5 + (1 : Int32))), some (.inl x7), some (.inl (0 : Int32))]) (st' := []) (M' := mem E mu15 la16) rfl ?_
        refine Ev.drop (ls := [some (.inr (.inr (some (4, v0)))), some (.inl v1), some (.inl v2), some (.inl v3), some (.inl v4), some (.inl (v5 + (1 : Int32))), none, none]) ⟨Or.inr rfl, Or.inr rfl, Or.inr rfl, Or.inr rfl, Or.inr rfl, Or.inr rfl, Or.inl rfl, Or.inl rfl, trivial⟩ ?_
        exact h
      · have h := h.2 hc
        dsimp only
        refine Ev.steps 2 (ip' := 39) (ls' := [some (.inr (.inr (some (4, v0)))), some (.inl v1), some (.inl v2), some (.inl v3), some (.inl v4), some (.inl v5), some (.inl x7), none]) (st' := [.inl v5, .inl x7]) (M' := mem E mu8 la9) rfl ?_
        refine Ev.br (c := x7 = v5) (s1 := (42, [some (.inr (.inr (some (4, v0)))), some (.inl v1), some (.inl v2), some (.inl v3), some (.inl v4), some (.inl v5), some (.inl x7), none], [], mem E mu8 la9)) (s2 := (40, [some (.inr (.inr (some (4, v0)))), some (.inl v1), some (.inl v2), some (.inl v3), some (.inl v4), some (.inl v5), some (.inl x7), none], [], mem E mu8 la9)) rfl rfl rfl rfl (fun hc => ?_) (fun hc => ?_)
        · have h := h.1 hc
          dsimp only
          refine Ev.steps 6 (ip' := 48) (ls' := [some (.inr (.inr (some (4, v0)))), some (.inl v1), some (.inl v2), some (.inl v3), some (.inl v4), some (.inl v5), some (.inl x7), some (.inl (0 : Int32))]) (st' := [.inl v5, .inl v1, .inr (.inr (some (22, v0)))]) (M' := mem E mu8 la9) rfl ?_
          refine Ev.ias rfl rfl h.1 ?_
          have h := h.2
          generalize hgmu17 : up3 mu8 22 v0 v1.toNatClampNeg v5 = mu17
          have h := h mu17 hgmu17.symm
          refine Ev.steps 11 (ip' := 60) (ls' := [some (.inr (.inr (some (4, v0)))), some (.inl v1), some (.inl v2), some (.inl v3), some (.inl v4), some (.inl v5), some (.inl x7), some (.inl (0 : Int32))]) (st' := [.inl x7, .inl v3, .inl (v2 ||| ((1 : Int32) <<< (v5 &&& 31))), .inl (v1 + (1 : Int32)), .inr (.inr (some (4, v0)))]) (M' := mem E mu17 la9) rfl ?_
          refine Ev.ci (J := mi_104) (as := [.inl x7]) (rest := [.inl v3, .inl (v2 ||| ((1 : Int32) <<< (v5 &&& 31))), .inl (v1 + (1 : Int32)), .inr (.inr (some (4, v0)))]) rfl rfl rfl (Nat.le_of_ble_eq_true rfl) h (fun x18 mu19 la20 h => ?_)
          refine Ev.steps 4 (ip' := 65) (ls' := [some (.inr (.inr (some (4, v0)))), some (.inl v1), some (.inl v2), some (.inl v3), some (.inl v4), some (.inl v5), some (.inl x7), some (.inl (0 : Int32))]) (st' := [.inl (v4 + (0 : Int32)), .inl (v3 ||| x18), .inl (v2 ||| ((1 : Int32) <<< (v5 &&& 31))), .inl (v1 + (1 : Int32)), .inr (.inr (some (4, v0)))]) (M' := mem E mu19 la20) rfl ?_
          refine Ev.cv (J := mi_40) (as := [.inr (.inr (some (4, v0))), .inl (v1 + (1 : Int32)), .inl (v2 ||| ((1 : Int32) <<< (v5 &&& 31))), .inl (v3 ||| x18), .inl (v4 + (0 : Int32))]) (rest := []) rfl rfl rfl (Nat.le_of_ble_eq_true rfl) h (fun mu22 la23 h => ?_)
          refine Ev.steps 2 (ip' := 17) (ls' := [some (.inr (.inr (some (4, v0)))), some (.inl v1), some (.inl v2), some (.inl v3), some (.inl v4), some (.inl (v5 + (1 : Int32))), some (.inl x7), some (.inl (0 : Int32))]) (st' := []) (M' := mem E mu22 la23) rfl ?_
          refine Ev.drop (ls := [some (.inr (.inr (some (4, v0)))), some (.inl v1), some (.inl v2), some (.inl v3), some (.inl v4), some (.inl (v5 + (1 : Int32))), none, none]) ⟨Or.inr rfl, Or.inr rfl, Or.inr rfl, Or.inr rfl, Or.inr rfl, Or.inr rfl, Or.inl rfl, Or.inl rfl, trivial⟩ ?_
          exact h
        · have h := h.2 hc
          dsimp only
          refine Ev.steps 7 (ip' := 48) (ls' := [some (.inr (.inr (some (4, v0)))), some (.inl v1), some (.inl v2), some (.inl v3), some (.inl v4), some (.inl v5), some (.inl x7), some (.inl (1 : Int32))]) (st' := [.inl v5, .inl v1, .inr (.inr (some (22, v0)))]) (M' := mem E mu8 la9) rfl ?_
          refine Ev.ias rfl rfl h.1 ?_
          have h := h.2
          generalize hgmu24 : up3 mu8 22 v0 v1.toNatClampNeg v5 = mu24
          have h := h mu24 hgmu24.symm
          refine Ev.steps 11 (ip' := 60) (ls' := [some (.inr (.inr (some (4, v0)))), some (.inl v1), some (.inl v2), some (.inl v3), some (.inl v4), some (.inl v5), some (.inl x7), some (.inl (1 : Int32))]) (st' := [.inl x7, .inl v3, .inl (v2 ||| ((1 : Int32) <<< (v5 &&& 31))), .inl (v1 + (1 : Int32)), .inr (.inr (some (4, v0)))]) (M' := mem E mu24 la9) rfl ?_
          refine Ev.ci (J := mi_104) (as := [.inl x7]) (rest := [.inl v3, .inl (v2 ||| ((1 : Int32) <<< (v5 &&& 31))), .inl (v1 + (1 : Int32)), .inr (.inr (some (4, v0)))]) rfl rfl rfl (Nat.le_of_ble_eq_true rfl) h (fun x25 mu26 la27 h => ?_)
          refine Ev.steps 4 (ip' := 65) (ls' := [some (.inr (.inr (some (4, v0)))), some (.inl v1), some (.inl v2), some (.inl v3), some (.inl v4), some (.inl v5), some (.inl x7), some (.inl (1 : Int32))]) (st' := [.inl (v4 + (1 : Int32)), .inl (v3 ||| x25), .inl (v2 ||| ((1 : Int32) <<< (v5 &&& 31))), .inl (v1 + (1 : Int32)), .inr (.inr (some (4, v0)))]) (M' := mem E mu26 la27) rfl ?_
          refine Ev.cv (J := mi_40) (as := [.inr (.inr (some (4, v0))), .inl (v1 + (1 : Int32)), .inl (v2 ||| ((1 : Int32) <<< (v5 &&& 31))), .inl (v3 ||| x25), .inl (v4 + (1 : Int32))]) (rest := []) rfl rfl rfl (Nat.le_of_ble_eq_true rfl) h (fun mu29 la30 h => ?_)
          refine Ev.steps 2 (ip' := 17) (ls' := [some (.inr (.inr (some (4, v0)))), some (.inl v1), some (.inl v2), some (.inl v3), some (.inl v4), some (.inl (v5 + (1 : Int32))), some (.inl x7), some (.inl (1 : Int32))]) (st' := []) (M' := mem E mu29 la30) rfl ?_
          refine Ev.drop (ls := [some (.inr (.inr (some (4, v0)))), some (.inl v1), some (.inl v2), some (.inl v3), some (.inl v4), some (.inl (v5 + (1 : Int32))), none, none]) ⟨Or.inr rfl, Or.inr rfl, Or.inr rfl, Or.inr rfl, Or.inr rfl, Or.inr rfl, Or.inl rfl, Or.inl rfl, trivial⟩ ?_
          exact h
set_option maxRecDepth 100000 in
/-- AnnCups.Search.countByWrong(LAnnCups$Search;IIII)V -/
theorem vc_X4_countByWrong {E : mEv} {d : Nat} (a0 : Nat) (a1 : Int32) (a2 : Int32) (a3 : Int32) (a4 : Int32) {mu : fMu} {la : fLa} {Q : fMu → fLa → Prop} (h : (0 ≤ a4 → (FnI E d mi_36 [.inr (.inr (some (4, a0))), .inl a1, .inl a2] mu la (fun x1 mu2 la3 => (x1 = 0 → (Ev E (d + 1) mi_41 21 [some (.inr (.inr (some (4, a0)))), some (.inl a1), some (.inl a2), some (.inl a3), some (.inl a4), some (.inl (0 : Int32)), none, none] [] (mem E mu2 la3) (qV E Q))) ∧ (¬ (x1 = 0) → ((¬ a4 = 0 → (∀ mu4 : fMu, mu4 = up3 mu2 4 a0 7 ((mu2 4 a0 7) + (0 : Int32)) → (Q mu4 la3))) ∧ (¬ (¬ a4 = 0) → (∀ mu5 : fMu, mu5 = up3 mu2 4 a0 7 ((mu2 4 a0 7) + (1 : Int32)) → (Q mu5 la3)))))))) ∧ (¬ (0 ≤ a4) → (Q mu la))) : FnV E (d + 1) mi_41 [.inr (.inr (some (4, a0))), .inl a1, .inl a2, .inl a3, .inl a4] mu la Q := by
  unfold FnV
  show Ev E (d + 1) mi_41 0 [some (.inr (.inr (some (4, a0)))), some (.inl a1), some (.inl a2), some (.inl a3), some (.inl a4), none, none, none] [] (mem E mu la) (qV E Q)
  refine Ev.steps 1 (ip' := 1) (ls' := [some (.inr (.inr (some (4, a0)))), some (.inl a1), some (.inl a2), some (.inl a3), some (.inl a4), none, none, none]) (st' := [.inl a4]) (M' := mem E mu la) rfl ?_
  refine Ev.br (c := 0 ≤ a4) (s1 := (3, [some (.inr (.inr (some (4, a0)))), some (.inl a1), some (.inl a2), some (.inl a3), some (.inl a4), none, none, none], [], mem E mu la)) (s2 := (2, [some (.inr (.inr (some (4, a0)))), some (.inl a1), some (.inl a2), some (.inl a3), some (.inl a4), none, none, none], [], mem E mu la)) rfl rfl rfl rfl (fun hc => ?_) (fun hc => ?_)
  · have h := h.1 hc
    dsimp only
    refine Ev.steps 3 (ip' := 6) (ls' := [some (.inr (.inr (some (4, a0)))), some (.inl a1), some (.inl a2), some (.inl a3), some (.inl a4), none, none, none]) (st' := [.inl a2, .inl a1, .inr (.inr (some (4, a0)))]) (M' := mem E mu la) rfl ?_
    refine Ev.ci (J := mi_36) (as := [.inr (.inr (some (4, a0))), .inl a1, .inl a2]) (rest := []) rfl rfl rfl (Nat.le_of_ble_eq_true rfl) h (fun x1 mu2 la3 h => ?_)
    refine Ev.br (c := x1 = 0) (s1 := (19, [some (.inr (.inr (some (4, a0)))), some (.inl a1), some (.inl a2), some (.inl a3), some (.inl a4), none, none, none], [], mem E mu2 la3)) (s2 := (8, [some (.inr (.inr (some (4, a0)))), some (.inl a1), some (.inl a2), some (.inl a3), some (.inl a4), none, none, none], [], mem E mu2 la3)) rfl rfl rfl rfl (fun hc => ?_) (fun hc => ?_)
    · have h := h.1 hc
      dsimp only
      refine Ev.steps 2 (ip' := 21) (ls' := [some (.inr (.inr (some (4, a0)))), some (.inl a1), some (.inl a2), some (.inl a3), some (.inl a4), some (.inl (0 : Int32)), none, none]) (st' := []) (M' := mem E mu2 la3) rfl ?_
      exact h
    · have h := h.2 hc
      dsimp only
      refine Ev.steps 4 (ip' := 12) (ls' := [some (.inr (.inr (some (4, a0)))), some (.inl a1), some (.inl a2), some (.inl a3), some (.inl a4), none, none, none]) (st' := [.inl a4, .inl (mu2 4 a0 7), .inr (.inr (some (4, a0)))]) (M' := mem E mu2 la3) rfl ?_
      refine Ev.br (c := ¬ a4 = 0) (s1 := (15, [some (.inr (.inr (some (4, a0)))), some (.inl a1), some (.inl a2), some (.inl a3), some (.inl a4), none, none, none], [.inl (mu2 4 a0 7), .inr (.inr (some (4, a0)))], mem E mu2 la3)) (s2 := (13, [some (.inr (.inr (some (4, a0)))), some (.inl a1), some (.inl a2), some (.inl a3), some (.inl a4), none, none, none], [.inl (mu2 4 a0 7), .inr (.inr (some (4, a0)))], mem E mu2 la3)) rfl rfl rfl rfl (fun hc => ?_) (fun hc => ?_)
      · have h := h.1 hc
        dsimp only
        refine Ev.steps 3 (ip' := 18) (ls' := [some (.inr (.inr (some (4, a0)))), some (.inl a1), some (.inl a2), some (.inl a3), some (.inl a4), none, none, none]) (st' := []) (M' := mem E (up3 mu2 4 a0 7 ((mu2 4 a0 7) + (0 : Int32))) la3) rfl ?_
        generalize hgmu4 : up3 mu2 4 a0 7 ((mu2 4 a0 7) + (0 : Int32)) = mu4
        have h := h mu4 hgmu4.symm
        exact Ev.ret rfl rfl ⟨_, _, rfl, rfl, h⟩
      · have h := h.2 hc
        dsimp only
        refine Ev.steps 4 (ip' := 18) (ls' := [some (.inr (.inr (some (4, a0)))), some (.inl a1), some (.inl a2), some (.inl a3), some (.inl a4), none, none, none]) (st' := []) (M' := mem E (up3 mu2 4 a0 7 ((mu2 4 a0 7) + (1 : Int32))) la3) rfl ?_
        generalize hgmu5 : up3 mu2 4 a0 7 ((mu2 4 a0 7) + (1 : Int32)) = mu5
        have h := h mu5 hgmu5.symm
        exact Ev.ret rfl rfl ⟨_, _, rfl, rfl, h⟩
  · have h := h.2 hc
    dsimp only
    exact Ev.ret rfl rfl ⟨_, _, rfl, rfl, h⟩
set_option maxRecDepth 100000 in
theorem vc_X4_countByWrong_21 {E : mEv} {d : Nat}  (v0 : Nat) (v1 : Int32) (v2 : Int32) (v3 : Int32) (v4 : Int32) (v5 : Int32) {mu : fMu} {la : fLa} {Q : fMu → fLa → Prop} (h : ((mu 1 0 0) ≤ v5 → (Q mu la)) ∧ (¬ ((mu 1 0 0) ≤ v5) → ((¬ (v2 &&& ((1 : Int32) <<< (v5 &&& 31))) = 0 → (Ev E (d + 1) mi_41 21 [some (.inr (.inr (some (4, v0)))), some (.inl v1), some (.inl v2), some (.inl v3), some (.inl v4), some (.inl (v5 + (1 : Int32))), none, none] [] (mem E mu la) (qV E Q))) ∧ (¬ (¬ (v2 &&& ((1 : Int32) <<< (v5 &&& 31))) = 0) → (FnI E d mi_18 [.inr (.inr (some (1, 0))), .inl v5, .inl v3] mu la (fun x6 mu7 la8 => (x6 = (-9 : Int32) → (FnI E d mi_104 [.inl x6] mu7 la8 (fun x9 mu10 la11 => FnV E d mi_41 [.inr (.inr (some (4, v0))), .inl (v1 + (1 : Int32)), .inl (v2 ||| ((1 : Int32) <<< (v5 &&& 31))), .inl (v3 ||| x9), .inl (v4 - (0 : Int32))] mu10 la11 (fun mu13 la14 => Ev E (d + 1) mi_41 21 [some (.inr (.inr (some (4, v0)))), some (.inl v1), some (.inl v2), some (.inl v3), some (.inl v4), some (.inl (v5 + (1 : Int32))), none, none] [] (mem E mu13 la14) (qV E Q))))) ∧ (¬ (x6 = (-9 : Int32)) → ((x6 = v5 → (FnI E d mi_104 [.inl x6] mu7 la8 (fun x15 mu16 la17 => FnV E d mi_41 [.inr (.inr (some (4, v0))), .inl (v1 + (1 : Int32)), .inl (v2 ||| ((1 : Int32) <<< (v5 &&& 31))), .inl (v3 ||| x15), .inl (v4 - (0 : Int32))] mu16 la17 (fun mu19 la20 => Ev E (d + 1) mi_41 21 [some (.inr (.inr (some (4, v0)))), some (.inl v1), some (.inl v2), some (.inl v3), some (.inl v4), some (.inl (v5 + (1 : Int32))), none, none] [] (mem E mu19 la20) (qV E Q))))) ∧ (¬ (x6 = v5) → (FnI E d mi_104 [.inl x6] mu7 la8 (fun x21 mu22 la23 => FnV E d mi_41 [.inr (.inr (some (4, v0))), .inl (v1 + (1 : Int32)), .inl (v2 ||| ((1 : Int32) <<< (v5 &&& 31))), .inl (v3 ||| x21), .inl (v4 - (1 : Int32))] mu22 la23 (fun mu25 la26 => Ev E (d + 1) mi_41 21 [some (.inr (.inr (some (4, v0)))), some (.inl v1), some (.inl v2), some (.inl v3), some (.inl v4), some (.inl (v5 + (1 : Int32))), none, none] [] (mem E mu25 la26) (qV E Q))))))))))))) : Ev E (d + 1) mi_41 21 [some (.inr (.inr (some (4, v0)))), some (.inl v1), some (.inl v2), some (.inl v3), some (.inl v4), some (.inl v5), none, none] [] (mem E mu la) (qV E Q) := by
  refine Ev.steps 4 (ip' := 25) (ls' := [some (.inr (.inr (some (4, v0)))), some (.inl v1), some (.inl v2), some (.inl v3), some (.inl v4), some (.inl v5), none, none]) (st' := [.inl (mu 1 0 0), .inl v5]) (M' := mem E mu la) rfl ?_
  refine Ev.br (c := (mu 1 0 0) ≤ v5) (s1 := (67, [some (.inr (.inr (some (4, v0)))), some (.inl v1), some (.inl v2), some (.inl v3), some (.inl v4), some (.inl v5), none, none], [], mem E mu la)) (s2 := (26, [some (.inr (.inr (some (4, v0)))), some (.inl v1), some (.inl v2), some (.inl v3), some (.inl v4), some (.inl v5), none, none], [], mem E mu la)) rfl rfl rfl rfl (fun hc => ?_) (fun hc => ?_)
  · have h := h.1 hc
    dsimp only
    exact Ev.ret rfl rfl ⟨_, _, rfl, rfl, h⟩
  · have h := h.2 hc
    dsimp only
    refine Ev.steps 5 (ip' := 31) (ls' := [some (.inr (.inr (some (4, v0)))), some (.inl v1), some (.inl v2), some (.inl v3), some (.inl v4), some (.inl v5), none, none]) (st' := [.inl (v2 &&& ((1 : Int32) <<< (v5 &&& 31)))]) (M' := mem E mu la) rfl ?_
    refine Ev.br (c := ¬ (v2 &&& ((1 : Int32) <<< (v5 &&& 31))) = 0) (s1 := (65, [some (.inr (.inr (some (4, v0)))), some (.inl v1), some (.inl v2), some (.inl v3), some (.inl v4), some (.inl v5), none, none], [], mem E mu la)) (s2 := (32, [some (.inr (.inr (some (4, v0)))), some (.inl v1), some (.inl v2), some (.inl v3), some (.inl v4), some (.inl v5), none, none], [], mem E mu la)) rfl rfl rfl rfl (fun hc => ?_) (fun hc => ?_)
    · have h := h.1 hc
      dsimp only
      refine Ev.steps 2 (ip' := 21) (ls' := [some (.inr (.inr (some (4, v0)))), some (.inl v1), some (.inl v2), some (.inl v3), some (.inl v4), some (.inl (v5 + (1 : Int32))), none, none]) (st' := []) (M' := mem E mu la) rfl ?_
      exact h
    · have h := h.2 hc
      dsimp only
      refine Ev.steps 4 (ip' := 36) (ls' := [some (.inr (.inr (some (4, v0)))), some (.inl v1), some (.inl v2), some (.inl v3), some (.inl v4), some (.inl v5), none, none]) (st' := [.inl v3, .inl v5, .inr (.inr (some (1, 0)))]) (M' := mem E mu la) rfl ?_
      refine Ev.ci (J := mi_18) (as := [.inr (.inr (some (1, 0))), .inl v5, .inl v3]) (rest := []) rfl rfl rfl (Nat.le_of_ble_eq_true rfl) h (fun x6 mu7 la8 h => ?_)
      refine Ev.steps 3 (ip' := 40) (ls' := [some (.inr (.inr (some (4, v0)))), some (.inl v1), some (.inl v2), some (.inl v3), some (.inl v4), some (.inl v5), some (.inl x6), none]) (st' := [.inl (-9 : Int32), .inl x6]) (M' := mem E mu7 la8) rfl ?_
      refine Ev.br (c := x6 = (-9 : Int32)) (s1 := (46, [some (.inr (.inr (some (4, v0)))), some (.inl v1), some (.inl v2), some (.inl v3), some (.inl v4), some (.inl v5), some (.inl x6), none], [], mem E mu7 la8)) (s2 := (41, [some (.inr (.inr (some (4, v0)))), some (.inl v1), some (.inl v2), some (.inl v3), some (.inl v4), some (.inl v5), some (.inl x6), none], [], mem E mu7 la8)) rfl rfl rfl rfl (fun hc => ?_) (fun hc => ?_)
      · have h := h.1 hc
        dsimp only
        refine Ev.steps 13 (ip' := 59) (ls' := [some (.inr (.inr (some (4, v0)))), some (.inl v1), some (.inl v2), some (.inl v3), some (.inl v4), some (.inl v5), some (.inl x6), some (.inl (0 : Int32))]) (st' := [.inl x6, .inl v3, .inl (v2 ||| ((1 : Int32) <<< (v5 &&& 31))), .inl (v1 + (1 : Int32)), .inr (.inr (some (4, v0)))]) (M' := mem E mu7 la8) rfl ?_
        refine Ev.ci (J := mi_104) (as := [.inl x6]) (rest := [.inl v3, .inl (v2 ||| ((1 : Int32) <<< (v5 &&& 31))), .inl (v1 + (1 : Int32)), .inr (.inr (some (4, v0)))]) rfl rfl rfl (Nat.le_of_ble_eq_true rfl) h (fun x9 mu10 la11 h => ?_)
        refine Ev.steps 4 (ip' := 64) (ls' := [some (.inr (.inr (some (4, v0)))), some (.inl v1), some (.inl v2), some (.inl v3), some (.inl v4), some (.inl v5), some (.inl x6), some (.inl (0 : Int32))]) (st' := [.inl (v4 - (0 : Int32)), .inl (v3 ||| x9), .inl (v2 ||| ((1 : Int32) <<< (v5 &&& 31))), .inl (v1 + (1 : Int32)), .inr (.inr (some (4, v0)))]) (M' := mem E mu10 la11) rfl ?_
        refine Ev.cv (J := mi_41) (as := [.inr (.inr (some (4, v0))), .inl (v1 + (1 : Int32)), .inl (v2 ||| ((1 : Int32) <<< (v5 &&& 31))), .inl (v3 ||| x9), .inl (v4 - (0 : Int32))]) (rest := []) rfl rfl rfl (Nat.le_of_ble_eq_true rfl) h (fun mu13 la14 h => ?_)
        refine Ev.steps 2 (ip' := 21) (ls' := [some (.inr (.inr (some (4, v0)))), some (.inl v1), some (.inl v2), some (.inl v3), some (.inl v4), some (.inl (v5 + (1 : Int32))), some (.inl x6), some (.inl (0 : Int32))]) (st' := []) (M' := mem E mu13 la14) rfl ?_
        refine Ev.drop (ls := [some (.inr (.inr (some (4, v0)))), some (.inl v1), some (.inl v2), some (.inl v3), some (.inl v4), some (.inl (v5 + (1 : Int32))), none, none]) ⟨Or.inr rfl, Or.inr rfl, Or.inr rfl, Or.inr rfl, Or.inr rfl, Or.inr rfl, Or.inl rfl, Or.inl rfl, trivial⟩ ?_
        exact h
      · have h := h.2 hc
        dsimp only
        refine Ev.steps 2 (ip' := 43) (ls' := [some (.inr (.inr (some (4, v0)))), some (.inl v1), some (.inl v2), some (.inl v3), some (.inl v4), some (.inl v5), some (.inl x6), none]) (st' := [.inl v5, .inl x6]) (M' := mem E mu7 la8) rfl ?_
        refine Ev.br (c := x6 = v5) (s1 := (46, [some (.inr (.inr (some (4, v0)))), some (.inl v1), some (.inl v2), some (.inl v3), some (.inl v4), some (.inl v5), some (.inl x6), none], [], mem E mu7 la8)) (s2 := (44, [some (.inr (.inr (some (4, v0)))), some (.inl v1), some (.inl v2), some (.inl v3), some (.inl v4), some (.inl v5), some (.inl x6), none], [], mem E mu7 la8)) rfl rfl rfl rfl (fun hc => ?_) (fun hc => ?_)
        · have h := h.1 hc
          dsimp only
          refine Ev.steps 13 (ip' := 59) (ls' := [some (.inr (.inr (some (4, v0)))), some (.inl v1), some (.inl v2), some (.inl v3), some (.inl v4), some (.inl v5), some (.inl x6), some (.inl (0 : Int32))]) (st' := [.inl x6, .inl v3, .inl (v2 ||| ((1 : Int32) <<< (v5 &&& 31))), .inl (v1 + (1 : Int32)), .inr (.inr (some (4, v0)))]) (M' := mem E mu7 la8) rfl ?_
          refine Ev.ci (J := mi_104) (as := [.inl x6]) (rest := [.inl v3, .inl (v2 ||| ((1 : Int32) <<< (v5 &&& 31))), .inl (v1 + (1 : Int32)), .inr (.inr (some (4, v0)))]) rfl rfl rfl (Nat.le_of_ble_eq_true rfl) h (fun x15 mu16 la17 h => ?_)
          refine Ev.steps 4 (ip' := 64) (ls' := [some (.inr (.inr (some (4, v0)))), some (.inl v1), some (.inl v2), some (.inl v3), some (.inl v4), some (.inl v5), some (.inl x6), some (.inl (0 : Int32))]) (st' := [.inl (v4 - (0 : Int32)), .inl (v3 ||| x15), .inl (v2 ||| ((1 : Int32) <<< (v5 &&& 31))), .inl (v1 + (1 : Int32)), .inr (.inr (some (4, v0)))]) (M' := mem E mu16 la17) rfl ?_
          refine Ev.cv (J := mi_41) (as := [.inr (.inr (some (4, v0))), .inl (v1 + (1 : Int32)), .inl (v2 ||| ((1 : Int32) <<< (v5 &&& 31))), .inl (v3 ||| x15), .inl (v4 - (0 : Int32))]) (rest := []) rfl rfl rfl (Nat.le_of_ble_eq_true rfl) h (fun mu19 la20 h => ?_)
          refine Ev.steps 2 (ip' := 21) (ls' := [some (.inr (.inr (some (4, v0)))), some (.inl v1), some (.inl v2), some (.inl v3), some (.inl v4), some (.inl (v5 + (1 : Int32))), some (.inl x6), some (.inl (0 : Int32))]) (st' := []) (M' := mem E mu19 la20) rfl ?_
          refine Ev.drop (ls := [some (.inr (.inr (some (4, v0)))), some (.inl v1), some (.inl v2), some (.inl v3), some (.inl v4), some (.inl (v5 + (1 : Int32))), none, none]) ⟨Or.inr rfl, Or.inr rfl, Or.inr rfl, Or.inr rfl, Or.inr rfl, Or.inr rfl, Or.inl rfl, Or.inl rfl, trivial⟩ ?_
          exact h
        · have h := h.2 hc
          dsimp only
          refine Ev.steps 14 (ip' := 59) (ls' := [some (.inr (.inr (some (4, v0)))), some (.inl v1), some (.inl v2), some (.inl v3), some (.inl v4), some (.inl v5), some (.inl x6), some (.inl (1 : Int32))]) (st' := [.inl x6, .inl v3, .inl (v2 ||| ((1 : Int32) <<< (v5 &&& 31))), .inl (v1 + (1 : Int32)), .inr (.inr (some (4, v0)))]) (M' := mem E mu7 la8) rfl ?_
          refine Ev.ci (J := mi_104) (as := [.inl x6]) (rest := [.inl v3, .inl (v2 ||| ((1 : Int32) <<< (v5 &&& 31))), .inl (v1 + (1 : Int32)), .inr (.inr (some (4, v0)))]) rfl rfl rfl (Nat.le_of_ble_eq_true rfl) h (fun x21 mu22 la23 h => ?_)
          refine Ev.steps 4 (ip' := 64) (ls' := [some (.inr (.inr (some (4, v0)))), some (.inl v1), some (.inl v2), some (.inl v3), some (.inl v4), some (.inl v5), some (.inl x6), some (.inl (1 : Int32))]) (st' := [.inl (v4 - (1 : Int32)), .inl (v3 ||| x21), .inl (v2 ||| ((1 : Int32) <<< (v5 &&& 31))), .inl (v1 + (1 : Int32)), .inr (.inr (some (4, v0)))]) (M' := mem E mu22 la23) rfl ?_
          refine Ev.cv (J := mi_41) (as := [.inr (.inr (some (4, v0))), .inl (v1 + (1 : Int32)), .inl (v2 ||| ((1 : Int32) <<< (v5 &&& 31))), .inl (v3 ||| x21), .inl (v4 - (1 : Int32))]) (rest := []) rfl rfl rfl (Nat.le_of_ble_eq_true rfl) h (fun mu25 la26 h => ?_)
          refine Ev.steps 2 (ip' := 21) (ls' := [some (.inr (.inr (some (4, v0)))), some (.inl v1), some (.inl v2), some (.inl v3), some (.inl v4), some (.inl (v5 + (1 : Int32))), some (.inl x6), some (.inl (1 : Int32))]) (st' := []) (M' := mem E mu25 la26) rfl ?_
          refine Ev.drop (ls := [some (.inr (.inr (some (4, v0)))), some (.inl v1), some (.inl v2), some (.inl v3), some (.inl v4), some (.inl (v5 + (1 : Int32))), none, none]) ⟨Or.inr rfl, Or.inr rfl, Or.inr rfl, Or.inr rfl, Or.inr rfl, Or.inr rfl, Or.inl rfl, Or.inl rfl, trivial⟩ ?_
          exact h
