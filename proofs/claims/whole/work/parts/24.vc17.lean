set_option maxRecDepth 100000 in
/-- AnnCupsModel.digest()J -/
theorem vc_X7_digest {E : mEv} {d : Nat} {c : Nat} {mu : fMu} {la : fLa} {Q : Int64 → fMu → fLa → Prop} (h : Ev E (d + 1) mi_226 4 [some (.inr (.inr (some (7, c)))), some (.inr (.inl (17 : Int64))), none, some (.inl (0 : Int32)), none] [] (mem E mu la) (qL E Q)) : FnL E (d + 1) mi_226 [.inr (.inr (some (7, c)))] mu la Q := by
  unfold FnL
  show Ev E (d + 1) mi_226 0 [some (.inr (.inr (some (7, c)))), none, none, none, none] [] (mem E mu la) (qL E Q)
  refine Ev.steps 4 (ip' := 4) (ls' := [some (.inr (.inr (some (7, c)))), some (.inr (.inl (17 : Int64))), none, some (.inl (0 : Int32)), none]) (st' := []) (M' := mem E mu la) rfl ?_
  exact h
set_option maxRecDepth 100000 in
theorem vc_X7_digest_4 {E : mEv} {d : Nat}  (v0 : Nat) (v1 : Int64) (v3 : Int32) {mu : fMu} {la : fLa} {Q : Int64 → fMu → fLa → Prop} (h : ((12 : Int32) ≤ v3 → (Ev E (d + 1) mi_226 20 [some (.inr (.inr (some (7, v0)))), some (.inr (.inl v1)), none, some (.inl (0 : Int32)), none] [] (mem E mu la) (qL E Q))) ∧ (¬ ((12 : Int32) ≤ v3) → (FnI E d mi_222 [.inr (.inr (some (7, v0))), .inl v3] mu la (fun x1 mu2 la3 => Ev E (d + 1) mi_226 4 [some (.inr (.inr (some (7, v0)))), some (.inr (.inl (((31 : Int64) * v1) + x1.toInt64))), none, some (.inl (v3 + (1 : Int32))), none] [] (mem E mu2 la3) (qL E Q))))) : Ev E (d + 1) mi_226 4 [some (.inr (.inr (some (7, v0)))), some (.inr (.inl v1)), none, some (.inl v3), none] [] (mem E mu la) (qL E Q) := by
  refine Ev.steps 2 (ip' := 6) (ls' := [some (.inr (.inr (some (7, v0)))), some (.inr (.inl v1)), none, some (.inl v3), none]) (st' := [.inl (12 : Int32), .inl v3]) (M' := mem E mu la) rfl ?_
  refine Ev.br (c := (12 : Int32) ≤ v3) (s1 := (18, [some (.inr (.inr (some (7, v0)))), some (.inr (.inl v1)), none, some (.inl v3), none], [], mem E mu la)) (s2 := (7, [some (.inr (.inr (some (7, v0)))), some (.inr (.inl v1)), none, some (.inl v3), none], [], mem E mu la)) rfl rfl rfl rfl (fun hc => ?_) (fun hc => ?_)
  · have h := h.1 hc
    dsimp only
    refine Ev.steps 2 (ip' := 20) (ls' := [some (.inr (.inr (some (7, v0)))), some (.inr (.inl v1)), none, some (.inl (0 : Int32)), none]) (st' := []) (M' := mem E mu la) rfl ?_
    exact h
  · have h := h.2 hc
    dsimp only
    refine Ev.steps 5 (ip' := 12) (ls' := [some (.inr (.inr (some (7, v0)))), some (.inr (.inl v1)), none, some (.inl v3), none]) (st' := [.inl v3, .inr (.inr (some (7, v0))), .inr (.inl ((31 : Int64) * v1))]) (M' := mem E mu la) rfl ?_
    refine Ev.ci (J := mi_222) (as := [.inr (.inr (some (7, v0))), .inl v3]) (rest := [.inr (.inl ((31 : Int64) * v1))]) rfl rfl rfl (Nat.le_of_ble_eq_true rfl) h (fun x1 mu2 la3 h => ?_)
    refine Ev.steps 5 (ip' := 4) (ls' := [some (.inr (.inr (some (7, v0)))), some (.inr (.inl (((31 : Int64) * v1) + x1.toInt64))), none, some (.inl (v3 + (1 : Int32))), none]) (st' := []) (M' := mem E mu2 la3) rfl ?_
    exact h
set_option maxRecDepth 100000 in
theorem vc_X7_digest_20 {E : mEv} {d : Nat}  (v0 : Nat) (v1 : Int64) (v3 : Int32) {mu : fMu} {la : fLa} {Q : Int64 → fMu → fLa → Prop} (h : ((mu 7 v0 4) ≤ v3 → (Ev E (d + 1) mi_226 45 [some (.inr (.inr (some (7, v0)))), some (.inr (.inl v1)), none, some (.inl (0 : Int32)), none] [] (mem E mu la) (qL E Q))) ∧ (¬ ((mu 7 v0 4) ≤ v3) → (Ev E (d + 1) mi_226 26 [some (.inr (.inr (some (7, v0)))), some (.inr (.inl v1)), none, some (.inl v3), some (.inl (0 : Int32))] [] (mem E mu la) (qL E Q)))) : Ev E (d + 1) mi_226 20 [some (.inr (.inr (some (7, v0)))), some (.inr (.inl v1)), none, some (.inl v3), none] [] (mem E mu la) (qL E Q) := by
  refine Ev.steps 3 (ip' := 23) (ls' := [some (.inr (.inr (some (7, v0)))), some (.inr (.inl v1)), none, some (.inl v3), none]) (st' := [.inl (mu 7 v0 4), .inl v3]) (M' := mem E mu la) rfl ?_
  refine Ev.br (c := (mu 7 v0 4) ≤ v3) (s1 := (43, [some (.inr (.inr (some (7, v0)))), some (.inr (.inl v1)), none, some (.inl v3), none], [], mem E mu la)) (s2 := (24, [some (.inr (.inr (some (7, v0)))), some (.inr (.inl v1)), none, some (.inl v3), none], [], mem E mu la)) rfl rfl rfl rfl (fun hc => ?_) (fun hc => ?_)
  · have h := h.1 hc
    dsimp only
    refine Ev.steps 2 (ip' := 45) (ls' := [some (.inr (.inr (some (7, v0)))), some (.inr (.inl v1)), none, some (.inl (0 : Int32)), none]) (st' := []) (M' := mem E mu la) rfl ?_
    exact h
  · have h := h.2 hc
    dsimp only
    refine Ev.steps 2 (ip' := 26) (ls' := [some (.inr (.inr (some (7, v0)))), some (.inr (.inl v1)), none, some (.inl v3), some (.inl (0 : Int32))]) (st' := []) (M' := mem E mu la) rfl ?_
    exact h
set_option maxRecDepth 100000 in
theorem vc_X7_digest_26 {E : mEv} {d : Nat}  (v0 : Nat) (v1 : Int64) (v3 : Int32) (v4 : Int32) {mu : fMu} {la : fLa} {Q : Int64 → fMu → fLa → Prop} (h : ((6 : Int32) ≤ v4 → (Ev E (d + 1) mi_226 20 [some (.inr (.inr (some (7, v0)))), some (.inr (.inl v1)), none, some (.inl (v3 + (1 : Int32))), none] [] (mem E mu la) (qL E Q))) ∧ (¬ ((6 : Int32) ≤ v4) → (FnI E d mi_167 [.inr (.inr (some (7, v0))), .inl v3, .inl v4] mu la (fun x4 mu5 la6 => Ev E (d + 1) mi_226 26 [some (.inr (.inr (some (7, v0)))), some (.inr (.inl (((31 : Int64) * v1) + x4.toInt64))), none, some (.inl v3), some (.inl (v4 + (1 : Int32)))] [] (mem E mu5 la6) (qL E Q))))) : Ev E (d + 1) mi_226 26 [some (.inr (.inr (some (7, v0)))), some (.inr (.inl v1)), none, some (.inl v3), some (.inl v4)] [] (mem E mu la) (qL E Q) := by
  refine Ev.steps 2 (ip' := 28) (ls' := [some (.inr (.inr (some (7, v0)))), some (.inr (.inl v1)), none, some (.inl v3), some (.inl v4)]) (st' := [.inl (6 : Int32), .inl v4]) (M' := mem E mu la) rfl ?_
  refine Ev.br (c := (6 : Int32) ≤ v4) (s1 := (41, [some (.inr (.inr (some (7, v0)))), some (.inr (.inl v1)), none, some (.inl v3), some (.inl v4)], [], mem E mu la)) (s2 := (29, [some (.inr (.inr (some (7, v0)))), some (.inr (.inl v1)), none, some (.inl v3), some (.inl v4)], [], mem E mu la)) rfl rfl rfl rfl (fun hc => ?_) (fun hc => ?_)
  · have h := h.1 hc
    dsimp only
    refine Ev.steps 2 (ip' := 20) (ls' := [some (.inr (.inr (some (7, v0)))), some (.inr (.inl v1)), none, some (.inl (v3 + (1 : Int32))), some (.inl v4)]) (st' := []) (M' := mem E mu la) rfl ?_
    refine Ev.drop (ls := [some (.inr (.inr (some (7, v0)))), some (.inr (.inl v1)), none, some (.inl (v3 + (1 : Int32))), none]) ⟨Or.inr rfl, Or.inr rfl, Or.inr rfl, Or.inr rfl, Or.inl rfl, trivial⟩ ?_
    exact h
  · have h := h.2 hc
    dsimp only
    refine Ev.steps 6 (ip' := 35) (ls' := [some (.inr (.inr (some (7, v0)))), some (.inr (.inl v1)), none, some (.inl v3), some (.inl v4)]) (st' := [.inl v4, .inl v3, .inr (.inr (some (7, v0))), .inr (.inl ((31 : Int64) * v1))]) (M' := mem E mu la) rfl ?_
    refine Ev.ci (J := mi_167) (as := [.inr (.inr (some (7, v0))), .inl v3, .inl v4]) (rest := [.inr (.inl ((31 : Int64) * v1))]) rfl rfl rfl (Nat.le_of_ble_eq_true rfl) h (fun x4 mu5 la6 h => ?_)
    refine Ev.steps 5 (ip' := 26) (ls' := [some (.inr (.inr (some (7, v0)))), some (.inr (.inl (((31 : Int64) * v1) + x4.toInt64))), none, some (.inl v3), some (.inl (v4 + (1 : Int32)))]) (st' := []) (M' := mem E mu5 la6) rfl ?_
    exact h
set_option maxRecDepth 100000 in
theorem vc_X7_digest_45 {E : mEv} {d : Nat}  (v0 : Nat) (v1 : Int64) (v3 : Int32) {mu : fMu} {la : fLa} {Q : Int64 → fMu → fLa → Prop} (h : ((mu 7 v0 4) ≤ v3 → (Ev E (d + 1) mi_226 64 [some (.inr (.inr (some (7, v0)))), some (.inr (.inl v1)), none, some (.inl (0 : Int32)), none] [] (mem E mu la) (qL E Q))) ∧ (¬ ((mu 7 v0 4) ≤ v3) → (FnI E d mi_164 [.inr (.inr (some (7, v0))), .inr (.inr (some (38, v0))), .inl v3] mu la (fun x7 mu8 la9 => Ev E (d + 1) mi_226 45 [some (.inr (.inr (some (7, v0)))), some (.inr (.inl (((31 : Int64) * v1) + x7.toInt64))), none, some (.inl (v3 + (1 : Int32))), none] [] (mem E mu8 la9) (qL E Q))))) : Ev E (d + 1) mi_226 45 [some (.inr (.inr (some (7, v0)))), some (.inr (.inl v1)), none, some (.inl v3), none] [] (mem E mu la) (qL E Q) := by
  refine Ev.steps 3 (ip' := 48) (ls' := [some (.inr (.inr (some (7, v0)))), some (.inr (.inl v1)), none, some (.inl v3), none]) (st' := [.inl (mu 7 v0 4), .inl v3]) (M' := mem E mu la) rfl ?_
  refine Ev.br (c := (mu 7 v0 4) ≤ v3) (s1 := (62, [some (.inr (.inr (some (7, v0)))), some (.inr (.inl v1)), none, some (.inl v3), none], [], mem E mu la)) (s2 := (49, [some (.inr (.inr (some (7, v0)))), some (.inr (.inl v1)), none, some (.inl v3), none], [], mem E mu la)) rfl rfl rfl rfl (fun hc => ?_) (fun hc => ?_)
  · have h := h.1 hc
    dsimp only
    refine Ev.steps 2 (ip' := 64) (ls' := [some (.inr (.inr (some (7, v0)))), some (.inr (.inl v1)), none, some (.inl (0 : Int32)), none]) (st' := []) (M' := mem E mu la) rfl ?_
    exact h
  · have h := h.2 hc
    dsimp only
    refine Ev.steps 7 (ip' := 56) (ls' := [some (.inr (.inr (some (7, v0)))), some (.inr (.inl v1)), none, some (.inl v3), none]) (st' := [.inl v3, .inr (.inr (some (38, v0))), .inr (.inr (some (7, v0))), .inr (.inl ((31 : Int64) * v1))]) (M' := mem E mu la) rfl ?_
    refine Ev.ci (J := mi_164) (as := [.inr (.inr (some (7, v0))), .inr (.inr (some (38, v0))), .inl v3]) (rest := [.inr (.inl ((31 : Int64) * v1))]) rfl rfl rfl (Nat.le_of_ble_eq_true rfl) h (fun x7 mu8 la9 h => ?_)
    refine Ev.steps 5 (ip' := 45) (ls' := [some (.inr (.inr (some (7, v0)))), some (.inr (.inl (((31 : Int64) * v1) + x7.toInt64))), none, some (.inl (v3 + (1 : Int32))), none]) (st' := []) (M' := mem E mu8 la9) rfl ?_
    exact h
set_option maxRecDepth 100000 in
theorem vc_X7_digest_64 {E : mEv} {d : Nat}  (v0 : Nat) (v1 : Int64) (v3 : Int32) {mu : fMu} {la : fLa} {Q : Int64 → fMu → fLa → Prop} (h : ((3 : Int32) ≤ v3 → (Ev E (d + 1) mi_226 92 [some (.inr (.inr (some (7, v0)))), some (.inr (.inl v1)), none, some (.inl (0 : Int32)), none] [] (mem E mu la) (qL E Q))) ∧ (¬ ((3 : Int32) ≤ v3) → (vp_in v3 3 ∧ (((mu 42 v0 v3.toNatClampNeg) = 0 → (Ev E (d + 1) mi_226 64 [some (.inr (.inr (some (7, v0)))), some (.inr (.inl (((31 : Int64) * v1) + ((-1 : Int32).toInt64)))), none, some (.inl (v3 + (1 : Int32))), none] [] (mem E mu la) (qL E Q))) ∧ (¬ ((mu 42 v0 v3.toNatClampNeg) = 0) → (vp_in (((370 : Int32) * v3) + (369 : Int32)) 1110 ∧ (Ev E (d + 1) mi_226 64 [some (.inr (.inr (some (7, v0)))), some (.inr (.inl (((31 : Int64) * v1) + ((mu 41 v0 (((370 : Int32) * v3) + (369 : Int32)).toNatClampNeg).toInt64)))), none, some (.inl (v3 + (1 : Int32))), none] [] (mem E mu la) (qL E Q)))))))) : Ev E (d + 1) mi_226 64 [some (.inr (.inr (some (7, v0)))), some (.inr (.inl v1)), none, some (.inl v3), none] [] (mem E mu la) (qL E Q) := by
  refine Ev.steps 2 (ip' := 66) (ls' := [some (.inr (.inr (some (7, v0)))), some (.inr (.inl v1)), none, some (.inl v3), none]) (st' := [.inl (3 : Int32), .inl v3]) (M' := mem E mu la) rfl ?_
  refine Ev.br (c := (3 : Int32) ≤ v3) (s1 := (90, [some (.inr (.inr (some (7, v0)))), some (.inr (.inl v1)), none, some (.inl v3), none], [], mem E mu la)) (s2 := (67, [some (.inr (.inr (some (7, v0)))), some (.inr (.inl v1)), none, some (.inl v3), none], [], mem E mu la)) rfl rfl rfl rfl (fun hc => ?_) (fun hc => ?_)
  · have h := h.1 hc
    dsimp only
    refine Ev.steps 2 (ip' := 92) (ls' := [some (.inr (.inr (some (7, v0)))), some (.inr (.inl v1)), none, some (.inl (0 : Int32)), none]) (st' := []) (M' := mem E mu la) rfl ?_
    exact h
  · have h := h.2 hc
    dsimp only
    refine Ev.steps 6 (ip' := 73) (ls' := [some (.inr (.inr (some (7, v0)))), some (.inr (.inl v1)), none, some (.inl v3), none]) (st' := [.inl v3, .inr (.inr (some (42, v0))), .inr (.inl ((31 : Int64) * v1))]) (M' := mem E mu la) rfl ?_
    refine Ev.bal rfl (Or.inr rfl) h.1 ?_
    have h := h.2
    refine Ev.br (c := (mu 42 v0 v3.toNatClampNeg) = 0) (s1 := (84, [some (.inr (.inr (some (7, v0)))), some (.inr (.inl v1)), none, some (.inl v3), none], [.inr (.inl ((31 : Int64) * v1))], mem E mu la)) (s2 := (75, [some (.inr (.inr (some (7, v0)))), some (.inr (.inl v1)), none, some (.inl v3), none], [.inr (.inl ((31 : Int64) * v1))], mem E mu la)) rfl rfl rfl rfl (fun hc => ?_) (fun hc => ?_)
    · have h := h.1 hc
      dsimp only
      refine Ev.steps 6 (ip' := 64) (ls' := [some (.inr (.inr (some (7, v0)))), some (.inr (.inl (((31 : Int64) * v1) + ((-1 : Int32).toInt64)))), none, some (.inl (v3 + (1 : Int32))), none]) (st' := []) (M' := mem E mu la) rfl ?_
      exact h
    · have h := h.2 hc
      dsimp only
      refine Ev.steps 7 (ip' := 82) (ls' := [some (.inr (.inr (some (7, v0)))), some (.inr (.inl v1)), none, some (.inl v3), none]) (st' := [.inl (((370 : Int32) * v3) + (369 : Int32)), .inr (.inr (some (41, v0))), .inr (.inl ((31 : Int64) * v1))]) (M' := mem E mu la) rfl ?_
      refine Ev.ial rfl rfl (by decide) h.1 ?_
      have h := h.2
      refine Ev.steps 6 (ip' := 64) (ls' := [some (.inr (.inr (some (7, v0)))), some (.inr (.inl (((31 : Int64) * v1) + ((mu 41 v0 (((370 : Int32) * v3) + (369 : Int32)).toNatClampNeg).toInt64)))), none, some (.inl (v3 + (1 : Int32))), none]) (st' := []) (M' := mem E mu la) rfl ?_
      exact h
set_option maxRecDepth 100000 in
theorem vc_X7_digest_92 {E : mEv} {d : Nat}  (v0 : Nat) (v1 : Int64) (v3 : Int32) {mu : fMu} {la : fLa} {Q : Int64 → fMu → fLa → Prop} (h : ((6 : Int32) ≤ v3 → (Ev E (d + 1) mi_226 133 [some (.inr (.inr (some (7, v0)))), some (.inr (.inl v1)), none, some (.inl (0 : Int32)), none] [] (mem E mu la) (qL E Q))) ∧ (¬ ((6 : Int32) ≤ v3) → (vp_in v3 6 ∧ (Ev E (d + 1) mi_226 107 [some (.inr (.inr (some (7, v0)))), some (.inr (.inl (((31 : Int64) * v1) + ((mu 29 v0 v3.toNatClampNeg).toInt64)))), none, some (.inl v3), some (.inl (0 : Int32))] [] (mem E mu la) (qL E Q))))) : Ev E (d + 1) mi_226 92 [some (.inr (.inr (some (7, v0)))), some (.inr (.inl v1)), none, some (.inl v3), none] [] (mem E mu la) (qL E Q) := by
  refine Ev.steps 2 (ip' := 94) (ls' := [some (.inr (.inr (some (7, v0)))), some (.inr (.inl v1)), none, some (.inl v3), none]) (st' := [.inl (6 : Int32), .inl v3]) (M' := mem E mu la) rfl ?_
  refine Ev.br (c := (6 : Int32) ≤ v3) (s1 := (131, [some (.inr (.inr (some (7, v0)))), some (.inr (.inl v1)), none, some (.inl v3), none], [], mem E mu la)) (s2 := (95, [some (.inr (.inr (some (7, v0)))), some (.inr (.inl v1)), none, some (.inl v3), none], [], mem E mu la)) rfl rfl rfl rfl (fun hc => ?_) (fun hc => ?_)
  · have h := h.1 hc
    dsimp only
    refine Ev.steps 2 (ip' := 133) (ls' := [some (.inr (.inr (some (7, v0)))), some (.inr (.inl v1)), none, some (.inl (0 : Int32)), none]) (st' := []) (M' := mem E mu la) rfl ?_
    exact h
  · have h := h.2 hc
    dsimp only
    refine Ev.steps 6 (ip' := 101) (ls' := [some (.inr (.inr (some (7, v0)))), some (.inr (.inl v1)), none, some (.inl v3), none]) (st' := [.inl v3, .inr (.inr (some (29, v0))), .inr (.inl ((31 : Int64) * v1))]) (M' := mem E mu la) rfl ?_
    refine Ev.ial rfl rfl (by decide) h.1 ?_
    have h := h.2
    refine Ev.steps 5 (ip' := 107) (ls' := [some (.inr (.inr (some (7, v0)))), some (.inr (.inl (((31 : Int64) * v1) + ((mu 29 v0 v3.toNatClampNeg).toInt64)))), none, some (.inl v3), some (.inl (0 : Int32))]) (st' := []) (M' := mem E mu la) rfl ?_
    exact h
set_option maxRecDepth 100000 in
theorem vc_X7_digest_107 {E : mEv} {d : Nat}  (v0 : Nat) (v1 : Int64) (v3 : Int32) (v4 : Int32) {mu : fMu} {la : fLa} {Q : Int64 → fMu → fLa → Prop} (h : vp_in v3 6 ∧ (((mu 29 v0 v3.toNatClampNeg) ≤ v4 → (Ev E (d + 1) mi_226 92 [some (.inr (.inr (some (7, v0)))), some (.inr (.inl v1)), none, some (.inl (v3 + (1 : Int32))), none] [] (mem E mu la) (qL E Q))) ∧ (¬ ((mu 29 v0 v3.toNatClampNeg) ≤ v4) → (vp_in (((40 : Int32) * v3) + v4) 240 ∧ (Ev E (d + 1) mi_226 107 [some (.inr (.inr (some (7, v0)))), some (.inr (.inl (((31 : Int64) * v1) + ((mu 30 v0 (((40 : Int32) * v3) + v4).toNatClampNeg).toInt64)))), none, some (.inl v3), some (.inl (v4 + (1 : Int32)))] [] (mem E mu la) (qL E Q)))))) : Ev E (d + 1) mi_226 107 [some (.inr (.inr (some (7, v0)))), some (.inr (.inl v1)), none, some (.inl v3), some (.inl v4)] [] (mem E mu la) (qL E Q) := by
  refine Ev.steps 4 (ip' := 111) (ls' := [some (.inr (.inr (some (7, v0)))), some (.inr (.inl v1)), none, some (.inl v3), some (.inl v4)]) (st' := [.inl v3, .inr (.inr (some (29, v0))), .inl v4]) (M' := mem E mu la) rfl ?_
  refine Ev.ial rfl rfl (by decide) h.1 ?_
  have h := h.2
  refine Ev.br (c := (mu 29 v0 v3.toNatClampNeg) ≤ v4) (s1 := (129, [some (.inr (.inr (some (7, v0)))), some (.inr (.inl v1)), none, some (.inl v3), some (.inl v4)], [], mem E mu la)) (s2 := (113, [some (.inr (.inr (some (7, v0)))), some (.inr (.inl v1)), none, some (.inl v3), some (.inl v4)], [], mem E mu la)) rfl rfl rfl rfl (fun hc => ?_) (fun hc => ?_)
  · have h := h.1 hc
    dsimp only
    refine Ev.steps 2 (ip' := 92) (ls' := [some (.inr (.inr (some (7, v0)))), some (.inr (.inl v1)), none, some (.inl (v3 + (1 : Int32))), some (.inl v4)]) (st' := []) (M' := mem E mu la) rfl ?_
    refine Ev.drop (ls := [some (.inr (.inr (some (7, v0)))), some (.inr (.inl v1)), none, some (.inl (v3 + (1 : Int32))), none]) ⟨Or.inr rfl, Or.inr rfl, Or.inr rfl, Or.inr rfl, Or.inl rfl, trivial⟩ ?_
    exact h
  · have h := h.2 hc
    dsimp only
    refine Ev.steps 10 (ip' := 123) (ls' := [some (.inr (.inr (some (7, v0)))), some (.inr (.inl v1)), none, some (.inl v3), some (.inl v4)]) (st' := [.inl (((40 : Int32) * v3) + v4), .inr (.inr (some (30, v0))), .inr (.inl ((31 : Int64) * v1))]) (M' := mem E mu la) rfl ?_
    refine Ev.ial rfl rfl (by decide) h.1 ?_
    have h := h.2
    refine Ev.steps 5 (ip' := 107) (ls' := [some (.inr (.inr (some (7, v0)))), some (.inr (.inl (((31 : Int64) * v1) + ((mu 30 v0 (((40 : Int32) * v3) + v4).toNatClampNeg).toInt64)))), none, some (.inl v3), some (.inl (v4 + (1 : Int32)))]) (st' := []) (M' := mem E mu la) rfl ?_
    exact h
set_option maxRecDepth 100000 in
theorem vc_X7_digest_133 {E : mEv} {d : Nat}  (v0 : Nat) (v1 : Int64) (v3 : Int32) {mu : fMu} {la : fLa} {Q : Int64 → fMu → fLa → Prop} (h : ((4 : Int32) ≤ v3 → (Q v1 mu la)) ∧ (¬ ((4 : Int32) ≤ v3) → (vp_in v3 4 ∧ (Ev E (d + 1) mi_226 148 [some (.inr (.inr (some (7, v0)))), some (.inr (.inl (((31 : Int64) * v1) + ((mu 31 v0 v3.toNatClampNeg).toInt64)))), none, some (.inl v3), some (.inl (0 : Int32))] [] (mem E mu la) (qL E Q))))) : Ev E (d + 1) mi_226 133 [some (.inr (.inr (some (7, v0)))), some (.inr (.inl v1)), none, some (.inl v3), none] [] (mem E mu la) (qL E Q) := by
  refine Ev.steps 2 (ip' := 135) (ls' := [some (.inr (.inr (some (7, v0)))), some (.inr (.inl v1)), none, some (.inl v3), none]) (st' := [.inl (4 : Int32), .inl v3]) (M' := mem E mu la) rfl ?_
  refine Ev.br (c := (4 : Int32) ≤ v3) (s1 := (172, [some (.inr (.inr (some (7, v0)))), some (.inr (.inl v1)), none, some (.inl v3), none], [], mem E mu la)) (s2 := (136, [some (.inr (.inr (some (7, v0)))), some (.inr (.inl v1)), none, some (.inl v3), none], [], mem E mu la)) rfl rfl rfl rfl (fun hc => ?_) (fun hc => ?_)
  · have h := h.1 hc
    dsimp only
    refine Ev.steps 1 (ip' := 173) (ls' := [some (.inr (.inr (some (7, v0)))), some (.inr (.inl v1)), none, some (.inl v3), none]) (st' := [.inr (.inl v1)]) (M' := mem E mu la) rfl ?_
    exact Ev.ret rfl rfl ⟨_, _, _, rfl, rfl, h⟩
  · have h := h.2 hc
    dsimp only
    refine Ev.steps 6 (ip' := 142) (ls' := [some (.inr (.inr (some (7, v0)))), some (.inr (.inl v1)), none, some (.inl v3), none]) (st' := [.inl v3, .inr (.inr (some (31, v0))), .inr (.inl ((31 : Int64) * v1))]) (M' := mem E mu la) rfl ?_
    refine Ev.ial rfl rfl (by decide) h.1 ?_
    have h := h.2
    refine Ev.steps 5 (ip' := 148) (ls' := [some (.inr (.inr (some (7, v0)))), some (.inr (.inl (((31 : Int64) * v1) + ((mu 31 v0 v3.toNatClampNeg).toInt64)))), none, some (.inl v3), some (.inl (0 : Int32))]) (st' := []) (M' := mem E mu la) rfl ?_
    exact h
set_option maxRecDepth 100000 in
theorem vc_X7_digest_148 {E : mEv} {d : Nat}  (v0 : Nat) (v1 : Int64) (v3 : Int32) (v4 : Int32) {mu : fMu} {la : fLa} {Q : Int64 → fMu → fLa → Prop} (h : vp_in v3 4 ∧ (((mu 31 v0 v3.toNatClampNeg) ≤ v4 → (Ev E (d + 1) mi_226 133 [some (.inr (.inr (some (7, v0)))), some (.inr (.inl v1)), none, some (.inl (v3 + (1 : Int32))), none] [] (mem E mu la) (qL E Q))) ∧ (¬ ((mu 31 v0 v3.toNatClampNeg) ≤ v4) → (vp_in (((60 : Int32) * v3) + v4) 240 ∧ (Ev E (d + 1) mi_226 148 [some (.inr (.inr (some (7, v0)))), some (.inr (.inl (((31 : Int64) * v1) + ((mu 32 v0 (((60 : Int32) * v3) + v4).toNatClampNeg).toInt64)))), none, some (.inl v3), some (.inl (v4 + (1 : Int32)))] [] (mem E mu la) (qL E Q)))))) : Ev E (d + 1) mi_226 148 [some (.inr (.inr (some (7, v0)))), some (.inr (.inl v1)), none, some (.inl v3), some (.inl v4)] [] (mem E mu la) (qL E Q) := by
  refine Ev.steps 4 (ip' := 152) (ls' := [some (.inr (.inr (some (7, v0)))), some (.inr (.inl v1)), none, some (.inl v3), some (.inl v4)]) (st' := [.inl v3, .inr (.inr (some (31, v0))), .inl v4]) (M' := mem E mu la) rfl ?_
  refine Ev.ial rfl rfl (by decide) h.1 ?_
  have h := h.2
  refine Ev.br (c := (mu 31 v0 v3.toNatClampNeg) ≤ v4) (s1 := (170, [some (.inr (.inr (some (7, v0)))), some (.inr (.inl v1)), none, some (.inl v3), some (.inl v4)], [], mem E mu la)) (s2 := (154, [some (.inr (.inr (some (7, v0)))), some (.inr (.inl v1)), none, some (.inl v3), some (.inl v4)], [], mem E mu la)) rfl rfl rfl rfl (fun hc => ?_) (fun hc => ?_)
  · have h := h.1 hc
    dsimp only
    refine Ev.steps 2 (ip' := 133) (ls' := [some (.inr (.inr (some (7, v0)))), some (.inr (.inl v1)), none, some (.inl (v3 + (1 : Int32))), some (.inl v4)]) (st' := []) (M' := mem E mu la) rfl ?_
    refine Ev.drop (ls := [some (.inr (.inr (some (7, v0)))), some (.inr (.inl v1)), none, some (.inl (v3 + (1 : Int32))), none]) ⟨Or.inr rfl, Or.inr rfl, Or.inr rfl, Or.inr rfl, Or.inl rfl, trivial⟩ ?_
    exact h
  · have h := h.2 hc
    dsimp only
    refine Ev.steps 10 (ip' := 164) (ls' := [some (.inr (.inr (some (7, v0)))), some (.inr (.inl v1)), none, some (.inl v3), some (.inl v4)]) (st' := [.inl (((60 : Int32) * v3) + v4), .inr (.inr (some (32, v0))), .inr (.inl ((31 : Int64) * v1))]) (M' := mem E mu la) rfl ?_
    refine Ev.ial rfl rfl (by decide) h.1 ?_
    have h := h.2
    refine Ev.steps 5 (ip' := 148) (ls' := [some (.inr (.inr (some (7, v0)))), some (.inr (.inl (((31 : Int64) * v1) + ((mu 32 v0 (((60 : Int32) * v3) + v4).toNatClampNeg).toInt64)))), none, some (.inl v3), some (.inl (v4 + (1 : Int32)))]) (st' := []) (M' := mem E mu la) rfl ?_
    exact h
set_option maxRecDepth 100000 in
/-- java/lang/Integer.bitCount(I)I -/
theorem vc_J6_bitCount_0f7a4 {E : mEv} {d : Nat} (a0 : Int32) {mu : fMu} {la : fLa} {Q : Int32 → fMu → fLa → Prop} (h : Q ((((((((a0 - (((a0.toUInt32 >>> ((1 : Int32).toUInt32 &&& Int32.toUInt32 31)).toInt32) &&& (1431655765 : Int32))) &&& (858993459 : Int32)) + ((((a0 - (((a0.toUInt32 >>> ((1 : Int32).toUInt32 &&& Int32.toUInt32 31)).toInt32) &&& (1431655765 : Int32))).toUInt32 >>> ((2 : Int32).toUInt32 &&& Int32.toUInt32 31)).toInt32) &&& (858993459 : Int32))) + (((((a0 - (((a0.toUInt32 >>> ((1 : Int32).toUInt32 &&& Int32.toUInt32 31)).toInt32) &&& (1431655765 : Int32))) &&& (858993459 : Int32)) + ((((a0 - (((a0.toUInt32 >>> ((1 : Int32).toUInt32 &&& Int32.toUInt32 31)).toInt32) &&& (1431655765 : Int32))).toUInt32 >>> ((2 : Int32).toUInt32 &&& Int32.toUInt32 31)).toInt32) &&& (858993459 : Int32))).toUInt32 >>> ((4 : Int32).toUInt32 &&& Int32.toUInt32 31)).toInt32)) &&& (252645135 : Int32)) + (((((((a0 - (((a0.toUInt32 >>> ((1 : Int32).toUInt32 &&& Int32.toUInt32 31)).toInt32) &&& (1431655765 : Int32))) &&& (858993459 : Int32)) + ((((a0 - (((a0.toUInt32 >>> ((1 : Int32).toUInt32 &&& Int32.toUInt32 31)).toInt32) &&& (1431655765 : Int32))).toUInt32 >>> ((2 : Int32).toUInt32 &&& Int32.toUInt32 31)).toInt32) &&& (858993459 : Int32))) + (((((a0 - (((a0.toUInt32 >>> ((1 : Int32).toUInt32 &&& Int32.toUInt32 31)).toInt32) &&& (1431655765 : Int32))) &&& (858993459 : Int32)) + ((((a0 - (((a0.toUInt32 >>> ((1 : Int32).toUInt32 &&& Int32.toUInt32 31)).toInt32) &&& (1431655765 : Int32))).toUInt32 >>> ((2 : Int32).toUInt32 &&& Int32.toUInt32 31)).toInt32) &&& (858993459 : Int32))).toUInt32 >>> ((4 : Int32).toUInt32 &&& Int32.toUInt32 31)).toInt32)) &&& (252645135 : Int32)).toUInt32 >>> ((8 : Int32).toUInt32 &&& Int32.toUInt32 31)).toInt32)) + ((((((((a0 - (((a0.toUInt32 >>> ((1 : Int32).toUInt32 &&& Int32.toUInt32 31)).toInt32) &&& (1431655765 : Int32))) &&& (858993459 : Int32)) + ((((a0 - (((a0.toUInt32 >>> ((1 : Int32).toUInt32 &&& Int32.toUInt32 31)).toInt32) &&& (1431655765 : Int32))).toUInt32 >>> ((2 : Int32).toUInt32 &&& Int32.toUInt32 31)).toInt32) &&& (858993459 : Int32))) + (((((a0 - (((a0.toUInt32 >>> ((1 : Int32).toUInt32 &&& Int32.toUInt32 31)).toInt32) &&& (1431655765 : Int32))) &&& (858993459 : Int32)) + ((((a0 - (((a0.toUInt32 >>> ((1 : Int32).toUInt32 &&& Int32.toUInt32 31)).toInt32) &&& (1431655765 : Int32))).toUInt32 >>> ((2 : Int32).toUInt32 &&& Int32.toUInt32 31)).toInt32) &&& (858993459 : Int32))).toUInt32 >>> ((4 : Int32).toUInt32 &&& Int32.toUInt32 31)).toInt32)) &&& (252645135 : Int32)) + (((((((a0 - (((a0.toUInt32 >>> ((1 : Int32).toUInt32 &&& Int32.toUInt32 31)).toInt32) &&& (1431655765 : Int32))) &&& (858993459 : Int32)) + ((((a0 - (((a0.toUInt32 >>> ((1 : Int32).toUInt32 &&& Int32.toUInt32 31)).toInt32) &&& (1431655765 : Int32))).toUInt32 >>> ((2 : Int32).toUInt32 &&& Int32.toUInt32 31)).toInt32) &&& (858993459 : Int32))) + (((((a0 - (((a0.toUInt32 >>> ((1 : Int32).toUInt32 &&& Int32.toUInt32 31)).toInt32) &&& (1431655765 : Int32))) &&& (858993459 : Int32)) + ((((a0 - (((a0.toUInt32 >>> ((1 : Int32).toUInt32 &&& Int32.toUInt32 31)).toInt32) &&& (1431655765 : Int32))).toUInt32 >>> ((2 : Int32).toUInt32 &&& Int32.toUInt32 31)).toInt32) &&& (858993459 : Int32))).toUInt32 >>> ((4 : Int32).toUInt32 &&& Int32.toUInt32 31)).toInt32)) &&& (252645135 : Int32)).toUInt32 >>> ((8 : Int32).toUInt32 &&& Int32.toUInt32 31)).toInt32)).toUInt32 >>> ((16 : Int32).toUInt32 &&& Int32.toUInt32 31)).toInt32)) &&& (63 : Int32)) mu la) : FnI E d mi_227 [.inl a0] mu la Q := by
  unfold FnI
  show Ev E d mi_227 0 [some (.inl a0)] [] (mem E mu la) (qI E Q)
  refine Ev.steps 41 (ip' := 41) (ls' := [some (.inl (((((((a0 - (((a0.toUInt32 >>> ((1 : Int32).toUInt32 &&& Int32.toUInt32 31)).toInt32) &&& (1431655765 : Int32))) &&& (858993459 : Int32)) + ((((a0 - (((a0.toUInt32 >>> ((1 : Int32).toUInt32 &&& Int32.toUInt32 31)).toInt32) &&& (1431655765 : Int32))).toUInt32 >>> ((2 : Int32).toUInt32 &&& Int32.toUInt32 31)).toInt32) &&& (858993459 : Int32))) + (((((a0 - (((a0.toUInt32 >>> ((1 : Int32).toUInt32 &&& Int32.toUInt32 31)).toInt32) &&& (1431655765 : Int32))) &&& (858993459 : Int32)) + ((((a0 - (((a0.toUInt32 >>> ((1 : Int32).toUInt32 &&& Int32.toUInt32 31)).toInt32) &&& (1431655765 : Int32))).toUInt32 >>> ((2 : Int32).toUInt32 &&& Int32.toUInt32 31)).toInt32) &&& (858993459 : Int32))).toUInt32 >>> ((4 : Int32).toUInt32 &&& Int32.toUInt32 31)).toInt32)) &&& (252645135 : Int32)) + (((((((a0 - (((a0.toUInt32 >>> ((1 : Int32).toUInt32 &&& Int32.toUInt32 31)).toInt32) &&& (1431655765 : Int32))) &&& (858993459 : Int32)) + ((((a0 - (((a0.toUInt32 >>> ((1 : Int32).toUInt32 &&& Int32.toUInt32 31)).toInt32) &&& (1431655765 : Int32))).toUInt32 >>> ((2 : Int32).toUInt32 &&& Int32.toUInt32 31)).toInt32) &&& (858993459 : Int32))) + (((((a0 - (((a0.toUInt32 >>> ((1 : Int32).toUInt32 &&& Int32.toUInt32 31)).toInt32) &&& (1431655765 : Int32))) &&& (858993459 : Int32)) + ((((a0 - (((a0.toUInt32 >>> ((1 : Int32).toUInt32 &&& Int32.toUInt32 31)).toInt32) &&& (1431655765 : Int32))).toUInt32 >>> ((2 : Int32).toUInt32 &&& Int32.toUInt32 31)).toInt32) &&& (858993459 : Int32))).toUInt32 >>> ((4 : Int32).toUInt32 &&& Int32.toUInt32 31)).toInt32)) &&& (252645135 : Int32)).toUInt32 >>> ((8 : Int32).toUInt32 &&& Int32.toUInt32 31)).toInt32)) + ((((((((a0 - (((a0.toUInt32 >>> ((1 : Int32).toUInt32 &&& Int32.toUInt32 31)).toInt32) &&& (1431655765 : Int32))) &&& (858993459 : Int32)) + ((((a0 - (((a0.toUInt32 >>> ((1 : Int32).toUInt32 &&& Int32.toUInt32 31)).toInt32) &&& (1431655765 : Int32))).toUInt32 >>> ((2 : Int32).toUInt32 &&& Int32.toUInt32 31)).toInt32) &&& (858993459 : Int32))) + (((((a0 - (((a0.toUInt32 >>> ((1 : Int32).toUInt32 &&& Int32.toUInt32 31)).toInt32) &&& (1431655765 : Int32))) &&& (858993459 : Int32)) + ((((a0 - (((a0.toUInt32 >>> ((1 : Int32).toUInt32 &&& Int32.toUInt32 31)).toInt32) &&& (1431655765 : Int32))).toUInt32 >>> ((2 : Int32).toUInt32 &&& Int32.toUInt32 31)).toInt32) &&& (858993459 : Int32))).toUInt32 >>> ((4 : Int32).toUInt32 &&& Int32.toUInt32 31)).toInt32)) &&& (252645135 : Int32)) + (((((((a0 - (((a0.toUInt32 >>> ((1 : Int32).toUInt32 &&& Int32.toUInt32 31)).toInt32) &&& (1431655765 : Int32))) &&& (858993459 : Int32)) + ((((a0 - (((a0.toUInt32 >>> ((1 : Int32).toUInt32 &&& Int32.toUInt32 31)).toInt32) &&& (1431655765 : Int32))).toUInt32 >>> ((2 : Int32).toUInt32 &&& Int32.toUInt32 31)).toInt32) &&& (858993459 : Int32))) + (((((a0 - (((a0.toUInt32 >>> ((1 : Int32).toUInt32 &&& Int32.toUInt32 31)).toInt32) &&& (1431655765 : Int32))) &&& (858993459 : Int32)) + ((((a0 - (((a0.toUInt32 >>> ((1 : Int32).toUInt32 &&& Int32.toUInt32 31)).toInt32) &&& (1431655765 : Int32))).toUInt32 >>> ((2 : Int32).toUInt32 &&& Int32.toUInt32 31)).toInt32) &&& (858993459 : Int32))).toUInt32 >>> ((4 : Int32).toUInt32 &&& Int32.toUInt32 31)).toInt32)) &&& (252645135 : Int32)).toUInt32 >>> ((8 : Int32).toUInt32 &&& Int32.toUInt32 31)).toInt32)).toUInt32 >>> ((16 : Int32).toUInt32 &&& Int32.toUInt32 31)).toInt32)))]) (st' := [.inl ((((((((a0 - (((a0.toUInt32 >>> ((1 : Int32).toUInt32 &&& Int32.toUInt32 31)).toInt32) &&& (1431655765 : Int32))) &&& (858993459 : Int32)) + ((((a0 - (((a0.toUInt32 >>> ((1 : Int32).toUInt32 &&& Int32.toUInt32 31)).toInt32) &&& (1431655765 : Int32))).toUInt32 >>> ((2 : Int32).toUInt32 &&& Int32.toUInt32 31)).toInt32) &&& (858993459 : Int32))) + (((((a0 - (((a0.toUInt32 >>> ((1 : Int32).toUInt32 &&& Int32.toUInt32 31)).toInt32) &&& (1431655765 : Int32))) &&& (858993459 : Int32)) + ((((a0 - (((a0.toUInt32 >>> ((1 : Int32).toUInt32 &&& Int32.toUInt32 31)).toInt32) &&& (1431655765 : Int32))).toUInt32 >>> ((2 : Int32).toUInt32 &&& Int32.toUInt32 31)).toInt32) &&& (858993459 : Int32))).toUInt32 >>> ((4 : Int32).toUInt32 &&& Int32.toUInt32 31)).toInt32)) &&& (252645135 : Int32)) + (((((((a0 - (((a0.toUInt32 >>> ((1 : Int32).toUInt32 &&& Int32.toUInt32 31)).toInt32) &&& (1431655765 : Int32))) &&& (858993459 : Int32)) + ((((a0 - (((a0.toUInt32 >>> ((1 : Int32).toUInt32 &&& Int32.toUInt32 31)).toInt32) &&& (1431655765 : Int32))).toUInt32 >>> ((2 : Int32).toUInt32 &&& Int32.toUInt32 31)).toInt32) &&& (858993459 : Int32))) + (((((a0 - (((a0.toUInt32 >>> ((1 : Int32).toUInt32 &&& Int32.toUInt32 31)).toInt32) &&& (1431655765 : Int32))) &&& (858993459 : Int32)) + ((((a0 - (((a0.toUInt32 >>> ((1 : Int32).toUInt32 &&& Int32.toUInt32 31)).toInt32) &&& (1431655765 : Int32))).toUInt32 >>> ((2 : Int32).toUInt32 &&& Int32.toUInt32 31)).toInt32) &&& (858993459 : Int32))).toUInt32 >>> ((4 : Int32).toUInt32 &&& Int32.toUInt32 31)).toInt32)) &&& (252645135 : Int32)).toUInt32 >>> ((8 : Int32).toUInt32 &&& Int32.toUInt32 31)).toInt32)) + ((((((((a0 - (((a0.toUInt32 >>> ((1 : Int32).toUInt32 &&& Int32.toUInt32 31)).toInt32) &&& (1431655765 : Int32))) &&& (858993459 : Int32)) + ((((a0 - (((a0.toUInt32 >>> ((1 : Int32).toUInt32 &&& Int32.toUInt32 31)).toInt32) &&& (1431655765 : Int32))).toUInt32 >>> ((2 : Int32).toUInt32 &&& Int32.toUInt32 31)).toInt32) &&& (858993459 : Int32))) + (((((a0 - (((a0.toUInt32 >>> ((1 : Int32).toUInt32 &&& Int32.toUInt32 31)).toInt32) &&& (1431655765 : Int32))) &&& (858993459 : Int32)) + ((((a0 - (((a0.toUInt32 >>> ((1 : Int32).toUInt32 &&& Int32.toUInt32 31)).toInt32) &&& (1431655765 : Int32))).toUInt32 >>> ((2 : Int32).toUInt32 &&& Int32.toUInt32 31)).toInt32) &&& (858993459 : Int32))).toUInt32 >>> ((4 : Int32).toUInt32 &&& Int32.toUInt32 31)).toInt32)) &&& (252645135 : Int32)) + (((((((a0 - (((a0.toUInt32 >>> ((1 : Int32).toUInt32 &&& Int32.toUInt32 31)).toInt32) &&& (1431655765 : Int32))) &&& (858993459 : Int32)) + ((((a0 - (((a0.toUInt32 >>> ((1 : Int32).toUInt32 &&& Int32.toUInt32 31)).toInt32) &&& (1431655765 : Int32))).toUInt32 >>> ((2 : Int32).toUInt32 &&& Int32.toUInt32 31)).toInt32) &&& (858993459 : Int32))) + (((((a0 - (((a0.toUInt32 >>> ((1 : Int32).toUInt32 &&& Int32.toUInt32 31)).toInt32) &&& (1431655765 : Int32))) &&& (858993459 : Int32)) + ((((a0 - (((a0.toUInt32 >>> ((1 : Int32).toUInt32 &&& Int32.toUInt32 31)).toInt32) &&& (1431655765 : Int32))).toUInt32 >>> ((2 : Int32).toUInt32 &&& Int32.toUInt32 31)).toInt32) &&& (858993459 : Int32))).toUInt32 >>> ((4 : Int32).toUInt32 &&& Int32.toUInt32 31)).toInt32)) &&& (252645135 : Int32)).toUInt32 >>> ((8 : Int32).toUInt32 &&& Int32.toUInt32 31)).toInt32)).toUInt32 >>> ((16 : Int32).toUInt32 &&& Int32.toUInt32 31)).toInt32)) &&& (63 : Int32))]) (M' := mem E mu la) rfl ?_
  exact Ev.ret rfl rfl ⟨_, _, _, rfl, rfl, h⟩
set_option maxRecDepth 100000 in
/-- java/util/Arrays.fill([II)V -/
theorem vc_J7_fill_53178 {E : mEv} {d : Nat} (k0 n0 a0 : Nat) (hk0 : nth mKs k0 = some (.inr (.int, n0))) (hz0 : k0 ≠ 100) (a1 : Int32) {mu : fMu} {la : fLa} {Q : fMu → fLa → Prop} (h : Ev E d mi_228 5 [some (.inr (.inr (some (k0, a0)))), some (.inl a1), some (.inl (0 : Int32)), some (.inl (Int32.ofNat n0))] [] (mem E mu la) (qV E Q)) : FnV E d mi_228 [.inr (.inr (some (k0, a0))), .inl a1] mu la Q := by
  unfold FnV
  show Ev E d mi_228 0 [some (.inr (.inr (some (k0, a0)))), some (.inl a1), none, none] [] (mem E mu la) (qV E Q)
  refine Ev.steps 3 (ip' := 3) (ls' := [some (.inr (.inr (some (k0, a0)))), some (.inl a1), some (.inl (0 : Int32)), none]) (st' := [.inr (.inr (some (k0, a0)))]) (M' := mem E mu la) rfl ?_
  refine Ev.aln rfl hk0 hz0 ?_
  refine Ev.steps 1 (ip' := 5) (ls' := [some (.inr (.inr (some (k0, a0)))), some (.inl a1), some (.inl (0 : Int32)), some (.inl (Int32.ofNat n0))]) (st' := []) (M' := mem E mu la) rfl ?_
  exact h
set_option maxRecDepth 100000 in
theorem vc_J7_fill_53178_5 {E : mEv} {d : Nat} (k0 n0 a0 : Nat) (hk0 : nth mKs k0 = some (.inr (.int, n0))) (hz0 : k0 ≠ 100) (v1 : Int32) (v2 : Int32) (v3 : Int32) {mu : fMu} {la : fLa} {Q : fMu → fLa → Prop} (h : (v3 ≤ v2 → (Q mu la)) ∧ (¬ (v3 ≤ v2) → (vp_in v2 n0 ∧ ∀ mu1 : fMu, mu1 = up3 mu k0 a0 v2.toNatClampNeg v1 → (Ev E d mi_228 5 [some (.inr (.inr (some (k0, a0)))), some (.inl v1), some (.inl (v2 + (1 : Int32))), some (.inl v3)] [] (mem E mu1 la) (qV E Q))))) : Ev E d mi_228 5 [some (.inr (.inr (some (k0, a0)))), some (.inl v1), some (.inl v2), some (.inl v3)] [] (mem E mu la) (qV E Q) := by
  refine Ev.steps 2 (ip' := 7) (ls' := [some (.inr (.inr (some (k0, a0)))), some (.inl v1), some (.inl v2), some (.inl v3)]) (st' := [.inl v3, .inl v2]) (M' := mem E mu la) rfl ?_
  refine Ev.br (c := v3 ≤ v2) (s1 := (14, [some (.inr (.inr (some (k0, a0)))), some (.inl v1), some (.inl v2), some (.inl v3)], [], mem E mu la)) (s2 := (8, [some (.inr (.inr (some (k0, a0)))), some (.inl v1), some (.inl v2), some (.inl v3)], [], mem E mu la)) rfl rfl rfl rfl (fun hc => ?_) (fun hc => ?_)
  · have h := h.1 hc
    dsimp only
    exact Ev.ret rfl rfl ⟨_, _, rfl, rfl, h⟩
  · have h := h.2 hc
    dsimp only
    refine Ev.steps 3 (ip' := 11) (ls' := [some (.inr (.inr (some (k0, a0)))), some (.inl v1), some (.inl v2), some (.inl v3)]) (st' := [.inl v1, .inl v2, .inr (.inr (some (k0, a0)))]) (M' := mem E mu la) rfl ?_
    refine Ev.ias rfl hk0 h.1 ?_
    have h := h.2
    generalize hgmu1 : up3 mu k0 a0 v2.toNatClampNeg v1 = mu1
    have h := h mu1 hgmu1.symm
    refine Ev.steps 2 (ip' := 5) (ls' := [some (.inr (.inr (some (k0, a0)))), some (.inl v1), some (.inl (v2 + (1 : Int32))), some (.inl v3)]) (st' := []) (M' := mem E mu1 la) rfl ?_
    exact h
set_option maxRecDepth 100000 in
/-- java/util/Arrays.fill([BB)V -/
theorem vc_J7_fill_031fb {E : mEv} {d : Nat} (k0 n0 a0 : Nat) (hk0 : nth mKs k0 = some (.inr (.byte, n0))) (hz0 : k0 ≠ 100) (a1 : Int32) {mu : fMu} {la : fLa} {Q : fMu → fLa → Prop} (h : Ev E d mi_229 5 [some (.inr (.inr (some (k0, a0)))), some (.inl a1), some (.inl (0 : Int32)), some (.inl (Int32.ofNat n0))] [] (mem E mu la) (qV E Q)) : FnV E d mi_229 [.inr (.inr (some (k0, a0))), .inl a1] mu la Q := by
  unfold FnV
  show Ev E d mi_229 0 [some (.inr (.inr (some (k0, a0)))), some (.inl a1), none, none] [] (mem E mu la) (qV E Q)
  refine Ev.steps 3 (ip' := 3) (ls' := [some (.inr (.inr (some (k0, a0)))), some (.inl a1), some (.inl (0 : Int32)), none]) (st' := [.inr (.inr (some (k0, a0)))]) (M' := mem E mu la) rfl ?_
  refine Ev.aln rfl hk0 hz0 ?_
  refine Ev.steps 1 (ip' := 5) (ls' := [some (.inr (.inr (some (k0, a0)))), some (.inl a1), some (.inl (0 : Int32)), some (.inl (Int32.ofNat n0))]) (st' := []) (M' := mem E mu la) rfl ?_
  exact h
set_option maxRecDepth 100000 in
theorem vc_J7_fill_031fb_5 {E : mEv} {d : Nat} (k0 n0 a0 : Nat) (hk0 : nth mKs k0 = some (.inr (.byte, n0))) (hz0 : k0 ≠ 100) (v1 : Int32) (v2 : Int32) (v3 : Int32) {mu : fMu} {la : fLa} {Q : fMu → fLa → Prop} (h : (v3 ≤ v2 → (Q mu la)) ∧ (¬ (v3 ≤ v2) → (vp_in v2 n0 ∧ ∀ mu1 : fMu, mu1 = up3 mu k0 a0 v2.toNatClampNeg v1.toInt8.toInt32 → (Ev E d mi_229 5 [some (.inr (.inr (some (k0, a0)))), some (.inl v1), some (.inl (v2 + (1 : Int32))), some (.inl v3)] [] (mem E mu1 la) (qV E Q))))) : Ev E d mi_229 5 [some (.inr (.inr (some (k0, a0)))), some (.inl v1), some (.inl v2), some (.inl v3)] [] (mem E mu la) (qV E Q) := by
  refine Ev.steps 2 (ip' := 7) (ls' := [some (.inr (.inr (some (k0, a0)))), some (.inl v1), some (.inl v2), some (.inl v3)]) (st' := [.inl v3, .inl v2]) (M' := mem E mu la) rfl ?_
  refine Ev.br (c := v3 ≤ v2) (s1 := (14, [some (.inr (.inr (some (k0, a0)))), some (.inl v1), some (.inl v2), some (.inl v3)], [], mem E mu la)) (s2 := (8, [some (.inr (.inr (some (k0, a0)))), some (.inl v1), some (.inl v2), some (.inl v3)], [], mem E mu la)) rfl rfl rfl rfl (fun hc => ?_) (fun hc => ?_)
  · have h := h.1 hc
    dsimp only
    exact Ev.ret rfl rfl ⟨_, _, rfl, rfl, h⟩
  · have h := h.2 hc
    dsimp only
    refine Ev.steps 3 (ip' := 11) (ls' := [some (.inr (.inr (some (k0, a0)))), some (.inl v1), some (.inl v2), some (.inl v3)]) (st' := [.inl v1, .inl v2, .inr (.inr (some (k0, a0)))]) (M' := mem E mu la) rfl ?_
    refine Ev.bas rfl hk0 h.1 ?_
    have h := h.2
    generalize hgmu1 : up3 mu k0 a0 v2.toNatClampNeg v1.toInt8.toInt32 = mu1
    have h := h mu1 hgmu1.symm
    refine Ev.steps 2 (ip' := 5) (ls' := [some (.inr (.inr (some (k0, a0)))), some (.inl v1), some (.inl (v2 + (1 : Int32))), some (.inl v3)]) (st' := []) (M' := mem E mu1 la) rfl ?_
    exact h
