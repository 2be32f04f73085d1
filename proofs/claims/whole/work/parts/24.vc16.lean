set_option maxRecDepth 100000 in
/-- AnnCupsModel.mid(I)I -/
theorem vc_X7_mid {E : mEv} {d : Nat} {c : Nat} (a0 : Int32) {mu : fMu} {la : fLa} {Q : Int32 → fMu → fLa → Prop} (h : FnI E d mi_129 [.inr (.inl a0.toInt64), .inr (.inl (0 : Int64)), .inr (.inl (12 : Int64))] mu la (fun x1 mu2 la3 => (¬ x1 = 0 → ((¬ (mu2 7 c 4) = 0 → (FnI E d mi_211 [.inr (.inr (some (7, c)))] mu2 la3 (fun x4 mu5 la6 => Ev E (d + 1) mi_215 20 [some (.inr (.inr (some (7, c)))), some (.inl a0), some (.inl x4), some (.inr (.inl (0 : Int64))), none, some (.inl (0 : Int32)), none] [] (mem E mu5 la6) (qI E Q)))) ∧ (¬ (¬ (mu2 7 c 4) = 0) → (Q (-4 : Int32) mu2 la3)))) ∧ (¬ (¬ x1 = 0) → (Q (-1 : Int32) mu2 la3)))) : FnI E (d + 1) mi_215 [.inr (.inr (some (7, c))), .inl a0] mu la Q := by
  unfold FnI
  show Ev E (d + 1) mi_215 0 [some (.inr (.inr (some (7, c)))), some (.inl a0), none, none, none, none, none] [] (mem E mu la) (qI E Q)
  refine Ev.steps 4 (ip' := 4) (ls' := [some (.inr (.inr (some (7, c)))), some (.inl a0), none, none, none, none, none]) (st' := [.inr (.inl (12 : Int64)), .inr (.inl (0 : Int64)), .inr (.inl a0.toInt64)]) (M' := mem E mu la) rfl ?_
  refine Ev.ci (J := mi_129) (as := [.inr (.inl a0.toInt64), .inr (.inl (0 : Int64)), .inr (.inl (12 : Int64))]) (rest := []) rfl rfl rfl (Nat.le_of_ble_eq_true rfl) h (fun x1 mu2 la3 h => ?_)
  refine Ev.br (c := ¬ x1 = 0) (s1 := (8, [some (.inr (.inr (some (7, c)))), some (.inl a0), none, none, none, none, none], [], mem E mu2 la3)) (s2 := (6, [some (.inr (.inr (some (7, c)))), some (.inl a0), none, none, none, none, none], [], mem E mu2 la3)) rfl rfl rfl rfl (fun hc => ?_) (fun hc => ?_)
  · have h := h.1 hc
    dsimp only
    refine Ev.steps 2 (ip' := 10) (ls' := [some (.inr (.inr (some (7, c)))), some (.inl a0), none, none, none, none, none]) (st' := [.inl (mu2 7 c 4)]) (M' := mem E mu2 la3) rfl ?_
    refine Ev.br (c := ¬ (mu2 7 c 4) = 0) (s1 := (13, [some (.inr (.inr (some (7, c)))), some (.inl a0), none, none, none, none, none], [], mem E mu2 la3)) (s2 := (11, [some (.inr (.inr (some (7, c)))), some (.inl a0), none, none, none, none, none], [], mem E mu2 la3)) rfl rfl rfl rfl (fun hc => ?_) (fun hc => ?_)
    · have h := h.1 hc
      dsimp only
      refine Ev.steps 1 (ip' := 14) (ls' := [some (.inr (.inr (some (7, c)))), some (.inl a0), none, none, none, none, none]) (st' := [.inr (.inr (some (7, c)))]) (M' := mem E mu2 la3) rfl ?_
      refine Ev.ci (J := mi_211) (as := [.inr (.inr (some (7, c)))]) (rest := []) rfl rfl rfl (Nat.le_of_ble_eq_true rfl) h (fun x4 mu5 la6 h => ?_)
      refine Ev.steps 5 (ip' := 20) (ls' := [some (.inr (.inr (some (7, c)))), some (.inl a0), some (.inl x4), some (.inr (.inl (0 : Int64))), none, some (.inl (0 : Int32)), none]) (st' := []) (M' := mem E mu5 la6) rfl ?_
      exact h
    · have h := h.2 hc
      dsimp only
      refine Ev.steps 1 (ip' := 12) (ls' := [some (.inr (.inr (some (7, c)))), some (.inl a0), none, none, none, none, none]) (st' := [.inl (-4 : Int32)]) (M' := mem E mu2 la3) rfl ?_
      exact Ev.ret rfl rfl ⟨_, _, _, rfl, rfl, h⟩
  · have h := h.2 hc
    dsimp only
    refine Ev.steps 1 (ip' := 7) (ls' := [some (.inr (.inr (some (7, c)))), some (.inl a0), none, none, none, none, none]) (st' := [.inl (-1 : Int32)]) (M' := mem E mu2 la3) rfl ?_
    exact Ev.ret rfl rfl ⟨_, _, _, rfl, rfl, h⟩
set_option maxRecDepth 100000 in
theorem vc_X7_mid_20 {E : mEv} {d : Nat}  (v0 : Nat) (v1 : Int32) (v2 : Int32) (v3 : Int64) (v5 : Int32) {mu : fMu} {la : fLa} {Q : Int32 → fMu → fLa → Prop} (h : (((1 : Int32) <<< ((mu 7 v0 4) &&& 31)) ≤ v5 → (FnI E d mi_131 [.inl v2] mu la (fun x7 mu8 la9 => FnL E d mi_213 [.inl x7] mu8 la9 (fun x10 mu11 la12 => FnI E d mi_192 [.inr (.inr (some (7, v0))), .inr (.inl v3), .inr (.inl x10)] mu11 la12 (fun x13 mu14 la15 => Q x13 mu14 la15))))) ∧ (¬ (((1 : Int32) <<< ((mu 7 v0 4) &&& 31)) ≤ v5) → ((¬ (v5 &&& (v2 ^^^ (-1 : Int32))) = 0 → (Ev E (d + 1) mi_215 20 [some (.inr (.inr (some (7, v0)))), some (.inl v1), some (.inl v2), some (.inr (.inl v3)), none, some (.inl (v5 + (1 : Int32))), none] [] (mem E mu la) (qI E Q))) ∧ (¬ (¬ (v5 &&& (v2 ^^^ (-1 : Int32))) = 0) → (FnV E d mi_186 [.inr (.inr (some (7, v0)))] mu la (fun mu17 la18 => vp_in (7 : Int32) 9 ∧ (vp_in (7 : Int32) 9 ∧ ∀ mu19 : fMu, mu19 = up3 mu17 39 v0 (7 : Int32).toNatClampNeg ((mu17 39 v0 (7 : Int32).toNatClampNeg) ||| v5) → (Ev E (d + 1) mi_215 44 [some (.inr (.inr (some (7, v0)))), some (.inl v1), some (.inl v2), some (.inr (.inl v3)), none, some (.inl v5), some (.inl (0 : Int32))] [] (mem E mu19 la18) (qI E Q))))))))) : Ev E (d + 1) mi_215 20 [some (.inr (.inr (some (7, v0)))), some (.inl v1), some (.inl v2), some (.inr (.inl v3)), none, some (.inl v5), none] [] (mem E mu la) (qI E Q) := by
  refine Ev.steps 5 (ip' := 25) (ls' := [some (.inr (.inr (some (7, v0)))), some (.inl v1), some (.inl v2), some (.inr (.inl v3)), none, some (.inl v5), none]) (st' := [.inl ((1 : Int32) <<< ((mu 7 v0 4) &&& 31)), .inl v5]) (M' := mem E mu la) rfl ?_
  refine Ev.br (c := ((1 : Int32) <<< ((mu 7 v0 4) &&& 31)) ≤ v5) (s1 := (79, [some (.inr (.inr (some (7, v0)))), some (.inl v1), some (.inl v2), some (.inr (.inl v3)), none, some (.inl v5), none], [], mem E mu la)) (s2 := (26, [some (.inr (.inr (some (7, v0)))), some (.inl v1), some (.inl v2), some (.inr (.inl v3)), none, some (.inl v5), none], [], mem E mu la)) rfl rfl rfl rfl (fun hc => ?_) (fun hc => ?_)
  · have h := h.1 hc
    dsimp only
    refine Ev.steps 3 (ip' := 82) (ls' := [some (.inr (.inr (some (7, v0)))), some (.inl v1), some (.inl v2), some (.inr (.inl v3)), none, some (.inl v5), none]) (st' := [.inl v2, .inr (.inl v3), .inr (.inr (some (7, v0)))]) (M' := mem E mu la) rfl ?_
    refine Ev.ci (J := mi_131) (as := [.inl v2]) (rest := [.inr (.inl v3), .inr (.inr (some (7, v0)))]) rfl rfl rfl (Nat.le_of_ble_eq_true rfl) h (fun x7 mu8 la9 h => ?_)
    refine Ev.cl (J := mi_213) (as := [.inl x7]) (rest := [.inr (.inl v3), .inr (.inr (some (7, v0)))]) rfl rfl rfl (Nat.le_of_ble_eq_true rfl) h (fun x10 mu11 la12 h => ?_)
    refine Ev.ci (J := mi_192) (as := [.inr (.inr (some (7, v0))), .inr (.inl v3), .inr (.inl x10)]) (rest := []) rfl rfl rfl (Nat.le_of_ble_eq_true rfl) h (fun x13 mu14 la15 h => ?_)
    exact Ev.ret rfl rfl ⟨_, _, _, rfl, rfl, h⟩
  · have h := h.2 hc
    dsimp only
    refine Ev.steps 5 (ip' := 31) (ls' := [some (.inr (.inr (some (7, v0)))), some (.inl v1), some (.inl v2), some (.inr (.inl v3)), none, some (.inl v5), none]) (st' := [.inl (v5 &&& (v2 ^^^ (-1 : Int32)))]) (M' := mem E mu la) rfl ?_
    refine Ev.br (c := ¬ (v5 &&& (v2 ^^^ (-1 : Int32))) = 0) (s1 := (77, [some (.inr (.inr (some (7, v0)))), some (.inl v1), some (.inl v2), some (.inr (.inl v3)), none, some (.inl v5), none], [], mem E mu la)) (s2 := (32, [some (.inr (.inr (some (7, v0)))), some (.inl v1), some (.inl v2), some (.inr (.inl v3)), none, some (.inl v5), none], [], mem E mu la)) rfl rfl rfl rfl (fun hc => ?_) (fun hc => ?_)
    · have h := h.1 hc
      dsimp only
      refine Ev.steps 2 (ip' := 20) (ls' := [some (.inr (.inr (some (7, v0)))), some (.inl v1), some (.inl v2), some (.inr (.inl v3)), none, some (.inl (v5 + (1 : Int32))), none]) (st' := []) (M' := mem E mu la) rfl ?_
      exact h
    · have h := h.2 hc
      dsimp only
      refine Ev.steps 1 (ip' := 33) (ls' := [some (.inr (.inr (some (7, v0)))), some (.inl v1), some (.inl v2), some (.inr (.inl v3)), none, some (.inl v5), none]) (st' := [.inr (.inr (some (7, v0)))]) (M' := mem E mu la) rfl ?_
      refine Ev.cv (J := mi_186) (as := [.inr (.inr (some (7, v0)))]) (rest := []) rfl rfl rfl (Nat.le_of_ble_eq_true rfl) h (fun mu17 la18 h => ?_)
      refine Ev.steps 4 (ip' := 38) (ls' := [some (.inr (.inr (some (7, v0)))), some (.inl v1), some (.inl v2), some (.inr (.inl v3)), none, some (.inl v5), none]) (st' := [.inl (7 : Int32), .inr (.inr (some (39, v0))), .inl (7 : Int32), .inr (.inr (some (39, v0)))]) (M' := mem E mu17 la18) rfl ?_
      refine Ev.ial rfl rfl (by decide) h.1 ?_
      have h := h.2
      refine Ev.steps 2 (ip' := 41) (ls' := [some (.inr (.inr (some (7, v0)))), some (.inl v1), some (.inl v2), some (.inr (.inl v3)), none, some (.inl v5), none]) (st' := [.inl ((mu17 39 v0 (7 : Int32).toNatClampNeg) ||| v5), .inl (7 : Int32), .inr (.inr (some (39, v0)))]) (M' := mem E mu17 la18) rfl ?_
      refine Ev.ias rfl rfl h.1 ?_
      have h := h.2
      generalize hgmu19 : up3 mu17 39 v0 (7 : Int32).toNatClampNeg ((mu17 39 v0 (7 : Int32).toNatClampNeg) ||| v5) = mu19
      have h := h mu19 hgmu19.symm
      refine Ev.steps 2 (ip' := 44) (ls' := [some (.inr (.inr (some (7, v0)))), some (.inl v1), some (.inl v2), some (.inr (.inl v3)), none, some (.inl v5), some (.inl (0 : Int32))]) (st' := []) (M' := mem E mu19 la18) rfl ?_
      exact h
set_option maxRecDepth 100000 in
theorem vc_X7_mid_44 {E : mEv} {d : Nat}  (v0 : Nat) (v1 : Int32) (v2 : Int32) (v3 : Int64) (v5 : Int32) (v6 : Int32) {mu : fMu} {la : fLa} {Q : Int32 → fMu → fLa → Prop} (h : ((mu 7 v0 4) ≤ v6 → (FnI E d mi_163 [.inr (.inr (some (7, v0))), .inr (.inr (some (39, v0)))] mu la (fun x20 mu21 la22 => FnI E d mi_131 [.inl x20] mu21 la22 (fun x23 mu24 la25 => FnL E d mi_212 [.inr (.inr (some (7, v0))), .inl v5, .inl v2, .inl v1] mu24 la25 (fun x26 mu27 la28 => Ev E (d + 1) mi_215 20 [some (.inr (.inr (some (7, v0)))), some (.inl v1), some (.inl v2), some (.inr (.inl (v3 + (x23.toInt64 * x26)))), none, some (.inl (v5 + (1 : Int32))), none] [] (mem E mu27 la28) (qI E Q)))))) ∧ (¬ ((mu 7 v0 4) ≤ v6) → (FnI E d mi_162 [.inr (.inr (some (39, v0))), .inl v6] mu la (fun x29 mu30 la31 => (¬ x29 = 0 → (Ev E (d + 1) mi_215 44 [some (.inr (.inr (some (7, v0)))), some (.inl v1), some (.inl v2), some (.inr (.inl v3)), none, some (.inl v5), some (.inl (v6 + (1 : Int32)))] [] (mem E mu30 la31) (qI E Q))) ∧ (¬ (¬ x29 = 0) → (FnV E d mi_161 [.inr (.inr (some (7, v0))), .inr (.inr (some (39, v0))), .inl v6, .inl (mu30 7 v0 5)] mu30 la31 (fun mu33 la34 => Ev E (d + 1) mi_215 44 [some (.inr (.inr (some (7, v0)))), some (.inl v1), some (.inl v2), some (.inr (.inl v3)), none, some (.inl v5), some (.inl (v6 + (1 : Int32)))] [] (mem E mu33 la34) (qI E Q)))))))) : Ev E (d + 1) mi_215 44 [some (.inr (.inr (some (7, v0)))), some (.inl v1), some (.inl v2), some (.inr (.inl v3)), none, some (.inl v5), some (.inl v6)] [] (mem E mu la) (qI E Q) := by
  refine Ev.steps 3 (ip' := 47) (ls' := [some (.inr (.inr (some (7, v0)))), some (.inl v1), some (.inl v2), some (.inr (.inl v3)), none, some (.inl v5), some (.inl v6)]) (st' := [.inl (mu 7 v0 4), .inl v6]) (M' := mem E mu la) rfl ?_
  refine Ev.br (c := (mu 7 v0 4) ≤ v6) (s1 := (62, [some (.inr (.inr (some (7, v0)))), some (.inl v1), some (.inl v2), some (.inr (.inl v3)), none, some (.inl v5), some (.inl v6)], [], mem E mu la)) (s2 := (48, [some (.inr (.inr (some (7, v0)))), some (.inl v1), some (.inl v2), some (.inr (.inl v3)), none, some (.inl v5), some (.inl v6)], [], mem E mu la)) rfl rfl rfl rfl (fun hc => ?_) (fun hc => ?_)
  · have h := h.1 hc
    dsimp only
    refine Ev.steps 4 (ip' := 66) (ls' := [some (.inr (.inr (some (7, v0)))), some (.inl v1), some (.inl v2), some (.inr (.inl v3)), none, some (.inl v5), some (.inl v6)]) (st' := [.inr (.inr (some (39, v0))), .inr (.inr (some (7, v0))), .inr (.inl v3)]) (M' := mem E mu la) rfl ?_
    refine Ev.ci (J := mi_163) (as := [.inr (.inr (some (7, v0))), .inr (.inr (some (39, v0)))]) (rest := [.inr (.inl v3)]) rfl rfl rfl (Nat.le_of_ble_eq_true rfl) h (fun x20 mu21 la22 h => ?_)
    refine Ev.ci (J := mi_131) (as := [.inl x20]) (rest := [.inr (.inl v3)]) rfl rfl rfl (Nat.le_of_ble_eq_true rfl) h (fun x23 mu24 la25 h => ?_)
    refine Ev.steps 5 (ip' := 73) (ls' := [some (.inr (.inr (some (7, v0)))), some (.inl v1), some (.inl v2), some (.inr (.inl v3)), none, some (.inl v5), some (.inl v6)]) (st' := [.inl v1, .inl v2, .inl v5, .inr (.inr (some (7, v0))), .inr (.inl x23.toInt64), .inr (.inl v3)]) (M' := mem E mu24 la25) rfl ?_
    refine Ev.cl (J := mi_212) (as := [.inr (.inr (some (7, v0))), .inl v5, .inl v2, .inl v1]) (rest := [.inr (.inl x23.toInt64), .inr (.inl v3)]) rfl rfl rfl (Nat.le_of_ble_eq_true rfl) h (fun x26 mu27 la28 h => ?_)
    refine Ev.steps 5 (ip' := 20) (ls' := [some (.inr (.inr (some (7, v0)))), some (.inl v1), some (.inl v2), some (.inr (.inl (v3 + (x23.toInt64 * x26)))), none, some (.inl (v5 + (1 : Int32))), some (.inl v6)]) (st' := []) (M' := mem E mu27 la28) rfl ?_
    refine Ev.drop (ls := [some (.inr (.inr (some (7, v0)))), some (.inl v1), some (.inl v2), some (.inr (.inl (v3 + (x23.toInt64 * x26)))), none, some (.inl (v5 + (1 : Int32))), none]) ⟨Or.inr rfl, Or.inr rfl, Or.inr rfl, Or.inr rfl, Or.inr rfl, Or.inr rfl, Or.inl rfl, trivial⟩ ?_
    exact h
  · have h := h.2 hc
    dsimp only
    refine Ev.steps 3 (ip' := 51) (ls' := [some (.inr (.inr (some (7, v0)))), some (.inl v1), some (.inl v2), some (.inr (.inl v3)), none, some (.inl v5), some (.inl v6)]) (st' := [.inl v6, .inr (.inr (some (39, v0)))]) (M' := mem E mu la) rfl ?_
    refine Ev.ci (J := mi_162) (as := [.inr (.inr (some (39, v0))), .inl v6]) (rest := []) rfl rfl rfl (Nat.le_of_ble_eq_true rfl) h (fun x29 mu30 la31 h => ?_)
    refine Ev.br (c := ¬ x29 = 0) (s1 := (60, [some (.inr (.inr (some (7, v0)))), some (.inl v1), some (.inl v2), some (.inr (.inl v3)), none, some (.inl v5), some (.inl v6)], [], mem E mu30 la31)) (s2 := (53, [some (.inr (.inr (some (7, v0)))), some (.inl v1), some (.inl v2), some (.inr (.inl v3)), none, some (.inl v5), some (.inl v6)], [], mem E mu30 la31)) rfl rfl rfl rfl (fun hc => ?_) (fun hc => ?_)
    · have h := h.1 hc
      dsimp only
      refine Ev.steps 2 (ip' := 44) (ls' := [some (.inr (.inr (some (7, v0)))), some (.inl v1), some (.inl v2), some (.inr (.inl v3)), none, some (.inl v5), some (.inl (v6 + (1 : Int32)))]) (st' := []) (M' := mem E mu30 la31) rfl ?_
      exact h
    · have h := h.2 hc
      dsimp only
      refine Ev.steps 6 (ip' := 59) (ls' := [some (.inr (.inr (some (7, v0)))), some (.inl v1), some (.inl v2), some (.inr (.inl v3)), none, some (.inl v5), some (.inl v6)]) (st' := [.inl (mu30 7 v0 5), .inl v6, .inr (.inr (some (39, v0))), .inr (.inr (some (7, v0)))]) (M' := mem E mu30 la31) rfl ?_
      refine Ev.cv (J := mi_161) (as := [.inr (.inr (some (7, v0))), .inr (.inr (some (39, v0))), .inl v6, .inl (mu30 7 v0 5)]) (rest := []) rfl rfl rfl (Nat.le_of_ble_eq_true rfl) h (fun mu33 la34 h => ?_)
      refine Ev.steps 2 (ip' := 44) (ls' := [some (.inr (.inr (some (7, v0)))), some (.inl v1), some (.inl v2), some (.inr (.inl v3)), none, some (.inl v5), some (.inl (v6 + (1 : Int32)))]) (st' := []) (M' := mem E mu33 la34) rfl ?_
      exact h
set_option maxRecDepth 100000 in
/-- AnnCupsModel.plays(II)V -/
theorem vc_X7_plays {E : mEv} {d : Nat} {c : Nat} (a0 : Int32) (a1 : Int32) {mu : fMu} {la : fLa} {Q : fMu → fLa → Prop} (h : FnV E d mi_175 [.inr (.inr (some (7, c)))] mu la (fun mu2 la3 => vp_in ((0 : Int32) + a0) 9 ∧ ((¬ (mu2 38 c ((0 : Int32) + a0).toNatClampNeg) = (-9 : Int32) → ((¬ (mu2 38 c ((0 : Int32) + a0).toNatClampNeg) = (6 : Int32) → (((mu2 38 c ((0 : Int32) + a0).toNatClampNeg) = (7 : Int32) → (Q mu2 la3)) ∧ (¬ ((mu2 38 c ((0 : Int32) + a0).toNatClampNeg) = (7 : Int32)) → (((mu2 38 c ((0 : Int32) + a0).toNatClampNeg) = a1 → (Q mu2 la3)) ∧ (¬ ((mu2 38 c ((0 : Int32) + a0).toNatClampNeg) = a1) → (FnI E d mi_156 [.inr (.inr (some (7, c))), .inl a1] mu2 la3 (fun x4 mu5 la6 => (x4 = 0 → (Q mu5 la6)) ∧ (¬ (x4 = 0) → (FnV E d mi_177 [.inr (.inr (some (7, c))), .inr (.inr (some (38, c))), .inl (mu2 38 c ((0 : Int32) + a0).toNatClampNeg), .inl a1] mu5 la6 (fun mu8 la9 => Q mu8 la9)))))))))) ∧ (¬ (¬ (mu2 38 c ((0 : Int32) + a0).toNatClampNeg) = (6 : Int32)) → (vp_in ((0 : Int32) + a0) 9 ∧ ∀ mu10 : fMu, mu10 = up3 mu2 38 c ((0 : Int32) + a0).toNatClampNeg (7 : Int32) → (Q mu10 la3))))) ∧ (¬ (¬ (mu2 38 c ((0 : Int32) + a0).toNatClampNeg) = (-9 : Int32)) → (FnV E d mi_161 [.inr (.inr (some (7, c))), .inr (.inr (some (38, c))), .inl a0, .inl (mu2 7 c 5)] mu2 la3 (fun mu12 la13 => Q mu12 la13)))))) : FnV E (d + 1) mi_216 [.inr (.inr (some (7, c))), .inl a0, .inl a1] mu la Q := by
  unfold FnV
  show Ev E (d + 1) mi_216 0 [some (.inr (.inr (some (7, c)))), some (.inl a0), some (.inl a1), none] [] (mem E mu la) (qV E Q)
  refine Ev.steps 1 (ip' := 1) (ls' := [some (.inr (.inr (some (7, c)))), some (.inl a0), some (.inl a1), none]) (st' := [.inr (.inr (some (7, c)))]) (M' := mem E mu la) rfl ?_
  refine Ev.cv (J := mi_175) (as := [.inr (.inr (some (7, c)))]) (rest := []) rfl rfl rfl (Nat.le_of_ble_eq_true rfl) h (fun mu2 la3 h => ?_)
  refine Ev.steps 5 (ip' := 7) (ls' := [some (.inr (.inr (some (7, c)))), some (.inl a0), some (.inl a1), none]) (st' := [.inl ((0 : Int32) + a0), .inr (.inr (some (38, c)))]) (M' := mem E mu2 la3) rfl ?_
  refine Ev.ial rfl rfl (by decide) h.1 ?_
  have h := h.2
  refine Ev.steps 3 (ip' := 11) (ls' := [some (.inr (.inr (some (7, c)))), some (.inl a0), some (.inl a1), some (.inl (mu2 38 c ((0 : Int32) + a0).toNatClampNeg))]) (st' := [.inl (-9 : Int32), .inl (mu2 38 c ((0 : Int32) + a0).toNatClampNeg)]) (M' := mem E mu2 la3) rfl ?_
  refine Ev.br (c := ¬ (mu2 38 c ((0 : Int32) + a0).toNatClampNeg) = (-9 : Int32)) (s1 := (20, [some (.inr (.inr (some (7, c)))), some (.inl a0), some (.inl a1), some (.inl (mu2 38 c ((0 : Int32) + a0).toNatClampNeg))], [], mem E mu2 la3)) (s2 := (12, [some (.inr (.inr (some (7, c)))), some (.inl a0), some (.inl a1), some (.inl (mu2 38 c ((0 : Int32) + a0).toNatClampNeg))], [], mem E mu2 la3)) rfl rfl rfl rfl (fun hc => ?_) (fun hc => ?_)
  · have h := h.1 hc
    dsimp only
    refine Ev.steps 2 (ip' := 22) (ls' := [some (.inr (.inr (some (7, c)))), some (.inl a0), some (.inl a1), some (.inl (mu2 38 c ((0 : Int32) + a0).toNatClampNeg))]) (st' := [.inl (6 : Int32), .inl (mu2 38 c ((0 : Int32) + a0).toNatClampNeg)]) (M' := mem E mu2 la3) rfl ?_
    refine Ev.br (c := ¬ (mu2 38 c ((0 : Int32) + a0).toNatClampNeg) = (6 : Int32)) (s1 := (31, [some (.inr (.inr (some (7, c)))), some (.inl a0), some (.inl a1), some (.inl (mu2 38 c ((0 : Int32) + a0).toNatClampNeg))], [], mem E mu2 la3)) (s2 := (23, [some (.inr (.inr (some (7, c)))), some (.inl a0), some (.inl a1), some (.inl (mu2 38 c ((0 : Int32) + a0).toNatClampNeg))], [], mem E mu2 la3)) rfl rfl rfl rfl (fun hc => ?_) (fun hc => ?_)
    · have h := h.1 hc
      dsimp only
      refine Ev.steps 2 (ip' := 33) (ls' := [some (.inr (.inr (some (7, c)))), some (.inl a0), some (.inl a1), some (.inl (mu2 38 c ((0 : Int32) + a0).toNatClampNeg))]) (st' := [.inl (7 : Int32), .inl (mu2 38 c ((0 : Int32) + a0).toNatClampNeg)]) (M' := mem E mu2 la3) rfl ?_
      refine Ev.br (c := (mu2 38 c ((0 : Int32) + a0).toNatClampNeg) = (7 : Int32)) (s1 := (47, [some (.inr (.inr (some (7, c)))), some (.inl a0), some (.inl a1), some (.inl (mu2 38 c ((0 : Int32) + a0).toNatClampNeg))], [], mem E mu2 la3)) (s2 := (34, [some (.inr (.inr (some (7, c)))), some (.inl a0), some (.inl a1), some (.inl (mu2 38 c ((0 : Int32) + a0).toNatClampNeg))], [], mem E mu2 la3)) rfl rfl rfl rfl (fun hc => ?_) (fun hc => ?_)
      · have h := h.1 hc
        dsimp only
        exact Ev.ret rfl rfl ⟨_, _, rfl, rfl, h⟩
      · have h := h.2 hc
        dsimp only
        refine Ev.steps 2 (ip' := 36) (ls' := [some (.inr (.inr (some (7, c)))), some (.inl a0), some (.inl a1), some (.inl (mu2 38 c ((0 : Int32) + a0).toNatClampNeg))]) (st' := [.inl a1, .inl (mu2 38 c ((0 : Int32) + a0).toNatClampNeg)]) (M' := mem E mu2 la3) rfl ?_
        refine Ev.br (c := (mu2 38 c ((0 : Int32) + a0).toNatClampNeg) = a1) (s1 := (47, [some (.inr (.inr (some (7, c)))), some (.inl a0), some (.inl a1), some (.inl (mu2 38 c ((0 : Int32) + a0).toNatClampNeg))], [], mem E mu2 la3)) (s2 := (37, [some (.inr (.inr (some (7, c)))), some (.inl a0), some (.inl a1), some (.inl (mu2 38 c ((0 : Int32) + a0).toNatClampNeg))], [], mem E mu2 la3)) rfl rfl rfl rfl (fun hc => ?_) (fun hc => ?_)
        · have h := h.1 hc
          dsimp only
          exact Ev.ret rfl rfl ⟨_, _, rfl, rfl, h⟩
        · have h := h.2 hc
          dsimp only
          refine Ev.steps 2 (ip' := 39) (ls' := [some (.inr (.inr (some (7, c)))), some (.inl a0), some (.inl a1), some (.inl (mu2 38 c ((0 : Int32) + a0).toNatClampNeg))]) (st' := [.inl a1, .inr (.inr (some (7, c)))]) (M' := mem E mu2 la3) rfl ?_
          refine Ev.ci (J := mi_156) (as := [.inr (.inr (some (7, c))), .inl a1]) (rest := []) rfl rfl rfl (Nat.le_of_ble_eq_true rfl) h (fun x4 mu5 la6 h => ?_)
          refine Ev.br (c := x4 = 0) (s1 := (47, [some (.inr (.inr (some (7, c)))), some (.inl a0), some (.inl a1), some (.inl (mu2 38 c ((0 : Int32) + a0).toNatClampNeg))], [], mem E mu5 la6)) (s2 := (41, [some (.inr (.inr (some (7, c)))), some (.inl a0), some (.inl a1), some (.inl (mu2 38 c ((0 : Int32) + a0).toNatClampNeg))], [], mem E mu5 la6)) rfl rfl rfl rfl (fun hc => ?_) (fun hc => ?_)
          · have h := h.1 hc
            dsimp only
            exact Ev.ret rfl rfl ⟨_, _, rfl, rfl, h⟩
          · have h := h.2 hc
            dsimp only
            refine Ev.steps 5 (ip' := 46) (ls' := [some (.inr (.inr (some (7, c)))), some (.inl a0), some (.inl a1), some (.inl (mu2 38 c ((0 : Int32) + a0).toNatClampNeg))]) (st' := [.inl a1, .inl (mu2 38 c ((0 : Int32) + a0).toNatClampNeg), .inr (.inr (some (38, c))), .inr (.inr (some (7, c)))]) (M' := mem E mu5 la6) rfl ?_
            refine Ev.cv (J := mi_177) (as := [.inr (.inr (some (7, c))), .inr (.inr (some (38, c))), .inl (mu2 38 c ((0 : Int32) + a0).toNatClampNeg), .inl a1]) (rest := []) rfl rfl rfl (Nat.le_of_ble_eq_true rfl) h (fun mu8 la9 h => ?_)
            exact Ev.ret rfl rfl ⟨_, _, rfl, rfl, h⟩
    · have h := h.2 hc
      dsimp only
      refine Ev.steps 6 (ip' := 29) (ls' := [some (.inr (.inr (some (7, c)))), some (.inl a0), some (.inl a1), some (.inl (mu2 38 c ((0 : Int32) + a0).toNatClampNeg))]) (st' := [.inl (7 : Int32), .inl ((0 : Int32) + a0), .inr (.inr (some (38, c)))]) (M' := mem E mu2 la3) rfl ?_
      refine Ev.ias rfl rfl h.1 ?_
      have h := h.2
      generalize hgmu10 : up3 mu2 38 c ((0 : Int32) + a0).toNatClampNeg (7 : Int32) = mu10
      have h := h mu10 hgmu10.symm
      refine Ev.steps 1 (ip' := 47) (ls' := [some (.inr (.inr (some (7, c)))), some (.inl a0), some (.inl a1), some (.inl (mu2 38 c ((0 : Int32) + a0).toNatClampNeg))]) (st' := []) (M' := mem E mu10 la3) rfl ?_
      exact Ev.ret rfl rfl ⟨_, _, rfl, rfl, h⟩
  · have h := h.2 hc
    dsimp only
    refine Ev.steps 6 (ip' := 18) (ls' := [some (.inr (.inr (some (7, c)))), some (.inl a0), some (.inl a1), some (.inl (mu2 38 c ((0 : Int32) + a0).toNatClampNeg))]) (st' := [.inl (mu2 7 c 5), .inl a0, .inr (.inr (some (38, c))), .inr (.inr (some (7, c)))]) (M' := mem E mu2 la3) rfl ?_
    refine Ev.cv (J := mi_161) (as := [.inr (.inr (some (7, c))), .inr (.inr (some (38, c))), .inl a0, .inl (mu2 7 c 5)]) (rest := []) rfl rfl rfl (Nat.le_of_ble_eq_true rfl) h (fun mu12 la13 h => ?_)
    refine Ev.steps 1 (ip' := 47) (ls' := [some (.inr (.inr (some (7, c)))), some (.inl a0), some (.inl a1), some (.inl (mu2 38 c ((0 : Int32) + a0).toNatClampNeg))]) (st' := []) (M' := mem E mu12 la13) rfl ?_
    exact Ev.ret rfl rfl ⟨_, _, rfl, rfl, h⟩
set_option maxRecDepth 100000 in
/-- AnnCupsModel.lots(II)I -/
theorem vc_X7_lots {E : mEv} {d : Nat} {c : Nat} (a0 : Int32) (a1 : Int32) {mu : fMu} {la : fLa} {Q : Int32 → fMu → fLa → Prop} (h : FnI E d mi_129 [.inr (.inl a0.toInt64), .inr (.inl (1 : Int64)), .inr (.inl (20 : Int64))] mu la (fun x1 mu2 la3 => (x1 = 0 → (Q (-1 : Int32) mu2 la3)) ∧ (¬ (x1 = 0) → (FnI E d mi_129 [.inr (.inl a1.toInt64), .inr (.inl (1 : Int64)), .inr (.inl (2147483646 : Int64))] mu2 la3 (fun x4 mu5 la6 => (¬ x4 = 0 → ((¬ (mu5 7 c 4) = 0 → ((((mu5 7 c 13) + a0) ≤ (40 : Int32) → (Ev E (d + 1) mi_217 32 [some (.inr (.inr (some (7, c)))), some (.inl a0), none, some (.inr (.inl a1.toInt64)), none, some (.inl (0 : Int32))] [] (mem E mu5 la6) (qI E Q))) ∧ (¬ (((mu5 7 c 13) + a0) ≤ (40 : Int32)) → (Q (-2 : Int32) mu5 la6)))) ∧ (¬ (¬ (mu5 7 c 4) = 0) → (Q (-4 : Int32) mu5 la6)))) ∧ (¬ (¬ x4 = 0) → (Q (-1 : Int32) mu5 la6))))))) : FnI E (d + 1) mi_217 [.inr (.inr (some (7, c))), .inl a0, .inl a1] mu la Q := by
  unfold FnI
  show Ev E (d + 1) mi_217 0 [some (.inr (.inr (some (7, c)))), some (.inl a0), some (.inl a1), none, none, none] [] (mem E mu la) (qI E Q)
  refine Ev.steps 4 (ip' := 4) (ls' := [some (.inr (.inr (some (7, c)))), some (.inl a0), some (.inl a1), none, none, none]) (st' := [.inr (.inl (20 : Int64)), .inr (.inl (1 : Int64)), .inr (.inl a0.toInt64)]) (M' := mem E mu la) rfl ?_
  refine Ev.ci (J := mi_129) (as := [.inr (.inl a0.toInt64), .inr (.inl (1 : Int64)), .inr (.inl (20 : Int64))]) (rest := []) rfl rfl rfl (Nat.le_of_ble_eq_true rfl) h (fun x1 mu2 la3 h => ?_)
  refine Ev.br (c := x1 = 0) (s1 := (12, [some (.inr (.inr (some (7, c)))), some (.inl a0), some (.inl a1), none, none, none], [], mem E mu2 la3)) (s2 := (6, [some (.inr (.inr (some (7, c)))), some (.inl a0), some (.inl a1), none, none, none], [], mem E mu2 la3)) rfl rfl rfl rfl (fun hc => ?_) (fun hc => ?_)
  · have h := h.1 hc
    dsimp only
    refine Ev.steps 1 (ip' := 13) (ls' := [some (.inr (.inr (some (7, c)))), some (.inl a0), some (.inl a1), none, none, none]) (st' := [.inl (-1 : Int32)]) (M' := mem E mu2 la3) rfl ?_
    exact Ev.ret rfl rfl ⟨_, _, _, rfl, rfl, h⟩
  · have h := h.2 hc
    dsimp only
    refine Ev.steps 4 (ip' := 10) (ls' := [some (.inr (.inr (some (7, c)))), some (.inl a0), some (.inl a1), none, none, none]) (st' := [.inr (.inl (2147483646 : Int64)), .inr (.inl (1 : Int64)), .inr (.inl a1.toInt64)]) (M' := mem E mu2 la3) rfl ?_
    refine Ev.ci (J := mi_129) (as := [.inr (.inl a1.toInt64), .inr (.inl (1 : Int64)), .inr (.inl (2147483646 : Int64))]) (rest := []) rfl rfl rfl (Nat.le_of_ble_eq_true rfl) h (fun x4 mu5 la6 h => ?_)
    refine Ev.br (c := ¬ x4 = 0) (s1 := (14, [some (.inr (.inr (some (7, c)))), some (.inl a0), some (.inl a1), none, none, none], [], mem E mu5 la6)) (s2 := (12, [some (.inr (.inr (some (7, c)))), some (.inl a0), some (.inl a1), none, none, none], [], mem E mu5 la6)) rfl rfl rfl rfl (fun hc => ?_) (fun hc => ?_)
    · have h := h.1 hc
      dsimp only
      refine Ev.steps 2 (ip' := 16) (ls' := [some (.inr (.inr (some (7, c)))), some (.inl a0), some (.inl a1), none, none, none]) (st' := [.inl (mu5 7 c 4)]) (M' := mem E mu5 la6) rfl ?_
      refine Ev.br (c := ¬ (mu5 7 c 4) = 0) (s1 := (19, [some (.inr (.inr (some (7, c)))), some (.inl a0), some (.inl a1), none, none, none], [], mem E mu5 la6)) (s2 := (17, [some (.inr (.inr (some (7, c)))), some (.inl a0), some (.inl a1), none, none, none], [], mem E mu5 la6)) rfl rfl rfl rfl (fun hc => ?_) (fun hc => ?_)
      · have h := h.1 hc
        dsimp only
        refine Ev.steps 5 (ip' := 24) (ls' := [some (.inr (.inr (some (7, c)))), some (.inl a0), some (.inl a1), none, none, none]) (st' := [.inl (40 : Int32), .inl ((mu5 7 c 13) + a0)]) (M' := mem E mu5 la6) rfl ?_
        refine Ev.br (c := ((mu5 7 c 13) + a0) ≤ (40 : Int32)) (s1 := (27, [some (.inr (.inr (some (7, c)))), some (.inl a0), some (.inl a1), none, none, none], [], mem E mu5 la6)) (s2 := (25, [some (.inr (.inr (some (7, c)))), some (.inl a0), some (.inl a1), none, none, none], [], mem E mu5 la6)) rfl rfl rfl rfl (fun hc => ?_) (fun hc => ?_)
        · have h := h.1 hc
          dsimp only
          refine Ev.steps 5 (ip' := 32) (ls' := [some (.inr (.inr (some (7, c)))), some (.inl a0), some (.inl a1), some (.inr (.inl a1.toInt64)), none, some (.inl (0 : Int32))]) (st' := []) (M' := mem E mu5 la6) rfl ?_
          refine Ev.drop (ls := [some (.inr (.inr (some (7, c)))), some (.inl a0), none, some (.inr (.inl a1.toInt64)), none, some (.inl (0 : Int32))]) ⟨Or.inr rfl, Or.inr rfl, Or.inl rfl, Or.inr rfl, Or.inr rfl, Or.inr rfl, trivial⟩ ?_
          exact h
        · have h := h.2 hc
          dsimp only
          refine Ev.steps 1 (ip' := 26) (ls' := [some (.inr (.inr (some (7, c)))), some (.inl a0), some (.inl a1), none, none, none]) (st' := [.inl (-2 : Int32)]) (M' := mem E mu5 la6) rfl ?_
          exact Ev.ret rfl rfl ⟨_, _, _, rfl, rfl, h⟩
      · have h := h.2 hc
        dsimp only
        refine Ev.steps 1 (ip' := 18) (ls' := [some (.inr (.inr (some (7, c)))), some (.inl a0), some (.inl a1), none, none, none]) (st' := [.inl (-4 : Int32)]) (M' := mem E mu5 la6) rfl ?_
        exact Ev.ret rfl rfl ⟨_, _, _, rfl, rfl, h⟩
    · have h := h.2 hc
      dsimp only
      refine Ev.steps 1 (ip' := 13) (ls' := [some (.inr (.inr (some (7, c)))), some (.inl a0), some (.inl a1), none, none, none]) (st' := [.inl (-1 : Int32)]) (M' := mem E mu5 la6) rfl ?_
      exact Ev.ret rfl rfl ⟨_, _, _, rfl, rfl, h⟩
set_option maxRecDepth 100000 in
theorem vc_X7_lots_32 {E : mEv} {d : Nat}  (v0 : Nat) (v1 : Int32) (v3 : Int64) (v5 : Int32) {mu : fMu} {la : fLa} {Q : Int32 → fMu → fLa → Prop} (h : (v1 ≤ v5 → (FnI E d mi_163 [.inr (.inr (some (7, v0))), .inr (.inr (some (38, v0)))] mu la (fun x7 mu8 la9 => FnI E d mi_131 [.inl x7] mu8 la9 (fun x10 mu11 la12 => Q x10 mu11 la12)))) ∧ (¬ (v1 ≤ v5) → ((¬ (2147483647 : Int64) = 0) ∧ ((¬ ((mu 7 v0 4).toInt64) = 0) ∧ ((¬ (8 : Int64) = 0) ∧ ((¬ ((mu 7 v0 4).toInt64) = 0) ∧ (FnV E d mi_216 [.inr (.inr (some (7, v0))), .inl (((((48271 : Int64) * v3) - ((48271 : Int64) * v3) / (2147483647 : Int64) * (2147483647 : Int64)) - (((48271 : Int64) * v3) - ((48271 : Int64) * v3) / (2147483647 : Int64) * (2147483647 : Int64)) / ((mu 7 v0 4).toInt64) * ((mu 7 v0 4).toInt64)).toInt32), .inl ((((((48271 : Int64) * v3) - ((48271 : Int64) * v3) / (2147483647 : Int64) * (2147483647 : Int64)) / (8 : Int64)) - ((((48271 : Int64) * v3) - ((48271 : Int64) * v3) / (2147483647 : Int64) * (2147483647 : Int64)) / (8 : Int64)) / ((mu 7 v0 4).toInt64) * ((mu 7 v0 4).toInt64)).toInt32)] mu la (fun mu14 la15 => Ev E (d + 1) mi_217 32 [some (.inr (.inr (some (7, v0)))), some (.inl v1), none, some (.inr (.inl (((48271 : Int64) * v3) - ((48271 : Int64) * v3) / (2147483647 : Int64) * (2147483647 : Int64)))), none, some (.inl (v5 + (1 : Int32)))] [] (mem E mu14 la15) (qI E Q))))))))) : Ev E (d + 1) mi_217 32 [some (.inr (.inr (some (7, v0)))), some (.inl v1), none, some (.inr (.inl v3)), none, some (.inl v5)] [] (mem E mu la) (qI E Q) := by
  refine Ev.steps 2 (ip' := 34) (ls' := [some (.inr (.inr (some (7, v0)))), some (.inl v1), none, some (.inr (.inl v3)), none, some (.inl v5)]) (st' := [.inl v1, .inl v5]) (M' := mem E mu la) rfl ?_
  refine Ev.br (c := v1 ≤ v5) (s1 := (59, [some (.inr (.inr (some (7, v0)))), some (.inl v1), none, some (.inr (.inl v3)), none, some (.inl v5)], [], mem E mu la)) (s2 := (35, [some (.inr (.inr (some (7, v0)))), some (.inl v1), none, some (.inr (.inl v3)), none, some (.inl v5)], [], mem E mu la)) rfl rfl rfl rfl (fun hc => ?_) (fun hc => ?_)
  · have h := h.1 hc
    dsimp only
    refine Ev.steps 3 (ip' := 62) (ls' := [some (.inr (.inr (some (7, v0)))), some (.inl v1), none, some (.inr (.inl v3)), none, some (.inl v5)]) (st' := [.inr (.inr (some (38, v0))), .inr (.inr (some (7, v0)))]) (M' := mem E mu la) rfl ?_
    refine Ev.ci (J := mi_163) (as := [.inr (.inr (some (7, v0))), .inr (.inr (some (38, v0)))]) (rest := []) rfl rfl rfl (Nat.le_of_ble_eq_true rfl) h (fun x7 mu8 la9 h => ?_)
    refine Ev.ci (J := mi_131) (as := [.inl x7]) (rest := []) rfl rfl rfl (Nat.le_of_ble_eq_true rfl) h (fun x10 mu11 la12 h => ?_)
    exact Ev.ret rfl rfl ⟨_, _, _, rfl, rfl, h⟩
  · have h := h.2 hc
    dsimp only
    refine Ev.steps 4 (ip' := 39) (ls' := [some (.inr (.inr (some (7, v0)))), some (.inl v1), none, some (.inr (.inl v3)), none, some (.inl v5)]) (st' := [.inr (.inl (2147483647 : Int64)), .inr (.inl ((48271 : Int64) * v3))]) (M' := mem E mu la) rfl ?_
    refine Ev.want (c := (2147483647 : Int64) = 0) (s2 := (40, [some (.inr (.inr (some (7, v0)))), some (.inl v1), none, some (.inr (.inl v3)), none, some (.inl v5)], [.inr (.inl (((48271 : Int64) * v3) - ((48271 : Int64) * v3) / (2147483647 : Int64) * (2147483647 : Int64)))], mem E mu la)) rfl rfl rfl rfl h.1 ?_
    have h := h.2
    refine Ev.steps 6 (ip' := 46) (ls' := [some (.inr (.inr (some (7, v0)))), some (.inl v1), none, some (.inr (.inl (((48271 : Int64) * v3) - ((48271 : Int64) * v3) / (2147483647 : Int64) * (2147483647 : Int64)))), none, some (.inl v5)]) (st' := [.inr (.inl ((mu 7 v0 4).toInt64)), .inr (.inl (((48271 : Int64) * v3) - ((48271 : Int64) * v3) / (2147483647 : Int64) * (2147483647 : Int64))), .inr (.inr (some (7, v0)))]) (M' := mem E mu la) rfl ?_
    refine Ev.want (c := ((mu 7 v0 4).toInt64) = 0) (s2 := (47, [some (.inr (.inr (some (7, v0)))), some (.inl v1), none, some (.inr (.inl (((48271 : Int64) * v3) - ((48271 : Int64) * v3) / (2147483647 : Int64) * (2147483647 : Int64)))), none, some (.inl v5)], [.inr (.inl ((((48271 : Int64) * v3) - ((48271 : Int64) * v3) / (2147483647 : Int64) * (2147483647 : Int64)) - (((48271 : Int64) * v3) - ((48271 : Int64) * v3) / (2147483647 : Int64) * (2147483647 : Int64)) / ((mu 7 v0 4).toInt64) * ((mu 7 v0 4).toInt64))), .inr (.inr (some (7, v0)))], mem E mu la)) rfl rfl rfl rfl h.1 ?_
    have h := h.2
    refine Ev.steps 3 (ip' := 50) (ls' := [some (.inr (.inr (some (7, v0)))), some (.inl v1), none, some (.inr (.inl (((48271 : Int64) * v3) - ((48271 : Int64) * v3) / (2147483647 : Int64) * (2147483647 : Int64)))), none, some (.inl v5)]) (st' := [.inr (.inl (8 : Int64)), .inr (.inl (((48271 : Int64) * v3) - ((48271 : Int64) * v3) / (2147483647 : Int64) * (2147483647 : Int64))), .inl (((((48271 : Int64) * v3) - ((48271 : Int64) * v3) / (2147483647 : Int64) * (2147483647 : Int64)) - (((48271 : Int64) * v3) - ((48271 : Int64) * v3) / (2147483647 : Int64) * (2147483647 : Int64)) / ((mu 7 v0 4).toInt64) * ((mu 7 v0 4).toInt64)).toInt32), .inr (.inr (some (7, v0)))]) (M' := mem E mu la) rfl ?_
    refine Ev.want (c := (8 : Int64) = 0) (s2 := (51, [some (.inr (.inr (some (7, v0)))), some (.inl v1), none, some (.inr (.inl (((48271 : Int64) * v3) - ((48271 : Int64) * v3) / (2147483647 : Int64) * (2147483647 : Int64)))), none, some (.inl v5)], [.inr (.inl ((((48271 : Int64) * v3) - ((48271 : Int64) * v3) / (2147483647 : Int64) * (2147483647 : Int64)) / (8 : Int64))), .inl (((((48271 : Int64) * v3) - ((48271 : Int64) * v3) / (2147483647 : Int64) * (2147483647 : Int64)) - (((48271 : Int64) * v3) - ((48271 : Int64) * v3) / (2147483647 : Int64) * (2147483647 : Int64)) / ((mu 7 v0 4).toInt64) * ((mu 7 v0 4).toInt64)).toInt32), .inr (.inr (some (7, v0)))], mem E mu la)) rfl rfl rfl rfl h.1 ?_
    have h := h.2
    refine Ev.steps 3 (ip' := 54) (ls' := [some (.inr (.inr (some (7, v0)))), some (.inl v1), none, some (.inr (.inl (((48271 : Int64) * v3) - ((48271 : Int64) * v3) / (2147483647 : Int64) * (2147483647 : Int64)))), none, some (.inl v5)]) (st' := [.inr (.inl ((mu 7 v0 4).toInt64)), .inr (.inl ((((48271 : Int64) * v3) - ((48271 : Int64) * v3) / (2147483647 : Int64) * (2147483647 : Int64)) / (8 : Int64))), .inl (((((48271 : Int64) * v3) - ((48271 : Int64) * v3) / (2147483647 : Int64) * (2147483647 : Int64)) - (((48271 : Int64) * v3) - ((48271 : Int64) * v3) / (2147483647 : Int64) * (2147483647 : Int64)) / ((mu 7 v0 4).toInt64) * ((mu 7 v0 4).toInt64)).toInt32), .inr (.inr (some (7, v0)))]) (M' := mem E mu la) rfl ?_
    refine Ev.want (c := ((mu 7 v0 4).toInt64) = 0) (s2 := (55, [some (.inr (.inr (some (7, v0)))), some (.inl v1), none, some (.inr (.inl (((48271 : Int64) * v3) - ((48271 : Int64) * v3) / (2147483647 : Int64) * (2147483647 : Int64)))), none, some (.inl v5)], [.inr (.inl (((((48271 : Int64) * v3) - ((48271 : Int64) * v3) / (2147483647 : Int64) * (2147483647 : Int64)) / (8 : Int64)) - ((((48271 : Int64) * v3) - ((48271 : Int64) * v3) / (2147483647 : Int64) * (2147483647 : Int64)) / (8 : Int64)) / ((mu 7 v0 4).toInt64) * ((mu 7 v0 4).toInt64))), .inl (((((48271 : Int64) * v3) - ((48271 : Int64) * v3) / (2147483647 : Int64) * (2147483647 : Int64)) - (((48271 : Int64) * v3) - ((48271 : Int64) * v3) / (2147483647 : Int64) * (2147483647 : Int64)) / ((mu 7 v0 4).toInt64) * ((mu 7 v0 4).toInt64)).toInt32), .inr (.inr (some (7, v0)))], mem E mu la)) rfl rfl rfl rfl h.1 ?_
    have h := h.2
    refine Ev.steps 1 (ip' := 56) (ls' := [some (.inr (.inr (some (7, v0)))), some (.inl v1), none, some (.inr (.inl (((48271 : Int64) * v3) - ((48271 : Int64) * v3) / (2147483647 : Int64) * (2147483647 : Int64)))), none, some (.inl v5)]) (st' := [.inl ((((((48271 : Int64) * v3) - ((48271 : Int64) * v3) / (2147483647 : Int64) * (2147483647 : Int64)) / (8 : Int64)) - ((((48271 : Int64) * v3) - ((48271 : Int64) * v3) / (2147483647 : Int64) * (2147483647 : Int64)) / (8 : Int64)) / ((mu 7 v0 4).toInt64) * ((mu 7 v0 4).toInt64)).toInt32), .inl (((((48271 : Int64) * v3) - ((48271 : Int64) * v3) / (2147483647 : Int64) * (2147483647 : Int64)) - (((48271 : Int64) * v3) - ((48271 : Int64) * v3) / (2147483647 : Int64) * (2147483647 : Int64)) / ((mu 7 v0 4).toInt64) * ((mu 7 v0 4).toInt64)).toInt32), .inr (.inr (some (7, v0)))]) (M' := mem E mu la) rfl ?_
    refine Ev.cv (J := mi_216) (as := [.inr (.inr (some (7, v0))), .inl (((((48271 : Int64) * v3) - ((48271 : Int64) * v3) / (2147483647 : Int64) * (2147483647 : Int64)) - (((48271 : Int64) * v3) - ((48271 : Int64) * v3) / (2147483647 : Int64) * (2147483647 : Int64)) / ((mu 7 v0 4).toInt64) * ((mu 7 v0 4).toInt64)).toInt32), .inl ((((((48271 : Int64) * v3) - ((48271 : Int64) * v3) / (2147483647 : Int64) * (2147483647 : Int64)) / (8 : Int64)) - ((((48271 : Int64) * v3) - ((48271 : Int64) * v3) / (2147483647 : Int64) * (2147483647 : Int64)) / (8 : Int64)) / ((mu 7 v0 4).toInt64) * ((mu 7 v0 4).toInt64)).toInt32)]) (rest := []) rfl rfl rfl (Nat.le_of_ble_eq_true rfl) h (fun mu14 la15 h => ?_)
    refine Ev.steps 2 (ip' := 32) (ls' := [some (.inr (.inr (some (7, v0)))), some (.inl v1), none, some (.inr (.inl (((48271 : Int64) * v3) - ((48271 : Int64) * v3) / (2147483647 : Int64) * (2147483647 : Int64)))), none, some (.inl (v5 + (1 : Int32)))]) (st' := []) (M' := mem E mu14 la15) rfl ?_
    exact h
set_option maxRecDepth 100000 in
/-- AnnCupsModel.asked()I -/
theorem vc_X7_asked {E : mEv} {d : Nat} {c : Nat} {mu : fMu} {la : fLa} {Q : Int32 → fMu → fLa → Prop} (h : Q (mu 7 c 17) mu la) : FnI E d mi_218 [.inr (.inr (some (7, c)))] mu la Q := by
  unfold FnI
  show Ev E d mi_218 0 [some (.inr (.inr (some (7, c))))] [] (mem E mu la) (qI E Q)
  refine Ev.steps 2 (ip' := 2) (ls' := [some (.inr (.inr (some (7, c))))]) (st' := [.inl (mu 7 c 17)]) (M' := mem E mu la) rfl ?_
  exact Ev.ret rfl rfl ⟨_, _, _, rfl, rfl, h⟩
set_option maxRecDepth 100000 in
/-- AnnCupsModel.upper()J -/
theorem vc_X7_upper {E : mEv} {d : Nat} {c : Nat} {mu : fMu} {la : fLa} {Q : Int64 → fMu → fLa → Prop} (h : Q (la 7 c 18) mu la) : FnL E d mi_219 [.inr (.inr (some (7, c)))] mu la Q := by
  unfold FnL
  show Ev E d mi_219 0 [some (.inr (.inr (some (7, c))))] [] (mem E mu la) (qL E Q)
  refine Ev.steps 2 (ip' := 2) (ls' := [some (.inr (.inr (some (7, c))))]) (st' := [.inr (.inl (la 7 c 18))]) (M' := mem E mu la) rfl ?_
  exact Ev.ret rfl rfl ⟨_, _, _, rfl, rfl, h⟩
set_option maxRecDepth 100000 in
/-- AnnCupsModel.lower()J -/
theorem vc_X7_lower {E : mEv} {d : Nat} {c : Nat} {mu : fMu} {la : fLa} {Q : Int64 → fMu → fLa → Prop} (h : Q (la 7 c 19) mu la) : FnL E d mi_220 [.inr (.inr (some (7, c)))] mu la Q := by
  unfold FnL
  show Ev E d mi_220 0 [some (.inr (.inr (some (7, c))))] [] (mem E mu la) (qL E Q)
  refine Ev.steps 2 (ip' := 2) (ls' := [some (.inr (.inr (some (7, c))))]) (st' := [.inr (.inl (la 7 c 19))]) (M' := mem E mu la) rfl ?_
  exact Ev.ret rfl rfl ⟨_, _, _, rfl, rfl, h⟩
set_option maxRecDepth 100000 in
/-- AnnCupsModel.kindsOf(I)I -/
theorem vc_X7_kindsOf {E : mEv} {d : Nat} {c : Nat} (a0 : Int32) {mu : fMu} {la : fLa} {Q : Int32 → fMu → fLa → Prop} (h : Ev E (d + 1) mi_221 4 [some (.inr (.inr (some (7, c)))), some (.inl a0), some (.inl (0 : Int32)), some (.inl (0 : Int32))] [] (mem E mu la) (qI E Q)) : FnI E (d + 1) mi_221 [.inr (.inr (some (7, c))), .inl a0] mu la Q := by
  unfold FnI
  show Ev E (d + 1) mi_221 0 [some (.inr (.inr (some (7, c)))), some (.inl a0), none, none] [] (mem E mu la) (qI E Q)
  refine Ev.steps 4 (ip' := 4) (ls' := [some (.inr (.inr (some (7, c)))), some (.inl a0), some (.inl (0 : Int32)), some (.inl (0 : Int32))]) (st' := []) (M' := mem E mu la) rfl ?_
  exact h
set_option maxRecDepth 100000 in
theorem vc_X7_kindsOf_4 {E : mEv} {d : Nat}  (v0 : Nat) (v1 : Int32) (v2 : Int32) (v3 : Int32) {mu : fMu} {la : fLa} {Q : Int32 → fMu → fLa → Prop} (h : ((mu 7 v0 4) ≤ v3 → (Q v2 mu la)) ∧ (¬ ((mu 7 v0 4) ≤ v3) → (vp_in v3 6 ∧ (FnI E d mi_169 [.inl (mu 33 v0 v3.toNatClampNeg), .inl v1] mu la (fun x1 mu2 la3 => (x1 = 0 → (Ev E (d + 1) mi_221 4 [some (.inr (.inr (some (7, v0)))), some (.inl v1), some (.inl (v2 + (0 : Int32))), some (.inl (v3 + (1 : Int32)))] [] (mem E mu2 la3) (qI E Q))) ∧ (¬ (x1 = 0) → (Ev E (d + 1) mi_221 4 [some (.inr (.inr (some (7, v0)))), some (.inl v1), some (.inl (v2 + (1 : Int32))), some (.inl (v3 + (1 : Int32)))] [] (mem E mu2 la3) (qI E Q)))))))) : Ev E (d + 1) mi_221 4 [some (.inr (.inr (some (7, v0)))), some (.inl v1), some (.inl v2), some (.inl v3)] [] (mem E mu la) (qI E Q) := by
  refine Ev.steps 3 (ip' := 7) (ls' := [some (.inr (.inr (some (7, v0)))), some (.inl v1), some (.inl v2), some (.inl v3)]) (st' := [.inl (mu 7 v0 4), .inl v3]) (M' := mem E mu la) rfl ?_
  refine Ev.br (c := (mu 7 v0 4) ≤ v3) (s1 := (23, [some (.inr (.inr (some (7, v0)))), some (.inl v1), some (.inl v2), some (.inl v3)], [], mem E mu la)) (s2 := (8, [some (.inr (.inr (some (7, v0)))), some (.inl v1), some (.inl v2), some (.inl v3)], [], mem E mu la)) rfl rfl rfl rfl (fun hc => ?_) (fun hc => ?_)
  · have h := h.1 hc
    dsimp only
    refine Ev.steps 1 (ip' := 24) (ls' := [some (.inr (.inr (some (7, v0)))), some (.inl v1), some (.inl v2), some (.inl v3)]) (st' := [.inl v2]) (M' := mem E mu la) rfl ?_
    exact Ev.ret rfl rfl ⟨_, _, _, rfl, rfl, h⟩
  · have h := h.2 hc
    dsimp only
    refine Ev.steps 4 (ip' := 12) (ls' := [some (.inr (.inr (some (7, v0)))), some (.inl v1), some (.inl v2), some (.inl v3)]) (st' := [.inl v3, .inr (.inr (some (33, v0))), .inl v2]) (M' := mem E mu la) rfl ?_
    refine Ev.ial rfl rfl (by decide) h.1 ?_
    have h := h.2
    refine Ev.steps 1 (ip' := 14) (ls' := [some (.inr (.inr (some (7, v0)))), some (.inl v1), some (.inl v2), some (.inl v3)]) (st' := [.inl v1, .inl (mu 33 v0 v3.toNatClampNeg), .inl v2]) (M' := mem E mu la) rfl ?_
    refine Ev.ci (J := mi_169) (as := [.inl (mu 33 v0 v3.toNatClampNeg), .inl v1]) (rest := [.inl v2]) rfl rfl rfl (Nat.le_of_ble_eq_true rfl) h (fun x1 mu2 la3 h => ?_)
    refine Ev.br (c := x1 = 0) (s1 := (18, [some (.inr (.inr (some (7, v0)))), some (.inl v1), some (.inl v2), some (.inl v3)], [.inl v2], mem E mu2 la3)) (s2 := (16, [some (.inr (.inr (some (7, v0)))), some (.inl v1), some (.inl v2), some (.inl v3)], [.inl v2], mem E mu2 la3)) rfl rfl rfl rfl (fun hc => ?_) (fun hc => ?_)
    · have h := h.1 hc
      dsimp only
      refine Ev.steps 5 (ip' := 4) (ls' := [some (.inr (.inr (some (7, v0)))), some (.inl v1), some (.inl (v2 + (0 : Int32))), some (.inl (v3 + (1 : Int32)))]) (st' := []) (M' := mem E mu2 la3) rfl ?_
      exact h
    · have h := h.2 hc
      dsimp only
      refine Ev.steps 6 (ip' := 4) (ls' := [some (.inr (.inr (some (7, v0)))), some (.inl v1), some (.inl (v2 + (1 : Int32))), some (.inl (v3 + (1 : Int32)))]) (st' := []) (M' := mem E mu2 la3) rfl ?_
      exact h
set_option maxRecDepth 100000 in
/-- AnnCupsModel.counted(I)I -/
theorem vc_X7_counted {E : mEv} {d : Nat} {c : Nat} (a0 : Int32) {mu : fMu} {la : fLa} {Q : Int32 → fMu → fLa → Prop} (h : Ev E (d + 1) mi_222 4 [some (.inr (.inr (some (7, c)))), some (.inl a0), some (.inl (0 : Int32)), some (.inl (0 : Int32))] [] (mem E mu la) (qI E Q)) : FnI E (d + 1) mi_222 [.inr (.inr (some (7, c))), .inl a0] mu la Q := by
  unfold FnI
  show Ev E (d + 1) mi_222 0 [some (.inr (.inr (some (7, c)))), some (.inl a0), none, none] [] (mem E mu la) (qI E Q)
  refine Ev.steps 4 (ip' := 4) (ls' := [some (.inr (.inr (some (7, c)))), some (.inl a0), some (.inl (0 : Int32)), some (.inl (0 : Int32))]) (st' := []) (M' := mem E mu la) rfl ?_
  exact h
set_option maxRecDepth 100000 in
theorem vc_X7_counted_4 {E : mEv} {d : Nat}  (v0 : Nat) (v1 : Int32) (v2 : Int32) (v3 : Int32) {mu : fMu} {la : fLa} {Q : Int32 → fMu → fLa → Prop} (h : ((6 : Int32) ≤ v3 → (Ev E (d + 1) mi_222 25 [some (.inr (.inr (some (7, v0)))), some (.inl v1), some (.inl v2), some (.inl (0 : Int32))] [] (mem E mu la) (qI E Q))) ∧ (¬ ((6 : Int32) ≤ v3) → ((¬ v1 = (9 : Int32) → (Ev E (d + 1) mi_222 25 [some (.inr (.inr (some (7, v0)))), some (.inl v1), some (.inl v2), some (.inl (0 : Int32))] [] (mem E mu la) (qI E Q))) ∧ (¬ (¬ v1 = (9 : Int32)) → (vp_in v3 6 ∧ ((0 ≤ (mu 29 v0 v3.toNatClampNeg) → (Ev E (d + 1) mi_222 4 [some (.inr (.inr (some (7, v0)))), some (.inl v1), some (.inl (v2 + (1 : Int32))), some (.inl (v3 + (1 : Int32)))] [] (mem E mu la) (qI E Q))) ∧ (¬ (0 ≤ (mu 29 v0 v3.toNatClampNeg)) → (Ev E (d + 1) mi_222 4 [some (.inr (.inr (some (7, v0)))), some (.inl v1), some (.inl (v2 + (0 : Int32))), some (.inl (v3 + (1 : Int32)))] [] (mem E mu la) (qI E Q))))))))) : Ev E (d + 1) mi_222 4 [some (.inr (.inr (some (7, v0)))), some (.inl v1), some (.inl v2), some (.inl v3)] [] (mem E mu la) (qI E Q) := by
  refine Ev.steps 2 (ip' := 6) (ls' := [some (.inr (.inr (some (7, v0)))), some (.inl v1), some (.inl v2), some (.inl v3)]) (st' := [.inl (6 : Int32), .inl v3]) (M' := mem E mu la) rfl ?_
  refine Ev.br (c := (6 : Int32) ≤ v3) (s1 := (23, [some (.inr (.inr (some (7, v0)))), some (.inl v1), some (.inl v2), some (.inl v3)], [], mem E mu la)) (s2 := (7, [some (.inr (.inr (some (7, v0)))), some (.inl v1), some (.inl v2), some (.inl v3)], [], mem E mu la)) rfl rfl rfl rfl (fun hc => ?_) (fun hc => ?_)
  · have h := h.1 hc
    dsimp only
    refine Ev.steps 2 (ip' := 25) (ls' := [some (.inr (.inr (some (7, v0)))), some (.inl v1), some (.inl v2), some (.inl (0 : Int32))]) (st' := []) (M' := mem E mu la) rfl ?_
    exact h
  · have h := h.2 hc
    dsimp only
    refine Ev.steps 2 (ip' := 9) (ls' := [some (.inr (.inr (some (7, v0)))), some (.inl v1), some (.inl v2), some (.inl v3)]) (st' := [.inl (9 : Int32), .inl v1]) (M' := mem E mu la) rfl ?_
    refine Ev.br (c := ¬ v1 = (9 : Int32)) (s1 := (23, [some (.inr (.inr (some (7, v0)))), some (.inl v1), some (.inl v2), some (.inl v3)], [], mem E mu la)) (s2 := (10, [some (.inr (.inr (some (7, v0)))), some (.inl v1), some (.inl v2), some (.inl v3)], [], mem E mu la)) rfl rfl rfl rfl (fun hc => ?_) (fun hc => ?_)
    · have h := h.1 hc
      dsimp only
      refine Ev.steps 2 (ip' := 25) (ls' := [some (.inr (.inr (some (7, v0)))), some (.inl v1), some (.inl v2), some (.inl (0 : Int32))]) (st' := []) (M' := mem E mu la) rfl ?_
      exact h
    · have h := h.2 hc
      dsimp only
      refine Ev.steps 4 (ip' := 14) (ls' := [some (.inr (.inr (some (7, v0)))), some (.inl v1), some (.inl v2), some (.inl v3)]) (st' := [.inl v3, .inr (.inr (some (29, v0))), .inl v2]) (M' := mem E mu la) rfl ?_
      refine Ev.ial rfl rfl (by decide) h.1 ?_
      have h := h.2
      refine Ev.br (c := 0 ≤ (mu 29 v0 v3.toNatClampNeg)) (s1 := (18, [some (.inr (.inr (some (7, v0)))), some (.inl v1), some (.inl v2), some (.inl v3)], [.inl v2], mem E mu la)) (s2 := (16, [some (.inr (.inr (some (7, v0)))), some (.inl v1), some (.inl v2), some (.inl v3)], [.inl v2], mem E mu la)) rfl rfl rfl rfl (fun hc => ?_) (fun hc => ?_)
      · have h := h.1 hc
        dsimp only
        refine Ev.steps 5 (ip' := 4) (ls' := [some (.inr (.inr (some (7, v0)))), some (.inl v1), some (.inl (v2 + (1 : Int32))), some (.inl (v3 + (1 : Int32)))]) (st' := []) (M' := mem E mu la) rfl ?_
        exact h
      · have h := h.2 hc
        dsimp only
        refine Ev.steps 6 (ip' := 4) (ls' := [some (.inr (.inr (some (7, v0)))), some (.inl v1), some (.inl (v2 + (0 : Int32))), some (.inl (v3 + (1 : Int32)))]) (st' := []) (M' := mem E mu la) rfl ?_
        exact h
set_option maxRecDepth 100000 in
theorem vc_X7_counted_25 {E : mEv} {d : Nat}  (v0 : Nat) (v1 : Int32) (v2 : Int32) (v3 : Int32) {mu : fMu} {la : fLa} {Q : Int32 → fMu → fLa → Prop} (h : ((4 : Int32) ≤ v3 → (Ev E (d + 1) mi_222 46 [some (.inr (.inr (some (7, v0)))), some (.inl v1), some (.inl v2), some (.inl (0 : Int32))] [] (mem E mu la) (qI E Q))) ∧ (¬ ((4 : Int32) ≤ v3) → ((¬ v1 = (10 : Int32) → (Ev E (d + 1) mi_222 46 [some (.inr (.inr (some (7, v0)))), some (.inl v1), some (.inl v2), some (.inl (0 : Int32))] [] (mem E mu la) (qI E Q))) ∧ (¬ (¬ v1 = (10 : Int32)) → (vp_in v3 4 ∧ ((0 ≤ (mu 31 v0 v3.toNatClampNeg) → (Ev E (d + 1) mi_222 25 [some (.inr (.inr (some (7, v0)))), some (.inl v1), some (.inl (v2 + (1 : Int32))), some (.inl (v3 + (1 : Int32)))] [] (mem E mu la) (qI E Q))) ∧ (¬ (0 ≤ (mu 31 v0 v3.toNatClampNeg)) → (Ev E (d + 1) mi_222 25 [some (.inr (.inr (some (7, v0)))), some (.inl v1), some (.inl (v2 + (0 : Int32))), some (.inl (v3 + (1 : Int32)))] [] (mem E mu la) (qI E Q))))))))) : Ev E (d + 1) mi_222 25 [some (.inr (.inr (some (7, v0)))), some (.inl v1), some (.inl v2), some (.inl v3)] [] (mem E mu la) (qI E Q) := by
  refine Ev.steps 2 (ip' := 27) (ls' := [some (.inr (.inr (some (7, v0)))), some (.inl v1), some (.inl v2), some (.inl v3)]) (st' := [.inl (4 : Int32), .inl v3]) (M' := mem E mu la) rfl ?_
  refine Ev.br (c := (4 : Int32) ≤ v3) (s1 := (44, [some (.inr (.inr (some (7, v0)))), some (.inl v1), some (.inl v2), some (.inl v3)], [], mem E mu la)) (s2 := (28, [some (.inr (.inr (some (7, v0)))), some (.inl v1), some (.inl v2), some (.inl v3)], [], mem E mu la)) rfl rfl rfl rfl (fun hc => ?_) (fun hc => ?_)
  · have h := h.1 hc
    dsimp only
    refine Ev.steps 2 (ip' := 46) (ls' := [some (.inr (.inr (some (7, v0)))), some (.inl v1), some (.inl v2), some (.inl (0 : Int32))]) (st' := []) (M' := mem E mu la) rfl ?_
    exact h
  · have h := h.2 hc
    dsimp only
    refine Ev.steps 2 (ip' := 30) (ls' := [some (.inr (.inr (some (7, v0)))), some (.inl v1), some (.inl v2), some (.inl v3)]) (st' := [.inl (10 : Int32), .inl v1]) (M' := mem E mu la) rfl ?_
    refine Ev.br (c := ¬ v1 = (10 : Int32)) (s1 := (44, [some (.inr (.inr (some (7, v0)))), some (.inl v1), some (.inl v2), some (.inl v3)], [], mem E mu la)) (s2 := (31, [some (.inr (.inr (some (7, v0)))), some (.inl v1), some (.inl v2), some (.inl v3)], [], mem E mu la)) rfl rfl rfl rfl (fun hc => ?_) (fun hc => ?_)
    · have h := h.1 hc
      dsimp only
      refine Ev.steps 2 (ip' := 46) (ls' := [some (.inr (.inr (some (7, v0)))), some (.inl v1), some (.inl v2), some (.inl (0 : Int32))]) (st' := []) (M' := mem E mu la) rfl ?_
      exact h
    · have h := h.2 hc
      dsimp only
      refine Ev.steps 4 (ip' := 35) (ls' := [some (.inr (.inr (some (7, v0)))), some (.inl v1), some (.inl v2), some (.inl v3)]) (st' := [.inl v3, .inr (.inr (some (31, v0))), .inl v2]) (M' := mem E mu la) rfl ?_
      refine Ev.ial rfl rfl (by decide) h.1 ?_
      have h := h.2
      refine Ev.br (c := 0 ≤ (mu 31 v0 v3.toNatClampNeg)) (s1 := (39, [some (.inr (.inr (some (7, v0)))), some (.inl v1), some (.inl v2), some (.inl v3)], [.inl v2], mem E mu la)) (s2 := (37, [some (.inr (.inr (some (7, v0)))), some (.inl v1), some (.inl v2), some (.inl v3)], [.inl v2], mem E mu la)) rfl rfl rfl rfl (fun hc => ?_) (fun hc => ?_)
      · have h := h.1 hc
        dsimp only
        refine Ev.steps 5 (ip' := 25) (ls' := [some (.inr (.inr (some (7, v0)))), some (.inl v1), some (.inl (v2 + (1 : Int32))), some (.inl (v3 + (1 : Int32)))]) (st' := []) (M' := mem E mu la) rfl ?_
        exact h
      · have h := h.2 hc
        dsimp only
        refine Ev.steps 6 (ip' := 25) (ls' := [some (.inr (.inr (some (7, v0)))), some (.inl v1), some (.inl (v2 + (0 : Int32))), some (.inl (v3 + (1 : Int32)))]) (st' := []) (M' := mem E mu la) rfl ?_
        exact h
set_option maxRecDepth 100000 in
theorem vc_X7_counted_46 {E : mEv} {d : Nat}  (v0 : Nat) (v1 : Int32) (v2 : Int32) (v3 : Int32) {mu : fMu} {la : fLa} {Q : Int32 → fMu → fLa → Prop} (h : ((3 : Int32) ≤ v3 → ((v1 = 0 → (Q (mu 7 v0 4) mu la)) ∧ (¬ v1 = 0 → ((v1 = 1 → (vp_in (6 : Int32) 9 ∧ (Q (mu 38 v0 (6 : Int32).toNatClampNeg) mu la))) ∧ (¬ v1 = 1 → ((v1 = 2 → (Q (mu 7 v0 13) mu la)) ∧ (¬ v1 = 2 → ((v1 = 3 → (FnI E d mi_165 [.inr (.inr (some (7, v0))), .inr (.inr (some (38, v0)))] mu la (fun x1 mu2 la3 => Q x1 mu2 la3))) ∧ (¬ v1 = 3 → ((v1 = 4 → (FnI E d mi_166 [.inr (.inr (some (7, v0)))] mu la (fun x4 mu5 la6 => Q x4 mu5 la6))) ∧ (¬ v1 = 4 → ((v1 = 5 → (Q (mu 7 v0 5) mu la)) ∧ (¬ v1 = 5 → ((v1 = 6 → (FnI E d mi_221 [.inr (.inr (some (7, v0))), .inl (1 : Int32)] mu la (fun x7 mu8 la9 => Q x7 mu8 la9))) ∧ (¬ v1 = 6 → ((v1 = 7 → (FnI E d mi_221 [.inr (.inr (some (7, v0))), .inl (2 : Int32)] mu la (fun x10 mu11 la12 => Q x10 mu11 la12))) ∧ (¬ v1 = 7 → ((v1 = 8 → (vp_in (7 : Int32) 9 ∧ (Q (mu 38 v0 (7 : Int32).toNatClampNeg) mu la))) ∧ (¬ v1 = 8 → (Q v2 mu la)))))))))))))))))))) ∧ (¬ ((3 : Int32) ≤ v3) → ((¬ v1 = (11 : Int32) → ((v1 = 0 → (Q (mu 7 v0 4) mu la)) ∧ (¬ v1 = 0 → ((v1 = 1 → (vp_in (6 : Int32) 9 ∧ (Q (mu 38 v0 (6 : Int32).toNatClampNeg) mu la))) ∧ (¬ v1 = 1 → ((v1 = 2 → (Q (mu 7 v0 13) mu la)) ∧ (¬ v1 = 2 → ((v1 = 3 → (FnI E d mi_165 [.inr (.inr (some (7, v0))), .inr (.inr (some (38, v0)))] mu la (fun x13 mu14 la15 => Q x13 mu14 la15))) ∧ (¬ v1 = 3 → ((v1 = 4 → (FnI E d mi_166 [.inr (.inr (some (7, v0)))] mu la (fun x16 mu17 la18 => Q x16 mu17 la18))) ∧ (¬ v1 = 4 → ((v1 = 5 → (Q (mu 7 v0 5) mu la)) ∧ (¬ v1 = 5 → ((v1 = 6 → (FnI E d mi_221 [.inr (.inr (some (7, v0))), .inl (1 : Int32)] mu la (fun x19 mu20 la21 => Q x19 mu20 la21))) ∧ (¬ v1 = 6 → ((v1 = 7 → (FnI E d mi_221 [.inr (.inr (some (7, v0))), .inl (2 : Int32)] mu la (fun x22 mu23 la24 => Q x22 mu23 la24))) ∧ (¬ v1 = 7 → ((v1 = 8 → (vp_in (7 : Int32) 9 ∧ (Q (mu 38 v0 (7 : Int32).toNatClampNeg) mu la))) ∧ (¬ v1 = 8 → (Q v2 mu la)))))))))))))))))))) ∧ (¬ (¬ v1 = (11 : Int32)) → (vp_in v3 3 ∧ (((mu 42 v0 v3.toNatClampNeg) = 0 → (Ev E (d + 1) mi_222 46 [some (.inr (.inr (some (7, v0)))), some (.inl v1), some (.inl (v2 + (0 : Int32))), some (.inl (v3 + (1 : Int32)))] [] (mem E mu la) (qI E Q))) ∧ (¬ ((mu 42 v0 v3.toNatClampNeg) = 0) → (Ev E (d + 1) mi_222 46 [some (.inr (.inr (some (7, v0)))), some (.inl v1), some (.inl (v2 + (1 : Int32))), some (.inl (v3 + (1 : Int32)))] [] (mem E mu la) (qI E Q))))))))) : Ev E (d + 1) mi_222 46 [some (.inr (.inr (some (7, v0)))), some (.inl v1), some (.inl v2), some (.inl v3)] [] (mem E mu la) (qI E Q) := by
  refine Ev.steps 2 (ip' := 48) (ls' := [some (.inr (.inr (some (7, v0)))), some (.inl v1), some (.inl v2), some (.inl v3)]) (st' := [.inl (3 : Int32), .inl v3]) (M' := mem E mu la) rfl ?_
  refine Ev.br (c := (3 : Int32) ≤ v3) (s1 := (65, [some (.inr (.inr (some (7, v0)))), some (.inl v1), some (.inl v2), some (.inl v3)], [], mem E mu la)) (s2 := (49, [some (.inr (.inr (some (7, v0)))), some (.inl v1), some (.inl v2), some (.inl v3)], [], mem E mu la)) rfl rfl rfl rfl (fun hc => ?_) (fun hc => ?_)
  · have h := h.1 hc
    dsimp only
    refine Ev.steps 1 (ip' := 66) (ls' := [some (.inr (.inr (some (7, v0)))), some (.inl v1), some (.inl v2), some (.inl v3)]) (st' := [.inl v1]) (M' := mem E mu la) rfl ?_
    by_cases hc0 : v1 = 0
    · refine Ev.one (s' := (67, [some (.inr (.inr (some (7, v0)))), some (.inl v1), some (.inl v2), some (.inl v3)], [], mem E mu la)) rfl rfl rfl (by rw [hc0]; rfl) ?_
      have h := h.1 hc0
      dsimp only
      refine Ev.steps 2 (ip' := 69) (ls' := [some (.inr (.inr (some (7, v0)))), some (.inl v1), some (.inl v2), some (.inl v3)]) (st' := [.inl (mu 7 v0 4)]) (M' := mem E mu la) rfl ?_
      exact Ev.ret rfl rfl ⟨_, _, _, rfl, rfl, h⟩
    · have h := h.2 hc0
      by_cases hc1 : v1 = 1
      · refine Ev.one (s' := (70, [some (.inr (.inr (some (7, v0)))), some (.inl v1), some (.inl v2), some (.inl v3)], [], mem E mu la)) rfl rfl rfl (by rw [hc1]; rfl) ?_
        have h := h.1 hc1
        dsimp only
        refine Ev.steps 3 (ip' := 73) (ls' := [some (.inr (.inr (some (7, v0)))), some (.inl v1), some (.inl v2), some (.inl v3)]) (st' := [.inl (6 : Int32), .inr (.inr (some (38, v0)))]) (M' := mem E mu la) rfl ?_
        refine Ev.ial rfl rfl (by decide) h.1 ?_
        have h := h.2
        exact Ev.ret rfl rfl ⟨_, _, _, rfl, rfl, h⟩
      · have h := h.2 hc1
        by_cases hc2 : v1 = 2
        · refine Ev.one (s' := (75, [some (.inr (.inr (some (7, v0)))), some (.inl v1), some (.inl v2), some (.inl v3)], [], mem E mu la)) rfl rfl rfl (by rw [hc2]; rfl) ?_
          have h := h.1 hc2
          dsimp only
          refine Ev.steps 2 (ip' := 77) (ls' := [some (.inr (.inr (some (7, v0)))), some (.inl v1), some (.inl v2), some (.inl v3)]) (st' := [.inl (mu 7 v0 13)]) (M' := mem E mu la) rfl ?_
          exact Ev.ret rfl rfl ⟨_, _, _, rfl, rfl, h⟩
        · have h := h.2 hc2
          by_cases hc3 : v1 = 3
          · refine Ev.one (s' := (78, [some (.inr (.inr (some (7, v0)))), some (.inl v1), some (.inl v2), some (.inl v3)], [], mem E mu la)) rfl rfl rfl (by rw [hc3]; rfl) ?_
            have h := h.1 hc3
            dsimp only
            refine Ev.steps 3 (ip' := 81) (ls' := [some (.inr (.inr (some (7, v0)))), some (.inl v1), some (.inl v2), some (.inl v3)]) (st' := [.inr (.inr (some (38, v0))), .inr (.inr (some (7, v0)))]) (M' := mem E mu la) rfl ?_
            refine Ev.ci (J := mi_165) (as := [.inr (.inr (some (7, v0))), .inr (.inr (some (38, v0)))]) (rest := []) rfl rfl rfl (Nat.le_of_ble_eq_true rfl) h (fun x1 mu2 la3 h => ?_)
            exact Ev.ret rfl rfl ⟨_, _, _, rfl, rfl, h⟩
          · have h := h.2 hc3
            by_cases hc4 : v1 = 4
            · refine Ev.one (s' := (83, [some (.inr (.inr (some (7, v0)))), some (.inl v1), some (.inl v2), some (.inl v3)], [], mem E mu la)) rfl rfl rfl (by rw [hc4]; rfl) ?_
              have h := h.1 hc4
              dsimp only
              refine Ev.steps 1 (ip' := 84) (ls' := [some (.inr (.inr (some (7, v0)))), some (.inl v1), some (.inl v2), some (.inl v3)]) (st' := [.inr (.inr (some (7, v0)))]) (M' := mem E mu la) rfl ?_
              refine Ev.ci (J := mi_166) (as := [.inr (.inr (some (7, v0)))]) (rest := []) rfl rfl rfl (Nat.le_of_ble_eq_true rfl) h (fun x4 mu5 la6 h => ?_)
              exact Ev.ret rfl rfl ⟨_, _, _, rfl, rfl, h⟩
            · have h := h.2 hc4
              by_cases hc5 : v1 = 5
              · refine Ev.one (s' := (86, [some (.inr (.inr (some (7, v0)))), some (.inl v1), some (.inl v2), some (.inl v3)], [], mem E mu la)) rfl rfl rfl (by rw [hc5]; rfl) ?_
                have h := h.1 hc5
                dsimp only
                refine Ev.steps 2 (ip' := 88) (ls' := [some (.inr (.inr (some (7, v0)))), some (.inl v1), some (.inl v2), some (.inl v3)]) (st' := [.inl (mu 7 v0 5)]) (M' := mem E mu la) rfl ?_
                exact Ev.ret rfl rfl ⟨_, _, _, rfl, rfl, h⟩
              · have h := h.2 hc5
                by_cases hc6 : v1 = 6
                · refine Ev.one (s' := (89, [some (.inr (.inr (some (7, v0)))), some (.inl v1), some (.inl v2), some (.inl v3)], [], mem E mu la)) rfl rfl rfl (by rw [hc6]; rfl) ?_
                  have h := h.1 hc6
                  dsimp only
                  refine Ev.steps 2 (ip' := 91) (ls' := [some (.inr (.inr (some (7, v0)))), some (.inl v1), some (.inl v2), some (.inl v3)]) (st' := [.inl (1 : Int32), .inr (.inr (some (7, v0)))]) (M' := mem E mu la) rfl ?_
                  refine Ev.ci (J := mi_221) (as := [.inr (.inr (some (7, v0))), .inl (1 : Int32)]) (rest := []) rfl rfl rfl (Nat.le_of_ble_eq_true rfl) h (fun x7 mu8 la9 h => ?_)
                  exact Ev.ret rfl rfl ⟨_, _, _, rfl, rfl, h⟩
                · have h := h.2 hc6
                  by_cases hc7 : v1 = 7
                  · refine Ev.one (s' := (93, [some (.inr (.inr (some (7, v0)))), some (.inl v1), some (.inl v2), some (.inl v3)], [], mem E mu la)) rfl rfl rfl (by rw [hc7]; rfl) ?_
                    have h := h.1 hc7
                    dsimp only
                    refine Ev.steps 2 (ip' := 95) (ls' := [some (.inr (.inr (some (7, v0)))), some (.inl v1), some (.inl v2), some (.inl v3)]) (st' := [.inl (2 : Int32), .inr (.inr (some (7, v0)))]) (M' := mem E mu la) rfl ?_
                    refine Ev.ci (J := mi_221) (as := [.inr (.inr (some (7, v0))), .inl (2 : Int32)]) (rest := []) rfl rfl rfl (Nat.le_of_ble_eq_true rfl) h (fun x10 mu11 la12 h => ?_)
                    exact Ev.ret rfl rfl ⟨_, _, _, rfl, rfl, h⟩
                  · have h := h.2 hc7
                    by_cases hc8 : v1 = 8
                    · refine Ev.one (s' := (97, [some (.inr (.inr (some (7, v0)))), some (.inl v1), some (.inl v2), some (.inl v3)], [], mem E mu la)) rfl rfl rfl (by rw [hc8]; rfl) ?_
                      have h := h.1 hc8
                      dsimp only
                      refine Ev.steps 3 (ip' := 100) (ls' := [some (.inr (.inr (some (7, v0)))), some (.inl v1), some (.inl v2), some (.inl v3)]) (st' := [.inl (7 : Int32), .inr (.inr (some (38, v0)))]) (M' := mem E mu la) rfl ?_
                      refine Ev.ial rfl rfl (by decide) h.1 ?_
                      have h := h.2
                      exact Ev.ret rfl rfl ⟨_, _, _, rfl, rfl, h⟩
                    · have h := h.2 hc8
                      refine Ev.one (s' := (102, [some (.inr (.inr (some (7, v0)))), some (.inl v1), some (.inl v2), some (.inl v3)], [], mem E mu la)) rfl rfl rfl (if_pos (tsw_out v1 0 8 (fun z h1 h2 => by
                        rcases (show z = 0 ∨ z = 1 ∨ z = 2 ∨ z = 3 ∨ z = 4 ∨ z = 5 ∨ z = 6 ∨ z = 7 ∨ z = 8 by omega) with rfl | rfl | rfl | rfl | rfl | rfl | rfl | rfl | rfl
                        · exact fun e => hc0 (Int32.toInt_inj.mp e)
                        · exact fun e => hc1 (Int32.toInt_inj.mp e)
                        · exact fun e => hc2 (Int32.toInt_inj.mp e)
                        · exact fun e => hc3 (Int32.toInt_inj.mp e)
                        · exact fun e => hc4 (Int32.toInt_inj.mp e)
                        · exact fun e => hc5 (Int32.toInt_inj.mp e)
                        · exact fun e => hc6 (Int32.toInt_inj.mp e)
                        · exact fun e => hc7 (Int32.toInt_inj.mp e)
                        · exact fun e => hc8 (Int32.toInt_inj.mp e)))) ?_
                      dsimp only
                      refine Ev.steps 1 (ip' := 103) (ls' := [some (.inr (.inr (some (7, v0)))), some (.inl v1), some (.inl v2), some (.inl v3)]) (st' := [.inl v2]) (M' := mem E mu la) rfl ?_
                      exact Ev.ret rfl rfl ⟨_, _, _, rfl, rfl, h⟩
  · have h := h.2 hc
    dsimp only
    refine Ev.steps 2 (ip' := 51) (ls' := [some (.inr (.inr (some (7, v0)))), some (.inl v1), some (.inl v2), some (.inl v3)]) (st' := [.inl (11 : Int32), .inl v1]) (M' := mem E mu la) rfl ?_
    refine Ev.br (c := ¬ v1 = (11 : Int32)) (s1 := (65, [some (.inr (.inr (some (7, v0)))), some (.inl v1), some (.inl v2), some (.inl v3)], [], mem E mu la)) (s2 := (52, [some (.inr (.inr (some (7, v0)))), some (.inl v1), some (.inl v2), some (.inl v3)], [], mem E mu la)) rfl rfl rfl rfl (fun hc => ?_) (fun hc => ?_)
    · have h := h.1 hc
      dsimp only
      refine Ev.steps 1 (ip' := 66) (ls' := [some (.inr (.inr (some (7, v0)))), some (.inl v1), some (.inl v2), some (.inl v3)]) (st' := [.inl v1]) (M' := mem E mu la) rfl ?_
      by_cases hc0 : v1 = 0
      · refine Ev.one (s' := (67, [some (.inr (.inr (some (7, v0)))), some (.inl v1), some (.inl v2), some (.inl v3)], [], mem E mu la)) rfl rfl rfl (by rw [hc0]; rfl) ?_
        have h := h.1 hc0
        dsimp only
        refine Ev.steps 2 (ip' := 69) (ls' := [some (.inr (.inr (some (7, v0)))), some (.inl v1), some (.inl v2), some (.inl v3)]) (st' := [.inl (mu 7 v0 4)]) (M' := mem E mu la) rfl ?_
        exact Ev.ret rfl rfl ⟨_, _, _, rfl, rfl, h⟩
      · have h := h.2 hc0
        by_cases hc1 : v1 = 1
        · refine Ev.one (s' := (70, [some (.inr (.inr (some (7, v0)))), some (.inl v1), some (.inl v2), some (.inl v3)], [], mem E mu la)) rfl rfl rfl (by rw [hc1]; rfl) ?_
          have h := h.1 hc1
          dsimp only
          refine Ev.steps 3 (ip' := 73) (ls' := [some (.inr (.inr (some (7, v0)))), some (.inl v1), some (.inl v2), some (.inl v3)]) (st' := [.inl (6 : Int32), .inr (.inr (some (38, v0)))]) (M' := mem E mu la) rfl ?_
          refine Ev.ial rfl rfl (by decide) h.1 ?_
          have h := h.2
          exact Ev.ret rfl rfl ⟨_, _, _, rfl, rfl, h⟩
        · have h := h.2 hc1
          by_cases hc2 : v1 = 2
          · refine Ev.one (s' := (75, [some (.inr (.inr (some (7, v0)))), some (.inl v1), some (.inl v2), some (.inl v3)], [], mem E mu la)) rfl rfl rfl (by rw [hc2]; rfl) ?_
            have h := h.1 hc2
            dsimp only
            refine Ev.steps 2 (ip' := 77) (ls' := [some (.inr (.inr (some (7, v0)))), some (.inl v1), some (.inl v2), some (.inl v3)]) (st' := [.inl (mu 7 v0 13)]) (M' := mem E mu la) rfl ?_
            exact Ev.ret rfl rfl ⟨_, _, _, rfl, rfl, h⟩
          · have h := h.2 hc2
            by_cases hc3 : v1 = 3
            · refine Ev.one (s' := (78, [some (.inr (.inr (some (7, v0)))), some (.inl v1), some (.inl v2), some (.inl v3)], [], mem E mu la)) rfl rfl rfl (by rw [hc3]; rfl) ?_
              have h := h.1 hc3
              dsimp only
              refine Ev.steps 3 (ip' := 81) (ls' := [some (.inr (.inr (some (7, v0)))), some (.inl v1), some (.inl v2), some (.inl v3)]) (st' := [.inr (.inr (some (38, v0))), .inr (.inr (some (7, v0)))]) (M' := mem E mu la) rfl ?_
              refine Ev.ci (J := mi_165) (as := [.inr (.inr (some (7, v0))), .inr (.inr (some (38, v0)))]) (rest := []) rfl rfl rfl (Nat.le_of_ble_eq_true rfl) h (fun x13 mu14 la15 h => ?_)
              exact Ev.ret rfl rfl ⟨_, _, _, rfl, rfl, h⟩
            · have h := h.2 hc3
              by_cases hc4 : v1 = 4
              · refine Ev.one (s' := (83, [some (.inr (.inr (some (7, v0)))), some (.inl v1), some (.inl v2), some (.inl v3)], [], mem E mu la)) rfl rfl rfl (by rw [hc4]; rfl) ?_
                have h := h.1 hc4
                dsimp only
                refine Ev.steps 1 (ip' := 84) (ls' := [some (.inr (.inr (some (7, v0)))), some (.inl v1), some (.inl v2), some (.inl v3)]) (st' := [.inr (.inr (some (7, v0)))]) (M' := mem E mu la) rfl ?_
                refine Ev.ci (J := mi_166) (as := [.inr (.inr (some (7, v0)))]) (rest := []) rfl rfl rfl (Nat.le_of_ble_eq_true rfl) h (fun x16 mu17 la18 h => ?_)
                exact Ev.ret rfl rfl ⟨_, _, _, rfl, rfl, h⟩
              · have h := h.2 hc4
                by_cases hc5 : v1 = 5
                · refine Ev.one (s' := (86, [some (.inr (.inr (some (7, v0)))), some (.inl v1), some (.inl v2), some (.inl v3)], [], mem E mu la)) rfl rfl rfl (by rw [hc5]; rfl) ?_
                  have h := h.1 hc5
                  dsimp only
                  refine Ev.steps 2 (ip' := 88) (ls' := [some (.inr (.inr (some (7, v0)))), some (.inl v1), some (.inl v2), some (.inl v3)]) (st' := [.inl (mu 7 v0 5)]) (M' := mem E mu la) rfl ?_
                  exact Ev.ret rfl rfl ⟨_, _, _, rfl, rfl, h⟩
                · have h := h.2 hc5
                  by_cases hc6 : v1 = 6
                  · refine Ev.one (s' := (89, [some (.inr (.inr (some (7, v0)))), some (.inl v1), some (.inl v2), some (.inl v3)], [], mem E mu la)) rfl rfl rfl (by rw [hc6]; rfl) ?_
                    have h := h.1 hc6
                    dsimp only
                    refine Ev.steps 2 (ip' := 91) (ls' := [some (.inr (.inr (some (7, v0)))), some (.inl v1), some (.inl v2), some (.inl v3)]) (st' := [.inl (1 : Int32), .inr (.inr (some (7, v0)))]) (M' := mem E mu la) rfl ?_
                    refine Ev.ci (J := mi_221) (as := [.inr (.inr (some (7, v0))), .inl (1 : Int32)]) (rest := []) rfl rfl rfl (Nat.le_of_ble_eq_true rfl) h (fun x19 mu20 la21 h => ?_)
                    exact Ev.ret rfl rfl ⟨_, _, _, rfl, rfl, h⟩
                  · have h := h.2 hc6
                    by_cases hc7 : v1 = 7
                    · refine Ev.one (s' := (93, [some (.inr (.inr (some (7, v0)))), some (.inl v1), some (.inl v2), some (.inl v3)], [], mem E mu la)) rfl rfl rfl (by rw [hc7]; rfl) ?_
                      have h := h.1 hc7
                      dsimp only
                      refine Ev.steps 2 (ip' := 95) (ls' := [some (.inr (.inr (some (7, v0)))), some (.inl v1), some (.inl v2), some (.inl v3)]) (st' := [.inl (2 : Int32), .inr (.inr (some (7, v0)))]) (M' := mem E mu la) rfl ?_
                      refine Ev.ci (J := mi_221) (as := [.inr (.inr (some (7, v0))), .inl (2 : Int32)]) (rest := []) rfl rfl rfl (Nat.le_of_ble_eq_true rfl) h (fun x22 mu23 la24 h => ?_)
                      exact Ev.ret rfl rfl ⟨_, _, _, rfl, rfl, h⟩
                    · have h := h.2 hc7
                      by_cases hc8 : v1 = 8
                      · refine Ev.one (s' := (97, [some (.inr (.inr (some (7, v0)))), some (.inl v1), some (.inl v2), some (.inl v3)], [], mem E mu la)) rfl rfl rfl (by rw [hc8]; rfl) ?_
                        have h := h.1 hc8
                        dsimp only
                        refine Ev.steps 3 (ip' := 100) (ls' := [some (.inr (.inr (some (7, v0)))), some (.inl v1), some (.inl v2), some (.inl v3)]) (st' := [.inl (7 : Int32), .inr (.inr (some (38, v0)))]) (M' := mem E mu la) rfl ?_
                        refine Ev.ial rfl rfl (by decide) h.1 ?_
                        have h := h.2
                        exact Ev.ret rfl rfl ⟨_, _, _, rfl, rfl, h⟩
                      · have h := h.2 hc8
                        refine Ev.one (s' := (102, [some (.inr (.inr (some (7, v0)))), some (.inl v1), some (.inl v2), some (.inl v3)], [], mem E mu la)) rfl rfl rfl (if_pos (tsw_out v1 0 8 (fun z h1 h2 => by
                          rcases (show z = 0 ∨ z = 1 ∨ z = 2 ∨ z = 3 ∨ z = 4 ∨ z = 5 ∨ z = 6 ∨ z = 7 ∨ z = 8 by omega) with rfl | rfl | rfl | rfl | rfl | rfl | rfl | rfl | rfl
                          · exact fun e => hc0 (Int32.toInt_inj.mp e)
                          · exact fun e => hc1 (Int32.toInt_inj.mp e)
                          · exact fun e => hc2 (Int32.toInt_inj.mp e)
                          · exact fun e => hc3 (Int32.toInt_inj.mp e)
                          · exact fun e => hc4 (Int32.toInt_inj.mp e)
                          · exact fun e => hc5 (Int32.toInt_inj.mp e)
                          · exact fun e => hc6 (Int32.toInt_inj.mp e)
                          · exact fun e => hc7 (Int32.toInt_inj.mp e)
                          · exact fun e => hc8 (Int32.toInt_inj.mp e)))) ?_
                        dsimp only
                        refine Ev.steps 1 (ip' := 103) (ls' := [some (.inr (.inr (some (7, v0)))), some (.inl v1), some (.inl v2), some (.inl v3)]) (st' := [.inl v2]) (M' := mem E mu la) rfl ?_
                        exact Ev.ret rfl rfl ⟨_, _, _, rfl, rfl, h⟩
    · have h := h.2 hc
      dsimp only
      refine Ev.steps 4 (ip' := 56) (ls' := [some (.inr (.inr (some (7, v0)))), some (.inl v1), some (.inl v2), some (.inl v3)]) (st' := [.inl v3, .inr (.inr (some (42, v0))), .inl v2]) (M' := mem E mu la) rfl ?_
      refine Ev.bal rfl (Or.inr rfl) h.1 ?_
      have h := h.2
      refine Ev.br (c := (mu 42 v0 v3.toNatClampNeg) = 0) (s1 := (60, [some (.inr (.inr (some (7, v0)))), some (.inl v1), some (.inl v2), some (.inl v3)], [.inl v2], mem E mu la)) (s2 := (58, [some (.inr (.inr (some (7, v0)))), some (.inl v1), some (.inl v2), some (.inl v3)], [.inl v2], mem E mu la)) rfl rfl rfl rfl (fun hc => ?_) (fun hc => ?_)
      · have h := h.1 hc
        dsimp only
        refine Ev.steps 5 (ip' := 46) (ls' := [some (.inr (.inr (some (7, v0)))), some (.inl v1), some (.inl (v2 + (0 : Int32))), some (.inl (v3 + (1 : Int32)))]) (st' := []) (M' := mem E mu la) rfl ?_
        exact h
      · have h := h.2 hc
        dsimp only
        refine Ev.steps 6 (ip' := 46) (ls' := [some (.inr (.inr (some (7, v0)))), some (.inl v1), some (.inl (v2 + (1 : Int32))), some (.inl (v3 + (1 : Int32)))]) (st' := []) (M' := mem E mu la) rfl ?_
        exact h
set_option maxRecDepth 100000 in
/-- AnnCupsModel.count(I)I -/
theorem vc_X7_count {E : mEv} {d : Nat} {c : Nat} (a0 : Int32) {mu : fMu} {la : fLa} {Q : Int32 → fMu → fLa → Prop} (h : FnI E d mi_129 [.inr (.inl a0.toInt64), .inr (.inl (0 : Int64)), .inr (.inl (11 : Int64))] mu la (fun x1 mu2 la3 => (x1 = 0 → (Q (-1 : Int32) mu2 la3)) ∧ (¬ (x1 = 0) → (FnI E d mi_222 [.inr (.inr (some (7, c))), .inl a0] mu2 la3 (fun x4 mu5 la6 => Q x4 mu5 la6))))) : FnI E (d + 1) mi_223 [.inr (.inr (some (7, c))), .inl a0] mu la Q := by
  unfold FnI
  show Ev E (d + 1) mi_223 0 [some (.inr (.inr (some (7, c)))), some (.inl a0)] [] (mem E mu la) (qI E Q)
  refine Ev.steps 4 (ip' := 4) (ls' := [some (.inr (.inr (some (7, c)))), some (.inl a0)]) (st' := [.inr (.inl (11 : Int64)), .inr (.inl (0 : Int64)), .inr (.inl a0.toInt64)]) (M' := mem E mu la) rfl ?_
  refine Ev.ci (J := mi_129) (as := [.inr (.inl a0.toInt64), .inr (.inl (0 : Int64)), .inr (.inl (11 : Int64))]) (rest := []) rfl rfl rfl (Nat.le_of_ble_eq_true rfl) h (fun x1 mu2 la3 h => ?_)
  refine Ev.br (c := x1 = 0) (s1 := (10, [some (.inr (.inr (some (7, c)))), some (.inl a0)], [], mem E mu2 la3)) (s2 := (6, [some (.inr (.inr (some (7, c)))), some (.inl a0)], [], mem E mu2 la3)) rfl rfl rfl rfl (fun hc => ?_) (fun hc => ?_)
  · have h := h.1 hc
    dsimp only
    refine Ev.steps 1 (ip' := 11) (ls' := [some (.inr (.inr (some (7, c)))), some (.inl a0)]) (st' := [.inl (-1 : Int32)]) (M' := mem E mu2 la3) rfl ?_
    exact Ev.ret rfl rfl ⟨_, _, _, rfl, rfl, h⟩
  · have h := h.2 hc
    dsimp only
    refine Ev.steps 2 (ip' := 8) (ls' := [some (.inr (.inr (some (7, c)))), some (.inl a0)]) (st' := [.inl a0, .inr (.inr (some (7, c)))]) (M' := mem E mu2 la3) rfl ?_
    refine Ev.ci (J := mi_222) (as := [.inr (.inr (some (7, c))), .inl a0]) (rest := []) rfl rfl rfl (Nat.le_of_ble_eq_true rfl) h (fun x4 mu5 la6 h => ?_)
    refine Ev.steps 1 (ip' := 11) (ls' := [some (.inr (.inr (some (7, c)))), some (.inl a0)]) (st' := [.inl x4]) (M' := mem E mu5 la6) rfl ?_
    exact Ev.ret rfl rfl ⟨_, _, _, rfl, rfl, h⟩
set_option maxRecDepth 100000 in
/-- AnnCupsModel.finding()I -/
theorem vc_X7_finding {E : mEv} {d : Nat} {c : Nat} {mu : fMu} {la : fLa} {Q : Int32 → fMu → fLa → Prop} (h : Q (mu 7 c 20) mu la) : FnI E d mi_224 [.inr (.inr (some (7, c)))] mu la Q := by
  unfold FnI
  show Ev E d mi_224 0 [some (.inr (.inr (some (7, c))))] [] (mem E mu la) (qI E Q)
  refine Ev.steps 2 (ip' := 2) (ls' := [some (.inr (.inr (some (7, c))))]) (st' := [.inl (mu 7 c 20)]) (M' := mem E mu la) rfl ?_
  exact Ev.ret rfl rfl ⟨_, _, _, rfl, rfl, h⟩
set_option maxRecDepth 100000 in
/-- AnnCupsModel.findings(I)I -/
theorem vc_X7_findings {E : mEv} {d : Nat} {c : Nat} (a0 : Int32) {mu : fMu} {la : fLa} {Q : Int32 → fMu → fLa → Prop} (h : FnI E d mi_129 [.inr (.inl a0.toInt64), .inr (.inl (1 : Int64)), .inr (.inl (5 : Int64))] mu la (fun x1 mu2 la3 => (x1 = 0 → (Q (-1 : Int32) mu2 la3)) ∧ (¬ (x1 = 0) → (vp_in a0 6 ∧ (Q (mu2 43 c a0.toNatClampNeg) mu2 la3))))) : FnI E (d + 1) mi_225 [.inr (.inr (some (7, c))), .inl a0] mu la Q := by
  unfold FnI
  show Ev E (d + 1) mi_225 0 [some (.inr (.inr (some (7, c)))), some (.inl a0)] [] (mem E mu la) (qI E Q)
  refine Ev.steps 4 (ip' := 4) (ls' := [some (.inr (.inr (some (7, c)))), some (.inl a0)]) (st' := [.inr (.inl (5 : Int64)), .inr (.inl (1 : Int64)), .inr (.inl a0.toInt64)]) (M' := mem E mu la) rfl ?_
  refine Ev.ci (J := mi_129) (as := [.inr (.inl a0.toInt64), .inr (.inl (1 : Int64)), .inr (.inl (5 : Int64))]) (rest := []) rfl rfl rfl (Nat.le_of_ble_eq_true rfl) h (fun x1 mu2 la3 h => ?_)
  refine Ev.br (c := x1 = 0) (s1 := (11, [some (.inr (.inr (some (7, c)))), some (.inl a0)], [], mem E mu2 la3)) (s2 := (6, [some (.inr (.inr (some (7, c)))), some (.inl a0)], [], mem E mu2 la3)) rfl rfl rfl rfl (fun hc => ?_) (fun hc => ?_)
  · have h := h.1 hc
    dsimp only
    refine Ev.steps 1 (ip' := 12) (ls' := [some (.inr (.inr (some (7, c)))), some (.inl a0)]) (st' := [.inl (-1 : Int32)]) (M' := mem E mu2 la3) rfl ?_
    exact Ev.ret rfl rfl ⟨_, _, _, rfl, rfl, h⟩
  · have h := h.2 hc
    dsimp only
    refine Ev.steps 3 (ip' := 9) (ls' := [some (.inr (.inr (some (7, c)))), some (.inl a0)]) (st' := [.inl a0, .inr (.inr (some (43, c)))]) (M' := mem E mu2 la3) rfl ?_
    refine Ev.ial rfl rfl (by decide) h.1 ?_
    have h := h.2
    refine Ev.steps 1 (ip' := 12) (ls' := [some (.inr (.inr (some (7, c)))), some (.inl a0)]) (st' := [.inl (mu2 43 c a0.toNatClampNeg)]) (M' := mem E mu2 la3) rfl ?_
    exact Ev.ret rfl rfl ⟨_, _, _, rfl, rfl, h⟩
