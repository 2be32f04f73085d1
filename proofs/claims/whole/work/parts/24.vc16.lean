/-- AnnCupsModel.plays(II)V -/
theorem vc_X7_plays {E : mEv} {d : Nat} {c : Nat} (a0 : Int32) (a1 : Int32) {mu : fMu} {la : fLa} {Q : fMu → fLa → Prop} (h : FnV E d mi_175 [.inr (.inr (some (7, c)))] mu la (fun mu2 la3 => vp_in ((0 : Int32) + a0) 9 ∧ ((¬ (mu2 38 c ((0 : Int32) + a0).toNatClampNeg) = (-9 : Int32) → ((¬ (mu2 38 c ((0 : Int32) + a0).toNatClampNeg) = (6 : Int32) → (((mu2 38 c ((0 : Int32) + a0).toNatClampNeg) = (7 : Int32) → (Q mu2 la3)) ∧ (¬ ((mu2 38 c ((0 : Int32) + a0).toNatClampNeg) = (7 : Int32)) → (((mu2 38 c ((0 : Int32) + a0).toNatClampNeg) = a1 → (Q mu2 la3)) ∧ (¬ ((mu2 38 c ((0 : Int32) + a0).toNatClampNeg) = a1) → (FnI E d mi_156 [.inr (.inr (some (7, c))), .inl a1] mu2 la3 (fun x4 mu5 la6 => (x4 = 0 → (Q mu5 la6)) ∧ (¬ (x4 = 0) → (FnV E d mi_177 [.inr (.inr (some (7, c))), .inr (.inr (some (38, c))), .inl (mu2 38 c ((0 : Int32) + a0).toNatClampNeg), .inl a1] mu5 la6 (fun mu8 la9 => Q mu8 la9)))))))))) ∧ (¬ (¬ (mu2 38 c ((0 : Int32) + a0).toNatClampNeg) = (6 : Int32)) → (vp_in ((0 : Int32) + a0) 9 ∧ ∀ mu10 : fMu, mu10 = up3 mu2 38 c ((0 : Int32) + a0).toNatClampNeg (7 : Int32) → (Q mu10 la3))))) ∧ (¬ (¬ (mu2 38 c ((0 : Int32) + a0).toNatClampNeg) = (-9 : Int32)) → (FnV E d mi_161 [.inr (.inr (some (7, c))), .inr (.inr (some (38, c))), .inl a0, .inl (mu2 7 c 5)] mu2 la3 (fun mu12 la13 => Q mu12 la13)))))) : FnV E (d + 1) mi_216 [.inr (.inr (some (7, c))), .inl a0, .inl a1] mu la Q := by
  unfold FnV
  show Ev E (d + 1) mi_216 0 [some (.inr (.inr (some (7, c)))), some (.inl a0), some (.inl a1), none] [] (mem E mu la) (qV E Q)
  refine Ev.steps 1 (ip' := 1) (ls' := [some (.inr (.inr (some (7, c)))), some (.inl a0), some (.inl a1), none]) (st' := [.inr (.inr (some (7, c)))]) (M' := mem E mu la) rfl ?_
  refine Ev.cv (J := mi_175) (as := [.inr (.inr (some (7, c)))]) (rest := []) rfl rfl rfl (Nat.le_of_ble_eq_true rfl) h (fun mu2 la3 h => ?_)
  refine Ev.steps 5 (ip' := 7) (ls' := [some (.inr (.inr (some (7, c)))), some (.inl a0), some (.inl a1), none]) (st' := [.inl ((0 : Int32) + a0), .inr (.inr (some (38, c)))]) (M' := mem E mu2 la3) rfl ?_
  refine Ev.ial rfl rfl (by decide) h.1 ?_
  have h := h.2
  refine Ev.steps 3 (ip' := 11) (ls' := [some (.inr (.inr (some (7, c)))), some (.inl a0), some (.inl a1), some (.inl (mu2 38 c ((0 : Int32) + a0).toNatClampNeg))]) (st' := [.inl (-9 : Int32), .inl (mu2 38 c ((0 : Int32) + a0).toNatClampNeg)]) (M' := mem E mu2 la3) rfl ?_
  refine Ev.br (c := ¬ (mu2 38 c ((0 : Int32) + a0).toNatClampNeg) = (-9 : Int32)) (s1 := (20, [some (.inr (.inr (some (7, c)))), some (.inl a0), some (.inl a1), some (.inl (mu2 38 c ((0 : Int32) + a0).toNatClampNeg))], [], mem E mu2 la3)) (s2 := (12, [some (.inr (.inr (some (7, c)))), some (.inl a0), some (.inl a1), some (.inl (mu2 38 c ((0 : Int32) + a0).toNatClampNeg))], [], mem E mu2 la3)) rfl rfl rfl rfl (fun hc => ?_) (fun hc => ?_)
  · have h := h.1 hc
    dsimp only
    refine Ev.steps 2 (ip' := 22) (ls' := [some (.inr (.inr (some (7, c)))), some (.inl a0), some (.inl a1), some (.inl (mu2 38 c ((0 : Int32) + a0).toNatClampNeg))]) (st' := [.inl (6 : Int32), .inl (mu2 38 c ((0 : Int32) + a0).toNatClampNeg)]) (M' := mem E mu2 la3) rfl ?_
    refine Ev.br (c := ¬ (mu2 38 c ((0 : Int32) + a0).toNatClampNeg) = (6 : Int32)) (s1 := (31, [some (.inr (.inr (some (7, c)))), some (.inl a0), some (.inl a1), some (.inl (mu2 38 c ((0 : Int32) + a0).toNatClampNeg))], [], mem E mu2 la3)) (s2 := (23, [some (.inr (.inr (some (7, c)))), some (.inl a0), some (.inl a1), some (.inl (mu2 38 c ((0 : Int32) + a0).toNatClampNeg))], [], mem E mu2 la3)) rfl rfl rfl rfl (fun hc => ?_) (fun hc => ?_)
    · have h := h.1 hc
      dsimp only
      refine Ev.steps 2 (ip' := 33) (ls' := [some (.inr (.inr (some (7, c)))), some (.inl a0), some (.inl a1), some (.inl (mu2 38 c ((0 : Int32) + a0).toNatClampNeg))]) (st' := [.inl (7 : Int32), .inl (mu2 38 c ((0 : Int32) + a0).toNatClampNeg)]) (M' := mem E mu2 la3) rfl ?_
      refine Ev.br (c := (mu2 38 c ((0 : Int32) + a0).toNatClampNeg) = (7 : Int32)) (s1 := (47, [some (.inr (.inr (some (7, c)))), some (.inl a0), some (.inl a1), some (.inl (mu2 38 c ((0 : Int32) + a0).toNatClampNeg))], [], mem E mu2 la3)) (s2 := (34, [some (.inr (.inr (some (7, c)))), some (.inl a0), some (.inl a1), some (.inl (mu2 38 c ((0 : Int32) + a0).toNatClampNeg))], [], mem E mu2 la3)) rfl rfl rfl rfl (fun hc => ?_) (fun hc => ?_)
      · have h := h.1 hc
        dsimp only
        exact Ev.ret rfl rfl ⟨_, _, rfl, rfl, h⟩
      · have h := h.2 hc
        dsimp only
        refine Ev.steps 2 (ip' := 36) (ls' := [some (.inr (.inr (some (7, c)))), some (.inl a0), some (.inl a1), some (.inl (mu2 38 c ((0 : Int32) + a0).toNatClampNeg))]) (st' := [.inl a1, .inl (mu2 38 c ((0 : Int32) + a0).toNatClampNeg)]) (M' := mem E mu2 la3) rfl ?_
        refine Ev.br (c := (mu2 38 c ((0 : Int32) + a0).toNatClampNeg) = a1) (s1 := (47, [some (.inr (.inr (some (7, c)))), some (.inl a0), some (.inl a1), some (.inl (mu2 38 c ((0 : Int32) + a0).toNatClampNeg))], [], mem E mu2 la3)) (s2 := (37, [some (.inr (.inr (some (7, c)))), some (.inl a0), some (.inl a1), some (.inl (mu2 38 c ((0 : Int32) + a0).toNatClampNeg))], [], mem E mu2 la3)) rfl rfl rfl rfl (fun hc => ?_) (fun hc => ?_)
        · have h := h.1 hc
          dsimp only
          exact Ev.ret rfl rfl ⟨_, _, rfl, rfl, h⟩
        · have h := h.2 hc
          dsimp only
          refine Ev.steps 2 (ip' := 39) (ls' := [some (.inr (.inr (some (7, c)))), some (.inl a0), some (.inl a1), some (.inl (mu2 38 c ((0 : Int32) + a0).toNatClampNeg))]) (st' := [.inl a1, .inr (.inr (some (7, c)))]) (M' := mem E mu2 la3) rfl ?_
          refine Ev.ci (J := mi_156) (as := [.inr (.inr (some (7, c))), .inl a1]) (rest := []) rfl rfl rfl (Nat.le_of_ble_eq_true rfl) h (fun x4 mu5 la6 h => ?_)
          refine Ev.br (c := x4 = 0) (s1 := (47, [some (.inr (.inr (some (7, c)))), some (.inl a0), some (.inl a1), some (.inl (mu2 38 c ((0 : Int32) + a0).toNatClampNeg))], [], mem E mu5 la6)) (s2 := (41, [some (.inr (.inr (some (7, c)))), some (.inl a0), some (.inl a1), some (.inl (mu2 38 c ((0 : Int32) + a0).toNatClampNeg))], [], mem E mu5 la6)) rfl rfl rfl rfl (fun hc => ?_) (fun hc => ?_)
          · have h := h.1 hc
            dsimp only
            exact Ev.ret rfl rfl ⟨_, _, rfl, rfl, h⟩
          · have h := h.2 hc
            dsimp only
            refine Ev.steps 5 (ip' := 46) (ls' := [some (.inr (.inr (some (7, c)))), some (.inl a0), some (.inl a1), some (.inl (mu2 38 c ((0 : Int32) + a0).toNatClampNeg))]) (st' := [.inl a1, .inl (mu2 38 c ((0 : Int32) + a0).toNatClampNeg), .inr (.inr (some (38, c))), .inr (.inr (some (7, c)))]) (M' := mem E mu5 la6) rfl ?_
            refine Ev.cv (J := mi_177) (as := [.inr (.inr (some (7, c))), .inr (.inr (some (38, c))), .inl (mu2 38 c ((0 : Int32) + a0).toNatClampNeg), .inl a1]) (rest := []) rfl rfl rfl (Nat.le_of_ble_eq_true rfl) h (fun mu8 la9 h => ?_)
            exact Ev.ret rfl rfl ⟨_, _, rfl, rfl, h⟩
    · have h := h.2 hc
      dsimp only
      refine Ev.steps 6 (ip' := 29) (ls' := [some (.inr (.inr (some (7, c)))), some (.inl a0), some (.inl a1), some (.inl (mu2 38 c ((0 : Int32) + a0).toNatClampNeg))]) (st' := [.inl (7 : Int32), .inl ((0 : Int32) + a0), .inr (.inr (some (38, c)))]) (M' := mem E mu2 la3) rfl ?_
      refine Ev.ias rfl rfl h.1 ?_
      have h := h.2
      generalize hgmu10 : up3 mu2 38 c ((0 : Int32) + a0).toNatClampNeg (7 : Int32) = mu10
      have h := h mu10 hgmu10.symm
      refine Ev.steps 1 (ip' := 47) (ls' := [some (.inr (.inr (some (7, c)))), some (.inl a0), some (.inl a1), some (.inl (mu2 38 c ((0 : Int32) + a0).toNatClampNeg))]) (st' := []) (M' := mem E mu10 la3) rfl ?_
      exact Ev.ret rfl rfl ⟨_, _, rfl, rfl, h⟩
  · have h := h.2 hc
    dsimp only
    refine Ev.steps 6 (ip' := 18) (ls' := [some (.inr (.inr (some (7, c)))), some (.inl a0), some (.inl a1), some (.inl (mu2 38 c ((0 : Int32) + a0).toNatClampNeg))]) (st' := [.inl (mu2 7 c 5), .inl a0, .inr (.inr (some (38, c))), .inr (.inr (some (7, c)))]) (M' := mem E mu2 la3) rfl ?_
    refine Ev.cv (J := mi_161) (as := [.inr (.inr (some (7, c))), .inr (.inr (some (38, c))), .inl a0, .inl (mu2 7 c 5)]) (rest := []) rfl rfl rfl (Nat.le_of_ble_eq_true rfl) h (fun mu12 la13 h => ?_)
    refine Ev.steps 1 (ip' := 47) (ls' := [some (.inr (.inr (some (7, c)))), some (.inl a0), some (.inl a1), some (.inl (mu2 38 c ((0 : Int32) + a0).toNatClampNeg))]) (st' := []) (M' := mem E mu12 la13) rfl ?_
    exact Ev.ret rfl rfl ⟨_, _, rfl, rfl, h⟩
/-- AnnCupsModel.lots(II)I -/
theorem vc_X7_lots {E : mEv} {d : Nat} {c : Nat} (a0 : Int32) (a1 : Int32) {mu : fMu} {la : fLa} {Q : Int32 → fMu → fLa → Prop} (h : FnI E d mi_129 [.inr (.inl a0.toInt64), .inr (.inl (1 : Int64)), .inr (.inl (20 : Int64))] mu la (fun x1 mu2 la3 => (x1 = 0 → (Q (-1 : Int32) mu2 la3)) ∧ (¬ (x1 = 0) → (FnI E d mi_129 [.inr (.inl a1.toInt64), .inr (.inl (1 : Int64)), .inr (.inl (2147483646 : Int64))] mu2 la3 (fun x4 mu5 la6 => (¬ x4 = 0 → ((¬ (mu5 7 c 4) = 0 → ((((mu5 7 c 13) + a0) ≤ (40 : Int32) → (Ev E (d + 1) mi_217 32 [some (.inr (.inr (some (7, c)))), some (.inl a0), none, some (.inr (.inl a1.toInt64)), none, some (.inl (0 : Int32))] [] (mem E mu5 la6) (qI E Q))) ∧ (¬ (((mu5 7 c 13) + a0) ≤ (40 : Int32)) → (Q (-2 : Int32) mu5 la6)))) ∧ (¬ (¬ (mu5 7 c 4) = 0) → (Q (-4 : Int32) mu5 la6)))) ∧ (¬ (¬ x4 = 0) → (Q (-1 : Int32) mu5 la6))))))) : FnI E (d + 1) mi_217 [.inr (.inr (some (7, c))), .inl a0, .inl a1] mu la Q := by
  unfold FnI
  show Ev E (d + 1) mi_217 0 [some (.inr (.inr (some (7, c)))), some (.inl a0), some (.inl a1), none, none, none] [] (mem E mu la) (qI E Q)
  refine Ev.steps 4 (ip' := 4) (ls' := [some (.inr (.inr (some (7, c)))), some (.inl a0), some (.inl a1), none, none, none]) (st' := [.inr (.inl (20 : Int64)), .inr (.inl (1 : Int64)), .inr (.inl a0.toInt64)]) (M' := mem E mu la) rfl ?_
  refine Ev.ci (J := mi_129) (as := [.inr (.inl a0.toInt64), .inr (.inl (1 : Int64)), .inr (.inl (20 : Int64))]) (rest := []) rfl rfl rfl (Nat.le_of_ble_eq_true rfl) h (fun x1 mu2 la3 h => ?_)
  refine Ev.br (c := x1 = 0) (s1 := (12, [some (.inr (.inr (some (7, c)))), some (.inl a0), some (.inl a1), none, none, none], [], mem E mu2 la3)) (s2 := (6, [some (.inr (.inr (some (7, c)))), some (.inl a0), some (.inl a1), none, none, none], [], mem E mu2 la3)) rfl rfl rfl rfl (fun hc => ?_) (fun hc => ?_)
  · have h := h.1 hc
    dsimp only
    refine Ev.steps 1 (ip' := 13) (ls' := [some (.inr (.inr (some (7, c)))), some (.inl a0), some (.inl a1), none, none, none]) (st' := [.inl (-1 : Int32)]) (M' := mem E mu2 la3) rfl ?_
    exact Ev.ret rfl rfl ⟨_, _, _, rfl, rfl, h⟩
  · have h := h.2 hc
    dsimp only
    refine Ev.steps 4 (ip' := 10) (ls' := [some (.inr (.inr (some (7, c)))), some (.inl a0), some (.inl a1), none, none, none]) (st' := [.inr (.inl (2147483646 : Int64)), .inr (.inl (1 : Int64)), .inr (.inl a1.toInt64)]) (M' := mem E mu2 la3) rfl ?_
    refine Ev.ci (J := mi_129) (as := [.inr (.inl a1.toInt64), .inr (.inl (1 : Int64)), .inr (.inl (2147483646 : Int64))]) (rest := []) rfl rfl rfl (Nat.le_of_ble_eq_true rfl) h (fun x4 mu5 la6 h => ?_)
    refine Ev.br (c := ¬ x4 = 0) (s1 := (14, [some (.inr (.inr (some (7, c)))), some (.inl a0), some (.inl a1), none, none, none], [], mem E mu5 la6)) (s2 := (12, [some (.inr (.inr (some (7, c)))), some (.inl a0), some (.inl a1), none, none, none], [], mem E mu5 la6)) rfl rfl rfl rfl (fun hc => ?_) (fun hc => ?_)
    · have h := h.1 hc
      dsimp only
      refine Ev.steps 2 (ip' := 16) (ls' := [some (.inr (.inr (some (7, c)))), some (.inl a0), some (.inl a1), none, none, none]) (st' := [.inl (mu5 7 c 4)]) (M' := mem E mu5 la6) rfl ?_
      refine Ev.br (c := ¬ (mu5 7 c 4) = 0) (s1 := (19, [some (.inr (.inr (some (7, c)))), some (.inl a0), some (.inl a1), none, none, none], [], mem E mu5 la6)) (s2 := (17, [some (.inr (.inr (some (7, c)))), some (.inl a0), some (.inl a1), none, none, none], [], mem E mu5 la6)) rfl rfl rfl rfl (fun hc => ?_) (fun hc => ?_)
      · have h := h.1 hc
        dsimp only
        refine Ev.steps 5 (ip' := 24) (ls' := [some (.inr (.inr (some (7, c)))), some (.inl a0), some (.inl a1), none, none, none]) (st' := [.inl (40 : Int32), .inl ((mu5 7 c 13) + a0)]) (M' := mem E mu5 la6) rfl ?_
        refine Ev.br (c := ((mu5 7 c 13) + a0) ≤ (40 : Int32)) (s1 := (27, [some (.inr (.inr (some (7, c)))), some (.inl a0), some (.inl a1), none, none, none], [], mem E mu5 la6)) (s2 := (25, [some (.inr (.inr (some (7, c)))), some (.inl a0), some (.inl a1), none, none, none], [], mem E mu5 la6)) rfl rfl rfl rfl (fun hc => ?_) (fun hc => ?_)
        · have h := h.1 hc
          dsimp only
          refine Ev.steps 5 (ip' := 32) (ls' := [some (.inr (.inr (some (7, c)))), some (.inl a0), some (.inl a1), some (.inr (.inl a1.toInt64)), none, some (.inl (0 : Int32))]) (st' := []) (M' := mem E mu5 la6) rfl ?_
          refine Ev.drop (ls := [some (.inr (.inr (some (7, c)))), some (.inl a0), none, some (.inr (.inl a1.toInt64)), none, some (.inl (0 : Int32))]) ⟨Or.inr rfl, Or.inr rfl, Or.inl rfl, Or.inr rfl, Or.inr rfl, Or.inr rfl, trivial⟩ ?_
          exact h
        · have h := h.2 hc
          dsimp only
          refine Ev.steps 1 (ip' := 26) (ls' := [some (.inr (.inr (some (7, c)))), some (.inl a0), some (.inl a1), none, none, none]) (st' := [.inl (-2 : Int32)]) (M' := mem E mu5 la6) rfl ?_
          exact Ev.ret rfl rfl ⟨_, _, _, rfl, rfl, h⟩
      · have h := h.2 hc
        dsimp only
        refine Ev.steps 1 (ip' := 18) (ls' := [some (.inr (.inr (some (7, c)))), some (.inl a0), some (.inl a1), none, none, none]) (st' := [.inl (-4 : Int32)]) (M' := mem E mu5 la6) rfl ?_
        exact Ev.ret rfl rfl ⟨_, _, _, rfl, rfl, h⟩
    · have h := h.2 hc
      dsimp only
      refine Ev.steps 1 (ip' := 13) (ls' := [some (.inr (.inr (some (7, c)))), some (.inl a0), some (.inl a1), none, none, none]) (st' := [.inl (-1 : Int32)]) (M' := mem E mu5 la6) rfl ?_
      exact Ev.ret rfl rfl ⟨_, _, _, rfl, rfl, h⟩
theorem vc_X7_lots_32 {E : mEv} {d : Nat}  (v0 : Nat) (v1 : Int32) (v3 : Int64) (v5 : Int32) {mu : fMu} {la : fLa} {Q : Int32 → fMu → fLa → Prop} (h : (v1 ≤ v5 → (FnI E d mi_163 [.inr (.inr (some (7, v0))), .inr (.inr (some (38, v0)))] mu la (fun x7 mu8 la9 => FnI E d mi_131 [.inl x7] mu8 la9 (fun x10 mu11 la12 => Q x10 mu11 la12)))) ∧ (¬ (v1 ≤ v5) → ((¬ (2147483647 : Int64) = 0) ∧ ((¬ ((mu 7 v0 4).toInt64) = 0) ∧ ((¬ (8 : Int64) = 0) ∧ ((¬ ((mu 7 v0 4).toInt64) = 0) ∧ (FnV E d mi_216 [.inr (.inr (some (7, v0))), .inl (((((48271 : Int64) * v3) - ((48271 : Int64) * v3) / (2147483647 : Int64) * (2147483647 : Int64)) - (((48271 : Int64) * v3) - ((48271 : Int64) * v3) / (2147483647 : Int64) * (2147483647 : Int64)) / ((mu 7 v0 4).toInt64) * ((mu 7 v0 4).toInt64)).toInt32), .inl ((((((48271 : Int64) * v3) - ((48271 : Int64) * v3) / (2147483647 : Int64) * (2147483647 : Int64)) / (8 : Int64)) - ((((48271 : Int64) * v3) - ((48271 : Int64) * v3) / (2147483647 : Int64) * (2147483647 : Int64)) / (8 : Int64)) / ((mu 7 v0 4).toInt64) * ((mu 7 v0 4).toInt64)).toInt32)] mu la (fun mu14 la15 => Ev E (d + 1) mi_217 32 [some (.inr (.inr (some (7, v0)))), some (.inl v1), none, some (.inr (.inl (((48271 : Int64) * v3) - ((48271 : Int64) * v3) / (2147483647 : Int64) * (2147483647 : Int64)))), none, some (.inl (v5 + (1 : Int32)))] [] (mem E mu14 la15) (qI E Q))))))))) : Ev E (d + 1) mi_217 32 [some (.inr (.inr (some (7, v0)))), some (.inl v1), none, some (.inr (.inl v3)), none, some (.inl v5)] [] (mem E mu la) (qI E Q) := by
  refine Ev.steps 2 (ip' := 34) (ls' := [some (.inr (.inr (some (7, v0)))), some (.inl v1), none, some (.inr (.inl v3)), none, some (.inl v5)]) (st' := [.inl v1, .inl v5]) (M' := mem E mu la) rfl ?_
  refine Ev.br (c := v1 ≤ v5) (s1 := (59, [some (.inr (.inr (some (7, v0)))), some (.inl v1), none, some (.inr (.inl v3)), none, some (.inl v5)], [], mem E mu la)) (s2 := (35, [some (.inr (.inr (some (7, v0)))), some (.inl v1), none, some (.inr (.inl v3)), none, some (.inl v5)], [], mem E mu la)) rfl rfl rfl rfl (fun hc => ?_) (fun hc => ?_)
  · have h := h.1 hc
    dsimp only
    refine Ev.steps 3 (ip' := 62) (ls' := [some (.inr (.inr (some (7, v0)))), some (.inl v1), none, some (.inr (.inl v3)), none, some (.inl v5)]) (st' := [.inr (.inr (some (38, v0))), .inr (.inr (some (7, v0)))]) (M' := mem E mu la) rfl ?_
    refine Ev.ci (J := mi_163) (as := [.inr (.inr (some (7, v0))), .inr (.inr (some (38, v0)))]) (rest := []) rfl rfl rfl (Nat.le_of_ble_eq_true rfl) h (fun x7 mu8 la9 h => ?_)
    refine Ev.ci (J := mi_131) (as := [.inl x7]) (rest := []) rfl rfl rfl (Nat.le_of_ble_eq_true rfl) h (fun x10 mu11 la12 h => ?_)
    exact Ev.ret rfl rfl ⟨_, _, _, rfl, rfl, h⟩
  · have h := h.2 hc
    dsimp only
    refine Ev.steps 4 (ip' := 39) (ls' := [some (.inr (.inr (some (7, v0)))), some (.inl v1), none, some (.inr (.inl v3)), none, some (.inl v5)]) (st' := [.inr (.inl (2147483647 : Int64)), .inr (.inl ((48271 : Int64) * v3))]) (M' := mem E mu la) rfl ?_
    refine Ev.want (c := (2147483647 : Int64) = 0) (s2 := (40, [some (.inr (.inr (some (7, v0)))), some (.inl v1), none, some (.inr (.inl v3)), none, some (.inl v5)], [.inr (.inl (((48271 : Int64) * v3) - ((48271 : Int64) * v3) / (2147483647 : Int64) * (2147483647 : Int64)))], mem E mu la)) rfl rfl rfl rfl h.1 ?_
    have h := h.2
    refine Ev.steps 6 (ip' := 46) (ls' := [some (.inr (.inr (some (7, v0)))), some (.inl v1), none, some (.inr (.inl (((48271 : Int64) * v3) - ((48271 : Int64) * v3) / (2147483647 : Int64) * (2147483647 : Int64)))), none, some (.inl v5)]) (st' := [.inr (.inl ((mu 7 v0 4).toInt64)), .inr (.inl (((48271 : Int64) * v3) - ((48271 : Int64) * v3) / (2147483647 : Int64) * (2147483647 : Int64))), .inr (.inr (some (7, v0)))]) (M' := mem E mu la) rfl ?_
    refine Ev.want (c := ((mu 7 v0 4).toInt64) = 0) (s2 := (47, [some (.inr (.inr (some (7, v0)))), some (.inl v1), none, some (.inr (.inl (((48271 : Int64) * v3) - ((48271 : Int64) * v3) / (2147483647 : Int64) * (2147483647 : Int64)))), none, some (.inl v5)], [.inr (.inl ((((48271 : Int64) * v3) - ((48271 : Int64) * v3) / (2147483647 : Int64) * (2147483647 : Int64)) - (((48271 : Int64) * v3) - ((48271 : Int64) * v3) / (2147483647 : Int64) * (2147483647 : Int64)) / ((mu 7 v0 4).toInt64) * ((mu 7 v0 4).toInt64))), .inr (.inr (some (7, v0)))], mem E mu la)) rfl rfl rfl rfl h.1 ?_
    have h := h.2
    refine Ev.steps 3 (ip' := 50) (ls' := [some (.inr (.inr (some (7, v0)))), some (.inl v1), none, some (.inr (.inl (((48271 : Int64) * v3) - ((48271 : Int64) * v3) / (2147483647 : Int64) * (2147483647 : Int64)))), none, some (.inl v5)]) (st' := [.inr (.inl (8 : Int64)), .inr (.inl (((48271 : Int64) * v3) - ((48271 : Int64) * v3) / (2147483647 : Int64) * (2147483647 : Int64))), .inl (((((48271 : Int64) * v3) - ((48271 : Int64) * v3) / (2147483647 : Int64) * (2147483647 : Int64)) - (((48271 : Int64) * v3) - ((48271 : Int64) * v3) / (2147483647 : Int64) * (2147483647 : Int64)) / ((mu 7 v0 4).toInt64) * ((mu 7 v0 4).toInt64)).toInt32), .inr (.inr (some (7, v0)))]) (M' := mem E mu la) rfl ?_
    refine Ev.want (c := (8 : Int64) = 0) (s2 := (51, [some (.inr (.inr (some (7, v0)))), some (.inl v1), none, some (.inr (.inl (((48271 : Int64) * v3) - ((48271 : Int64) * v3) / (2147483647 : Int64) * (2147483647 : Int64)))), none, some (.inl v5)], [.inr (.inl ((((48271 : Int64) * v3) - ((48271 : Int64) * v3) / (2147483647 : Int64) * (2147483647 : Int64)) / (8 : Int64))), .inl (((((48271 : Int64) * v3) - ((48271 : Int64) * v3) / (2147483647 : Int64) * (2147483647 : Int64)) - (((48271 : Int64) * v3) - ((48271 : Int64) * v3) / (2147483647 : Int64) * (2147483647 : Int64)) / ((mu 7 v0 4).toInt64) * ((mu 7 v0 4).toInt64)).toInt32), .inr (.inr (some (7, v0)))], mem E mu la)) rfl rfl rfl rfl h.1 ?_
    have h := h.2
    refine Ev.steps 3 (ip' := 54) (ls' := [some (.inr (.inr (some (7, v0)))), some (.inl v1), none, some (.inr (.inl (((48271 : Int64) * v3) - ((48271 : Int64) * v3) / (2147483647 : Int64) * (2147483647 : Int64)))), none, some (.inl v5)]) (st' := [.inr (.inl ((mu 7 v0 4).toInt64)), .inr (.inl ((((48271 : Int64) * v3) - ((48271 : Int64) * v3) / (2147483647 : Int64) * (2147483647 : Int64)) / (8 : Int64))), .inl (((((48271 : Int64) * v3) - ((48271 : Int64) * v3) / (2147483647 : Int64) * (2147483647 : Int64)) - (((48271 : Int64) * v3) - ((48271 : Int64) * v3) / (2147483647 : Int64) * (2147483647 : Int64)) / ((mu 7 v0 4).toInt64) * ((mu 7 v0 4).toInt64)).toInt32), .inr (.inr (some (7, v0)))]) (M' := mem E mu la) rfl ?_
    refine Ev.want (c := ((mu 7 v0 4).toInt64) = 0) (s2 := (55, [some (.inr (.inr (some (7, v0)))), some (.inl v1), none, some (.inr (.inl (((48271 : Int64) * v3) - ((48271 : Int64) * v3) / (2147483647 : Int64) * (2147483647 : Int64)))), none, some (.inl v5)], [.inr (.inl (((((48271 : Int64) * v3) - ((48271 : Int64) * v3) / (2147483647 : Int64) * (2147483647 : Int64)) / (8 : Int64)) - ((((48271 : Int64) * v3) - ((48271 : Int64) * v3) / (2147483647 : Int64) * (2147483647 : Int64)) / (8 : Int64)) / ((mu 7 v0 4).toInt64) * ((mu 7 v0 4).toInt64))), .inl (((((48271 : Int64) * v3) - ((48271 : Int64) * v3) / (2147483647 : Int64) * (2147483647 : Int64)) - (((48271 : Int64) * v3) - ((48271 : Int64) * v3) / (2147483647 : Int64) * (2147483647 : Int64)) / ((mu 7 v0 4).toInt64) * ((mu 7 v0 4).toInt64)).toInt32), .inr (.inr (some (7, v0)))], mem E mu la)) rfl rfl rfl rfl h.1 ?_
    have h := h.2
    refine Ev.steps 1 (ip' := 56) (ls' := [some (.inr (.inr (some (7, v0)))), some (.inl v1), none, some (.inr (.inl (((48271 : Int64) * v3) - ((48271 : Int64) * v3) / (2147483647 : Int64) * (2147483647 : Int64)))), none, some (.inl v5)]) (st' := [.inl ((((((48271 : Int64) * v3) - ((48271 : Int64) * v3) / (2147483647 : Int64) * (2147483647 : Int64)) / (8 : Int64)) - ((((48271 : Int64) * v3) - ((48271 : Int64) * v3) / (2147483647 : Int64) * (2147483647 : Int64)) / (8 : Int64)) / ((mu 7 v0 4).toInt64) * ((mu 7 v0 4).toInt64)).toInt32), .inl (((((48271 : Int64) * v3) - ((48271 : Int64) * v3) / (2147483647 : Int64) * (2147483647 : Int64)) - (((48271 : Int64) * v3) - ((48271 : Int64) * v3) / (2147483647 : Int64) * (2147483647 : Int64)) / ((mu 7 v0 4).toInt64) * ((mu 7 v0 4).toInt64)).toInt32), .inr (.inr (some (7, v0)))]) (M' := mem E mu la) rfl ?_
    refine Ev.cv (J := mi_216) (as := [.inr (.inr (some (7, v0))), .inl (((((48271 : Int64) * v3) - ((48271 : Int64) * v3) / (2147483647 : Int64) * (2147483647 : Int64)) - (((48271 : Int64) * v3) - ((48271 : Int64) * v3) / (2147483647 : Int64) * (2147483647 : Int64)) / ((mu 7 v0 4).toInt64) * ((mu 7 v0 4).toInt64)).toInt32), .inl ((((((48271 : Int64) * v3) - ((48271 : Int64) * v3) / (2147483647 : Int64) * (2147483647 : Int64)) / (8 : Int64)) - ((((48271 : Int64) * v3) - ((48271 : Int64) * v3) / (2147483647 : Int64) * (2147483647 : Int64)) / (8 : Int64)) / ((mu 7 v0 4).toInt64) * ((mu 7 v0 4).toInt64)).toInt32)]) (rest := []) rfl rfl rfl (Nat.le_of_ble_eq_true rfl) h (fun mu14 la15 h => ?_)
    refine Ev.steps 2 (ip' := 32) (ls' := [some (.inr (.inr (some (7, v0)))), some (.inl v1), none, some (.inr (.inl (((48271 : Int64) * v3) - ((48271 : Int64) * v3) / (2147483647 : Int64) * (2147483647 : Int64)))), none, some (.inl (v5 + (1 : Int32)))]) (st' := []) (M' := mem E mu14 la15) rfl ?_
    exact h
/-- AnnCupsModel.asked()I -/
theorem vc_X7_asked {E : mEv} {d : Nat} {c : Nat} {mu : fMu} {la : fLa} {Q : Int32 → fMu → fLa → Prop} (h : Q (mu 7 c 17) mu la) : FnI E d mi_218 [.inr (.inr (some (7, c)))] mu la Q := by
  unfold FnI
  show Ev E d mi_218 0 [some (.inr (.inr (some (7, c))))] [] (mem E mu la) (qI E Q)
  refine Ev.steps 2 (ip' := 2) (ls' := [some (.inr (.inr (some (7, c))))]) (st' := [.inl (mu 7 c 17)]) (M' := mem E mu la) rfl ?_
  exact Ev.ret rfl rfl ⟨_, _, _, rfl, rfl, h⟩
/-- AnnCupsModel.upper()J -/
theorem vc_X7_upper {E : mEv} {d : Nat} {c : Nat} {mu : fMu} {la : fLa} {Q : Int64 → fMu → fLa → Prop} (h : Q (la 7 c 18) mu la) : FnL E d mi_219 [.inr (.inr (some (7, c)))] mu la Q := by
  unfold FnL
  show Ev E d mi_219 0 [some (.inr (.inr (some (7, c))))] [] (mem E mu la) (qL E Q)
  refine Ev.steps 2 (ip' := 2) (ls' := [some (.inr (.inr (some (7, c))))]) (st' := [.inr (.inl (la 7 c 18))]) (M' := mem E mu la) rfl ?_
  exact Ev.ret rfl rfl ⟨_, _, _, rfl, rfl, h⟩
/-- AnnCupsModel.lower()J -/
theorem vc_X7_lower {E : mEv} {d : Nat} {c : Nat} {mu : fMu} {la : fLa} {Q : Int64 → fMu → fLa → Prop} (h : Q (la 7 c 19) mu la) : FnL E d mi_220 [.inr (.inr (some (7, c)))] mu la Q := by
  unfold FnL
  show Ev E d mi_220 0 [some (.inr (.inr (some (7, c))))] [] (mem E mu la) (qL E Q)
  refine Ev.steps 2 (ip' := 2) (ls' := [some (.inr (.inr (some (7, c))))]) (st' := [.inr (.inl (la 7 c 19))]) (M' := mem E mu la) rfl ?_
  exact Ev.ret rfl rfl ⟨_, _, _, rfl, rfl, h⟩
/-- AnnCupsModel.kindsOf(I)I -/
theorem vc_X7_kindsOf {E : mEv} {d : Nat} {c : Nat} (a0 : Int32) {mu : fMu} {la : fLa} {Q : Int32 → fMu → fLa → Prop} (h : Ev E (d + 1) mi_221 4 [some (.inr (.inr (some (7, c)))), some (.inl a0), some (.inl (0 : Int32)), some (.inl (0 : Int32))] [] (mem E mu la) (qI E Q)) : FnI E (d + 1) mi_221 [.inr (.inr (some (7, c))), .inl a0] mu la Q := by
  unfold FnI
  show Ev E (d + 1) mi_221 0 [some (.inr (.inr (some (7, c)))), some (.inl a0), none, none] [] (mem E mu la) (qI E Q)
  refine Ev.steps 4 (ip' := 4) (ls' := [some (.inr (.inr (some (7, c)))), some (.inl a0), some (.inl (0 : Int32)), some (.inl (0 : Int32))]) (st' := []) (M' := mem E mu la) rfl ?_
  exact h
theorem vc_X7_kindsOf_4 {E : mEv} {d : Nat}  (v0 : Nat) (v1 : Int32) (v2 : Int32) (v3 : Int32) {mu : fMu} {la : fLa} {Q : Int32 → fMu → fLa → Prop} (h : ((mu 7 v0 4) ≤ v3 → (Q v2 mu la)) ∧ (¬ ((mu 7 v0 4) ≤ v3) → (vp_in v3 6 ∧ (FnI E d mi_169 [.inl (mu 33 v0 v3.toNatClampNeg), .inl v1] mu la (fun x1 mu2 la3 => (x1 = 0 → (Ev E (d + 1) mi_221 4 [some (.inr (.inr (some (7, v0)))), some (.inl v1), some (.inl (v2 + (0 : Int32))), some (.inl (v3 + (1 : Int32)))] [] (mem E mu2 la3) (qI E Q))) ∧ (¬ (x1 = 0) → (Ev E (d + 1) mi_221 4 [some (.inr (.inr (some (7, v0)))), some (.inl v1), some (.inl (v2 + (1 : Int32))), some (.inl (v3 + (1 : Int32)))] [] (mem E mu2 la3) (qI E Q)))))))) : Ev E (d + 1) mi_221 4 [some (.inr (.inr (some (7, v0)))), some (.inl v1), some (.inl v2), some (.inl v3)] [] (mem E mu la) (qI E Q) := by
  refine Ev.steps 3 (ip' := 7) (ls' := [some (.inr (.inr (some (7, v0)))), some (.inl v1), some (.inl v2), some (.inl v3)]) (st' := [.inl (mu 7 v0 4), .inl v3]) (M' := mem E mu la) rfl ?_
  refine Ev.br (c := (mu 7 v0 4) ≤ v3) (s1 := (23, [some (.inr (.inr (some (7, v0)))), some (.inl v1), some (.inl v2), some (.inl v3)], [], mem E mu la)) (s2 := (8, [some (.inr (.inr (some (7, v0)))), some (.inl v1), some (.inl v2), some (.inl v3)], [], mem E mu la)) rfl rfl rfl rfl (fun hc => ?_) (fun hc => ?_)
  · have h := h.1 hc
    dsimp only
    refine Ev.steps 1 (ip' := 24) (ls' := [some (.inr (.inr (some (7, v0)))), some (.inl v1), some (.inl v2), some (.inl v3)]) (st' := [.inl v2]) (M' := mem E mu la) rfl ?_
    exact Ev.ret rfl rfl ⟨_, _, _, rfl, rfl, h⟩
  · have h := h.2 hc
    dsimp only
    refine Ev.steps 4 (ip' := 12) (ls' := [some (.inr (.inr (some (7, v0)))), some (.inl v1), some (.inl v2), some (.inl v3)]) (st' := [.inl v3, .inr (.inr (some (33, v0))), .inl v2]) (M' := mem E mu la) rfl ?_
    refine Ev.ial rfl rfl (by decide) h.1 ?_
    have h := h.2
    refine Ev.steps 1 (ip' := 14) (ls' := [some (.inr (.inr (some (7, v0)))), some (.inl v1), some (.inl v2), some (.inl v3)]) (st' := [.inl v1, .inl (mu 33 v0 v3.toNatClampNeg), .inl v2]) (M' := mem E mu la) rfl ?_
    refine Ev.ci (J := mi_169) (as := [.inl (mu 33 v0 v3.toNatClampNeg), .inl v1]) (rest := [.inl v2]) rfl rfl rfl (Nat.le_of_ble_eq_true rfl) h (fun x1 mu2 la3 h => ?_)
    refine Ev.br (c := x1 = 0) (s1 := (18, [some (.inr (.inr (some (7, v0)))), some (.inl v1), some (.inl v2), some (.inl v3)], [.inl v2], mem E mu2 la3)) (s2 := (16, [some (.inr (.inr (some (7, v0)))), some (.inl v1), some (.inl v2), some (.inl v3)], [.inl v2], mem E mu2 la3)) rfl rfl rfl rfl (fun hc => ?_) (fun hc => ?_)
    · have h := h.1 hc
      dsimp only
      refine Ev.steps 5 (ip' := 4) (ls' := [some (.inr (.inr (some (7, v0)))), some (.inl v1), some (.inl (v2 + (0 : Int32))), some (.inl (v3 + (1 : Int32)))]) (st' := []) (M' := mem E mu2 la3) rfl ?_
      exact h
    · have h := h.2 hc
      dsimp only
      refine Ev.steps 6 (ip' := 4) (ls' := [some (.inr (.inr (some (7, v0)))), some (.inl v1), some (.inl (v2 + (1 : Int32))), some (.inl (v3 + (1 : Int32)))]) (st' := []) (M' := mem E mu2 la3) rfl ?_
      exact h
/-- AnnCupsModel.counted(I)I -/
theorem vc_X7_counted {E : mEv} {d : Nat} {c : Nat} (a0 : Int32) {mu : fMu} {la : fLa} {Q : Int32 → fMu → fLa → Prop} (h : Ev E (d + 1) mi_222 4 [some (.inr (.inr (some (7, c)))), some (.inl a0), some (.inl (0 : Int32)), some (.inl (0 : Int32))] [] (mem E mu la) (qI E Q)) : FnI E (d + 1) mi_222 [.inr (.inr (some (7, c))), .inl a0] mu la Q := by
  unfold FnI
  show Ev E (d + 1) mi_222 0 [some (.inr (.inr (some (7, c)))), some (.inl a0), none, none] [] (mem E mu la) (qI E Q)
  refine Ev.steps 4 (ip' := 4) (ls' := [some (.inr (.inr (some (7, c)))), some (.inl a0), some (.inl (0 : Int32)), some (.inl (0 : Int32))]) (st' := []) (M' := mem E mu la) rfl ?_
  exact h
theorem vc_X7_counted_4 {E : mEv} {d : Nat}  (v0 : Nat) (v1 : Int32) (v2 : Int32) (v3 : Int32) {mu : fMu} {la : fLa} {Q : Int32 → fMu → fLa → Prop} (h : ((6 : Int32) ≤ v3 → (Ev E (d + 1) mi_222 25 [some (.inr (.inr (some (7, v0)))), some (.inl v1), some (.inl v2), some (.inl (0 : Int32))] [] (mem E mu la) (qI E Q))) ∧ (¬ ((6 : Int32) ≤ v3) → ((¬ v1 = (9 : Int32) → (Ev E (d + 1) mi_222 25 [some (.inr (.inr (some (7, v0)))), some (.inl v1), some (.inl v2), some (.inl (0 : Int32))] [] (mem E mu la) (qI E Q))) ∧ (¬ (¬ v1 = (9 : Int32)) → (vp_in v3 6 ∧ ((0 ≤ (mu 29 v0 v3.toNatClampNeg) → (Ev E (d + 1) mi_222 4 [some (.inr (.inr (some (7, v0)))), some (.inl v1), some (.inl (v2 + (1 : Int32))), some (.inl (v3 + (1 : Int32)))] [] (mem E mu la) (qI E Q))) ∧ (¬ (0 ≤ (mu 29 v0 v3.toNatClampNeg)) → (Ev E (d + 1) mi_222 4 [some (.inr (.inr (some (7, v0)))), some (.inl v1), some (.inl (v2 + (0 : Int32))), some (.inl (v3 + (1 : Int32)))] [] (mem E mu la) (qI E Q))))))))) : Ev E (d + 1) mi_222 4 [some (.inr (.inr (some (7, v0)))), some (.inl v1), some (.inl v2), some (.inl v3)] [] (mem E mu la) (qI E Q) := by
  refine Ev.steps 2 (ip' := 6) (ls' := [some (.inr (.inr (some (7, v0)))), some (.inl v1), some (.inl v2), some (.inl v3)]) (st' := [.inl (6 : Int32), .inl v3]) (M' := mem E mu la) rfl ?_
  refine Ev.br (c := (6 : Int32) ≤ v3) (s1 := (23, [some (.inr (.inr (some (7, v0)))), some (.inl v1), some (.inl v2), some (.inl v3)], [], mem E mu la)) (s2 := (7, [some (.inr (.inr (some (7, v0)))), some (.inl v1), some (.inl v2), some (.inl v3)], [], mem E mu la)) rfl rfl rfl rfl (fun hc => ?_) (fun hc => ?_)
  · have h := h.1 hc
    dsimp only
    refine Ev.steps 2 (ip' := 25) (ls' := [some (.inr (.inr (some (7, v0)))), some (.inl v1), some (.inl v2), some (.inl (0 : Int32))]) (st' := []) (M' := mem E mu la) rfl ?_
    exact h
  · have h := h.2 hc
    dsimp only
    refine Ev.steps 2 (ip' := 9) (ls' := [some (.inr (.inr (some (7, v0)))), some (.inl v1), some (.inl v2), some (.inl v3)]) (st' := [.inl (9 : Int32), .inl v1]) (M' := mem E mu la) rfl ?_
    refine Ev.br (c := ¬ v1 = (9 : Int32)) (s1 := (23, [some (.inr (.inr (some (7, v0)))), some (.inl v1), some (.inl v2), some (.inl v3)], [], mem E mu la)) (s2 := (10, [some (.inr (.inr (some (7, v0)))), some (.inl v1), some (.inl v2), some (.inl v3)], [], mem E mu la)) rfl rfl rfl rfl (fun hc => ?_) (fun hc => ?_)
    · have h := h.1 hc
      dsimp only
      refine Ev.steps 2 (ip' := 25) (ls' := [some (.inr (.inr (some (7, v0)))), some (.inl v1), some (.inl v2), some (.inl (0 : Int32))]) (st' := []) (M' := mem E mu la) rfl ?_
      exact h
    · have h := h.2 hc
      dsimp only
      refine Ev.steps 4 (ip' := 14) (ls' := [some (.inr (.inr (some (7, v0)))), some (.inl v1), some (.inl v2), some (.inl v3)]) (st' := [.inl v3, .inr (.inr (some (29, v0))), .inl v2]) (M' := mem E mu la) rfl ?_
      refine Ev.ial rfl rfl (by decide) h.1 ?_
      have h := h.2
      refine Ev.br (c := 0 ≤ (mu 29 v0 v3.toNatClampNeg)) (s1 := (18, [some (.inr (.inr (some (7, v0)))), some (.inl v1), some (.inl v2), some (.inl v3)], [.inl v2], mem E mu la)) (s2 := (16, [some (.inr (.inr (some (7, v0)))), some (.inl v1), some (.inl v2), some (.inl v3)], [.inl v2], mem E mu la)) rfl rfl rfl rfl (fun hc => ?_) (fun hc => ?_)
      · have h := h.1 hc
        dsimp only
        refine Ev.steps 5 (ip' := 4) (ls' := [some (.inr (.inr (some (7, v0)))), some (.inl v1), some (.inl (v2 + (1 : Int32))), some (.inl (v3 + (1 : Int32)))]) (st' := []) (M' := mem E mu la) rfl ?_
        exact h
      · have h := h.2 hc
        dsimp only
        refine Ev.steps 6 (ip' := 4) (ls' := [some (.inr (.inr (some (7, v0)))), some (.inl v1), some (.inl (v2 + (0 : Int32))), some (.inl (v3 + (1 : Int32)))]) (st' := []) (M' := mem E mu la) rfl ?_
        exact h
theorem vc_X7_counted_25 {E : mEv} {d : Nat}  (v0 : Nat) (v1 : Int32) (v2 : Int32) (v3 : Int32) {mu : fMu} {la : fLa} {Q : Int32 → fMu → fLa → Prop} (h : ((4 : Int32) ≤ v3 → (Ev E (d + 1) mi_222 46 [some (.inr (.inr (some (7, v0)))), some (.inl v1), some (.inl v2), some (.inl (0 : Int32))] [] (mem E mu la) (qI E Q))) ∧ (¬ ((4 : Int32) ≤ v3) → ((¬ v1 = (10 : Int32) → (Ev E (d + 1) mi_222 46 [some (.inr (.inr (some (7, v0)))), some (.inl v1), some (.inl v2), some (.inl (0 : Int32))] [] (mem E mu la) (qI E Q))) ∧ (¬ (¬ v1 = (10 : Int32)) → (vp_in v3 4 ∧ ((0 ≤ (mu 31 v0 v3.toNatClampNeg) → (Ev E (d + 1) mi_222 25 [some (.inr (.inr (some (7, v0)))), some (.inl v1), some (.inl (v2 + (1 : Int32))), some (.inl (v3 + (1 : Int32)))] [] (mem E mu la) (qI E Q))) ∧ (¬ (0 ≤ (mu 31 v0 v3.toNatClampNeg)) → (Ev E (d + 1) mi_222 25 [some (.inr (.inr (some (7, v0)))), some (.inl v1), some (.inl (v2 + (0 : Int32))), some (.inl (v3 + (1 : Int32)))] [] (mem E mu la) (qI E Q))))))))) : Ev E (d + 1) mi_222 25 [some (.inr (.inr (some (7, v0)))), some (.inl v1), some (.inl v2), some (.inl v3)] [] (mem E mu la) (qI E Q) := by
  refine Ev.steps 2 (ip' := 27) (ls' := [some (.inr (.inr (some (7, v0)))), some (.inl v1), some (.inl v2), some (.inl v3)]) (st' := [.inl (4 : Int32), .inl v3]) (M' := mem E mu la) rfl ?_
  refine Ev.br (c := (4 : Int32) ≤ v3) (s1 := (44, [some (.inr (.inr (some (7, v0)))), some (.inl v1), some (.inl v2), some (.inl v3)], [], mem E mu la)) (s2 := (28, [some (.inr (.inr (some (7, v0)))), some (.inl v1), some (.inl v2), some (.inl v3)], [], mem E mu la)) rfl rfl rfl rfl (fun hc => ?_) (fun hc => ?_)
  · have h := h.1 hc
    dsimp only
    refine Ev.steps 2 (ip' := 46) (ls' := [some (.inr (.inr (some (7, v0)))), some (.inl v1), some (.inl v2), some (.inl (0 : Int32))]) (st' := []) (M' := mem E mu la) rfl ?_
    exact h
  · have h := h.2 hc
    dsimp only
    refine Ev.steps 2 (ip' := 30) (ls' := [some (.inr (.inr (some (7, v0)))), some (.inl v1), some (.inl v2), some (.inl v3)]) (st' := [.inl (10 : Int32), .inl v1]) (M' := mem E mu la) rfl ?_
    refine Ev.br (c := ¬ v1 = (10 : Int32)) (s1 := (44, [some (.inr (.inr (some (7, v0)))), some (.inl v1), some (.inl v2), some (.inl v3)], [], mem E mu la)) (s2 := (31, [some (.inr (.inr (some (7, v0)))), some (.inl v1), some (.inl v2), some (.inl v3)], [], mem E mu la)) rfl rfl rfl rfl (fun hc => ?_) (fun hc => ?_)
    · have h := h.1 hc
      dsimp only
      refine Ev.steps 2 (ip' := 46) (ls' := [some (.inr (.inr (some (7, v0)))), some (.inl v1), some (.inl v2), some (.inl (0 : Int32))]) (st' := []) (M' := mem E mu la) rfl ?_
      exact h
    · have h := h.2 hc
      dsimp only
      refine Ev.steps 4 (ip' := 35) (ls' := [some (.inr (.inr (some (7, v0)))), some (.inl v1), some (.inl v2), some (.inl v3)]) (st' := [.inl v3, .inr (.inr (some (31, v0))), .inl v2]) (M' := mem E mu la) rfl ?_
      refine Ev.ial rfl rfl (by decide) h.1 ?_
      have h := h.2
      refine Ev.br (c := 0 ≤ (mu 31 v0 v3.toNatClampNeg)) (s1 := (39, [some (.inr (.inr (some (7, v0)))), some (.inl v1), some (.inl v2), some (.inl v3)], [.inl v2], mem E mu la)) (s2 := (37, [some (.inr (.inr (some (7, v0)))), some (.inl v1), some (.inl v2), some (.inl v3)], [.inl v2], mem E mu la)) rfl rfl rfl rfl (fun hc => ?_) (fun hc => ?_)
      · have h := h.1 hc
        dsimp only
        refine Ev.steps 5 (ip' := 25) (ls' := [some (.inr (.inr (some (7, v0)))), some (.inl v1), some (.inl (v2 + (1 : Int32))), some (.inl (v3 + (1 : Int32)))]) (st' := []) (M' := mem E mu la) rfl ?_
        exact h
      · have h := h.2 hc
        dsimp only
        refine Ev.steps 6 (ip' := 25) (ls' := [some (.inr (.inr (some (7, v0)))), some (.inl v1), some (.inl (v2 + (0 : Int32))), some (.inl (v3 + (1 : Int32)))]) (st' := []) (M' := mem E mu la) rfl ?_
        exact h
theorem vc_X7_counted_46 {E : mEv} {d : Nat}  (v0 : Nat) (v1 : Int32) (v2 : Int32) (v3 : Int32) {mu : fMu} {la : fLa} {Q : Int32 → fMu → fLa → Prop} (h : ((3 : Int32) ≤ v3 → ((v1 = 0 → (Q (mu 7 v0 4) mu la)) ∧ (¬ v1 = 0 → ((v1 = 1 → (vp_in (6 : Int32) 9 ∧ (Q (mu 38 v0 (6 : Int32).toNatClampNeg) mu la))) ∧ (¬ v1 = 1 → ((v1 = 2 → (Q (mu 7 v0 13) mu la)) ∧ (¬ v1 = 2 → ((v1 = 3 → (FnI E d mi_165 [.inr (.inr (some (7, v0))), .inr (.inr (some (38, v0)))] mu la (fun x1 mu2 la3 => Q x1 mu2 la3))) ∧ (¬ v1 = 3 → ((v1 = 4 → (FnI E d mi_166 [.inr (.inr (some (7, v0)))] mu la (fun x4 mu5 la6 => Q x4 mu5 la6))) ∧ (¬ v1 = 4 → ((v1 = 5 → (Q (mu 7 v0 5) mu la)) ∧ (¬ v1 = 5 → ((v1 = 6 → (FnI E d mi_221 [.inr (.inr (some (7, v0))), .inl (1 : Int32)] mu la (fun x7 mu8 la9 => Q x7 mu8 la9))) ∧ (¬ v1 = 6 → ((v1 = 7 → (FnI E d mi_221 [.inr (.inr (some (7, v0))), .inl (2 : Int32)] mu la (fun x10 mu11 la12 => Q x10 mu11 la12))) ∧ (¬ v1 = 7 → ((v1 = 8 → (vp_in (7 : Int32) 9 ∧ (Q (mu 38 v0 (7 : Int32).toNatClampNeg) mu la))) ∧ (¬ v1 = 8 → (Q v2 mu la)))))))))))))))))))) ∧ (¬ ((3 : Int32) ≤ v3) → ((¬ v1 = (11 : Int32) → ((v1 = 0 → (Q (mu 7 v0 4) mu la)) ∧ (¬ v1 = 0 → ((v1 = 1 → (vp_in (6 : Int32) 9 ∧ (Q (mu 38 v0 (6 : Int32).toNatClampNeg) mu la))) ∧ (¬ v1 = 1 → ((v1 = 2 → (Q (mu 7 v0 13) mu la)) ∧ (¬ v1 = 2 → ((v1 = 3 → (FnI E d mi_165 [.inr (.inr (some (7, v0))), .inr (.inr (some (38, v0)))] mu la (fun x13 mu14 la15 => Q x13 mu14 la15))) ∧ (¬ v1 = 3 → ((v1 = 4 → (FnI E d mi_166 [.inr (.inr (some (7, v0)))] mu la (fun x16 mu17 la18 => Q x16 mu17 la18))) ∧ (¬ v1 = 4 → ((v1 = 5 → (Q (mu 7 v0 5) mu la)) ∧ (¬ v1 = 5 → ((v1 = 6 → (FnI E d mi_221 [.inr (.inr (some (7, v0))), .inl (1 : Int32)] mu la (fun x19 mu20 la21 => Q x19 mu20 la21))) ∧ (¬ v1 = 6 → ((v1 = 7 → (FnI E d mi_221 [.inr (.inr (some (7, v0))), .inl (2 : Int32)] mu la (fun x22 mu23 la24 => Q x22 mu23 la24))) ∧ (¬ v1 = 7 → ((v1 = 8 → (vp_in (7 : Int32) 9 ∧ (Q (mu 38 v0 (7 : Int32).toNatClampNeg) mu la))) ∧ (¬ v1 = 8 → (Q v2 mu la)))))))))))))))))))) ∧ (¬ (¬ v1 = (11 : Int32)) → (vp_in v3 3 ∧ (((mu 42 v0 v3.toNatClampNeg) = 0 → (Ev E (d + 1) mi_222 46 [some (.inr (.inr (some (7, v0)))), some (.inl v1), some (.inl (v2 + (0 : Int32))), some (.inl (v3 + (1 : Int32)))] [] (mem E mu la) (qI E Q))) ∧ (¬ ((mu 42 v0 v3.toNatClampNeg) = 0) → (Ev E (d + 1) mi_222 46 [some (.inr (.inr (some (7, v0)))), some (.inl v1), some (.inl (v2 + (1 : Int32))), some (.inl (v3 + (1 : Int32)))] [] (mem E mu la) (qI E Q))))))))) : Ev E (d + 1) mi_222 46 [some (.inr (.inr (some (7, v0)))), some (.inl v1), some (.inl v2), some (.inl v3)] [] (mem E mu la) (qI E Q) := by
  refine Ev.steps 2 (ip' := 48) (ls' := [some (.inr (.inr (some (7, v0)))), some (.inl v1), some (.inl v2), some (.inl v3)]) (st' := [.inl (3 : Int32), .inl v3]) (M' := mem E mu la) rfl ?_
  refine Ev.br (c := (3 : Int32) ≤ v3) (s1 := (65, [some (.inr (.inr (some (7, v0)))), some (.inl v1), some (.inl v2), some (.inl v3)], [], mem E mu la)) (s2 := (49, [some (.inr (.inr (some (7, v0)))), some (.inl v1), some (.inl v2), some (.inl v3)], [], mem E mu la)) rfl rfl rfl rfl (fun hc => ?_) (fun hc => ?_)
  · have h := h.1 hc
    dsimp only
    refine Ev.steps 1 (ip' := 66) (ls' := [some (.inr (.inr (some (7, v0)))), some (.inl v1), some (.inl v2), some (.inl v3)]) (st' := [.inl v1]) (M' := mem E mu la) rfl ?_
    by_cases hc0 : v1 = 0
    · refine Ev.one (s' := (67, [some (.inr (.inr (some (7, v0)))), some (.inl v1), some (.inl v2), some (.inl v3)], [], mem E mu la)) rfl rfl rfl (by rw [hc0]; rfl) ?_
      have h := h.1 hc0
      dsimp only
      refine Ev.steps 2 (ip' := 69) (ls' := [some (.inr (.inr (some (7, v0)))), some (.inl v1), some (.inl v2), some (.inl v3)]) (st' := [.inl (mu 7 v0 4)]) (M' := mem E mu la) rfl ?_
      exact Ev.ret rfl rfl ⟨_, _, _, rfl, rfl, h⟩
    · have h := h.2 hc0
      by_cases hc1 : v1 = 1
      · refine Ev.one (s' := (70, [some (.inr (.inr (some (7, v0)))), some (.inl v1), some (.inl v2), some (.inl v3)], [], mem E mu la)) rfl rfl rfl (by rw [hc1]; rfl) ?_
        have h := h.1 hc1
        dsimp only
        refine Ev.steps 3 (ip' := 73) (ls' := [some (.inr (.inr (some (7, v0)))), some (.inl v1), some (.inl v2), some (.inl v3)]) (st' := [.inl (6 : Int32), .inr (.inr (some (38, v0)))]) (M' := mem E mu la) rfl ?_
        refine Ev.ial rfl rfl (by decide) h.1 ?_
        have h := h.2
        exact Ev.ret rfl rfl ⟨_, _, _, rfl, rfl, h⟩
      · have h := h.2 hc1
        by_cases hc2 : v1 = 2
        · refine Ev.one (s' := (75, [some (.inr (.inr (some (7, v0)))), some (.inl v1), some (.inl v2), some (.inl v3)], [], mem E mu la)) rfl rfl rfl (by rw [hc2]; rfl) ?_
          have h := h.1 hc2
          dsimp only
          refine Ev.steps 2 (ip' := 77) (ls' := [some (.inr (.inr (some (7, v0)))), some (.inl v1), some (.inl v2), some (.inl v3)]) (st' := [.inl (mu 7 v0 13)]) (M' := mem E mu la) rfl ?_
          exact Ev.ret rfl rfl ⟨_, _, _, rfl, rfl, h⟩
        · have h := h.2 hc2
          by_cases hc3 : v1 = 3
          · refine Ev.one (s' := (78, [some (.inr (.inr (some (7, v0)))), some (.inl v1), some (.inl v2), some (.inl v3)], [], mem E mu la)) rfl rfl rfl (by rw [hc3]; rfl) ?_
            have h := h.1 hc3
            dsimp only
            refine Ev.steps 3 (ip' := 81) (ls' := [some (.inr (.inr (some (7, v0)))), some (.inl v1), some (.inl v2), some (.inl v3)]) (st' := [.inr (.inr (some (38, v0))), .inr (.inr (some (7, v0)))]) (M' := mem E mu la) rfl ?_
            refine Ev.ci (J := mi_165) (as := [.inr (.inr (some (7, v0))), .inr (.inr (some (38, v0)))]) (rest := []) rfl rfl rfl (Nat.le_of_ble_eq_true rfl) h (fun x1 mu2 la3 h => ?_)
            exact Ev.ret rfl rfl ⟨_, _, _, rfl, rfl, h⟩
          · have h := h.2 hc3
            by_cases hc4 : v1 = 4
            · refine Ev.one (s' := (83, [some (.inr (.inr (some (7, v0)))), some (.inl v1), some (.inl v2), some (.inl v3)], [], mem E mu la)) rfl rfl rfl (by rw [hc4]; rfl) ?_
              have h := h.1 hc4
              dsimp only
              refine Ev.steps 1 (ip' := 84) (ls' := [some (.inr (.inr (some (7, v0)))), some (.inl v1), some (.inl v2), some (.inl v3)]) (st' := [.inr (.inr (some (7, v0)))]) (M' := mem E mu la) rfl ?_
              refine Ev.ci (J := mi_166) (as := [.inr (.inr (some (7, v0)))]) (rest := []) rfl rfl rfl (Nat.le_of_ble_eq_true rfl) h (fun x4 mu5 la6 h => ?_)
              exact Ev.ret rfl rfl ⟨_, _, _, rfl, rfl, h⟩
            · have h := h.2 hc4
              by_cases hc5 : v1 = 5
              · refine Ev.one (s' := (86, [some (.inr (.inr (some (7, v0)))), some (.inl v1), some (.inl v2), some (.inl v3)], [], mem E mu la)) rfl rfl rfl (by rw [hc5]; rfl) ?_
                have h := h.1 hc5
                dsimp only
                refine Ev.steps 2 (ip' := 88) (ls' := [some (.inr (.inr (some (7, v0)))), some (.inl v1), some (.inl v2), some (.inl v3)]) (st' := [.inl (mu 7 v0 5)]) (M' := mem E mu la) rfl ?_
                exact Ev.ret rfl rfl ⟨_, _, _, rfl, rfl, h⟩
              · have h := h.2 hc5
                by_cases hc6 : v1 = 6
                · refine Ev.one (s' := (89, [some (.inr (.inr (some (7, v0)))), some (.inl v1), some (.inl v2), some (.inl v3)], [], mem E mu la)) rfl rfl rfl (by rw [hc6]; rfl) ?_
                  have h := h.1 hc6
                  dsimp only
                  refine Ev.steps 2 (ip' := 91) (ls' := [some (.inr (.inr (some (7, v0)))), some (.inl v1), some (.inl v2), some (.inl v3)]) (st' := [.inl (1 : Int32), .inr (.inr (some (7, v0)))]) (M' := mem E mu la) rfl ?_
                  refine Ev.ci (J := mi_221) (as := [.inr (.inr (some (7, v0))), .inl (1 : Int32)]) (rest := []) rfl rfl rfl (Nat.le_of_ble_eq_true rfl) h (fun x7 mu8 la9 h => ?_)
                  exact Ev.ret rfl rfl ⟨_, _, _, rfl, rfl, h⟩
                · have h := h.2 hc6
                  by_cases hc7 : v1 = 7
                  · refine Ev.one (s' := (93, [some (.inr (.inr (some (7, v0)))), some (.inl v1), some (.inl v2), some (.inl v3)], [], mem E mu la)) rfl rfl rfl (by rw [hc7]; rfl) ?_
                    have h := h.1 hc7
                    dsimp only
                    refine Ev.steps 2 (ip' := 95) (ls' := [some (.inr (.inr (some (7, v0)))), some (.inl v1), some (.inl v2), some (.inl v3)]) (st' := [.inl (2 : Int32), .inr (.inr (some (7, v0)))]) (M' := mem E mu la) rfl ?_
                    refine Ev.ci (J := mi_221) (as := [.inr (.inr (some (7, v0))), .inl (2 : Int32)]) (rest := []) rfl rfl rfl (Nat.le_of_ble_eq_true rfl) h (fun x10 mu11 la12 h => ?_)
                    exact Ev.ret rfl rfl ⟨_, _, _, rfl, rfl, h⟩
                  · have h := h.2 hc7
                    by_cases hc8 : v1 = 8
                    · refine Ev.one (s' := (97, [some (.inr (.inr (some (7, v0)))), some (.inl v1), some (.inl v2), some (.inl v3)], [], mem E mu la)) rfl rfl rfl (by rw [hc8]; rfl) ?_
                      have h := h.1 hc8
                      dsimp only
                      refine Ev.steps 3 (ip' := 100) (ls' := [some (.inr (.inr (some (7, v0)))), some (.inl v1), some (.inl v2), some (.inl v3)]) (st' := [.inl (7 : Int32), .inr (.inr (some (38, v0)))]) (M' := mem E mu la) rfl ?_
                      refine Ev.ial rfl rfl (by decide) h.1 ?_
                      have h := h.2
                      exact Ev.ret rfl rfl ⟨_, _, _, rfl, rfl, h⟩
                    · have h := h.2 hc8
                      refine Ev.one (s' := (102, [some (.inr (.inr (some (7, v0)))), some (.inl v1), some (.inl v2), some (.inl v3)], [], mem E mu la)) rfl rfl rfl (if_pos (tsw_out v1 0 8 (fun z h1 h2 => by
                        rcases (show z = 0 ∨ z = 1 ∨ z = 2 ∨ z = 3 ∨ z = 4 ∨ z = 5 ∨ z = 6 ∨ z = 7 ∨ z = 8 by omega) with rfl | rfl | rfl | rfl | rfl | rfl | rfl | rfl | rfl
                        · exact fun e => hc0 (Int32.toInt_inj.mp e)
                        · exact fun e => hc1 (Int32.toInt_inj.mp e)
                        · exact fun e => hc2 (Int32.toInt_inj.mp e)
                        · exact fun e => hc3 (Int32.toInt_inj.mp e)
                        · exact fun e => hc4 (Int32.toInt_inj.mp e)
                        · exact fun e => hc5 (Int32.toInt_inj.mp e)
                        · exact fun e => hc6 (Int32.toInt_inj.mp e)
                        · exact fun e => hc7 (Int32.toInt_inj.mp e)
                        · exact fun e => hc8 (Int32.toInt_inj.mp e)))) ?_
                      dsimp only
                      refine Ev.steps 1 (ip' := 103) (ls' := [some (.inr (.inr (some (7, v0)))), some (.inl v1), some (.inl v2), some (.inl v3)]) (st' := [.inl v2]) (M' := mem E mu la) rfl ?_
                      exact Ev.ret rfl rfl ⟨_, _, _, rfl, rfl, h⟩
  · have h := h.2 hc
    dsimp only
    refine Ev.steps 2 (ip' := 51) (ls' := [some (.inr (.inr (some (7, v0)))), some (.inl v1), some (.inl v2), some (.inl v3)]) (st' := [.inl (11 : Int32), .inl v1]) (M' := mem E mu la) rfl ?_
    refine Ev.br (c := ¬ v1 = (11 : Int32)) (s1 := (65, [some (.inr (.inr (some (7, v0)))), some (.inl v1), some (.inl v2), some (.inl v3)], [], mem E mu la)) (s2 := (52, [some (.inr (.inr (some (7, v0)))), some (.inl v1), some (.inl v2), some (.inl v3)], [], mem E mu la)) rfl rfl rfl rfl (fun hc => ?_) (fun hc => ?_)
    · have h := h.1 hc
      dsimp only
      refine Ev.steps 1 (ip' := 66) (ls' := [some (.inr (.inr (some (7, v0)))), some (.inl v1), some (.inl v2), some (.inl v3)]) (st' := [.inl v1]) (M' := mem E mu la) rfl ?_
      by_cases hc0 : v1 = 0
      · refine Ev.one (s' := (67, [some (.inr (.inr (some (7, v0)))), some (.inl v1), some (.inl v2), some (.inl v3)], [], mem E mu la)) rfl rfl rfl (by rw [hc0]; rfl) ?_
        have h := h.1 hc0
        dsimp only
        refine Ev.steps 2 (ip' := 69) (ls' := [some (.inr (.inr (some (7, v0)))), some (.inl v1), some (.inl v2), some (.inl v3)]) (st' := [.inl (mu 7 v0 4)]) (M' := mem E mu la) rfl ?_
        exact Ev.ret rfl rfl ⟨_, _, _, rfl, rfl, h⟩
      · have h := h.2 hc0
        by_cases hc1 : v1 = 1
        · refine Ev.one (s' := (70, [some (.inr (.inr (some (7, v0)))), some (.inl v1), some (.inl v2), some (.inl v3)], [], mem E mu la)) rfl rfl rfl (by rw [hc1]; rfl) ?_
          have h := h.1 hc1
          dsimp only
          refine Ev.steps 3 (ip' := 73) (ls' := [some (.inr (.inr (some (7, v0)))), some (.inl v1), some (.inl v2), some (.inl v3)]) (st' := [.inl (6 : Int32), .inr (.inr (some (38, v0)))]) (M' := mem E mu la) rfl ?_
          refine Ev.ial rfl rfl (by decide) h.1 ?_
          have h := h.2
          exact Ev.ret rfl rfl ⟨_, _, _, rfl, rfl, h⟩
        · have h := h.2 hc1
          by_cases hc2 : v1 = 2
          · refine Ev.one (s' := (75, [some (.inr (.inr (some (7, v0)))), some (.inl v1), some (.inl v2), some (.inl v3)], [], mem E mu la)) rfl rfl rfl (by rw [hc2]; rfl) ?_
            have h := h.1 hc2
            dsimp only
            refine Ev.steps 2 (ip' := 77) (ls' := [some (.inr (.inr (some (7, v0)))), some (.inl v1), some (.inl v2), some (.inl v3)]) (st' := [.inl (mu 7 v0 13)]) (M' := mem E mu la) rfl ?_
            exact Ev.ret rfl rfl ⟨_, _, _, rfl, rfl, h⟩
          · have h := h.2 hc2
            by_cases hc3 : v1 = 3
            · refine Ev.one (s' := (78, [some (.inr (.inr (some (7, v0)))), some (.inl v1), some (.inl v2), some (.inl v3)], [], mem E mu la)) rfl rfl rfl (by rw [hc3]; rfl) ?_
              have h := h.1 hc3
              dsimp only
              refine Ev.steps 3 (ip' := 81) (ls' := [some (.inr (.inr (some (7, v0)))), some (.inl v1), some (.inl v2), some (.inl v3)]) (st' := [.inr (.inr (some (38, v0))), .inr (.inr (some (7, v0)))]) (M' := mem E mu la) rfl ?_
              refine Ev.ci (J := mi_165) (as := [.inr (.inr (some (7, v0))), .inr (.inr (some (38, v0)))]) (rest := []) rfl rfl rfl (Nat.le_of_ble_eq_true rfl) h (fun x13 mu14 la15 h => ?_)
              exact Ev.ret rfl rfl ⟨_, _, _, rfl, rfl, h⟩
            · have h := h.2 hc3
              by_cases hc4 : v1 = 4
              · refine Ev.one (s' := (83, [some (.inr (.inr (some (7, v0)))), some (.inl v1), some (.inl v2), some (.inl v3)], [], mem E mu la)) rfl rfl rfl (by rw [hc4]; rfl) ?_
                have h := h.1 hc4
                dsimp only
                refine Ev.steps 1 (ip' := 84) (ls' := [some (.inr (.inr (some (7, v0)))), some (.inl v1), some (.inl v2), some (.inl v3)]) (st' := [.inr (.inr (some (7, v0)))]) (M' := mem E mu la) rfl ?_
                refine Ev.ci (J := mi_166) (as := [.inr (.inr (some (7, v0)))]) (rest := []) rfl rfl rfl (Nat.le_of_ble_eq_true rfl) h (fun x16 mu17 la18 h => ?_)
                exact Ev.ret rfl rfl ⟨_, _, _, rfl, rfl, h⟩
              · have h := h.2 hc4
                by_cases hc5 : v1 = 5
                · refine Ev.one (s' := (86, [some (.inr (.inr (some (7, v0)))), some (.inl v1), some (.inl v2), some (.inl v3)], [], mem E mu la)) rfl rfl rfl (by rw [hc5]; rfl) ?_
                  have h := h.1 hc5
                  dsimp only
                  refine Ev.steps 2 (ip' := 88) (ls' := [some (.inr (.inr (some (7, v0)))), some (.inl v1), some (.inl v2), some (.inl v3)]) (st' := [.inl (mu 7 v0 5)]) (M' := mem E mu la) rfl ?_
                  exact Ev.ret rfl rfl ⟨_, _, _, rfl, rfl, h⟩
                · have h := h.2 hc5
                  by_cases hc6 : v1 = 6
                  · refine Ev.one (s' := (89, [some (.inr (.inr (some (7, v0)))), some (.inl v1), some (.inl v2), some (.inl v3)], [], mem E mu la)) rfl rfl rfl (by rw [hc6]; rfl) ?_
                    have h := h.1 hc6
                    dsimp only
                    refine Ev.steps 2 (ip' := 91) (ls' := [some (.inr (.inr (some (7, v0)))), some (.inl v1), some (.inl v2), some (.inl v3)]) (st' := [.inl (1 : Int32), .inr (.inr (some (7, v0)))]) (M' := mem E mu la) rfl ?_
                    refine Ev.ci (J := mi_221) (as := [.inr (.inr (some (7, v0))), .inl (1 : Int32)]) (rest := []) rfl rfl rfl (Nat.le_of_ble_eq_true rfl) h (fun x19 mu20 la21 h => ?_)
                    exact Ev.ret rfl rfl ⟨_, _, _, rfl, rfl, h⟩
                  · have h := h.2 hc6
                    by_cases hc7 : v1 = 7
                    · refine Ev.one (s' := (93, [some (.inr (.inr (some (7, v0)))), some (.inl v1), some (.inl v2), some (.inl v3)], [], mem E mu la)) rfl rfl rfl (by rw [hc7]; rfl) ?_
                      have h := h.1 hc7
                      dsimp only
                      refine Ev.steps 2 (ip' := 95) (ls' := [some (.inr (.inr (some (7, v0)))), some (.inl v1), some (.inl v2), some (.inl v3)]) (st' := [.inl (2 : Int32), .inr (.inr (some (7, v0)))]) (M' := mem E mu la) rfl ?_
                      refine Ev.ci (J := mi_221) (as := [.inr (.inr (some (7, v0))), .inl (2 : Int32)]) (rest := []) rfl rfl rfl (Nat.le_of_ble_eq_true rfl) h (fun x22 mu23 la24 h => ?_)
                      exact Ev.ret rfl rfl ⟨_, _, _, rfl, rfl, h⟩
                    · have h := h.2 hc7
                      by_cases hc8 : v1 = 8
                      · refine Ev.one (s' := (97, [some (.inr (.inr (some (7, v0)))), some (.inl v1), some (.inl v2), some (.inl v3)], [], mem E mu la)) rfl rfl rfl (by rw [hc8]; rfl) ?_
                        have h := h.1 hc8
                        dsimp only
                        refine Ev.steps 3 (ip' := 100) (ls' := [some (.inr (.inr (some (7, v0)))), some (.inl v1), some (.inl v2), some (.inl v3)]) (st' := [.inl (7 : Int32), .inr (.inr (some (38, v0)))]) (M' := mem E mu la) rfl ?_
                        refine Ev.ial rfl rfl (by decide) h.1 ?_
                        have h := h.2
                        exact Ev.ret rfl rfl ⟨_, _, _, rfl, rfl, h⟩
                      · have h := h.2 hc8
                        refine Ev.one (s' := (102, [some (.inr (.inr (some (7, v0)))), some (.inl v1), some (.inl v2), some (.inl v3)], [], mem E mu la)) rfl rfl rfl (if_pos (tsw_out v1 0 8 (fun z h1 h2 => by
                          rcases (show z = 0 ∨ z = 1 ∨ z = 2 ∨ z = 3 ∨ z = 4 ∨ z = 5 ∨ z = 6 ∨ z = 7 ∨ z = 8 by omega) with rfl | rfl | rfl | rfl | rfl | rfl | rfl | rfl | rfl
                          · exact fun e => hc0 (Int32.toInt_inj.mp e)
                          · exact fun e => hc1 (Int32.toInt_inj.mp e)
                          · exact fun e => hc2 (Int32.toInt_inj.mp e)
                          · exact fun e => hc3 (Int32.toInt_inj.mp e)
                          · exact fun e => hc4 (Int32.toInt_inj.mp e)
                          · exact fun e => hc5 (Int32.toInt_inj.mp e)
                          · exact fun e => hc6 (Int32.toInt_inj.mp e)
                          · exact fun e => hc7 (Int32.toInt_inj.mp e)
                          · exact fun e => hc8 (Int32.toInt_inj.mp e)))) ?_
                        dsimp only
                        refine Ev.steps 1 (ip' := 103) (ls' := [some (.inr (.inr (some (7, v0)))), some (.inl v1), some (.inl v2), some (.inl v3)]) (st' := [.inl v2]) (M' := mem E mu la) rfl ?_
                        exact Ev.ret rfl rfl ⟨_, _, _, rfl, rfl, h⟩
    · have h := h.2 hc
      dsimp only
      refine Ev.steps 4 (ip' := 56) (ls' := [some (.inr (.inr (some (7, v0)))), some (.inl v1), some (.inl v2), some (.inl v3)]) (st' := [.inl v3, .inr (.inr (some (42, v0))), .inl v2]) (M' := mem E mu la) rfl ?_
      refine Ev.bal rfl (Or.inr rfl) h.1 ?_
      have h := h.2
      refine Ev.br (c := (mu 42 v0 v3.toNatClampNeg) = 0) (s1 := (60, [some (.inr (.inr (some (7, v0)))), some (.inl v1), some (.inl v2), some (.inl v3)], [.inl v2], mem E mu la)) (s2 := (58, [some (.inr (.inr (some (7, v0)))), some (.inl v1), some (.inl v2), some (.inl v3)], [.inl v2], mem E mu la)) rfl rfl rfl rfl (fun hc => ?_) (fun hc => ?_)
      · have h := h.1 hc
        dsimp only
        refine Ev.steps 5 (ip' := 46) (ls' := [some (.inr (.inr (some (7, v0)))), some (.inl v1), some (.inl (v2 + (0 : Int32))), some (.inl (v3 + (1 : Int32)))]) (st' := []) (M' := mem E mu la) rfl ?_
        exact h
      · have h := h.2 hc
        dsimp only
        refine Ev.steps 6 (ip' := 46) (ls' := [some (.inr (.inr (some (7, v0)))), some (.inl v1), some (.inl (v2 + (1 : Int32))), some (.inl (v3 + (1 : Int32)))]) (st' := []) (M' := mem E mu la) rfl ?_
        exact h
/-- AnnCupsModel.count(I)I -/
theorem vc_X7_count {E : mEv} {d : Nat} {c : Nat} (a0 : Int32) {mu : fMu} {la : fLa} {Q : Int32 → fMu → fLa → Prop} (h : FnI E d mi_129 [.inr (.inl a0.toInt64), .inr (.inl (0 : Int64)), .inr (.inl (11 : Int64))] mu la (fun x1 mu2 la3 => (x1 = 0 → (Q (-1 : Int32) mu2 la3)) ∧ (¬ (x1 = 0) → (FnI E d mi_222 [.inr (.inr (some (7, c))), .inl a0] mu2 la3 (fun x4 mu5 la6 => Q x4 mu5 la6))))) : FnI E (d + 1) mi_223 [.inr (.inr (some (7, c))), .inl a0] mu la Q := by
  unfold FnI
  show Ev E (d + 1) mi_223 0 [some (.inr (.inr (some (7, c)))), some (.inl a0)] [] (mem E mu la) (qI E Q)
  refine Ev.steps 4 (ip' := 4) (ls' := [some (.inr (.inr (some (7, c)))), some (.inl a0)]) (st' := [.inr (.inl (11 : Int64)), .inr (.inl (0 : Int64)), .inr (.inl a0.toInt64)]) (M' := mem E mu la) rfl ?_
  refine Ev.ci (J := mi_129) (as := [.inr (.inl a0.toInt64), .inr (.inl (0 : Int64)), .inr (.inl (11 : Int64))]) (rest := []) rfl rfl rfl (Nat.le_of_ble_eq_true rfl) h (fun x1 mu2 la3 h => ?_)
  refine Ev.br (c := x1 = 0) (s1 := (10, [some (.inr (.inr (some (7, c)))), some (.inl a0)], [], mem E mu2 la3)) (s2 := (6, [some (.inr (.inr (some (7, c)))), some (.inl a0)], [], mem E mu2 la3)) rfl rfl rfl rfl (fun hc => ?_) (fun hc => ?_)
  · have h := h.1 hc
    dsimp only
    refine Ev.steps 1 (ip' := 11) (ls' := [some (.inr (.inr (some (7, c)))), some (.inl a0)]) (st' := [.inl (-1 : Int32)]) (M' := mem E mu2 la3) rfl ?_
    exact Ev.ret rfl rfl ⟨_, _, _, rfl, rfl, h⟩
  · have h := h.2 hc
    dsimp only
    refine Ev.steps 2 (ip' := 8) (ls' := [some (.inr (.inr (some (7, c)))), some (.inl a0)]) (st' := [.inl a0, .inr (.inr (some (7, c)))]) (M' := mem E mu2 la3) rfl ?_
    refine Ev.ci (J := mi_222) (as := [.inr (.inr (some (7, c))), .inl a0]) (rest := []) rfl rfl rfl (Nat.le_of_ble_eq_true rfl) h (fun x4 mu5 la6 h => ?_)
    refine Ev.steps 1 (ip' := 11) (ls' := [some (.inr (.inr (some (7, c)))), some (.inl a0)]) (st' := [.inl x4]) (M' := mem E mu5 la6) rfl ?_
    exact Ev.ret rfl rfl ⟨_, _, _, rfl, rfl, h⟩
/-- AnnCupsModel.finding()I -/
theorem vc_X7_finding {E : mEv} {d : Nat} {c : Nat} {mu : fMu} {la : fLa} {Q : Int32 → fMu → fLa → Prop} (h : Q (mu 7 c 20) mu la) : FnI E d mi_224 [.inr (.inr (some (7, c)))] mu la Q := by
  unfold FnI
  show Ev E d mi_224 0 [some (.inr (.inr (some (7, c))))] [] (mem E mu la) (qI E Q)
  refine Ev.steps 2 (ip' := 2) (ls' := [some (.inr (.inr (some (7, c))))]) (st' := [.inl (mu 7 c 20)]) (M' := mem E mu la) rfl ?_
  exact Ev.ret rfl rfl ⟨_, _, _, rfl, rfl, h⟩
/-- AnnCupsModel.findings(I)I -/
theorem vc_X7_findings {E : mEv} {d : Nat} {c : Nat} (a0 : Int32) {mu : fMu} {la : fLa} {Q : Int32 → fMu → fLa → Prop} (h : FnI E d mi_129 [.inr (.inl a0.toInt64), .inr (.inl (1 : Int64)), .inr (.inl (5 : Int64))] mu la (fun x1 mu2 la3 => (x1 = 0 → (Q (-1 : Int32) mu2 la3)) ∧ (¬ (x1 = 0) → (vp_in a0 6 ∧ (Q (mu2 43 c a0.toNatClampNeg) mu2 la3))))) : FnI E (d + 1) mi_225 [.inr (.inr (some (7, c))), .inl a0] mu la Q := by
  unfold FnI
  show Ev E (d + 1) mi_225 0 [some (.inr (.inr (some (7, c)))), some (.inl a0)] [] (mem E mu la) (qI E Q)
  refine Ev.steps 4 (ip' := 4) (ls' := [some (.inr (.inr (some (7, c)))), some (.inl a0)]) (st' := [.inr (.inl (5 : Int64)), .inr (.inl (1 : Int64)), .inr (.inl a0.toInt64)]) (M' := mem E mu la) rfl ?_
  refine Ev.ci (J := mi_129) (as := [.inr (.inl a0.toInt64), .inr (.inl (1 : Int64)), .inr (.inl (5 : Int64))]) (rest := []) rfl rfl rfl (Nat.le_of_ble_eq_true rfl) h (fun x1 mu2 la3 h => ?_)
  refine Ev.br (c := x1 = 0) (s1 := (11, [some (.inr (.inr (some (7, c)))), some (.inl a0)], [], mem E mu2 la3)) (s2 := (6, [some (.inr (.inr (some (7, c)))), some (.inl a0)], [], mem E mu2 la3)) rfl rfl rfl rfl (fun hc => ?_) (fun hc => ?_)
  · have h := h.1 hc
    dsimp only
    refine Ev.steps 1 (ip' := 12) (ls' := [some (.inr (.inr (some (7, c)))), some (.inl a0)]) (st' := [.inl (-1 : Int32)]) (M' := mem E mu2 la3) rfl ?_
    exact Ev.ret rfl rfl ⟨_, _, _, rfl, rfl, h⟩
  · have h := h.2 hc
    dsimp only
    refine Ev.steps 3 (ip' := 9) (ls' := [some (.inr (.inr (some (7, c)))), some (.inl a0)]) (st' := [.inl a0, .inr (.inr (some (43, c)))]) (M' := mem E mu2 la3) rfl ?_
    refine Ev.ial rfl rfl (by decide) h.1 ?_
    have h := h.2
    refine Ev.steps 1 (ip' := 12) (ls' := [some (.inr (.inr (some (7, c)))), some (.inl a0)]) (st' := [.inl (mu2 43 c a0.toNatClampNeg)]) (M' := mem E mu2 la3) rfl ?_
    exact Ev.ret rfl rfl ⟨_, _, _, rfl, rfl, h⟩
/-- AnnCupsModel.digest()J -/
theorem vc_X7_digest {E : mEv} {d : Nat} {c : Nat} {mu : fMu} {la : fLa} {Q : Int64 → fMu → fLa → Prop} (h : Ev E (d + 1) mi_226 4 [some (.inr (.inr (some (7, c)))), some (.inr (.inl (17 : Int64))), none, some (.inl (0 : Int32)), none] [] (mem E mu la) (qL E Q)) : FnL E (d + 1) mi_226 [.inr (.inr (some (7, c)))] mu la Q := by
  unfold FnL
  show Ev E (d + 1) mi_226 0 [some (.inr (.inr (some (7, c)))), none, none, none, none] [] (mem E mu la) (qL E Q)
  refine Ev.steps 4 (ip' := 4) (ls' := [some (.inr (.inr (some (7, c)))), some (.inr (.inl (17 : Int64))), none, some (.inl (0 : Int32)), none]) (st' := []) (M' := mem E mu la) rfl ?_
  exact h
theorem vc_X7_digest_4 {E : mEv} {d : Nat}  (v0 : Nat) (v1 : Int64) (v3 : Int32) {mu : fMu} {la : fLa} {Q : Int64 → fMu → fLa → Prop} (h : ((12 : Int32) ≤ v3 → (Ev E (d + 1) mi_226 20 [some (.inr (.inr (some (7, v0)))), some (.inr (.inl v1)), none, some (.inl (0 : Int32)), none] [] (mem E mu la) (qL E Q))) ∧ (¬ ((12 : Int32) ≤ v3) → (FnI E d mi_222 [.inr (.inr (some (7, v0))), .inl v3] mu la (fun x1 mu2 la3 => Ev E (d + 1) mi_226 4 [some (.inr (.inr (some (7, v0)))), some (.inr (.inl (((31 : Int64) * v1) + x1.toInt64))), none, some (.inl (v3 + (1 : Int32))), none] [] (mem E mu2 la3) (qL E Q))))) : Ev E (d + 1) mi_226 4 [some (.inr (.inr (some (7, v0)))), some (.inr (.inl v1)), none, some (.inl v3), none] [] (mem E mu la) (qL E Q) := by
  refine Ev.steps 2 (ip' := 6) (ls' := [some (.inr (.inr (some (7, v0)))), some (.inr (.inl v1)), none, some (.inl v3), none]) (st' := [.inl (12 : Int32), .inl v3]) (M' := mem E mu la) rfl ?_
  refine Ev.br (c := (12 : Int32) ≤ v3) (s1 := (18, [some (.inr (.inr (some (7, v0)))), some (.inr (.inl v1)), none, some (.inl v3), none], [], mem E mu la)) (s2 := (7, [some (.inr (.inr (some (7, v0)))), some (.inr (.inl v1)), none, some (.inl v3), none], [], mem E mu la)) rfl rfl rfl rfl (fun hc => ?_) (fun hc => ?_)
  · have h := h.1 hc
    dsimp only
    refine Ev.steps 2 (ip' := 20) (ls' := [some (.inr (.inr (some (7, v0)))), some (.inr (.inl v1)), none, some (.inl (0 : Int32)), none]) (st' := []) (M' := mem E mu la) rfl ?_
    exact h
  · have h := h.2 hc
    dsimp only
    refine Ev.steps 5 (ip' := 12) (ls' := [some (.inr (.inr (some (7, v0)))), some (.inr (.inl v1)), none, some (.inl v3), none]) (st' := [.inl v3, .inr (.inr (some (7, v0))), .inr (.inl ((31 : Int64) * v1))]) (M' := mem E mu la) rfl ?_
    refine Ev.ci (J := mi_222) (as := [.inr (.inr (some (7, v0))), .inl v3]) (rest := [.inr (.inl ((31 : Int64) * v1))]) rfl rfl rfl (Nat.le_of_ble_eq_true rfl) h (fun x1 mu2 la3 h => ?_)
    refine Ev.steps 5 (ip' := 4) (ls' := [some (.inr (.inr (some (7, v0)))), some (.inr (.inl (((31 : Int64) * v1) + x1.toInt64))), none, some (.inl (v3 + (1 : Int32))), none]) (st' := []) (M' := mem E mu2 la3) rfl ?_
    exact h
theorem vc_X7_digest_20 {E : mEv} {d : Nat}  (v0 : Nat) (v1 : Int64) (v3 : Int32) {mu : fMu} {la : fLa} {Q : Int64 → fMu → fLa → Prop} (h : ((mu 7 v0 4) ≤ v3 → (Ev E (d + 1) mi_226 45 [some (.inr (.inr (some (7, v0)))), some (.inr (.inl v1)), none, some (.inl (0 : Int32)), none] [] (mem E mu la) (qL E Q))) ∧ (¬ ((mu 7 v0 4) ≤ v3) → (Ev E (d + 1) mi_226 26 [some (.inr (.inr (some (7, v0)))), some (.inr (.inl v1)), none, some (.inl v3), some (.inl (0 : Int32))] [] (mem E mu la) (qL E Q)))) : Ev E (d + 1) mi_226 20 [some (.inr (.inr (some (7, v0)))), some (.inr (.inl v1)), none, some (.inl v3), none] [] (mem E mu la) (qL E Q) := by
  refine Ev.steps 3 (ip' := 23) (ls' := [some (.inr (.inr (some (7, v0)))), some (.inr (.inl v1)), none, some (.inl v3), none]) (st' := [.inl (mu 7 v0 4), .inl v3]) (M' := mem E mu la) rfl ?_
  refine Ev.br (c := (mu 7 v0 4) ≤ v3) (s1 := (43, [some (.inr (.inr (some (7, v0)))), some (.inr (.inl v1)), none, some (.inl v3), none], [], mem E mu la)) (s2 := (24, [some (.inr (.inr (some (7, v0)))), some (.inr (.inl v1)), none, some (.inl v3), none], [], mem E mu la)) rfl rfl rfl rfl (fun hc => ?_) (fun hc => ?_)
  · have h := h.1 hc
    dsimp only
    refine Ev.steps 2 (ip' := 45) (ls' := [some (.inr (.inr (some (7, v0)))), some (.inr (.inl v1)), none, some (.inl (0 : Int32)), none]) (st' := []) (M' := mem E mu la) rfl ?_
    exact h
  · have h := h.2 hc
    dsimp only
    refine Ev.steps 2 (ip' := 26) (ls' := [some (.inr (.inr (some (7, v0)))), some (.inr (.inl v1)), none, some (.inl v3), some (.inl (0 : Int32))]) (st' := []) (M' := mem E mu la) rfl ?_
    exact h
theorem vc_X7_digest_26 {E : mEv} {d : Nat}  (v0 : Nat) (v1 : Int64) (v3 : Int32) (v4 : Int32) {mu : fMu} {la : fLa} {Q : Int64 → fMu → fLa → Prop} (h : ((6 : Int32) ≤ v4 → (Ev E (d + 1) mi_226 20 [some (.inr (.inr (some (7, v0)))), some (.inr (.inl v1)), none, some (.inl (v3 + (1 : Int32))), none] [] (mem E mu la) (qL E Q))) ∧ (¬ ((6 : Int32) ≤ v4) → (FnI E d mi_167 [.inr (.inr (some (7, v0))), .inl v3, .inl v4] mu la (fun x4 mu5 la6 => Ev E (d + 1) mi_226 26 [some (.inr (.inr (some (7, v0)))), some (.inr (.inl (((31 : Int64) * v1) + x4.toInt64))), none, some (.inl v3), some (.inl (v4 + (1 : Int32)))] [] (mem E mu5 la6) (qL E Q))))) : Ev E (d + 1) mi_226 26 [some (.inr (.inr (some (7, v0)))), some (.inr (.inl v1)), none, some (.inl v3), some (.inl v4)] [] (mem E mu la) (qL E Q) := by
  refine Ev.steps 2 (ip' := 28) (ls' := [some (.inr (.inr (some (7, v0)))), some (.inr (.inl v1)), none, some (.inl v3), some (.inl v4)]) (st' := [.inl (6 : Int32), .inl v4]) (M' := mem E mu la) rfl ?_
  refine Ev.br (c := (6 : Int32) ≤ v4) (s1 := (41, [some (.inr (.inr (some (7, v0)))), some (.inr (.inl v1)), none, some (.inl v3), some (.inl v4)], [], mem E mu la)) (s2 := (29, [some (.inr (.inr (some (7, v0)))), some (.inr (.inl v1)), none, some (.inl v3), some (.inl v4)], [], mem E mu la)) rfl rfl rfl rfl (fun hc => ?_) (fun hc => ?_)
  · have h := h.1 hc
    dsimp only
    refine Ev.steps 2 (ip' := 20) (ls' := [some (.inr (.inr (some (7, v0)))), some (.inr (.inl v1)), none, some (.inl (v3 + (1 : Int32))), some (.inl v4)]) (st' := []) (M' := mem E mu la) rfl ?_
    refine Ev.drop (ls := [some (.inr (.inr (some (7, v0)))), some (.inr (.inl v1)), none, some (.inl (v3 + (1 : Int32))), none]) ⟨Or.inr rfl, Or.inr rfl, Or.inr rfl, Or.inr rfl, Or.inl rfl, trivial⟩ ?_
    exact h
  · have h := h.2 hc
    dsimp only
    refine Ev.steps 6 (ip' := 35) (ls' := [some (.inr (.inr (some (7, v0)))), some (.inr (.inl v1)), none, some (.inl v3), some (.inl v4)]) (st' := [.inl v4, .inl v3, .inr (.inr (some (7, v0))), .inr (.inl ((31 : Int64) * v1))]) (M' := mem E mu la) rfl ?_
    refine Ev.ci (J := mi_167) (as := [.inr (.inr (some (7, v0))), .inl v3, .inl v4]) (rest := [.inr (.inl ((31 : Int64) * v1))]) rfl rfl rfl (Nat.le_of_ble_eq_true rfl) h (fun x4 mu5 la6 h => ?_)
    refine Ev.steps 5 (ip' := 26) (ls' := [some (.inr (.inr (some (7, v0)))), some (.inr (.inl (((31 : Int64) * v1) + x4.toInt64))), none, some (.inl v3), some (.inl (v4 + (1 : Int32)))]) (st' := []) (M' := mem E mu5 la6) rfl ?_
    exact h
theorem vc_X7_digest_45 {E : mEv} {d : Nat}  (v0 : Nat) (v1 : Int64) (v3 : Int32) {mu : fMu} {la : fLa} {Q : Int64 → fMu → fLa → Prop} (h : ((mu 7 v0 4) ≤ v3 → (Ev E (d + 1) mi_226 64 [some (.inr (.inr (some (7, v0)))), some (.inr (.inl v1)), none, some (.inl (0 : Int32)), none] [] (mem E mu la) (qL E Q))) ∧ (¬ ((mu 7 v0 4) ≤ v3) → (FnI E d mi_164 [.inr (.inr (some (7, v0))), .inr (.inr (some (38, v0))), .inl v3] mu la (fun x7 mu8 la9 => Ev E (d + 1) mi_226 45 [some (.inr (.inr (some (7, v0)))), some (.inr (.inl (((31 : Int64) * v1) + x7.toInt64))), none, some (.inl (v3 + (1 : Int32))), none] [] (mem E mu8 la9) (qL E Q))))) : Ev E (d + 1) mi_226 45 [some (.inr (.inr (some (7, v0)))), some (.inr (.inl v1)), none, some (.inl v3), none] [] (mem E mu la) (qL E Q) := by
  refine Ev.steps 3 (ip' := 48) (ls' := [some (.inr (.inr (some (7, v0)))), some (.inr (.inl v1)), none, some (.inl v3), none]) (st' := [.inl (mu 7 v0 4), .inl v3]) (M' := mem E mu la) rfl ?_
  refine Ev.br (c := (mu 7 v0 4) ≤ v3) (s1 := (62, [some (.inr (.inr (some (7, v0)))), some (.inr (.inl v1)), none, some (.inl v3), none], [], mem E mu la)) (s2 := (49, [some (.inr (.inr (some (7, v0)))), some (.inr (.inl v1)), none, some (.inl v3), none], [], mem E mu la)) rfl rfl rfl rfl (fun hc => ?_) (fun hc => ?_)
  · have h := h.1 hc
    dsimp only
    refine Ev.steps 2 (ip' := 64) (ls' := [some (.inr (.inr (some (7, v0)))), some (.inr (.inl v1)), none, some (.inl (0 : Int32)), none]) (st' := []) (M' := mem E mu la) rfl ?_
    exact h
  · have h := h.2 hc
    dsimp only
    refine Ev.steps 7 (ip' := 56) (ls' := [some (.inr (.inr (some (7, v0)))), some (.inr (.inl v1)), none, some (.inl v3), none]) (st' := [.inl v3, .inr (.inr (some (38, v0))), .inr (.inr (some (7, v0))), .inr (.inl ((31 : Int64) * v1))]) (M' := mem E mu la) rfl ?_
    refine Ev.ci (J := mi_164) (as := [.inr (.inr (some (7, v0))), .inr (.inr (some (38, v0))), .inl v3]) (rest := [.inr (.inl ((31 : Int64) * v1))]) rfl rfl rfl (Nat.le_of_ble_eq_true rfl) h (fun x7 mu8 la9 h => ?_)
    refine Ev.steps 5 (ip' := 45) (ls' := [some (.inr (.inr (some (7, v0)))), some (.inr (.inl (((31 : Int64) * v1) + x7.toInt64))), none, some (.inl (v3 + (1 : Int32))), none]) (st' := []) (M' := mem E mu8 la9) rfl ?_
    exact h
theorem vc_X7_digest_64 {E : mEv} {d : Nat}  (v0 : Nat) (v1 : Int64) (v3 : Int32) {mu : fMu} {la : fLa} {Q : Int64 → fMu → fLa → Prop} (h : ((3 : Int32) ≤ v3 → (Ev E (d + 1) mi_226 92 [some (.inr (.inr (some (7, v0)))), some (.inr (.inl v1)), none, some (.inl (0 : Int32)), none] [] (mem E mu la) (qL E Q))) ∧ (¬ ((3 : Int32) ≤ v3) → (vp_in v3 3 ∧ (((mu 42 v0 v3.toNatClampNeg) = 0 → (Ev E (d + 1) mi_226 64 [some (.inr (.inr (some (7, v0)))), some (.inr (.inl (((31 : Int64) * v1) + ((-1 : Int32).toInt64)))), none, some (.inl (v3 + (1 : Int32))), none] [] (mem E mu la) (qL E Q))) ∧ (¬ ((mu 42 v0 v3.toNatClampNeg) = 0) → (vp_in (((370 : Int32) * v3) + (369 : Int32)) 1110 ∧ (Ev E (d + 1) mi_226 64 [some (.inr (.inr (some (7, v0)))), some (.inr (.inl (((31 : Int64) * v1) + ((mu 41 v0 (((370 : Int32) * v3) + (369 : Int32)).toNatClampNeg).toInt64)))), none, some (.inl (v3 + (1 : Int32))), none] [] (mem E mu la) (qL E Q)))))))) : Ev E (d + 1) mi_226 64 [some (.inr (.inr (some (7, v0)))), some (.inr (.inl v1)), none, some (.inl v3), none] [] (mem E mu la) (qL E Q) := by
  refine Ev.steps 2 (ip' := 66) (ls' := [some (.inr (.inr (some (7, v0)))), some (.inr (.inl v1)), none, some (.inl v3), none]) (st' := [.inl (3 : Int32), .inl v3]) (M' := mem E mu la) rfl ?_
  refine Ev.br (c := (3 : Int32) ≤ v3) (s1 := (90, [some (.inr (.inr (some (7, v0)))), some (.inr (.inl v1)), none, some (.inl v3), none], [], mem E mu la)) (s2 := (67, [some (.inr (.inr (some (7, v0)))), some (.inr (.inl v1)), none, some (.inl v3), none], [], mem E mu la)) rfl rfl rfl rfl (fun hc => ?_) (fun hc => ?_)
  · have h := h.1 hc
    dsimp only
    refine Ev.steps 2 (ip' := 92) (ls' := [some (.inr (.inr (some (7, v0)))), some (.inr (.inl v1)), none, some (.inl (0 : Int32)), none]) (st' := []) (M' := mem E mu la) rfl ?_
    exact h
  · have h := h.2 hc
    dsimp only
    refine Ev.steps 6 (ip' := 73) (ls' := [some (.inr (.inr (some (7, v0)))), some (.inr (.inl v1)), none, some (.inl v3), none]) (st' := [.inl v3, .inr (.inr (some (42, v0))), .inr (.inl ((31 : Int64) * v1))]) (M' := mem E mu la) rfl ?_
    refine Ev.bal rfl (Or.inr rfl) h.1 ?_
    have h := h.2
    refine Ev.br (c := (mu 42 v0 v3.toNatClampNeg) = 0) (s1 := (84, [some (.inr (.inr (some (7, v0)))), some (.inr (.inl v1)), none, some (.inl v3), none], [.inr (.inl ((31 : Int64) * v1))], mem E mu la)) (s2 := (75, [some (.inr (.inr (some (7, v0)))), some (.inr (.inl v1)), none, some (.inl v3), none], [.inr (.inl ((31 : Int64) * v1))], mem E mu la)) rfl rfl rfl rfl (fun hc => ?_) (fun hc => ?_)
    · have h := h.1 hc
      dsimp only
      refine Ev.steps 6 (ip' := 64) (ls' := [some (.inr (.inr (some (7, v0)))), some (.inr (.inl (((31 : Int64) * v1) + ((-1 : Int32).toInt64)))), none, some (.inl (v3 + (1 : Int32))), none]) (st' := []) (M' := mem E mu la) rfl ?_
      exact h
    · have h := h.2 hc
      dsimp only
      refine Ev.steps 7 (ip' := 82) (ls' := [some (.inr (.inr (some (7, v0)))), some (.inr (.inl v1)), none, some (.inl v3), none]) (st' := [.inl (((370 : Int32) * v3) + (369 : Int32)), .inr (.inr (some (41, v0))), .inr (.inl ((31 : Int64) * v1))]) (M' := mem E mu la) rfl ?_
      refine Ev.ial rfl rfl (by decide) h.1 ?_
      have h := h.2
      refine Ev.steps 6 (ip' := 64) (ls' := [some (.inr (.inr (some (7, v0)))), some (.inr (.inl (((31 : Int64) * v1) + ((mu 41 v0 (((370 : Int32) * v3) + (369 : Int32)).toNatClampNeg).toInt64)))), none, some (.inl (v3 + (1 : Int32))), none]) (st' := []) (M' := mem E mu la) rfl ?_
      exact h
theorem vc_X7_digest_92 {E : mEv} {d : Nat}  (v0 : Nat) (v1 : Int64) (v3 : Int32) {mu : fMu} {la : fLa} {Q : Int64 → fMu → fLa → Prop} (h : ((6 : Int32) ≤ v3 → (Ev E (d + 1) mi_226 133 [some (.inr (.inr (some (7, v0)))), some (.inr (.inl v1)), none, some (.inl (0 : Int32)), none] [] (mem E mu la) (qL E Q))) ∧ (¬ ((6 : Int32) ≤ v3) → (vp_in v3 6 ∧ (Ev E (d + 1) mi_226 107 [some (.inr (.inr (some (7, v0)))), some (.inr (.inl (((31 : Int64) * v1) + ((mu 29 v0 v3.toNatClampNeg).toInt64)))), none, some (.inl v3), some (.inl (0 : Int32))] [] (mem E mu la) (qL E Q))))) : Ev E (d + 1) mi_226 92 [some (.inr (.inr (some (7, v0)))), some (.inr (.inl v1)), none, some (.inl v3), none] [] (mem E mu la) (qL E Q) := by
  refine Ev.steps 2 (ip' := 94) (ls' := [some (.inr (.inr (some (7, v0)))), some (.inr (.inl v1)), none, some (.inl v3), none]) (st' := [.inl (6 : Int32), .inl v3]) (M' := mem E mu la) rfl ?_
  refine Ev.br (c := (6 : Int32) ≤ v3) (s1 := (131, [some (.inr (.inr (some (7, v0)))), some (.inr (.inl v1)), none, some (.inl v3), none], [], mem E mu la)) (s2 := (95, [some (.inr (.inr (some (7, v0)))), some (.inr (.inl v1)), none, some (.inl v3), none], [], mem E mu la)) rfl rfl rfl rfl (fun hc => ?_) (fun hc => ?_)
  · have h := h.1 hc
    dsimp only
    refine Ev.steps 2 (ip' := 133) (ls' := [some (.inr (.inr (some (7, v0)))), some (.inr (.inl v1)), none, some (.inl (0 : Int32)), none]) (st' := []) (M' := mem E mu la) rfl ?_
    exact h
  · have h := h.2 hc
    dsimp only
    refine Ev.steps 6 (ip' := 101) (ls' := [some (.inr (.inr (some (7, v0)))), some (.inr (.inl v1)), none, some (.inl v3), none]) (st' := [.inl v3, .inr (.inr (some (29, v0))), .inr (.inl ((31 : Int64) * v1))]) (M' := mem E mu la) rfl ?_
    refine Ev.ial rfl rfl (by decide) h.1 ?_
    have h := h.2
    refine Ev.steps 5 (ip' := 107) (ls' := [some (.inr (.inr (some (7, v0)))), some (.inr (.inl (((31 : Int64) * v1) + ((mu 29 v0 v3.toNatClampNeg).toInt64)))), none, some (.inl v3), some (.inl (0 : Int32))]) (st' := []) (M' := mem E mu la) rfl ?_
    exact h
theorem vc_X7_digest_107 {E : mEv} {d : Nat}  (v0 : Nat) (v1 : Int64) (v3 : Int32) (v4 : Int32) {mu : fMu} {la : fLa} {Q : Int64 → fMu → fLa → Prop} (h : vp_in v3 6 ∧ (((mu 29 v0 v3.toNatClampNeg) ≤ v4 → (Ev E (d + 1) mi_226 92 [some (.inr (.inr (some (7, v0)))), some (.inr (.inl v1)), none, some (.inl (v3 + (1 : Int32))), none] [] (mem E mu la) (qL E Q))) ∧ (¬ ((mu 29 v0 v3.toNatClampNeg) ≤ v4) → (vp_in (((40 : Int32) * v3) + v4) 240 ∧ (Ev E (d + 1) mi_226 107 [some (.inr (.inr (some (7, v0)))), some (.inr (.inl (((31 : Int64) * v1) + ((mu 30 v0 (((40 : Int32) * v3) + v4).toNatClampNeg).toInt64)))), none, some (.inl v3), some (.inl (v4 + (1 : Int32)))] [] (mem E mu la) (qL E Q)))))) : Ev E (d + 1) mi_226 107 [some (.inr (.inr (some (7, v0)))), some (.inr (.inl v1)), none, some (.inl v3), some (.inl v4)] [] (mem E mu la) (qL E Q) := by
  refine Ev.steps 4 (ip' := 111) (ls' := [some (.inr (.inr (some (7, v0)))), some (.inr (.inl v1)), none, some (.inl v3), some (.inl v4)]) (st' := [.inl v3, .inr (.inr (some (29, v0))), .inl v4]) (M' := mem E mu la) rfl ?_
  refine Ev.ial rfl rfl (by decide) h.1 ?_
  have h := h.2
  refine Ev.br (c := (mu 29 v0 v3.toNatClampNeg) ≤ v4) (s1 := (129, [some (.inr (.inr (some (7, v0)))), some (.inr (.inl v1)), none, some (.inl v3), some (.inl v4)], [], mem E mu la)) (s2 := (113, [some (.inr (.inr (some (7, v0)))), some (.inr (.inl v1)), none, some (.inl v3), some (.inl v4)], [], mem E mu la)) rfl rfl rfl rfl (fun hc => ?_) (fun hc => ?_)
  · have h := h.1 hc
    dsimp only
    refine Ev.steps 2 (ip' := 92) (ls' := [some (.inr (.inr (some (7, v0)))), some (.inr (.inl v1)), none, some (.inl (v3 + (1 : Int32))), some (.inl v4)]) (st' := []) (M' := mem E mu la) rfl ?_
    refine Ev.drop (ls := [some (.inr (.inr (some (7, v0)))), some (.inr (.inl v1)), none, some (.inl (v3 + (1 : Int32))), none]) ⟨Or.inr rfl, Or.inr rfl, Or.inr rfl, Or.inr rfl, Or.inl rfl, trivial⟩ ?_
    exact h
  · have h := h.2 hc
    dsimp only
    refine Ev.steps 10 (ip' := 123) (ls' := [some (.inr (.inr (some (7, v0)))), some (.inr (.inl v1)), none, some (.inl v3), some (.inl v4)]) (st' := [.inl (((40 : Int32) * v3) + v4), .inr (.inr (some (30, v0))), .inr (.inl ((31 : Int64) * v1))]) (M' := mem E mu la) rfl ?_
    refine Ev.ial rfl rfl (by decide) h.1 ?_
    have h := h.2
    refine Ev.steps 5 (ip' := 107) (ls' := [some (.inr (.inr (some (7, v0)))), some (.inr (.inl (((31 : Int64) * v1) + ((mu 30 v0 (((40 : Int32) * v3) + v4).toNatClampNeg).toInt64)))), none, some (.inl v3), some (.inl (v4 + (1 : Int32)))]) (st' := []) (M' := mem E mu la) rfl ?_
    exact h
theorem vc_X7_digest_133 {E : mEv} {d : Nat}  (v0 : Nat) (v1 : Int64) (v3 : Int32) {mu : fMu} {la : fLa} {Q : Int64 → fMu → fLa → Prop} (h : ((4 : Int32) ≤ v3 → (Q v1 mu la)) ∧ (¬ ((4 : Int32) ≤ v3) → (vp_in v3 4 ∧ (Ev E (d + 1) mi_226 148 [some (.inr (.inr (some (7, v0)))), some (.inr (.inl (((31 : Int64) * v1) + ((mu 31 v0 v3.toNatClampNeg).toInt64)))), none, some (.inl v3), some (.inl (0 : Int32))] [] (mem E mu la) (qL E Q))))) : Ev E (d + 1) mi_226 133 [some (.inr (.inr (some (7, v0)))), some (.inr (.inl v1)), none, some (.inl v3), none] [] (mem E mu la) (qL E Q) := by
  refine Ev.steps 2 (ip' := 135) (ls' := [some (.inr (.inr (some (7, v0)))), some (.inr (.inl v1)), none, some (.inl v3), none]) (st' := [.inl (4 : Int32), .inl v3]) (M' := mem E mu la) rfl ?_
  refine Ev.br (c := (4 : Int32) ≤ v3) (s1 := (172, [some (.inr (.inr (some (7, v0)))), some (.inr (.inl v1)), none, some (.inl v3), none], [], mem E mu la)) (s2 := (136, [some (.inr (.inr (some (7, v0)))), some (.inr (.inl v1)), none, some (.inl v3), none], [], mem E mu la)) rfl rfl rfl rfl (fun hc => ?_) (fun hc => ?_)
  · have h := h.1 hc
    dsimp only
    refine Ev.steps 1 (ip' := 173) (ls' := [some (.inr (.inr (some (7, v0)))), some (.inr (.inl v1)), none, some (.inl v3), none]) (st' := [.inr (.inl v1)]) (M' := mem E mu la) rfl ?_
    exact Ev.ret rfl rfl ⟨_, _, _, rfl, rfl, h⟩
  · have h := h.2 hc
    dsimp only
    refine Ev.steps 6 (ip' := 142) (ls' := [some (.inr (.inr (some (7, v0)))), some (.inr (.inl v1)), none, some (.inl v3), none]) (st' := [.inl v3, .inr (.inr (some (31, v0))), .inr (.inl ((31 : Int64) * v1))]) (M' := mem E mu la) rfl ?_
    refine Ev.ial rfl rfl (by decide) h.1 ?_
    have h := h.2
    refine Ev.steps 5 (ip' := 148) (ls' := [some (.inr (.inr (some (7, v0)))), some (.inr (.inl (((31 : Int64) * v1) + ((mu 31 v0 v3.toNatClampNeg).toInt64)))), none, some (.inl v3), some (.inl (0 : Int32))]) (st' := []) (M' := mem E mu la) rfl ?_
    exact h
theorem vc_X7_digest_148 {E : mEv} {d : Nat}  (v0 : Nat) (v1 : Int64) (v3 : Int32) (v4 : Int32) {mu : fMu} {la : fLa} {Q : Int64 → fMu → fLa → Prop} (h : vp_in v3 4 ∧ (((mu 31 v0 v3.toNatClampNeg) ≤ v4 → (Ev E (d + 1) mi_226 133 [some (.inr (.inr (some (7, v0)))), some (.inr (.inl v1)), none, some (.inl (v3 + (1 : Int32))), none] [] (mem E mu la) (qL E Q))) ∧ (¬ ((mu 31 v0 v3.toNatClampNeg) ≤ v4) → (vp_in (((60 : Int32) * v3) + v4) 240 ∧ (Ev E (d + 1) mi_226 148 [some (.inr (.inr (some (7, v0)))), some (.inr (.inl (((31 : Int64) * v1) + ((mu 32 v0 (((60 : Int32) * v3) + v4).toNatClampNeg).toInt64)))), none, some (.inl v3), some (.inl (v4 + (1 : Int32)))] [] (mem E mu la) (qL E Q)))))) : Ev E (d + 1) mi_226 148 [some (.inr (.inr (some (7, v0)))), some (.inr (.inl v1)), none, some (.inl v3), some (.inl v4)] [] (mem E mu la) (qL E Q) := by
  refine Ev.steps 4 (ip' := 152) (ls' := [some (.inr (.inr (some (7, v0)))), some (.inr (.inl v1)), none, some (.inl v3), some (.inl v4)]) (st' := [.inl v3, .inr (.inr (some (31, v0))), .inl v4]) (M' := mem E mu la) rfl ?_
  refine Ev.ial rfl rfl (by decide) h.1 ?_
  have h := h.2
  refine Ev.br (c := (mu 31 v0 v3.toNatClampNeg) ≤ v4) (s1 := (170, [some (.inr (.inr (some (7, v0)))), some (.inr (.inl v1)), none, some (.inl v3), some (.inl v4)], [], mem E mu la)) (s2 := (154, [some (.inr (.inr (some (7, v0)))), some (.inr (.inl v1)), none, some (.inl v3), some (.inl v4)], [], mem E mu la)) rfl rfl rfl rfl (fun hc => ?_) (fun hc => ?_)
  · have h := h.1 hc
    dsimp only
    refine Ev.steps 2 (ip' := 133) (ls' := [some (.inr (.inr (some (7, v0)))), some (.inr (.inl v1)), none, some (.inl (v3 + (1 : Int32))), some (.inl v4)]) (st' := []) (M' := mem E mu la) rfl ?_
    refine Ev.drop (ls := [some (.inr (.inr (some (7, v0)))), some (.inr (.inl v1)), none, some (.inl (v3 + (1 : Int32))), none]) ⟨Or.inr rfl, Or.inr rfl, Or.inr rfl, Or.inr rfl, Or.inl rfl, trivial⟩ ?_
    exact h
  · have h := h.2 hc
    dsimp only
    refine Ev.steps 10 (ip' := 164) (ls' := [some (.inr (.inr (some (7, v0)))), some (.inr (.inl v1)), none, some (.inl v3), some (.inl v4)]) (st' := [.inl (((60 : Int32) * v3) + v4), .inr (.inr (some (32, v0))), .inr (.inl ((31 : Int64) * v1))]) (M' := mem E mu la) rfl ?_
    refine Ev.ial rfl rfl (by decide) h.1 ?_
    have h := h.2
    refine Ev.steps 5 (ip' := 148) (ls' := [some (.inr (.inr (some (7, v0)))), some (.inr (.inl (((31 : Int64) * v1) + ((mu 32 v0 (((60 : Int32) * v3) + v4).toNatClampNeg).toInt64)))), none, some (.inl v3), some (.inl (v4 + (1 : Int32)))]) (st' := []) (M' := mem E mu la) rfl ?_
    exact h
