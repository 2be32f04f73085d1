set_option maxRecDepth 100000 in
/-- AnnCupsModel.weighs(II)V -/
theorem vc_X7_weighs {E : mEv} {d : Nat} {c : Nat} (a0 : Int32) (a1 : Int32) {mu : fMu} {la : fLa} {Q : fMu → fLa → Prop} (h : vp_in a0 5 ∧ (((mu 51 c a0.toNatClampNeg) = (-9 : Int32) → (((1 : Int32) = 0 → (vp_in a0 5 ∧ (vp_in a0 5 ∧ ∀ mu1 : fMu, mu1 = up3 mu 51 c a0.toNatClampNeg (mu 51 c a0.toNatClampNeg) → (Q mu1 la)))) ∧ (¬ ((1 : Int32) = 0) → (vp_in a0 5 ∧ ∀ mu2 : fMu, mu2 = up3 mu 51 c a0.toNatClampNeg a1 → (Q mu2 la))))) ∧ (¬ ((mu 51 c a0.toNatClampNeg) = (-9 : Int32)) → ((¬ (2 : Int32) = 0) ∧ ((¬ (a0 - a0 / (2 : Int32) * (2 : Int32)) = 0 → (vp_in a0 5 ∧ ((a1 ≤ (mu 51 c a0.toNatClampNeg) → (((0 : Int32) = 0 → (vp_in a0 5 ∧ (vp_in a0 5 ∧ ∀ mu3 : fMu, mu3 = up3 mu 51 c a0.toNatClampNeg (mu 51 c a0.toNatClampNeg) → (Q mu3 la)))) ∧ (¬ ((0 : Int32) = 0) → (vp_in a0 5 ∧ ∀ mu4 : fMu, mu4 = up3 mu 51 c a0.toNatClampNeg a1 → (Q mu4 la))))) ∧ (¬ (a1 ≤ (mu 51 c a0.toNatClampNeg)) → (((1 : Int32) = 0 → (vp_in a0 5 ∧ (vp_in a0 5 ∧ ∀ mu5 : fMu, mu5 = up3 mu 51 c a0.toNatClampNeg (mu 51 c a0.toNatClampNeg) → (Q mu5 la)))) ∧ (¬ ((1 : Int32) = 0) → (vp_in a0 5 ∧ ∀ mu6 : fMu, mu6 = up3 mu 51 c a0.toNatClampNeg a1 → (Q mu6 la)))))))) ∧ (¬ (¬ (a0 - a0 / (2 : Int32) * (2 : Int32)) = 0) → (vp_in a0 5 ∧ (((mu 51 c a0.toNatClampNeg) ≤ a1 → (((0 : Int32) = 0 → (vp_in a0 5 ∧ (vp_in a0 5 ∧ ∀ mu7 : fMu, mu7 = up3 mu 51 c a0.toNatClampNeg (mu 51 c a0.toNatClampNeg) → (Q mu7 la)))) ∧ (¬ ((0 : Int32) = 0) → (vp_in a0 5 ∧ ∀ mu8 : fMu, mu8 = up3 mu 51 c a0.toNatClampNeg a1 → (Q mu8 la))))) ∧ (¬ ((mu 51 c a0.toNatClampNeg) ≤ a1) → (((1 : Int32) = 0 → (vp_in a0 5 ∧ (vp_in a0 5 ∧ ∀ mu9 : fMu, mu9 = up3 mu 51 c a0.toNatClampNeg (mu 51 c a0.toNatClampNeg) → (Q mu9 la)))) ∧ (¬ ((1 : Int32) = 0) → (vp_in a0 5 ∧ ∀ mu10 : fMu, mu10 = up3 mu 51 c a0.toNatClampNeg a1 → (Q mu10 la))))))))))))) : FnV E d mi_207 [.inr (.inr (some (7, c))), .inl a0, .inl a1] mu la Q := by
  unfold FnV
  show Ev E d mi_207 0 [some (.inr (.inr (some (7, c)))), some (.inl a0), some (.inl a1), none] [] (mem E mu la) (qV E Q)
  refine Ev.steps 3 (ip' := 3) (ls' := [some (.inr (.inr (some (7, c)))), some (.inl a0), some (.inl a1), none]) (st' := [.inl a0, .inr (.inr (some (51, c)))]) (M' := mem E mu la) rfl ?_
  refine Ev.ial rfl rfl (by decide) h.1 ?_
  have h := h.2
  refine Ev.steps 1 (ip' := 5) (ls' := [some (.inr (.inr (some (7, c)))), some (.inl a0), some (.inl a1), none]) (st' := [.inl (-9 : Int32), .inl (mu 51 c a0.toNatClampNeg)]) (M' := mem E mu la) rfl ?_
  refine Ev.br (c := (mu 51 c a0.toNatClampNeg) = (-9 : Int32)) (s1 := (23, [some (.inr (.inr (some (7, c)))), some (.inl a0), some (.inl a1), none], [], mem E mu la)) (s2 := (6, [some (.inr (.inr (some (7, c)))), some (.inl a0), some (.inl a1), none], [], mem E mu la)) rfl rfl rfl rfl (fun hc => ?_) (fun hc => ?_)
  · have h := h.1 hc
    dsimp only
    refine Ev.steps 7 (ip' := 31) (ls' := [some (.inr (.inr (some (7, c)))), some (.inl a0), some (.inl a1), some (.inl (1 : Int32))]) (st' := [.inl (1 : Int32), .inl a0, .inr (.inr (some (51, c)))]) (M' := mem E mu la) rfl ?_
    refine Ev.br (c := (1 : Int32) = 0) (s1 := (34, [some (.inr (.inr (some (7, c)))), some (.inl a0), some (.inl a1), some (.inl (1 : Int32))], [.inl a0, .inr (.inr (some (51, c)))], mem E mu la)) (s2 := (32, [some (.inr (.inr (some (7, c)))), some (.inl a0), some (.inl a1), some (.inl (1 : Int32))], [.inl a0, .inr (.inr (some (51, c)))], mem E mu la)) rfl rfl rfl rfl (fun hc => ?_) (fun hc => ?_)
    · have h := h.1 hc
      dsimp only
      refine Ev.steps 3 (ip' := 37) (ls' := [some (.inr (.inr (some (7, c)))), some (.inl a0), some (.inl a1), some (.inl (1 : Int32))]) (st' := [.inl a0, .inr (.inr (some (51, c))), .inl a0, .inr (.inr (some (51, c)))]) (M' := mem E mu la) rfl ?_
      refine Ev.ial rfl rfl (by decide) h.1 ?_
      have h := h.2
      refine Ev.ias rfl rfl h.1 ?_
      have h := h.2
      generalize hgmu1 : up3 mu 51 c a0.toNatClampNeg (mu 51 c a0.toNatClampNeg) = mu1
      have h := h mu1 hgmu1.symm
      exact Ev.ret rfl rfl ⟨_, _, rfl, rfl, h⟩
    · have h := h.2 hc
      dsimp only
      refine Ev.steps 2 (ip' := 38) (ls' := [some (.inr (.inr (some (7, c)))), some (.inl a0), some (.inl a1), some (.inl (1 : Int32))]) (st' := [.inl a1, .inl a0, .inr (.inr (some (51, c)))]) (M' := mem E mu la) rfl ?_
      refine Ev.ias rfl rfl h.1 ?_
      have h := h.2
      generalize hgmu2 : up3 mu 51 c a0.toNatClampNeg a1 = mu2
      have h := h mu2 hgmu2.symm
      exact Ev.ret rfl rfl ⟨_, _, rfl, rfl, h⟩
  · have h := h.2 hc
    dsimp only
    refine Ev.steps 2 (ip' := 8) (ls' := [some (.inr (.inr (some (7, c)))), some (.inl a0), some (.inl a1), none]) (st' := [.inl (2 : Int32), .inl a0]) (M' := mem E mu la) rfl ?_
    refine Ev.want (c := (2 : Int32) = 0) (s2 := (9, [some (.inr (.inr (some (7, c)))), some (.inl a0), some (.inl a1), none], [.inl (a0 - a0 / (2 : Int32) * (2 : Int32))], mem E mu la)) rfl rfl rfl rfl h.1 ?_
    have h := h.2
    refine Ev.br (c := ¬ (a0 - a0 / (2 : Int32) * (2 : Int32)) = 0) (s1 := (17, [some (.inr (.inr (some (7, c)))), some (.inl a0), some (.inl a1), none], [], mem E mu la)) (s2 := (10, [some (.inr (.inr (some (7, c)))), some (.inl a0), some (.inl a1), none], [], mem E mu la)) rfl rfl rfl rfl (fun hc => ?_) (fun hc => ?_)
    · have h := h.1 hc
      dsimp only
      refine Ev.steps 4 (ip' := 21) (ls' := [some (.inr (.inr (some (7, c)))), some (.inl a0), some (.inl a1), none]) (st' := [.inl a0, .inr (.inr (some (51, c))), .inl a1]) (M' := mem E mu la) rfl ?_
      refine Ev.ial rfl rfl (by decide) h.1 ?_
      have h := h.2
      refine Ev.br (c := a1 ≤ (mu 51 c a0.toNatClampNeg)) (s1 := (25, [some (.inr (.inr (some (7, c)))), some (.inl a0), some (.inl a1), none], [], mem E mu la)) (s2 := (23, [some (.inr (.inr (some (7, c)))), some (.inl a0), some (.inl a1), none], [], mem E mu la)) rfl rfl rfl rfl (fun hc => ?_) (fun hc => ?_)
      · have h := h.1 hc
        dsimp only
        refine Ev.steps 6 (ip' := 31) (ls' := [some (.inr (.inr (some (7, c)))), some (.inl a0), some (.inl a1), some (.inl (0 : Int32))]) (st' := [.inl (0 : Int32), .inl a0, .inr (.inr (some (51, c)))]) (M' := mem E mu la) rfl ?_
        refine Ev.br (c := (0 : Int32) = 0) (s1 := (34, [some (.inr (.inr (some (7, c)))), some (.inl a0), some (.inl a1), some (.inl (0 : Int32))], [.inl a0, .inr (.inr (some (51, c)))], mem E mu la)) (s2 := (32, [some (.inr (.inr (some (7, c)))), some (.inl a0), some (.inl a1), some (.inl (0 : Int32))], [.inl a0, .inr (.inr (some (51, c)))], mem E mu la)) rfl rfl rfl rfl (fun hc => ?_) (fun hc => ?_)
        · have h := h.1 hc
          dsimp only
          refine Ev.steps 3 (ip' := 37) (ls' := [some (.inr (.inr (some (7, c)))), some (.inl a0), some (.inl a1), some (.inl (0 : Int32))]) (st' := [.inl a0, .inr (.inr (some (51, c))), .inl a0, .inr (.inr (some (51, c)))]) (M' := mem E mu la) rfl ?_
          refine Ev.ial rfl rfl (by decide) h.1 ?_
          have h := h.2
          refine Ev.ias rfl rfl h.1 ?_
          have h := h.2
          generalize hgmu3 : up3 mu 51 c a0.toNatClampNeg (mu 51 c a0.toNatClampNeg) = mu3
          have h := h mu3 hgmu3.symm
          exact Ev.ret rfl rfl ⟨_, _, rfl, rfl, h⟩
        · have h := h.2 hc
          dsimp only
          refine Ev.steps 2 (ip' := 38) (ls' := [some (.inr (.inr (some (7, c)))), some (.inl a0), some (.inl a1), some (.inl (0 : Int32))]) (st' := [.inl a1, .inl a0, .inr (.inr (some (51, c)))]) (M' := mem E mu la) rfl ?_
          refine Ev.ias rfl rfl h.1 ?_
          have h := h.2
          generalize hgmu4 : up3 mu 51 c a0.toNatClampNeg a1 = mu4
          have h := h mu4 hgmu4.symm
          exact Ev.ret rfl rfl ⟨_, _, rfl, rfl, h⟩
      · have h := h.2 hc
        dsimp only
        refine Ev.steps 7 (ip' := 31) (ls' := [some (.inr (.inr (some (7, c)))), some (.inl a0), some (.inl a1), some (.inl (1 : Int32))]) (st' := [.inl (1 : Int32), .inl a0, .inr (.inr (some (51, c)))]) (M' := mem E mu la) rfl ?_
        refine Ev.br (c := (1 : Int32) = 0) (s1 := (34, [some (.inr (.inr (some (7, c)))), some (.inl a0), some (.inl a1), some (.inl (1 : Int32))], [.inl a0, .inr (.inr (some (51, c)))], mem E mu la)) (s2 := (32, [some (.inr (.inr (some (7, c)))), some (.inl a0), some (.inl a1), some (.inl (1 : Int32))], [.inl a0, .inr (.inr (some (51, c)))], mem E mu la)) rfl rfl rfl rfl (fun hc => ?_) (fun hc => ?_)
        · have h := h.1 hc
          dsimp only
          refine Ev.steps 3 (ip' := 37) (ls' := [some (.inr (.inr (some (7, c)))), some (.inl a0), some (.inl a1), some (.inl (1 : Int32))]) (st' := [.inl a0, .inr (.inr (some (51, c))), .inl a0, .inr (.inr (some (51, c)))]) (M' := mem E mu la) rfl ?_
          refine Ev.ial rfl rfl (by decide) h.1 ?_
          have h := h.2
          refine Ev.ias rfl rfl h.1 ?_
          have h := h.2
          generalize hgmu5 : up3 mu 51 c a0.toNatClampNeg (mu 51 c a0.toNatClampNeg) = mu5
          have h := h mu5 hgmu5.symm
          exact Ev.ret rfl rfl ⟨_, _, rfl, rfl, h⟩
        · have h := h.2 hc
          dsimp only
          refine Ev.steps 2 (ip' := 38) (ls' := [some (.inr (.inr (some (7, c)))), some (.inl a0), some (.inl a1), some (.inl (1 : Int32))]) (st' := [.inl a1, .inl a0, .inr (.inr (some (51, c)))]) (M' := mem E mu la) rfl ?_
          refine Ev.ias rfl rfl h.1 ?_
          have h := h.2
          generalize hgmu6 : up3 mu 51 c a0.toNatClampNeg a1 = mu6
          have h := h mu6 hgmu6.symm
          exact Ev.ret rfl rfl ⟨_, _, rfl, rfl, h⟩
    · have h := h.2 hc
      dsimp only
      refine Ev.steps 4 (ip' := 14) (ls' := [some (.inr (.inr (some (7, c)))), some (.inl a0), some (.inl a1), none]) (st' := [.inl a0, .inr (.inr (some (51, c))), .inl a1]) (M' := mem E mu la) rfl ?_
      refine Ev.ial rfl rfl (by decide) h.1 ?_
      have h := h.2
      refine Ev.br (c := (mu 51 c a0.toNatClampNeg) ≤ a1) (s1 := (25, [some (.inr (.inr (some (7, c)))), some (.inl a0), some (.inl a1), none], [], mem E mu la)) (s2 := (16, [some (.inr (.inr (some (7, c)))), some (.inl a0), some (.inl a1), none], [], mem E mu la)) rfl rfl rfl rfl (fun hc => ?_) (fun hc => ?_)
      · have h := h.1 hc
        dsimp only
        refine Ev.steps 6 (ip' := 31) (ls' := [some (.inr (.inr (some (7, c)))), some (.inl a0), some (.inl a1), some (.inl (0 : Int32))]) (st' := [.inl (0 : Int32), .inl a0, .inr (.inr (some (51, c)))]) (M' := mem E mu la) rfl ?_
        refine Ev.br (c := (0 : Int32) = 0) (s1 := (34, [some (.inr (.inr (some (7, c)))), some (.inl a0), some (.inl a1), some (.inl (0 : Int32))], [.inl a0, .inr (.inr (some (51, c)))], mem E mu la)) (s2 := (32, [some (.inr (.inr (some (7, c)))), some (.inl a0), some (.inl a1), some (.inl (0 : Int32))], [.inl a0, .inr (.inr (some (51, c)))], mem E mu la)) rfl rfl rfl rfl (fun hc => ?_) (fun hc => ?_)
        · have h := h.1 hc
          dsimp only
          refine Ev.steps 3 (ip' := 37) (ls' := [some (.inr (.inr (some (7, c)))), some (.inl a0), some (.inl a1), some (.inl (0 : Int32))]) (st' := [.inl a0, .inr (.inr (some (51, c))), .inl a0, .inr (.inr (some (51, c)))]) (M' := mem E mu la) rfl ?_
          refine Ev.ial rfl rfl (by decide) h.1 ?_
          have h := h.2
          refine Ev.ias rfl rfl h.1 ?_
          have h := h.2
          generalize hgmu7 : up3 mu 51 c a0.toNatClampNeg (mu 51 c a0.toNatClampNeg) = mu7
          have h := h mu7 hgmu7.symm
          exact Ev.ret rfl rfl ⟨_, _, rfl, rfl, h⟩
        · have h := h.2 hc
          dsimp only
          refine Ev.steps 2 (ip' := 38) (ls' := [some (.inr (.inr (some (7, c)))), some (.inl a0), some (.inl a1), some (.inl (0 : Int32))]) (st' := [.inl a1, .inl a0, .inr (.inr (some (51, c)))]) (M' := mem E mu la) rfl ?_
          refine Ev.ias rfl rfl h.1 ?_
          have h := h.2
          generalize hgmu8 : up3 mu 51 c a0.toNatClampNeg a1 = mu8
          have h := h mu8 hgmu8.symm
          exact Ev.ret rfl rfl ⟨_, _, rfl, rfl, h⟩
      · have h := h.2 hc
        dsimp only
        refine Ev.steps 8 (ip' := 31) (ls' := [some (.inr (.inr (some (7, c)))), some (.inl a0), some (.inl a1), some (.inl (1 : Int32))]) (st' := [.inl (1 : Int32), .inl a0, .inr (.inr (some (51, c)))]) (M' := mem E mu la) rfl ?_
        refine Ev.br (c := (1 : Int32) = 0) (s1 := (34, [some (.inr (.inr (some (7, c)))), some (.inl a0), some (.inl a1), some (.inl (1 : Int32))], [.inl a0, .inr (.inr (some (51, c)))], mem E mu la)) (s2 := (32, [some (.inr (.inr (some (7, c)))), some (.inl a0), some (.inl a1), some (.inl (1 : Int32))], [.inl a0, .inr (.inr (some (51, c)))], mem E mu la)) rfl rfl rfl rfl (fun hc => ?_) (fun hc => ?_)
        · have h := h.1 hc
          dsimp only
          refine Ev.steps 3 (ip' := 37) (ls' := [some (.inr (.inr (some (7, c)))), some (.inl a0), some (.inl a1), some (.inl (1 : Int32))]) (st' := [.inl a0, .inr (.inr (some (51, c))), .inl a0, .inr (.inr (some (51, c)))]) (M' := mem E mu la) rfl ?_
          refine Ev.ial rfl rfl (by decide) h.1 ?_
          have h := h.2
          refine Ev.ias rfl rfl h.1 ?_
          have h := h.2
          generalize hgmu9 : up3 mu 51 c a0.toNatClampNeg (mu 51 c a0.toNatClampNeg) = mu9
          have h := h mu9 hgmu9.symm
          exact Ev.ret rfl rfl ⟨_, _, rfl, rfl, h⟩
        · have h := h.2 hc
          dsimp only
          refine Ev.steps 2 (ip' := 38) (ls' := [some (.inr (.inr (some (7, c)))), some (.inl a0), some (.inl a1), some (.inl (1 : Int32))]) (st' := [.inl a1, .inl a0, .inr (.inr (some (51, c)))]) (M' := mem E mu la) rfl ?_
          refine Ev.ias rfl rfl h.1 ?_
          have h := h.2
          generalize hgmu10 : up3 mu 51 c a0.toNatClampNeg a1 = mu10
          have h := h mu10 hgmu10.symm
          exact Ev.ret rfl rfl ⟨_, _, rfl, rfl, h⟩
set_option maxRecDepth 100000 in
/-- AnnCupsModel.barGoes(I)Z -/
theorem vc_X7_barGoes {E : mEv} {d : Nat} {c : Nat} (a0 : Int32) {mu : fMu} {la : fLa} {Q : Int32 → fMu → fLa → Prop} (h : FnI E d mi_165 [.inr (.inr (some (7, c))), .inr (.inr (some (39, c)))] mu la (fun x1 mu2 la3 => (¬ x1 = (((1 : Int32) <<< ((mu2 7 c 4) &&& 31)) - (1 : Int32)) → ((¬ a0 = (6 : Int32) → (((6 : Int32) < a0 → (Q (0 : Int32) mu2 la3)) ∧ (¬ ((6 : Int32) < a0) → (FnI E d mi_155 [.inr (.inr (some (7, c))), .inl a0] mu2 la3 (fun x4 mu5 la6 => (x4 = 0 → (Q (0 : Int32) mu5 la6)) ∧ (¬ (x4 = 0) → (FnI E d mi_162 [.inr (.inr (some (39, c))), .inl a0] mu5 la6 (fun x7 mu8 la9 => (x7 = 0 → (FnV E d mi_161 [.inr (.inr (some (7, c))), .inr (.inr (some (39, c))), .inl a0, .inl (mu8 7 c 5)] mu8 la9 (fun mu11 la12 => Q (1 : Int32) mu11 la12))) ∧ (¬ (x7 = 0) → (Q (0 : Int32) mu8 la9)))))))))) ∧ (¬ (¬ a0 = (6 : Int32)) → (Q (0 : Int32) mu2 la3)))) ∧ (¬ (¬ x1 = (((1 : Int32) <<< ((mu2 7 c 4) &&& 31)) - (1 : Int32))) → ((¬ a0 = (6 : Int32) → (((6 : Int32) < a0 → (Q (0 : Int32) mu2 la3)) ∧ (¬ ((6 : Int32) < a0) → (FnI E d mi_155 [.inr (.inr (some (7, c))), .inl a0] mu2 la3 (fun x13 mu14 la15 => (x13 = 0 → (Q (0 : Int32) mu14 la15)) ∧ (¬ (x13 = 0) → (FnI E d mi_162 [.inr (.inr (some (39, c))), .inl a0] mu14 la15 (fun x16 mu17 la18 => (x16 = 0 → (FnV E d mi_161 [.inr (.inr (some (7, c))), .inr (.inr (some (39, c))), .inl a0, .inl (mu17 7 c 5)] mu17 la18 (fun mu20 la21 => Q (1 : Int32) mu20 la21))) ∧ (¬ (x16 = 0) → (Q (0 : Int32) mu17 la18)))))))))) ∧ (¬ (¬ a0 = (6 : Int32)) → (Q (1 : Int32) mu2 la3)))))) : FnI E (d + 1) mi_208 [.inr (.inr (some (7, c))), .inl a0] mu la Q := by
  unfold FnI
  show Ev E (d + 1) mi_208 0 [some (.inr (.inr (some (7, c)))), some (.inl a0), none] [] (mem E mu la) (qI E Q)
  refine Ev.steps 3 (ip' := 3) (ls' := [some (.inr (.inr (some (7, c)))), some (.inl a0), none]) (st' := [.inr (.inr (some (39, c))), .inr (.inr (some (7, c)))]) (M' := mem E mu la) rfl ?_
  refine Ev.ci (J := mi_165) (as := [.inr (.inr (some (7, c))), .inr (.inr (some (39, c)))]) (rest := []) rfl rfl rfl (Nat.le_of_ble_eq_true rfl) h (fun x1 mu2 la3 h => ?_)
  refine Ev.steps 6 (ip' := 10) (ls' := [some (.inr (.inr (some (7, c)))), some (.inl a0), none]) (st' := [.inl (((1 : Int32) <<< ((mu2 7 c 4) &&& 31)) - (1 : Int32)), .inl x1]) (M' := mem E mu2 la3) rfl ?_
  refine Ev.br (c := ¬ x1 = (((1 : Int32) <<< ((mu2 7 c 4) &&& 31)) - (1 : Int32))) (s1 := (13, [some (.inr (.inr (some (7, c)))), some (.inl a0), none], [], mem E mu2 la3)) (s2 := (11, [some (.inr (.inr (some (7, c)))), some (.inl a0), none], [], mem E mu2 la3)) rfl rfl rfl rfl (fun hc => ?_) (fun hc => ?_)
  · have h := h.1 hc
    dsimp only
    refine Ev.steps 4 (ip' := 17) (ls' := [some (.inr (.inr (some (7, c)))), some (.inl a0), some (.inl (0 : Int32))]) (st' := [.inl (6 : Int32), .inl a0]) (M' := mem E mu2 la3) rfl ?_
    refine Ev.br (c := ¬ a0 = (6 : Int32)) (s1 := (20, [some (.inr (.inr (some (7, c)))), some (.inl a0), some (.inl (0 : Int32))], [], mem E mu2 la3)) (s2 := (18, [some (.inr (.inr (some (7, c)))), some (.inl a0), some (.inl (0 : Int32))], [], mem E mu2 la3)) rfl rfl rfl rfl (fun hc => ?_) (fun hc => ?_)
    · have h := h.1 hc
      dsimp only
      refine Ev.steps 2 (ip' := 22) (ls' := [some (.inr (.inr (some (7, c)))), some (.inl a0), some (.inl (0 : Int32))]) (st' := [.inl (6 : Int32), .inl a0]) (M' := mem E mu2 la3) rfl ?_
      refine Ev.br (c := (6 : Int32) < a0) (s1 := (32, [some (.inr (.inr (some (7, c)))), some (.inl a0), some (.inl (0 : Int32))], [], mem E mu2 la3)) (s2 := (23, [some (.inr (.inr (some (7, c)))), some (.inl a0), some (.inl (0 : Int32))], [], mem E mu2 la3)) rfl rfl rfl rfl (fun hc => ?_) (fun hc => ?_)
      · have h := h.1 hc
        dsimp only
        refine Ev.steps 1 (ip' := 33) (ls' := [some (.inr (.inr (some (7, c)))), some (.inl a0), some (.inl (0 : Int32))]) (st' := [.inl (0 : Int32)]) (M' := mem E mu2 la3) rfl ?_
        exact Ev.retZ rfl rfl (Or.inl rfl) ⟨_, _, _, rfl, rfl, h⟩
      · have h := h.2 hc
        dsimp only
        refine Ev.steps 2 (ip' := 25) (ls' := [some (.inr (.inr (some (7, c)))), some (.inl a0), some (.inl (0 : Int32))]) (st' := [.inl a0, .inr (.inr (some (7, c)))]) (M' := mem E mu2 la3) rfl ?_
        refine Ev.ci (J := mi_155) (as := [.inr (.inr (some (7, c))), .inl a0]) (rest := []) rfl rfl rfl (Nat.le_of_ble_eq_true rfl) h (fun x4 mu5 la6 h => ?_)
        refine Ev.br (c := x4 = 0) (s1 := (32, [some (.inr (.inr (some (7, c)))), some (.inl a0), some (.inl (0 : Int32))], [], mem E mu5 la6)) (s2 := (27, [some (.inr (.inr (some (7, c)))), some (.inl a0), some (.inl (0 : Int32))], [], mem E mu5 la6)) rfl rfl rfl rfl (fun hc => ?_) (fun hc => ?_)
        · have h := h.1 hc
          dsimp only
          refine Ev.steps 1 (ip' := 33) (ls' := [some (.inr (.inr (some (7, c)))), some (.inl a0), some (.inl (0 : Int32))]) (st' := [.inl (0 : Int32)]) (M' := mem E mu5 la6) rfl ?_
          exact Ev.retZ rfl rfl (Or.inl rfl) ⟨_, _, _, rfl, rfl, h⟩
        · have h := h.2 hc
          dsimp only
          refine Ev.steps 3 (ip' := 30) (ls' := [some (.inr (.inr (some (7, c)))), some (.inl a0), some (.inl (0 : Int32))]) (st' := [.inl a0, .inr (.inr (some (39, c)))]) (M' := mem E mu5 la6) rfl ?_
          refine Ev.ci (J := mi_162) (as := [.inr (.inr (some (39, c))), .inl a0]) (rest := []) rfl rfl rfl (Nat.le_of_ble_eq_true rfl) h (fun x7 mu8 la9 h => ?_)
          refine Ev.br (c := x7 = 0) (s1 := (34, [some (.inr (.inr (some (7, c)))), some (.inl a0), some (.inl (0 : Int32))], [], mem E mu8 la9)) (s2 := (32, [some (.inr (.inr (some (7, c)))), some (.inl a0), some (.inl (0 : Int32))], [], mem E mu8 la9)) rfl rfl rfl rfl (fun hc => ?_) (fun hc => ?_)
          · have h := h.1 hc
            dsimp only
            refine Ev.steps 6 (ip' := 40) (ls' := [some (.inr (.inr (some (7, c)))), some (.inl a0), some (.inl (0 : Int32))]) (st' := [.inl (mu8 7 c 5), .inl a0, .inr (.inr (some (39, c))), .inr (.inr (some (7, c)))]) (M' := mem E mu8 la9) rfl ?_
            refine Ev.cv (J := mi_161) (as := [.inr (.inr (some (7, c))), .inr (.inr (some (39, c))), .inl a0, .inl (mu8 7 c 5)]) (rest := []) rfl rfl rfl (Nat.le_of_ble_eq_true rfl) h (fun mu11 la12 h => ?_)
            refine Ev.steps 1 (ip' := 42) (ls' := [some (.inr (.inr (some (7, c)))), some (.inl a0), some (.inl (0 : Int32))]) (st' := [.inl (1 : Int32)]) (M' := mem E mu11 la12) rfl ?_
            exact Ev.retZ rfl rfl (Or.inr rfl) ⟨_, _, _, rfl, rfl, h⟩
          · have h := h.2 hc
            dsimp only
            refine Ev.steps 1 (ip' := 33) (ls' := [some (.inr (.inr (some (7, c)))), some (.inl a0), some (.inl (0 : Int32))]) (st' := [.inl (0 : Int32)]) (M' := mem E mu8 la9) rfl ?_
            exact Ev.retZ rfl rfl (Or.inl rfl) ⟨_, _, _, rfl, rfl, h⟩
    · have h := h.2 hc
      dsimp only
      refine Ev.steps 1 (ip' := 19) (ls' := [some (.inr (.inr (some (7, c)))), some (.inl a0), some (.inl (0 : Int32))]) (st' := [.inl (0 : Int32)]) (M' := mem E mu2 la3) rfl ?_
      exact Ev.retZ rfl rfl (Or.inl rfl) ⟨_, _, _, rfl, rfl, h⟩
  · have h := h.2 hc
    dsimp only
    refine Ev.steps 5 (ip' := 17) (ls' := [some (.inr (.inr (some (7, c)))), some (.inl a0), some (.inl (1 : Int32))]) (st' := [.inl (6 : Int32), .inl a0]) (M' := mem E mu2 la3) rfl ?_
    refine Ev.br (c := ¬ a0 = (6 : Int32)) (s1 := (20, [some (.inr (.inr (some (7, c)))), some (.inl a0), some (.inl (1 : Int32))], [], mem E mu2 la3)) (s2 := (18, [some (.inr (.inr (some (7, c)))), some (.inl a0), some (.inl (1 : Int32))], [], mem E mu2 la3)) rfl rfl rfl rfl (fun hc => ?_) (fun hc => ?_)
    · have h := h.1 hc
      dsimp only
      refine Ev.steps 2 (ip' := 22) (ls' := [some (.inr (.inr (some (7, c)))), some (.inl a0), some (.inl (1 : Int32))]) (st' := [.inl (6 : Int32), .inl a0]) (M' := mem E mu2 la3) rfl ?_
      refine Ev.br (c := (6 : Int32) < a0) (s1 := (32, [some (.inr (.inr (some (7, c)))), some (.inl a0), some (.inl (1 : Int32))], [], mem E mu2 la3)) (s2 := (23, [some (.inr (.inr (some (7, c)))), some (.inl a0), some (.inl (1 : Int32))], [], mem E mu2 la3)) rfl rfl rfl rfl (fun hc => ?_) (fun hc => ?_)
      · have h := h.1 hc
        dsimp only
        refine Ev.steps 1 (ip' := 33) (ls' := [some (.inr (.inr (some (7, c)))), some (.inl a0), some (.inl (1 : Int32))]) (st' := [.inl (0 : Int32)]) (M' := mem E mu2 la3) rfl ?_
        exact Ev.retZ rfl rfl (Or.inl rfl) ⟨_, _, _, rfl, rfl, h⟩
      · have h := h.2 hc
        dsimp only
        refine Ev.steps 2 (ip' := 25) (ls' := [some (.inr (.inr (some (7, c)))), some (.inl a0), some (.inl (1 : Int32))]) (st' := [.inl a0, .inr (.inr (some (7, c)))]) (M' := mem E mu2 la3) rfl ?_
        refine Ev.ci (J := mi_155) (as := [.inr (.inr (some (7, c))), .inl a0]) (rest := []) rfl rfl rfl (Nat.le_of_ble_eq_true rfl) h (fun x13 mu14 la15 h => ?_)
        refine Ev.br (c := x13 = 0) (s1 := (32, [some (.inr (.inr (some (7, c)))), some (.inl a0), some (.inl (1 : Int32))], [], mem E mu14 la15)) (s2 := (27, [some (.inr (.inr (some (7, c)))), some (.inl a0), some (.inl (1 : Int32))], [], mem E mu14 la15)) rfl rfl rfl rfl (fun hc => ?_) (fun hc => ?_)
        · have h := h.1 hc
          dsimp only
          refine Ev.steps 1 (ip' := 33) (ls' := [some (.inr (.inr (some (7, c)))), some (.inl a0), some (.inl (1 : Int32))]) (st' := [.inl (0 : Int32)]) (M' := mem E mu14 la15) rfl ?_
          exact Ev.retZ rfl rfl (Or.inl rfl) ⟨_, _, _, rfl, rfl, h⟩
        · have h := h.2 hc
          dsimp only
          refine Ev.steps 3 (ip' := 30) (ls' := [some (.inr (.inr (some (7, c)))), some (.inl a0), some (.inl (1 : Int32))]) (st' := [.inl a0, .inr (.inr (some (39, c)))]) (M' := mem E mu14 la15) rfl ?_
          refine Ev.ci (J := mi_162) (as := [.inr (.inr (some (39, c))), .inl a0]) (rest := []) rfl rfl rfl (Nat.le_of_ble_eq_true rfl) h (fun x16 mu17 la18 h => ?_)
          refine Ev.br (c := x16 = 0) (s1 := (34, [some (.inr (.inr (some (7, c)))), some (.inl a0), some (.inl (1 : Int32))], [], mem E mu17 la18)) (s2 := (32, [some (.inr (.inr (some (7, c)))), some (.inl a0), some (.inl (1 : Int32))], [], mem E mu17 la18)) rfl rfl rfl rfl (fun hc => ?_) (fun hc => ?_)
          · have h := h.1 hc
            dsimp only
            refine Ev.steps 6 (ip' := 40) (ls' := [some (.inr (.inr (some (7, c)))), some (.inl a0), some (.inl (1 : Int32))]) (st' := [.inl (mu17 7 c 5), .inl a0, .inr (.inr (some (39, c))), .inr (.inr (some (7, c)))]) (M' := mem E mu17 la18) rfl ?_
            refine Ev.cv (J := mi_161) (as := [.inr (.inr (some (7, c))), .inr (.inr (some (39, c))), .inl a0, .inl (mu17 7 c 5)]) (rest := []) rfl rfl rfl (Nat.le_of_ble_eq_true rfl) h (fun mu20 la21 h => ?_)
            refine Ev.steps 1 (ip' := 42) (ls' := [some (.inr (.inr (some (7, c)))), some (.inl a0), some (.inl (1 : Int32))]) (st' := [.inl (1 : Int32)]) (M' := mem E mu20 la21) rfl ?_
            exact Ev.retZ rfl rfl (Or.inr rfl) ⟨_, _, _, rfl, rfl, h⟩
          · have h := h.2 hc
            dsimp only
            refine Ev.steps 1 (ip' := 33) (ls' := [some (.inr (.inr (some (7, c)))), some (.inl a0), some (.inl (1 : Int32))]) (st' := [.inl (0 : Int32)]) (M' := mem E mu17 la18) rfl ?_
            exact Ev.retZ rfl rfl (Or.inl rfl) ⟨_, _, _, rfl, rfl, h⟩
    · have h := h.2 hc
      dsimp only
      refine Ev.steps 1 (ip' := 19) (ls' := [some (.inr (.inr (some (7, c)))), some (.inl a0), some (.inl (1 : Int32))]) (st' := [.inl (1 : Int32)]) (M' := mem E mu2 la3) rfl ?_
      exact Ev.retZ rfl rfl (Or.inr rfl) ⟨_, _, _, rfl, rfl, h⟩
set_option maxRecDepth 100000 in
/-- AnnCupsModel.wagGoes(I)Z -/
theorem vc_X7_wagGoes {E : mEv} {d : Nat} {c : Nat} (a0 : Int32) {mu : fMu} {la : fLa} {Q : Int32 → fMu → fLa → Prop} (h : (¬ a0 = (36 : Int32) → ((¬ (6 : Int32) = 0) ∧ ((¬ (6 : Int32) = 0) ∧ (((a0 - a0 / (6 : Int32) * (6 : Int32)) ≤ (a0 / (6 : Int32)) → (Q (0 : Int32) mu la)) ∧ (¬ ((a0 - a0 / (6 : Int32) * (6 : Int32)) ≤ (a0 / (6 : Int32))) → (FnI E d mi_155 [.inr (.inr (some (7, c))), .inl (a0 - a0 / (6 : Int32) * (6 : Int32))] mu la (fun x1 mu2 la3 => (x1 = 0 → (Q (0 : Int32) mu2 la3)) ∧ (¬ (x1 = 0) → (FnI E d mi_164 [.inr (.inr (some (7, c))), .inr (.inr (some (39, c))), .inl (a0 / (6 : Int32))] mu2 la3 (fun x4 mu5 la6 => (x4 = (-9 : Int32) → (Q (0 : Int32) mu5 la6)) ∧ (¬ (x4 = (-9 : Int32)) → (FnI E d mi_164 [.inr (.inr (some (7, c))), .inr (.inr (some (39, c))), .inl (a0 - a0 / (6 : Int32) * (6 : Int32))] mu5 la6 (fun x7 mu8 la9 => (¬ x7 = (-9 : Int32) → (FnV E d mi_177 [.inr (.inr (some (7, c))), .inr (.inr (some (39, c))), .inl (a0 / (6 : Int32)), .inl (a0 - a0 / (6 : Int32) * (6 : Int32))] mu8 la9 (fun mu11 la12 => Q (1 : Int32) mu11 la12))) ∧ (¬ (¬ x7 = (-9 : Int32)) → (Q (0 : Int32) mu8 la9))))))))))))))) ∧ (¬ (¬ a0 = (36 : Int32)) → (Q (1 : Int32) mu la))) : FnI E (d + 1) mi_209 [.inr (.inr (some (7, c))), .inl a0] mu la Q := by
  unfold FnI
  show Ev E (d + 1) mi_209 0 [some (.inr (.inr (some (7, c)))), some (.inl a0), none, none] [] (mem E mu la) (qI E Q)
  refine Ev.steps 2 (ip' := 2) (ls' := [some (.inr (.inr (some (7, c)))), some (.inl a0), none, none]) (st' := [.inl (36 : Int32), .inl a0]) (M' := mem E mu la) rfl ?_
  refine Ev.br (c := ¬ a0 = (36 : Int32)) (s1 := (5, [some (.inr (.inr (some (7, c)))), some (.inl a0), none, none], [], mem E mu la)) (s2 := (3, [some (.inr (.inr (some (7, c)))), some (.inl a0), none, none], [], mem E mu la)) rfl rfl rfl rfl (fun hc => ?_) (fun hc => ?_)
  · have h := h.1 hc
    dsimp only
    refine Ev.steps 2 (ip' := 7) (ls' := [some (.inr (.inr (some (7, c)))), some (.inl a0), none, none]) (st' := [.inl (6 : Int32), .inl a0]) (M' := mem E mu la) rfl ?_
    refine Ev.want (c := (6 : Int32) = 0) (s2 := (8, [some (.inr (.inr (some (7, c)))), some (.inl a0), none, none], [.inl (a0 / (6 : Int32))], mem E mu la)) rfl rfl rfl rfl h.1 ?_
    have h := h.2
    refine Ev.steps 3 (ip' := 11) (ls' := [some (.inr (.inr (some (7, c)))), some (.inl a0), some (.inl (a0 / (6 : Int32))), none]) (st' := [.inl (6 : Int32), .inl a0]) (M' := mem E mu la) rfl ?_
    refine Ev.want (c := (6 : Int32) = 0) (s2 := (12, [some (.inr (.inr (some (7, c)))), some (.inl a0), some (.inl (a0 / (6 : Int32))), none], [.inl (a0 - a0 / (6 : Int32) * (6 : Int32))], mem E mu la)) rfl rfl rfl rfl h.1 ?_
    have h := h.2
    refine Ev.steps 3 (ip' := 15) (ls' := [some (.inr (.inr (some (7, c)))), some (.inl a0), some (.inl (a0 / (6 : Int32))), some (.inl (a0 - a0 / (6 : Int32) * (6 : Int32)))]) (st' := [.inl (a0 - a0 / (6 : Int32) * (6 : Int32)), .inl (a0 / (6 : Int32))]) (M' := mem E mu la) rfl ?_
    refine Ev.br (c := (a0 - a0 / (6 : Int32) * (6 : Int32)) ≤ (a0 / (6 : Int32))) (s1 := (34, [some (.inr (.inr (some (7, c)))), some (.inl a0), some (.inl (a0 / (6 : Int32))), some (.inl (a0 - a0 / (6 : Int32) * (6 : Int32)))], [], mem E mu la)) (s2 := (16, [some (.inr (.inr (some (7, c)))), some (.inl a0), some (.inl (a0 / (6 : Int32))), some (.inl (a0 - a0 / (6 : Int32) * (6 : Int32)))], [], mem E mu la)) rfl rfl rfl rfl (fun hc => ?_) (fun hc => ?_)
    · have h := h.1 hc
      dsimp only
      refine Ev.steps 1 (ip' := 35) (ls' := [some (.inr (.inr (some (7, c)))), some (.inl a0), some (.inl (a0 / (6 : Int32))), some (.inl (a0 - a0 / (6 : Int32) * (6 : Int32)))]) (st' := [.inl (0 : Int32)]) (M' := mem E mu la) rfl ?_
      exact Ev.retZ rfl rfl (Or.inl rfl) ⟨_, _, _, rfl, rfl, h⟩
    · have h := h.2 hc
      dsimp only
      refine Ev.steps 2 (ip' := 18) (ls' := [some (.inr (.inr (some (7, c)))), some (.inl a0), some (.inl (a0 / (6 : Int32))), some (.inl (a0 - a0 / (6 : Int32) * (6 : Int32)))]) (st' := [.inl (a0 - a0 / (6 : Int32) * (6 : Int32)), .inr (.inr (some (7, c)))]) (M' := mem E mu la) rfl ?_
      refine Ev.ci (J := mi_155) (as := [.inr (.inr (some (7, c))), .inl (a0 - a0 / (6 : Int32) * (6 : Int32))]) (rest := []) rfl rfl rfl (Nat.le_of_ble_eq_true rfl) h (fun x1 mu2 la3 h => ?_)
      refine Ev.br (c := x1 = 0) (s1 := (34, [some (.inr (.inr (some (7, c)))), some (.inl a0), some (.inl (a0 / (6 : Int32))), some (.inl (a0 - a0 / (6 : Int32) * (6 : Int32)))], [], mem E mu2 la3)) (s2 := (20, [some (.inr (.inr (some (7, c)))), some (.inl a0), some (.inl (a0 / (6 : Int32))), some (.inl (a0 - a0 / (6 : Int32) * (6 : Int32)))], [], mem E mu2 la3)) rfl rfl rfl rfl (fun hc => ?_) (fun hc => ?_)
      · have h := h.1 hc
        dsimp only
        refine Ev.steps 1 (ip' := 35) (ls' := [some (.inr (.inr (some (7, c)))), some (.inl a0), some (.inl (a0 / (6 : Int32))), some (.inl (a0 - a0 / (6 : Int32) * (6 : Int32)))]) (st' := [.inl (0 : Int32)]) (M' := mem E mu2 la3) rfl ?_
        exact Ev.retZ rfl rfl (Or.inl rfl) ⟨_, _, _, rfl, rfl, h⟩
      · have h := h.2 hc
        dsimp only
        refine Ev.steps 4 (ip' := 24) (ls' := [some (.inr (.inr (some (7, c)))), some (.inl a0), some (.inl (a0 / (6 : Int32))), some (.inl (a0 - a0 / (6 : Int32) * (6 : Int32)))]) (st' := [.inl (a0 / (6 : Int32)), .inr (.inr (some (39, c))), .inr (.inr (some (7, c)))]) (M' := mem E mu2 la3) rfl ?_
        refine Ev.ci (J := mi_164) (as := [.inr (.inr (some (7, c))), .inr (.inr (some (39, c))), .inl (a0 / (6 : Int32))]) (rest := []) rfl rfl rfl (Nat.le_of_ble_eq_true rfl) h (fun x4 mu5 la6 h => ?_)
        refine Ev.steps 1 (ip' := 26) (ls' := [some (.inr (.inr (some (7, c)))), some (.inl a0), some (.inl (a0 / (6 : Int32))), some (.inl (a0 - a0 / (6 : Int32) * (6 : Int32)))]) (st' := [.inl (-9 : Int32), .inl x4]) (M' := mem E mu5 la6) rfl ?_
        refine Ev.br (c := x4 = (-9 : Int32)) (s1 := (34, [some (.inr (.inr (some (7, c)))), some (.inl a0), some (.inl (a0 / (6 : Int32))), some (.inl (a0 - a0 / (6 : Int32) * (6 : Int32)))], [], mem E mu5 la6)) (s2 := (27, [some (.inr (.inr (some (7, c)))), some (.inl a0), some (.inl (a0 / (6 : Int32))), some (.inl (a0 - a0 / (6 : Int32) * (6 : Int32)))], [], mem E mu5 la6)) rfl rfl rfl rfl (fun hc => ?_) (fun hc => ?_)
        · have h := h.1 hc
          dsimp only
          refine Ev.steps 1 (ip' := 35) (ls' := [some (.inr (.inr (some (7, c)))), some (.inl a0), some (.inl (a0 / (6 : Int32))), some (.inl (a0 - a0 / (6 : Int32) * (6 : Int32)))]) (st' := [.inl (0 : Int32)]) (M' := mem E mu5 la6) rfl ?_
          exact Ev.retZ rfl rfl (Or.inl rfl) ⟨_, _, _, rfl, rfl, h⟩
        · have h := h.2 hc
          dsimp only
          refine Ev.steps 4 (ip' := 31) (ls' := [some (.inr (.inr (some (7, c)))), some (.inl a0), some (.inl (a0 / (6 : Int32))), some (.inl (a0 - a0 / (6 : Int32) * (6 : Int32)))]) (st' := [.inl (a0 - a0 / (6 : Int32) * (6 : Int32)), .inr (.inr (some (39, c))), .inr (.inr (some (7, c)))]) (M' := mem E mu5 la6) rfl ?_
          refine Ev.ci (J := mi_164) (as := [.inr (.inr (some (7, c))), .inr (.inr (some (39, c))), .inl (a0 - a0 / (6 : Int32) * (6 : Int32))]) (rest := []) rfl rfl rfl (Nat.le_of_ble_eq_true rfl) h (fun x7 mu8 la9 h => ?_)
          refine Ev.steps 1 (ip' := 33) (ls' := [some (.inr (.inr (some (7, c)))), some (.inl a0), some (.inl (a0 / (6 : Int32))), some (.inl (a0 - a0 / (6 : Int32) * (6 : Int32)))]) (st' := [.inl (-9 : Int32), .inl x7]) (M' := mem E mu8 la9) rfl ?_
          refine Ev.br (c := ¬ x7 = (-9 : Int32)) (s1 := (36, [some (.inr (.inr (some (7, c)))), some (.inl a0), some (.inl (a0 / (6 : Int32))), some (.inl (a0 - a0 / (6 : Int32) * (6 : Int32)))], [], mem E mu8 la9)) (s2 := (34, [some (.inr (.inr (some (7, c)))), some (.inl a0), some (.inl (a0 / (6 : Int32))), some (.inl (a0 - a0 / (6 : Int32) * (6 : Int32)))], [], mem E mu8 la9)) rfl rfl rfl rfl (fun hc => ?_) (fun hc => ?_)
          · have h := h.1 hc
            dsimp only
            refine Ev.steps 5 (ip' := 41) (ls' := [some (.inr (.inr (some (7, c)))), some (.inl a0), some (.inl (a0 / (6 : Int32))), some (.inl (a0 - a0 / (6 : Int32) * (6 : Int32)))]) (st' := [.inl (a0 - a0 / (6 : Int32) * (6 : Int32)), .inl (a0 / (6 : Int32)), .inr (.inr (some (39, c))), .inr (.inr (some (7, c)))]) (M' := mem E mu8 la9) rfl ?_
            refine Ev.cv (J := mi_177) (as := [.inr (.inr (some (7, c))), .inr (.inr (some (39, c))), .inl (a0 / (6 : Int32)), .inl (a0 - a0 / (6 : Int32) * (6 : Int32))]) (rest := []) rfl rfl rfl (Nat.le_of_ble_eq_true rfl) h (fun mu11 la12 h => ?_)
            refine Ev.steps 1 (ip' := 43) (ls' := [some (.inr (.inr (some (7, c)))), some (.inl a0), some (.inl (a0 / (6 : Int32))), some (.inl (a0 - a0 / (6 : Int32) * (6 : Int32)))]) (st' := [.inl (1 : Int32)]) (M' := mem E mu11 la12) rfl ?_
            exact Ev.retZ rfl rfl (Or.inr rfl) ⟨_, _, _, rfl, rfl, h⟩
          · have h := h.2 hc
            dsimp only
            refine Ev.steps 1 (ip' := 35) (ls' := [some (.inr (.inr (some (7, c)))), some (.inl a0), some (.inl (a0 / (6 : Int32))), some (.inl (a0 - a0 / (6 : Int32) * (6 : Int32)))]) (st' := [.inl (0 : Int32)]) (M' := mem E mu8 la9) rfl ?_
            exact Ev.retZ rfl rfl (Or.inl rfl) ⟨_, _, _, rfl, rfl, h⟩
  · have h := h.2 hc
    dsimp only
    refine Ev.steps 1 (ip' := 4) (ls' := [some (.inr (.inr (some (7, c)))), some (.inl a0), none, none]) (st' := [.inl (1 : Int32)]) (M' := mem E mu la) rfl ?_
    exact Ev.retZ rfl rfl (Or.inr rfl) ⟨_, _, _, rfl, rfl, h⟩
set_option maxRecDepth 100000 in
/-- AnnCupsModel.wag(I)I -/
theorem vc_X7_wag {E : mEv} {d : Nat} {c : Nat} (a0 : Int32) {mu : fMu} {la : fLa} {Q : Int32 → fMu → fLa → Prop} (h : FnI E d mi_129 [.inr (.inl a0.toInt64), .inr (.inl (0 : Int64)), .inr (.inl (2 : Int64))] mu la (fun x1 mu2 la3 => (¬ x1 = 0 → ((¬ (mu2 7 c 4) = 0 → ((¬ a0 = 0 → (FnV E d mi_174 [.inr (.inr (some (38, c))), .inl (0 : Int32), .inr (.inr (some (49, c))), .inl (0 : Int32), .inl (9 : Int32)] mu2 la3 (fun mu5 la6 => FnV E d mi_206 [.inr (.inr (some (7, c))), .inl (0 : Int32)] mu5 la6 (fun mu8 la9 => Ev E (d + 1) mi_210 34 [some (.inr (.inr (some (7, c)))), some (.inl a0), some (.inl (0 : Int32))] [] (mem E mu8 la9) (qI E Q))))) ∧ (¬ (¬ a0 = 0) → (FnI E d mi_163 [.inr (.inr (some (7, c))), .inr (.inr (some (38, c)))] mu2 la3 (fun x10 mu11 la12 => FnI E d mi_131 [.inl x10] mu11 la12 (fun x13 mu14 la15 => Q x13 mu14 la15)))))) ∧ (¬ (¬ (mu2 7 c 4) = 0) → (Q (-4 : Int32) mu2 la3)))) ∧ (¬ (¬ x1 = 0) → (Q (-1 : Int32) mu2 la3)))) : FnI E (d + 1) mi_210 [.inr (.inr (some (7, c))), .inl a0] mu la Q := by
  unfold FnI
  show Ev E (d + 1) mi_210 0 [some (.inr (.inr (some (7, c)))), some (.inl a0), none] [] (mem E mu la) (qI E Q)
  refine Ev.steps 4 (ip' := 4) (ls' := [some (.inr (.inr (some (7, c)))), some (.inl a0), none]) (st' := [.inr (.inl (2 : Int64)), .inr (.inl (0 : Int64)), .inr (.inl a0.toInt64)]) (M' := mem E mu la) rfl ?_
  refine Ev.ci (J := mi_129) (as := [.inr (.inl a0.toInt64), .inr (.inl (0 : Int64)), .inr (.inl (2 : Int64))]) (rest := []) rfl rfl rfl (Nat.le_of_ble_eq_true rfl) h (fun x1 mu2 la3 h => ?_)
  refine Ev.br (c := ¬ x1 = 0) (s1 := (8, [some (.inr (.inr (some (7, c)))), some (.inl a0), none], [], mem E mu2 la3)) (s2 := (6, [some (.inr (.inr (some (7, c)))), some (.inl a0), none], [], mem E mu2 la3)) rfl rfl rfl rfl (fun hc => ?_) (fun hc => ?_)
  · have h := h.1 hc
    dsimp only
    refine Ev.steps 2 (ip' := 10) (ls' := [some (.inr (.inr (some (7, c)))), some (.inl a0), none]) (st' := [.inl (mu2 7 c 4)]) (M' := mem E mu2 la3) rfl ?_
    refine Ev.br (c := ¬ (mu2 7 c 4) = 0) (s1 := (13, [some (.inr (.inr (some (7, c)))), some (.inl a0), none], [], mem E mu2 la3)) (s2 := (11, [some (.inr (.inr (some (7, c)))), some (.inl a0), none], [], mem E mu2 la3)) rfl rfl rfl rfl (fun hc => ?_) (fun hc => ?_)
    · have h := h.1 hc
      dsimp only
      refine Ev.steps 1 (ip' := 14) (ls' := [some (.inr (.inr (some (7, c)))), some (.inl a0), none]) (st' := [.inl a0]) (M' := mem E mu2 la3) rfl ?_
      refine Ev.br (c := ¬ a0 = 0) (s1 := (21, [some (.inr (.inr (some (7, c)))), some (.inl a0), none], [], mem E mu2 la3)) (s2 := (15, [some (.inr (.inr (some (7, c)))), some (.inl a0), none], [], mem E mu2 la3)) rfl rfl rfl rfl (fun hc => ?_) (fun hc => ?_)
      · have h := h.1 hc
        dsimp only
        refine Ev.steps 7 (ip' := 28) (ls' := [some (.inr (.inr (some (7, c)))), some (.inl a0), none]) (st' := [.inl (9 : Int32), .inl (0 : Int32), .inr (.inr (some (49, c))), .inl (0 : Int32), .inr (.inr (some (38, c)))]) (M' := mem E mu2 la3) rfl ?_
        refine Ev.cv (J := mi_174) (as := [.inr (.inr (some (38, c))), .inl (0 : Int32), .inr (.inr (some (49, c))), .inl (0 : Int32), .inl (9 : Int32)]) (rest := []) rfl rfl rfl (Nat.le_of_ble_eq_true rfl) h (fun mu5 la6 h => ?_)
        refine Ev.steps 2 (ip' := 31) (ls' := [some (.inr (.inr (some (7, c)))), some (.inl a0), none]) (st' := [.inl (0 : Int32), .inr (.inr (some (7, c)))]) (M' := mem E mu5 la6) rfl ?_
        refine Ev.cv (J := mi_206) (as := [.inr (.inr (some (7, c))), .inl (0 : Int32)]) (rest := []) rfl rfl rfl (Nat.le_of_ble_eq_true rfl) h (fun mu8 la9 h => ?_)
        refine Ev.steps 2 (ip' := 34) (ls' := [some (.inr (.inr (some (7, c)))), some (.inl a0), some (.inl (0 : Int32))]) (st' := []) (M' := mem E mu8 la9) rfl ?_
        exact h
      · have h := h.2 hc
        dsimp only
        refine Ev.steps 3 (ip' := 18) (ls' := [some (.inr (.inr (some (7, c)))), some (.inl a0), none]) (st' := [.inr (.inr (some (38, c))), .inr (.inr (some (7, c)))]) (M' := mem E mu2 la3) rfl ?_
        refine Ev.ci (J := mi_163) (as := [.inr (.inr (some (7, c))), .inr (.inr (some (38, c)))]) (rest := []) rfl rfl rfl (Nat.le_of_ble_eq_true rfl) h (fun x10 mu11 la12 h => ?_)
        refine Ev.ci (J := mi_131) (as := [.inl x10]) (rest := []) rfl rfl rfl (Nat.le_of_ble_eq_true rfl) h (fun x13 mu14 la15 h => ?_)
        exact Ev.ret rfl rfl ⟨_, _, _, rfl, rfl, h⟩
    · have h := h.2 hc
      dsimp only
      refine Ev.steps 1 (ip' := 12) (ls' := [some (.inr (.inr (some (7, c)))), some (.inl a0), none]) (st' := [.inl (-4 : Int32)]) (M' := mem E mu2 la3) rfl ?_
      exact Ev.ret rfl rfl ⟨_, _, _, rfl, rfl, h⟩
  · have h := h.2 hc
    dsimp only
    refine Ev.steps 1 (ip' := 7) (ls' := [some (.inr (.inr (some (7, c)))), some (.inl a0), none]) (st' := [.inl (-1 : Int32)]) (M' := mem E mu2 la3) rfl ?_
    exact Ev.ret rfl rfl ⟨_, _, _, rfl, rfl, h⟩
set_option maxRecDepth 100000 in
theorem vc_X7_wag_34 {E : mEv} {d : Nat}  (v0 : Nat) (v1 : Int32) (v2 : Int32) {mu : fMu} {la : fLa} {Q : Int32 → fMu → fLa → Prop} (h : (v2 < 0 → (vp_in (0 : Int32) 5 ∧ (Q (mu 51 v0 (0 : Int32).toNatClampNeg) mu la))) ∧ (¬ (v2 < 0) → (vp_in v2 5 ∧ (vp_in v2 5 ∧ ∀ mu16 : fMu, mu16 = up3 mu 50 v0 v2.toNatClampNeg ((mu 50 v0 v2.toNatClampNeg) + (1 : Int32)) → (FnV E d mi_174 [.inr (.inr (some (49, v0))), .inl ((9 : Int32) * v2), .inr (.inr (some (39, v0))), .inl (0 : Int32), .inl (9 : Int32)] mu16 la (fun mu18 la19 => vp_in v2 5 ∧ (((mu18 50 v0 v2.toNatClampNeg) ≤ (36 : Int32) → ((¬ (2 : Int32) = 0) ∧ ((¬ (v2 - v2 / (2 : Int32) * (2 : Int32)) = 0 → (vp_in v2 5 ∧ (FnI E d mi_209 [.inr (.inr (some (7, v0))), .inl (mu18 50 v0 v2.toNatClampNeg)] mu18 la19 (fun x20 mu21 la22 => (x20 = 0 → (Ev E (d + 1) mi_210 34 [some (.inr (.inr (some (7, v0)))), some (.inl v1), some (.inl v2)] [] (mem E mu21 la22) (qI E Q))) ∧ (¬ (x20 = 0) → ((¬ (v2 + (1 : Int32)) = ((2 : Int32) * v1) → (FnV E d mi_174 [.inr (.inr (some (39, v0))), .inl (0 : Int32), .inr (.inr (some (49, v0))), .inl ((9 : Int32) * (v2 + (1 : Int32))), .inl (9 : Int32)] mu21 la22 (fun mu24 la25 => FnV E d mi_206 [.inr (.inr (some (7, v0))), .inl (v2 + (1 : Int32))] mu24 la25 (fun mu27 la28 => Ev E (d + 1) mi_210 34 [some (.inr (.inr (some (7, v0)))), some (.inl v1), some (.inl (v2 + (1 : Int32)))] [] (mem E mu27 la28) (qI E Q))))) ∧ (¬ (¬ (v2 + (1 : Int32)) = ((2 : Int32) * v1)) → (FnI E d mi_163 [.inr (.inr (some (7, v0))), .inr (.inr (some (39, v0)))] mu21 la22 (fun x29 mu30 la31 => FnI E d mi_131 [.inl x29] mu30 la31 (fun x32 mu33 la34 => FnV E d mi_207 [.inr (.inr (some (7, v0))), .inl v2, .inl x32] mu33 la34 (fun mu36 la37 => Ev E (d + 1) mi_210 34 [some (.inr (.inr (some (7, v0)))), some (.inl v1), some (.inl v2)] [] (mem E mu36 la37) (qI E Q)))))))))))) ∧ (¬ (¬ (v2 - v2 / (2 : Int32) * (2 : Int32)) = 0) → (vp_in v2 5 ∧ (FnI E d mi_208 [.inr (.inr (some (7, v0))), .inl (mu18 50 v0 v2.toNatClampNeg)] mu18 la19 (fun x38 mu39 la40 => (x38 = 0 → (Ev E (d + 1) mi_210 34 [some (.inr (.inr (some (7, v0)))), some (.inl v1), some (.inl v2)] [] (mem E mu39 la40) (qI E Q))) ∧ (¬ (x38 = 0) → ((¬ (v2 + (1 : Int32)) = ((2 : Int32) * v1) → (FnV E d mi_174 [.inr (.inr (some (39, v0))), .inl (0 : Int32), .inr (.inr (some (49, v0))), .inl ((9 : Int32) * (v2 + (1 : Int32))), .inl (9 : Int32)] mu39 la40 (fun mu42 la43 => FnV E d mi_206 [.inr (.inr (some (7, v0))), .inl (v2 + (1 : Int32))] mu42 la43 (fun mu45 la46 => Ev E (d + 1) mi_210 34 [some (.inr (.inr (some (7, v0)))), some (.inl v1), some (.inl (v2 + (1 : Int32)))] [] (mem E mu45 la46) (qI E Q))))) ∧ (¬ (¬ (v2 + (1 : Int32)) = ((2 : Int32) * v1)) → (FnI E d mi_163 [.inr (.inr (some (7, v0))), .inr (.inr (some (39, v0)))] mu39 la40 (fun x47 mu48 la49 => FnI E d mi_131 [.inl x47] mu48 la49 (fun x50 mu51 la52 => FnV E d mi_207 [.inr (.inr (some (7, v0))), .inl v2, .inl x50] mu51 la52 (fun mu54 la55 => Ev E (d + 1) mi_210 34 [some (.inr (.inr (some (7, v0)))), some (.inl v1), some (.inl v2)] [] (mem E mu54 la55) (qI E Q))))))))))))))) ∧ (¬ ((mu18 50 v0 v2.toNatClampNeg) ≤ (36 : Int32)) → (∀ w56 : Int32, w56 = v2 + (-1 : Int32) → ((w56 < 0 → (Ev E (d + 1) mi_210 34 [some (.inr (.inr (some (7, v0)))), some (.inl v1), some (.inl w56)] [] (mem E mu18 la19) (qI E Q))) ∧ (¬ (w56 < 0) → (vp_in (w56 + (1 : Int32)) 5 ∧ (FnV E d mi_207 [.inr (.inr (some (7, v0))), .inl w56, .inl (mu18 51 v0 (w56 + (1 : Int32)).toNatClampNeg)] mu18 la19 (fun mu58 la59 => Ev E (d + 1) mi_210 34 [some (.inr (.inr (some (7, v0)))), some (.inl v1), some (.inl w56)] [] (mem E mu58 la59) (qI E Q))))))))))))))) : Ev E (d + 1) mi_210 34 [some (.inr (.inr (some (7, v0)))), some (.inl v1), some (.inl v2)] [] (mem E mu la) (qI E Q) := by
  refine Ev.steps 1 (ip' := 35) (ls' := [some (.inr (.inr (some (7, v0)))), some (.inl v1), some (.inl v2)]) (st' := [.inl v2]) (M' := mem E mu la) rfl ?_
  refine Ev.br (c := v2 < 0) (s1 := (123, [some (.inr (.inr (some (7, v0)))), some (.inl v1), some (.inl v2)], [], mem E mu la)) (s2 := (36, [some (.inr (.inr (some (7, v0)))), some (.inl v1), some (.inl v2)], [], mem E mu la)) rfl rfl rfl rfl (fun hc => ?_) (fun hc => ?_)
  · have h := h.1 hc
    dsimp only
    refine Ev.steps 3 (ip' := 126) (ls' := [some (.inr (.inr (some (7, v0)))), some (.inl v1), some (.inl v2)]) (st' := [.inl (0 : Int32), .inr (.inr (some (51, v0)))]) (M' := mem E mu la) rfl ?_
    refine Ev.ial rfl rfl (by decide) h.1 ?_
    have h := h.2
    exact Ev.ret rfl rfl ⟨_, _, _, rfl, rfl, h⟩
  · have h := h.2 hc
    dsimp only
    refine Ev.steps 4 (ip' := 40) (ls' := [some (.inr (.inr (some (7, v0)))), some (.inl v1), some (.inl v2)]) (st' := [.inl v2, .inr (.inr (some (50, v0))), .inl v2, .inr (.inr (some (50, v0)))]) (M' := mem E mu la) rfl ?_
    refine Ev.ial rfl rfl (by decide) h.1 ?_
    have h := h.2
    refine Ev.steps 2 (ip' := 43) (ls' := [some (.inr (.inr (some (7, v0)))), some (.inl v1), some (.inl v2)]) (st' := [.inl ((mu 50 v0 v2.toNatClampNeg) + (1 : Int32)), .inl v2, .inr (.inr (some (50, v0)))]) (M' := mem E mu la) rfl ?_
    refine Ev.ias rfl rfl h.1 ?_
    have h := h.2
    generalize hgmu16 : up3 mu 50 v0 v2.toNatClampNeg ((mu 50 v0 v2.toNatClampNeg) + (1 : Int32)) = mu16
    have h := h mu16 hgmu16.symm
    refine Ev.steps 9 (ip' := 53) (ls' := [some (.inr (.inr (some (7, v0)))), some (.inl v1), some (.inl v2)]) (st' := [.inl (9 : Int32), .inl (0 : Int32), .inr (.inr (some (39, v0))), .inl ((9 : Int32) * v2), .inr (.inr (some (49, v0)))]) (M' := mem E mu16 la) rfl ?_
    refine Ev.cv (J := mi_174) (as := [.inr (.inr (some (49, v0))), .inl ((9 : Int32) * v2), .inr (.inr (some (39, v0))), .inl (0 : Int32), .inl (9 : Int32)]) (rest := []) rfl rfl rfl (Nat.le_of_ble_eq_true rfl) h (fun mu18 la19 h => ?_)
    refine Ev.steps 3 (ip' := 57) (ls' := [some (.inr (.inr (some (7, v0)))), some (.inl v1), some (.inl v2)]) (st' := [.inl v2, .inr (.inr (some (50, v0)))]) (M' := mem E mu18 la19) rfl ?_
    refine Ev.ial rfl rfl (by decide) h.1 ?_
    have h := h.2
    refine Ev.steps 1 (ip' := 59) (ls' := [some (.inr (.inr (some (7, v0)))), some (.inl v1), some (.inl v2)]) (st' := [.inl (36 : Int32), .inl (mu18 50 v0 v2.toNatClampNeg)]) (M' := mem E mu18 la19) rfl ?_
    refine Ev.br (c := (mu18 50 v0 v2.toNatClampNeg) ≤ (36 : Int32)) (s1 := (73, [some (.inr (.inr (some (7, v0)))), some (.inl v1), some (.inl v2)], [], mem E mu18 la19)) (s2 := (60, [some (.inr (.inr (some (7, v0)))), some (.inl v1), some (.inl v2)], [], mem E mu18 la19)) rfl rfl rfl rfl (fun hc => ?_) (fun hc => ?_)
    · have h := h.1 hc
      dsimp only
      refine Ev.steps 2 (ip' := 75) (ls' := [some (.inr (.inr (some (7, v0)))), some (.inl v1), some (.inl v2)]) (st' := [.inl (2 : Int32), .inl v2]) (M' := mem E mu18 la19) rfl ?_
      refine Ev.want (c := (2 : Int32) = 0) (s2 := (76, [some (.inr (.inr (some (7, v0)))), some (.inl v1), some (.inl v2)], [.inl (v2 - v2 / (2 : Int32) * (2 : Int32))], mem E mu18 la19)) rfl rfl rfl rfl h.1 ?_
      have h := h.2
      refine Ev.br (c := ¬ (v2 - v2 / (2 : Int32) * (2 : Int32)) = 0) (s1 := (85, [some (.inr (.inr (some (7, v0)))), some (.inl v1), some (.inl v2)], [], mem E mu18 la19)) (s2 := (77, [some (.inr (.inr (some (7, v0)))), some (.inl v1), some (.inl v2)], [], mem E mu18 la19)) rfl rfl rfl rfl (fun hc => ?_) (fun hc => ?_)
      · have h := h.1 hc
        dsimp only
        refine Ev.steps 4 (ip' := 89) (ls' := [some (.inr (.inr (some (7, v0)))), some (.inl v1), some (.inl v2)]) (st' := [.inl v2, .inr (.inr (some (50, v0))), .inr (.inr (some (7, v0)))]) (M' := mem E mu18 la19) rfl ?_
        refine Ev.ial rfl rfl (by decide) h.1 ?_
        have h := h.2
        refine Ev.ci (J := mi_209) (as := [.inr (.inr (some (7, v0))), .inl (mu18 50 v0 v2.toNatClampNeg)]) (rest := []) rfl rfl rfl (Nat.le_of_ble_eq_true rfl) h (fun x20 mu21 la22 h => ?_)
        refine Ev.br (c := x20 = 0) (s1 := (34, [some (.inr (.inr (some (7, v0)))), some (.inl v1), some (.inl v2)], [], mem E mu21 la22)) (s2 := (92, [some (.inr (.inr (some (7, v0)))), some (.inl v1), some (.inl v2)], [], mem E mu21 la22)) rfl rfl rfl rfl (fun hc => ?_) (fun hc => ?_)
        · have h := h.1 hc
          dsimp only
          exact h
        · have h := h.2 hc
          dsimp only
          refine Ev.steps 6 (ip' := 98) (ls' := [some (.inr (.inr (some (7, v0)))), some (.inl v1), some (.inl v2)]) (st' := [.inl ((2 : Int32) * v1), .inl (v2 + (1 : Int32))]) (M' := mem E mu21 la22) rfl ?_
          refine Ev.br (c := ¬ (v2 + (1 : Int32)) = ((2 : Int32) * v1)) (s1 := (108, [some (.inr (.inr (some (7, v0)))), some (.inl v1), some (.inl v2)], [], mem E mu21 la22)) (s2 := (99, [some (.inr (.inr (some (7, v0)))), some (.inl v1), some (.inl v2)], [], mem E mu21 la22)) rfl rfl rfl rfl (fun hc => ?_) (fun hc => ?_)
          · have h := h.1 hc
            dsimp only
            refine Ev.steps 10 (ip' := 118) (ls' := [some (.inr (.inr (some (7, v0)))), some (.inl v1), some (.inl (v2 + (1 : Int32)))]) (st' := [.inl (9 : Int32), .inl ((9 : Int32) * (v2 + (1 : Int32))), .inr (.inr (some (49, v0))), .inl (0 : Int32), .inr (.inr (some (39, v0)))]) (M' := mem E mu21 la22) rfl ?_
            refine Ev.cv (J := mi_174) (as := [.inr (.inr (some (39, v0))), .inl (0 : Int32), .inr (.inr (some (49, v0))), .inl ((9 : Int32) * (v2 + (1 : Int32))), .inl (9 : Int32)]) (rest := []) rfl rfl rfl (Nat.le_of_ble_eq_true rfl) h (fun mu24 la25 h => ?_)
            refine Ev.steps 2 (ip' := 121) (ls' := [some (.inr (.inr (some (7, v0)))), some (.inl v1), some (.inl (v2 + (1 : Int32)))]) (st' := [.inl (v2 + (1 : Int32)), .inr (.inr (some (7, v0)))]) (M' := mem E mu24 la25) rfl ?_
            refine Ev.cv (J := mi_206) (as := [.inr (.inr (some (7, v0))), .inl (v2 + (1 : Int32))]) (rest := []) rfl rfl rfl (Nat.le_of_ble_eq_true rfl) h (fun mu27 la28 h => ?_)
            refine Ev.steps 1 (ip' := 34) (ls' := [some (.inr (.inr (some (7, v0)))), some (.inl v1), some (.inl (v2 + (1 : Int32)))]) (st' := []) (M' := mem E mu27 la28) rfl ?_
            exact h
          · have h := h.2 hc
            dsimp only
            refine Ev.steps 5 (ip' := 104) (ls' := [some (.inr (.inr (some (7, v0)))), some (.inl v1), some (.inl v2)]) (st' := [.inr (.inr (some (39, v0))), .inr (.inr (some (7, v0))), .inl v2, .inr (.inr (some (7, v0)))]) (M' := mem E mu21 la22) rfl ?_
            refine Ev.ci (J := mi_163) (as := [.inr (.inr (some (7, v0))), .inr (.inr (some (39, v0)))]) (rest := [.inl v2, .inr (.inr (some (7, v0)))]) rfl rfl rfl (Nat.le_of_ble_eq_true rfl) h (fun x29 mu30 la31 h => ?_)
            refine Ev.ci (J := mi_131) (as := [.inl x29]) (rest := [.inl v2, .inr (.inr (some (7, v0)))]) rfl rfl rfl (Nat.le_of_ble_eq_true rfl) h (fun x32 mu33 la34 h => ?_)
            refine Ev.cv (J := mi_207) (as := [.inr (.inr (some (7, v0))), .inl v2, .inl x32]) (rest := []) rfl rfl rfl (Nat.le_of_ble_eq_true rfl) h (fun mu36 la37 h => ?_)
            refine Ev.steps 1 (ip' := 34) (ls' := [some (.inr (.inr (some (7, v0)))), some (.inl v1), some (.inl v2)]) (st' := []) (M' := mem E mu36 la37) rfl ?_
            exact h
      · have h := h.2 hc
        dsimp only
        refine Ev.steps 4 (ip' := 81) (ls' := [some (.inr (.inr (some (7, v0)))), some (.inl v1), some (.inl v2)]) (st' := [.inl v2, .inr (.inr (some (50, v0))), .inr (.inr (some (7, v0)))]) (M' := mem E mu18 la19) rfl ?_
        refine Ev.ial rfl rfl (by decide) h.1 ?_
        have h := h.2
        refine Ev.ci (J := mi_208) (as := [.inr (.inr (some (7, v0))), .inl (mu18 50 v0 v2.toNatClampNeg)]) (rest := []) rfl rfl rfl (Nat.le_of_ble_eq_true rfl) h (fun x38 mu39 la40 h => ?_)
        refine Ev.br (c := x38 = 0) (s1 := (34, [some (.inr (.inr (some (7, v0)))), some (.inl v1), some (.inl v2)], [], mem E mu39 la40)) (s2 := (84, [some (.inr (.inr (some (7, v0)))), some (.inl v1), some (.inl v2)], [], mem E mu39 la40)) rfl rfl rfl rfl (fun hc => ?_) (fun hc => ?_)
        · have h := h.1 hc
          dsimp only
          exact h
        · have h := h.2 hc
          dsimp only
          refine Ev.steps 7 (ip' := 98) (ls' := [some (.inr (.inr (some (7, v0)))), some (.inl v1), some (.inl v2)]) (st' := [.inl ((2 : Int32) * v1), .inl (v2 + (1 : Int32))]) (M' := mem E mu39 la40) rfl ?_
          refine Ev.br (c := ¬ (v2 + (1 : Int32)) = ((2 : Int32) * v1)) (s1 := (108, [some (.inr (.inr (some (7, v0)))), some (.inl v1), some (.inl v2)], [], mem E mu39 la40)) (s2 := (99, [some (.inr (.inr (some (7, v0)))), some (.inl v1), some (.inl v2)], [], mem E mu39 la40)) rfl rfl rfl rfl (fun hc => ?_) (fun hc => ?_)
          · have h := h.1 hc
            dsimp only
            refine Ev.steps 10 (ip' := 118) (ls' := [some (.inr (.inr (some (7, v0)))), some (.inl v1), some (.inl (v2 + (1 : Int32)))]) (st' := [.inl (9 : Int32), .inl ((9 : Int32) * (v2 + (1 : Int32))), .inr (.inr (some (49, v0))), .inl (0 : Int32), .inr (.inr (some (39, v0)))]) (M' := mem E mu39 la40) rfl ?_
            refine Ev.cv (J := mi_174) (as := [.inr (.inr (some (39, v0))), .inl (0 : Int32), .inr (.inr (some (49, v0))), .inl ((9 : Int32) * (v2 + (1 : Int32))), .inl (9 : Int32)]) (rest := []) rfl rfl rfl (Nat.le_of_ble_eq_true rfl) h (fun mu42 la43 h => ?_)
            refine Ev.steps 2 (ip' := 121) (ls' := [some (.inr (.inr (some (7, v0)))), some (.inl v1), some (.inl (v2 + (1 : Int32)))]) (st' := [.inl (v2 + (1 : Int32)), .inr (.inr (some (7, v0)))]) (M' := mem E mu42 la43) rfl ?_
            refine Ev.cv (J := mi_206) (as := [.inr (.inr (some (7, v0))), .inl (v2 + (1 : Int32))]) (rest := []) rfl rfl rfl (Nat.le_of_ble_eq_true rfl) h (fun mu45 la46 h => ?_)
            refine Ev.steps 1 (ip' := 34) (ls' := [some (.inr (.inr (some (7, v0)))), some (.inl v1), some (.inl (v2 + (1 : Int32)))]) (st' := []) (M' := mem E mu45 la46) rfl ?_
            exact h
          · have h := h.2 hc
            dsimp only
            refine Ev.steps 5 (ip' := 104) (ls' := [some (.inr (.inr (some (7, v0)))), some (.inl v1), some (.inl v2)]) (st' := [.inr (.inr (some (39, v0))), .inr (.inr (some (7, v0))), .inl v2, .inr (.inr (some (7, v0)))]) (M' := mem E mu39 la40) rfl ?_
            refine Ev.ci (J := mi_163) (as := [.inr (.inr (some (7, v0))), .inr (.inr (some (39, v0)))]) (rest := [.inl v2, .inr (.inr (some (7, v0)))]) rfl rfl rfl (Nat.le_of_ble_eq_true rfl) h (fun x47 mu48 la49 h => ?_)
            refine Ev.ci (J := mi_131) (as := [.inl x47]) (rest := [.inl v2, .inr (.inr (some (7, v0)))]) rfl rfl rfl (Nat.le_of_ble_eq_true rfl) h (fun x50 mu51 la52 h => ?_)
            refine Ev.cv (J := mi_207) (as := [.inr (.inr (some (7, v0))), .inl v2, .inl x50]) (rest := []) rfl rfl rfl (Nat.le_of_ble_eq_true rfl) h (fun mu54 la55 h => ?_)
            refine Ev.steps 1 (ip' := 34) (ls' := [some (.inr (.inr (some (7, v0)))), some (.inl v1), some (.inl v2)]) (st' := []) (M' := mem E mu54 la55) rfl ?_
            exact h
    · have h := h.2 hc
      dsimp only
      refine Ev.steps 1 (ip' := 61) (ls' := [some (.inr (.inr (some (7, v0)))), some (.inl v1), some (.inl (v2 + (-1 : Int32)))]) (st' := []) (M' := mem E mu18 la19) rfl ?_
      generalize hgw56 : v2 + (-1 : Int32) = w56
      have h := h w56 hgw56.symm
      refine Ev.steps 1 (ip' := 62) (ls' := [some (.inr (.inr (some (7, v0)))), some (.inl v1), some (.inl w56)]) (st' := [.inl w56]) (M' := mem E mu18 la19) rfl ?_
      refine Ev.br (c := w56 < 0) (s1 := (34, [some (.inr (.inr (some (7, v0)))), some (.inl v1), some (.inl w56)], [], mem E mu18 la19)) (s2 := (63, [some (.inr (.inr (some (7, v0)))), some (.inl v1), some (.inl w56)], [], mem E mu18 la19)) rfl rfl rfl rfl (fun hc => ?_) (fun hc => ?_)
      · have h := h.1 hc
        dsimp only
        exact h
      · have h := h.2 hc
        dsimp only
        refine Ev.steps 7 (ip' := 70) (ls' := [some (.inr (.inr (some (7, v0)))), some (.inl v1), some (.inl w56)]) (st' := [.inl (w56 + (1 : Int32)), .inr (.inr (some (51, v0))), .inl w56, .inr (.inr (some (7, v0)))]) (M' := mem E mu18 la19) rfl ?_
        refine Ev.ial rfl rfl (by decide) h.1 ?_
        have h := h.2
        refine Ev.cv (J := mi_207) (as := [.inr (.inr (some (7, v0))), .inl w56, .inl (mu18 51 v0 (w56 + (1 : Int32)).toNatClampNeg)]) (rest := []) rfl rfl rfl (Nat.le_of_ble_eq_true rfl) h (fun mu58 la59 h => ?_)
        refine Ev.steps 1 (ip' := 34) (ls' := [some (.inr (.inr (some (7, v0)))), some (.inl v1), some (.inl w56)]) (st' := []) (M' := mem E mu58 la59) rfl ?_
        exact h
set_option maxRecDepth 100000 in
/-- AnnCupsModel.waiting()I -/
theorem vc_X7_waiting {E : mEv} {d : Nat} {c : Nat} {mu : fMu} {la : fLa} {Q : Int32 → fMu → fLa → Prop} (h : Ev E (d + 1) mi_211 4 [some (.inr (.inr (some (7, c)))), some (.inl (0 : Int32)), some (.inl (0 : Int32))] [] (mem E mu la) (qI E Q)) : FnI E (d + 1) mi_211 [.inr (.inr (some (7, c)))] mu la Q := by
  unfold FnI
  show Ev E (d + 1) mi_211 0 [some (.inr (.inr (some (7, c)))), none, none] [] (mem E mu la) (qI E Q)
  refine Ev.steps 4 (ip' := 4) (ls' := [some (.inr (.inr (some (7, c)))), some (.inl (0 : Int32)), some (.inl (0 : Int32))]) (st' := []) (M' := mem E mu la) rfl ?_
  exact h
set_option maxRecDepth 100000 in
theorem vc_X7_waiting_4 {E : mEv} {d : Nat}  (v0 : Nat) (v1 : Int32) (v2 : Int32) {mu : fMu} {la : fLa} {Q : Int32 → fMu → fLa → Prop} (h : ((mu 7 v0 4) ≤ v2 → (Q v1 mu la)) ∧ (¬ ((mu 7 v0 4) ≤ v2) → (FnI E d mi_156 [.inr (.inr (some (7, v0))), .inl v2] mu la (fun x1 mu2 la3 => (x1 = 0 → (Ev E (d + 1) mi_211 4 [some (.inr (.inr (some (7, v0)))), some (.inl (v1 ||| (0 : Int32))), some (.inl (v2 + (1 : Int32)))] [] (mem E mu2 la3) (qI E Q))) ∧ (¬ (x1 = 0) → (vp_in (7 : Int32) 9 ∧ (FnI E d mi_130 [.inl (mu2 38 v0 (7 : Int32).toNatClampNeg), .inl v2] mu2 la3 (fun x4 mu5 la6 => (¬ x4 = 0 → (Ev E (d + 1) mi_211 4 [some (.inr (.inr (some (7, v0)))), some (.inl (v1 ||| (0 : Int32))), some (.inl (v2 + (1 : Int32)))] [] (mem E mu5 la6) (qI E Q))) ∧ (¬ (¬ x4 = 0) → (Ev E (d + 1) mi_211 4 [some (.inr (.inr (some (7, v0)))), some (.inl (v1 ||| ((1 : Int32) <<< (v2 &&& 31)))), some (.inl (v2 + (1 : Int32)))] [] (mem E mu5 la6) (qI E Q))))))))))) : Ev E (d + 1) mi_211 4 [some (.inr (.inr (some (7, v0)))), some (.inl v1), some (.inl v2)] [] (mem E mu la) (qI E Q) := by
  refine Ev.steps 3 (ip' := 7) (ls' := [some (.inr (.inr (some (7, v0)))), some (.inl v1), some (.inl v2)]) (st' := [.inl (mu 7 v0 4), .inl v2]) (M' := mem E mu la) rfl ?_
  refine Ev.br (c := (mu 7 v0 4) ≤ v2) (s1 := (29, [some (.inr (.inr (some (7, v0)))), some (.inl v1), some (.inl v2)], [], mem E mu la)) (s2 := (8, [some (.inr (.inr (some (7, v0)))), some (.inl v1), some (.inl v2)], [], mem E mu la)) rfl rfl rfl rfl (fun hc => ?_) (fun hc => ?_)
  · have h := h.1 hc
    dsimp only
    refine Ev.steps 1 (ip' := 30) (ls' := [some (.inr (.inr (some (7, v0)))), some (.inl v1), some (.inl v2)]) (st' := [.inl v1]) (M' := mem E mu la) rfl ?_
    exact Ev.ret rfl rfl ⟨_, _, _, rfl, rfl, h⟩
  · have h := h.2 hc
    dsimp only
    refine Ev.steps 3 (ip' := 11) (ls' := [some (.inr (.inr (some (7, v0)))), some (.inl v1), some (.inl v2)]) (st' := [.inl v2, .inr (.inr (some (7, v0))), .inl v1]) (M' := mem E mu la) rfl ?_
    refine Ev.ci (J := mi_156) (as := [.inr (.inr (some (7, v0))), .inl v2]) (rest := [.inl v1]) rfl rfl rfl (Nat.le_of_ble_eq_true rfl) h (fun x1 mu2 la3 h => ?_)
    refine Ev.br (c := x1 = 0) (s1 := (24, [some (.inr (.inr (some (7, v0)))), some (.inl v1), some (.inl v2)], [.inl v1], mem E mu2 la3)) (s2 := (13, [some (.inr (.inr (some (7, v0)))), some (.inl v1), some (.inl v2)], [.inl v1], mem E mu2 la3)) rfl rfl rfl rfl (fun hc => ?_) (fun hc => ?_)
    · have h := h.1 hc
      dsimp only
      refine Ev.steps 5 (ip' := 4) (ls' := [some (.inr (.inr (some (7, v0)))), some (.inl (v1 ||| (0 : Int32))), some (.inl (v2 + (1 : Int32)))]) (st' := []) (M' := mem E mu2 la3) rfl ?_
      exact h
    · have h := h.2 hc
      dsimp only
      refine Ev.steps 3 (ip' := 16) (ls' := [some (.inr (.inr (some (7, v0)))), some (.inl v1), some (.inl v2)]) (st' := [.inl (7 : Int32), .inr (.inr (some (38, v0))), .inl v1]) (M' := mem E mu2 la3) rfl ?_
      refine Ev.ial rfl rfl (by decide) h.1 ?_
      have h := h.2
      refine Ev.steps 1 (ip' := 18) (ls' := [some (.inr (.inr (some (7, v0)))), some (.inl v1), some (.inl v2)]) (st' := [.inl v2, .inl (mu2 38 v0 (7 : Int32).toNatClampNeg), .inl v1]) (M' := mem E mu2 la3) rfl ?_
      refine Ev.ci (J := mi_130) (as := [.inl (mu2 38 v0 (7 : Int32).toNatClampNeg), .inl v2]) (rest := [.inl v1]) rfl rfl rfl (Nat.le_of_ble_eq_true rfl) h (fun x4 mu5 la6 h => ?_)
      refine Ev.br (c := ¬ x4 = 0) (s1 := (24, [some (.inr (.inr (some (7, v0)))), some (.inl v1), some (.inl v2)], [.inl v1], mem E mu5 la6)) (s2 := (20, [some (.inr (.inr (some (7, v0)))), some (.inl v1), some (.inl v2)], [.inl v1], mem E mu5 la6)) rfl rfl rfl rfl (fun hc => ?_) (fun hc => ?_)
      · have h := h.1 hc
        dsimp only
        refine Ev.steps 5 (ip' := 4) (ls' := [some (.inr (.inr (some (7, v0)))), some (.inl (v1 ||| (0 : Int32))), some (.inl (v2 + (1 : Int32)))]) (st' := []) (M' := mem E mu5 la6) rfl ?_
        exact h
      · have h := h.2 hc
        dsimp only
        refine Ev.steps 8 (ip' := 4) (ls' := [some (.inr (.inr (some (7, v0)))), some (.inl (v1 ||| ((1 : Int32) <<< (v2 &&& 31)))), some (.inl (v2 + (1 : Int32)))]) (st' := []) (M' := mem E mu5 la6) rfl ?_
        exact h
set_option maxRecDepth 100000 in
/-- AnnCupsModel.waysOf(III)J -/
theorem vc_X7_waysOf {E : mEv} {d : Nat} {c : Nat} (a0 : Int32) (a1 : Int32) (a2 : Int32) {mu : fMu} {la : fLa} {Q : Int64 → fMu → fLa → Prop} (h : Ev E (d + 1) mi_212 4 [some (.inr (.inr (some (7, c)))), some (.inl a0), some (.inl a1), some (.inl a2), some (.inr (.inl (1 : Int64))), none, some (.inl (0 : Int32))] [] (mem E mu la) (qL E Q)) : FnL E (d + 1) mi_212 [.inr (.inr (some (7, c))), .inl a0, .inl a1, .inl a2] mu la Q := by
  unfold FnL
  show Ev E (d + 1) mi_212 0 [some (.inr (.inr (some (7, c)))), some (.inl a0), some (.inl a1), some (.inl a2), none, none, none] [] (mem E mu la) (qL E Q)
  refine Ev.steps 4 (ip' := 4) (ls' := [some (.inr (.inr (some (7, c)))), some (.inl a0), some (.inl a1), some (.inl a2), some (.inr (.inl (1 : Int64))), none, some (.inl (0 : Int32))]) (st' := []) (M' := mem E mu la) rfl ?_
  exact h
set_option maxRecDepth 100000 in
theorem vc_X7_waysOf_4 {E : mEv} {d : Nat}  (v0 : Nat) (v1 : Int32) (v2 : Int32) (v3 : Int32) (v4 : Int64) (v6 : Int32) {mu : fMu} {la : fLa} {Q : Int64 → fMu → fLa → Prop} (h : ((mu 7 v0 4) ≤ v6 → (Q v4 mu la)) ∧ (¬ ((mu 7 v0 4) ≤ v6) → (FnI E d mi_130 [.inl v2, .inl v6] mu la (fun x1 mu2 la3 => (¬ x1 = 0 → (FnI E d mi_130 [.inl v1, .inl v6] mu2 la3 (fun x4 mu5 la6 => (x4 = 0 → (Ev E (d + 1) mi_212 4 [some (.inr (.inr (some (7, v0)))), some (.inl v1), some (.inl v2), some (.inl v3), some (.inr (.inl (v4 * (((12 : Int32) - v3).toInt64)))), none, some (.inl (v6 + (1 : Int32)))] [] (mem E mu5 la6) (qL E Q))) ∧ (¬ (x4 = 0) → (Ev E (d + 1) mi_212 4 [some (.inr (.inr (some (7, v0)))), some (.inl v1), some (.inl v2), some (.inl v3), some (.inr (.inl (v4 * v3.toInt64))), none, some (.inl (v6 + (1 : Int32)))] [] (mem E mu5 la6) (qL E Q)))))) ∧ (¬ (¬ x1 = 0) → (Ev E (d + 1) mi_212 4 [some (.inr (.inr (some (7, v0)))), some (.inl v1), some (.inl v2), some (.inl v3), some (.inr (.inl (v4 * (1 : Int64)))), none, some (.inl (v6 + (1 : Int32)))] [] (mem E mu2 la3) (qL E Q))))))) : Ev E (d + 1) mi_212 4 [some (.inr (.inr (some (7, v0)))), some (.inl v1), some (.inl v2), some (.inl v3), some (.inr (.inl v4)), none, some (.inl v6)] [] (mem E mu la) (qL E Q) := by
  refine Ev.steps 3 (ip' := 7) (ls' := [some (.inr (.inr (some (7, v0)))), some (.inl v1), some (.inl v2), some (.inl v3), some (.inr (.inl v4)), none, some (.inl v6)]) (st' := [.inl (mu 7 v0 4), .inl v6]) (M' := mem E mu la) rfl ?_
  refine Ev.br (c := (mu 7 v0 4) ≤ v6) (s1 := (30, [some (.inr (.inr (some (7, v0)))), some (.inl v1), some (.inl v2), some (.inl v3), some (.inr (.inl v4)), none, some (.inl v6)], [], mem E mu la)) (s2 := (8, [some (.inr (.inr (some (7, v0)))), some (.inl v1), some (.inl v2), some (.inl v3), some (.inr (.inl v4)), none, some (.inl v6)], [], mem E mu la)) rfl rfl rfl rfl (fun hc => ?_) (fun hc => ?_)
  · have h := h.1 hc
    dsimp only
    refine Ev.steps 1 (ip' := 31) (ls' := [some (.inr (.inr (some (7, v0)))), some (.inl v1), some (.inl v2), some (.inl v3), some (.inr (.inl v4)), none, some (.inl v6)]) (st' := [.inr (.inl v4)]) (M' := mem E mu la) rfl ?_
    exact Ev.ret rfl rfl ⟨_, _, _, rfl, rfl, h⟩
  · have h := h.2 hc
    dsimp only
    refine Ev.steps 3 (ip' := 11) (ls' := [some (.inr (.inr (some (7, v0)))), some (.inl v1), some (.inl v2), some (.inl v3), some (.inr (.inl v4)), none, some (.inl v6)]) (st' := [.inl v6, .inl v2, .inr (.inl v4)]) (M' := mem E mu la) rfl ?_
    refine Ev.ci (J := mi_130) (as := [.inl v2, .inl v6]) (rest := [.inr (.inl v4)]) rfl rfl rfl (Nat.le_of_ble_eq_true rfl) h (fun x1 mu2 la3 h => ?_)
    refine Ev.br (c := ¬ x1 = 0) (s1 := (15, [some (.inr (.inr (some (7, v0)))), some (.inl v1), some (.inl v2), some (.inl v3), some (.inr (.inl v4)), none, some (.inl v6)], [.inr (.inl v4)], mem E mu2 la3)) (s2 := (13, [some (.inr (.inr (some (7, v0)))), some (.inl v1), some (.inl v2), some (.inl v3), some (.inr (.inl v4)), none, some (.inl v6)], [.inr (.inl v4)], mem E mu2 la3)) rfl rfl rfl rfl (fun hc => ?_) (fun hc => ?_)
    · have h := h.1 hc
      dsimp only
      refine Ev.steps 2 (ip' := 17) (ls' := [some (.inr (.inr (some (7, v0)))), some (.inl v1), some (.inl v2), some (.inl v3), some (.inr (.inl v4)), none, some (.inl v6)]) (st' := [.inl v6, .inl v1, .inr (.inl v4)]) (M' := mem E mu2 la3) rfl ?_
      refine Ev.ci (J := mi_130) (as := [.inl v1, .inl v6]) (rest := [.inr (.inl v4)]) rfl rfl rfl (Nat.le_of_ble_eq_true rfl) h (fun x4 mu5 la6 h => ?_)
      refine Ev.br (c := x4 = 0) (s1 := (22, [some (.inr (.inr (some (7, v0)))), some (.inl v1), some (.inl v2), some (.inl v3), some (.inr (.inl v4)), none, some (.inl v6)], [.inr (.inl v4)], mem E mu5 la6)) (s2 := (19, [some (.inr (.inr (some (7, v0)))), some (.inl v1), some (.inl v2), some (.inl v3), some (.inr (.inl v4)), none, some (.inl v6)], [.inr (.inl v4)], mem E mu5 la6)) rfl rfl rfl rfl (fun hc => ?_) (fun hc => ?_)
      · have h := h.1 hc
        dsimp only
        refine Ev.steps 8 (ip' := 4) (ls' := [some (.inr (.inr (some (7, v0)))), some (.inl v1), some (.inl v2), some (.inl v3), some (.inr (.inl (v4 * (((12 : Int32) - v3).toInt64)))), none, some (.inl (v6 + (1 : Int32)))]) (st' := []) (M' := mem E mu5 la6) rfl ?_
        exact h
      · have h := h.2 hc
        dsimp only
        refine Ev.steps 7 (ip' := 4) (ls' := [some (.inr (.inr (some (7, v0)))), some (.inl v1), some (.inl v2), some (.inl v3), some (.inr (.inl (v4 * v3.toInt64))), none, some (.inl (v6 + (1 : Int32)))]) (st' := []) (M' := mem E mu5 la6) rfl ?_
        exact h
    · have h := h.2 hc
      dsimp only
      refine Ev.steps 6 (ip' := 4) (ls' := [some (.inr (.inr (some (7, v0)))), some (.inl v1), some (.inl v2), some (.inl v3), some (.inr (.inl (v4 * (1 : Int64)))), none, some (.inl (v6 + (1 : Int32)))]) (st' := []) (M' := mem E mu2 la3) rfl ?_
      exact h
set_option maxRecDepth 100000 in
/-- AnnCupsModel.twelves(I)J -/
theorem vc_X7_twelves {E : mEv} {d : Nat} (a0 : Int32) {mu : fMu} {la : fLa} {Q : Int64 → fMu → fLa → Prop} (h : Ev E d mi_213 4 [some (.inl a0), some (.inr (.inl (1 : Int64))), none, some (.inl (0 : Int32))] [] (mem E mu la) (qL E Q)) : FnL E d mi_213 [.inl a0] mu la Q := by
  unfold FnL
  show Ev E d mi_213 0 [some (.inl a0), none, none, none] [] (mem E mu la) (qL E Q)
  refine Ev.steps 4 (ip' := 4) (ls' := [some (.inl a0), some (.inr (.inl (1 : Int64))), none, some (.inl (0 : Int32))]) (st' := []) (M' := mem E mu la) rfl ?_
  exact h
set_option maxRecDepth 100000 in
theorem vc_X7_twelves_4 {E : mEv} {d : Nat}  (v0 : Int32) (v1 : Int64) (v3 : Int32) {mu : fMu} {la : fLa} {Q : Int64 → fMu → fLa → Prop} (h : (v0 ≤ v3 → (Q v1 mu la)) ∧ (¬ (v0 ≤ v3) → (Ev E d mi_213 4 [some (.inl v0), some (.inr (.inl (v1 * (12 : Int64)))), none, some (.inl (v3 + (1 : Int32)))] [] (mem E mu la) (qL E Q)))) : Ev E d mi_213 4 [some (.inl v0), some (.inr (.inl v1)), none, some (.inl v3)] [] (mem E mu la) (qL E Q) := by
  refine Ev.steps 2 (ip' := 6) (ls' := [some (.inl v0), some (.inr (.inl v1)), none, some (.inl v3)]) (st' := [.inl v0, .inl v3]) (M' := mem E mu la) rfl ?_
  refine Ev.br (c := v0 ≤ v3) (s1 := (13, [some (.inl v0), some (.inr (.inl v1)), none, some (.inl v3)], [], mem E mu la)) (s2 := (7, [some (.inl v0), some (.inr (.inl v1)), none, some (.inl v3)], [], mem E mu la)) rfl rfl rfl rfl (fun hc => ?_) (fun hc => ?_)
  · have h := h.1 hc
    dsimp only
    refine Ev.steps 1 (ip' := 14) (ls' := [some (.inl v0), some (.inr (.inl v1)), none, some (.inl v3)]) (st' := [.inr (.inl v1)]) (M' := mem E mu la) rfl ?_
    exact Ev.ret rfl rfl ⟨_, _, _, rfl, rfl, h⟩
  · have h := h.2 hc
    dsimp only
    refine Ev.steps 6 (ip' := 4) (ls' := [some (.inl v0), some (.inr (.inl (v1 * (12 : Int64)))), none, some (.inl (v3 + (1 : Int32)))]) (st' := []) (M' := mem E mu la) rfl ?_
    exact h
set_option maxRecDepth 100000 in
/-- AnnCupsModel.odds(II)I -/
theorem vc_X7_odds {E : mEv} {d : Nat} {c : Nat} (a0 : Int32) (a1 : Int32) {mu : fMu} {la : fLa} {Q : Int32 → fMu → fLa → Prop} (h : FnI E d mi_155 [.inr (.inr (some (7, c))), .inl a0] mu la (fun x1 mu2 la3 => (x1 = 0 → (Q (-1 : Int32) mu2 la3)) ∧ (¬ (x1 = 0) → (FnI E d mi_129 [.inr (.inl a1.toInt64), .inr (.inl (0 : Int64)), .inr (.inl (12 : Int64))] mu2 la3 (fun x4 mu5 la6 => (¬ x4 = 0 → (FnI E d mi_162 [.inr (.inr (some (38, c))), .inl a0] mu5 la6 (fun x7 mu8 la9 => (x7 = 0 → (FnI E d mi_211 [.inr (.inr (some (7, c)))] mu8 la9 (fun x10 mu11 la12 => Ev E (d + 1) mi_214 32 [some (.inr (.inr (some (7, c)))), some (.inl a0), some (.inl a1), some (.inl (x10 &&& (((1 : Int32) <<< (a0 &&& 31)) ^^^ (-1 : Int32)))), some (.inr (.inl (0 : Int64))), none, some (.inl (0 : Int32))] [] (mem E mu11 la12) (qI E Q)))) ∧ (¬ (x7 = 0) → (Q (-4 : Int32) mu8 la9))))) ∧ (¬ (¬ x4 = 0) → (Q (-1 : Int32) mu5 la6))))))) : FnI E (d + 1) mi_214 [.inr (.inr (some (7, c))), .inl a0, .inl a1] mu la Q := by
  unfold FnI
  show Ev E (d + 1) mi_214 0 [some (.inr (.inr (some (7, c)))), some (.inl a0), some (.inl a1), none, none, none, none] [] (mem E mu la) (qI E Q)
  refine Ev.steps 2 (ip' := 2) (ls' := [some (.inr (.inr (some (7, c)))), some (.inl a0), some (.inl a1), none, none, none, none]) (st' := [.inl a0, .inr (.inr (some (7, c)))]) (M' := mem E mu la) rfl ?_
  refine Ev.ci (J := mi_155) (as := [.inr (.inr (some (7, c))), .inl a0]) (rest := []) rfl rfl rfl (Nat.le_of_ble_eq_true rfl) h (fun x1 mu2 la3 h => ?_)
  refine Ev.br (c := x1 = 0) (s1 := (10, [some (.inr (.inr (some (7, c)))), some (.inl a0), some (.inl a1), none, none, none, none], [], mem E mu2 la3)) (s2 := (4, [some (.inr (.inr (some (7, c)))), some (.inl a0), some (.inl a1), none, none, none, none], [], mem E mu2 la3)) rfl rfl rfl rfl (fun hc => ?_) (fun hc => ?_)
  · have h := h.1 hc
    dsimp only
    refine Ev.steps 1 (ip' := 11) (ls' := [some (.inr (.inr (some (7, c)))), some (.inl a0), some (.inl a1), none, none, none, none]) (st' := [.inl (-1 : Int32)]) (M' := mem E mu2 la3) rfl ?_
    exact Ev.ret rfl rfl ⟨_, _, _, rfl, rfl, h⟩
  · have h := h.2 hc
    dsimp only
    refine Ev.steps 4 (ip' := 8) (ls' := [some (.inr (.inr (some (7, c)))), some (.inl a0), some (.inl a1), none, none, none, none]) (st' := [.inr (.inl (12 : Int64)), .inr (.inl (0 : Int64)), .inr (.inl a1.toInt64)]) (M' := mem E mu2 la3) rfl ?_
    refine Ev.ci (J := mi_129) (as := [.inr (.inl a1.toInt64), .inr (.inl (0 : Int64)), .inr (.inl (12 : Int64))]) (rest := []) rfl rfl rfl (Nat.le_of_ble_eq_true rfl) h (fun x4 mu5 la6 h => ?_)
    refine Ev.br (c := ¬ x4 = 0) (s1 := (12, [some (.inr (.inr (some (7, c)))), some (.inl a0), some (.inl a1), none, none, none, none], [], mem E mu5 la6)) (s2 := (10, [some (.inr (.inr (some (7, c)))), some (.inl a0), some (.inl a1), none, none, none, none], [], mem E mu5 la6)) rfl rfl rfl rfl (fun hc => ?_) (fun hc => ?_)
    · have h := h.1 hc
      dsimp only
      refine Ev.steps 3 (ip' := 15) (ls' := [some (.inr (.inr (some (7, c)))), some (.inl a0), some (.inl a1), none, none, none, none]) (st' := [.inl a0, .inr (.inr (some (38, c)))]) (M' := mem E mu5 la6) rfl ?_
      refine Ev.ci (J := mi_162) (as := [.inr (.inr (some (38, c))), .inl a0]) (rest := []) rfl rfl rfl (Nat.le_of_ble_eq_true rfl) h (fun x7 mu8 la9 h => ?_)
      refine Ev.br (c := x7 = 0) (s1 := (19, [some (.inr (.inr (some (7, c)))), some (.inl a0), some (.inl a1), none, none, none, none], [], mem E mu8 la9)) (s2 := (17, [some (.inr (.inr (some (7, c)))), some (.inl a0), some (.inl a1), none, none, none, none], [], mem E mu8 la9)) rfl rfl rfl rfl (fun hc => ?_) (fun hc => ?_)
      · have h := h.1 hc
        dsimp only
        refine Ev.steps 1 (ip' := 20) (ls' := [some (.inr (.inr (some (7, c)))), some (.inl a0), some (.inl a1), none, none, none, none]) (st' := [.inr (.inr (some (7, c)))]) (M' := mem E mu8 la9) rfl ?_
        refine Ev.ci (J := mi_211) (as := [.inr (.inr (some (7, c)))]) (rest := []) rfl rfl rfl (Nat.le_of_ble_eq_true rfl) h (fun x10 mu11 la12 h => ?_)
        refine Ev.steps 11 (ip' := 32) (ls' := [some (.inr (.inr (some (7, c)))), some (.inl a0), some (.inl a1), some (.inl (x10 &&& (((1 : Int32) <<< (a0 &&& 31)) ^^^ (-1 : Int32)))), some (.inr (.inl (0 : Int64))), none, some (.inl (0 : Int32))]) (st' := []) (M' := mem E mu11 la12) rfl ?_
        exact h
      · have h := h.2 hc
        dsimp only
        refine Ev.steps 1 (ip' := 18) (ls' := [some (.inr (.inr (some (7, c)))), some (.inl a0), some (.inl a1), none, none, none, none]) (st' := [.inl (-4 : Int32)]) (M' := mem E mu8 la9) rfl ?_
        exact Ev.ret rfl rfl ⟨_, _, _, rfl, rfl, h⟩
    · have h := h.2 hc
      dsimp only
      refine Ev.steps 1 (ip' := 11) (ls' := [some (.inr (.inr (some (7, c)))), some (.inl a0), some (.inl a1), none, none, none, none]) (st' := [.inl (-1 : Int32)]) (M' := mem E mu5 la6) rfl ?_
      exact Ev.ret rfl rfl ⟨_, _, _, rfl, rfl, h⟩
set_option maxRecDepth 100000 in
theorem vc_X7_odds_32 {E : mEv} {d : Nat}  (v0 : Nat) (v1 : Int32) (v2 : Int32) (v3 : Int32) (v4 : Int64) (v6 : Int32) {mu : fMu} {la : fLa} {Q : Int32 → fMu → fLa → Prop} (h : (((1 : Int32) <<< ((mu 7 v0 4) &&& 31)) ≤ v6 → (FnI E d mi_131 [.inl v3] mu la (fun x13 mu14 la15 => FnL E d mi_213 [.inl x13] mu14 la15 (fun x16 mu17 la18 => FnI E d mi_192 [.inr (.inr (some (7, v0))), .inr (.inl v4), .inr (.inl x16)] mu17 la18 (fun x19 mu20 la21 => Q x19 mu20 la21))))) ∧ (¬ (((1 : Int32) <<< ((mu 7 v0 4) &&& 31)) ≤ v6) → ((¬ (v6 &&& (v3 ^^^ (-1 : Int32))) = 0 → (Ev E (d + 1) mi_214 32 [some (.inr (.inr (some (7, v0)))), some (.inl v1), some (.inl v2), some (.inl v3), some (.inr (.inl v4)), none, some (.inl (v6 + (1 : Int32)))] [] (mem E mu la) (qI E Q))) ∧ (¬ (¬ (v6 &&& (v3 ^^^ (-1 : Int32))) = 0) → (FnV E d mi_186 [.inr (.inr (some (7, v0)))] mu la (fun mu23 la24 => vp_in (7 : Int32) 9 ∧ (vp_in (7 : Int32) 9 ∧ ∀ mu25 : fMu, mu25 = up3 mu23 39 v0 (7 : Int32).toNatClampNeg ((mu23 39 v0 (7 : Int32).toNatClampNeg) ||| v6) → (FnI E d mi_160 [.inr (.inr (some (7, v0))), .inr (.inr (some (39, v0))), .inl v1, .inl (mu25 7 v0 5)] mu25 la24 (fun x26 mu27 la28 => (¬ x26 = v1 → (Ev E (d + 1) mi_214 32 [some (.inr (.inr (some (7, v0)))), some (.inl v1), some (.inl v2), some (.inl v3), some (.inr (.inl (v4 + (0 : Int64)))), none, some (.inl (v6 + (1 : Int32)))] [] (mem E mu27 la28) (qI E Q))) ∧ (¬ (¬ x26 = v1) → (FnL E d mi_212 [.inr (.inr (some (7, v0))), .inl v6, .inl v3, .inl v2] mu27 la28 (fun x29 mu30 la31 => Ev E (d + 1) mi_214 32 [some (.inr (.inr (some (7, v0)))), some (.inl v1), some (.inl v2), some (.inl v3), some (.inr (.inl (v4 + x29))), none, some (.inl (v6 + (1 : Int32)))] [] (mem E mu30 la31) (qI E Q))))))))))))) : Ev E (d + 1) mi_214 32 [some (.inr (.inr (some (7, v0)))), some (.inl v1), some (.inl v2), some (.inl v3), some (.inr (.inl v4)), none, some (.inl v6)] [] (mem E mu la) (qI E Q) := by
  refine Ev.steps 5 (ip' := 37) (ls' := [some (.inr (.inr (some (7, v0)))), some (.inl v1), some (.inl v2), some (.inl v3), some (.inr (.inl v4)), none, some (.inl v6)]) (st' := [.inl ((1 : Int32) <<< ((mu 7 v0 4) &&& 31)), .inl v6]) (M' := mem E mu la) rfl ?_
  refine Ev.br (c := ((1 : Int32) <<< ((mu 7 v0 4) &&& 31)) ≤ v6) (s1 := (75, [some (.inr (.inr (some (7, v0)))), some (.inl v1), some (.inl v2), some (.inl v3), some (.inr (.inl v4)), none, some (.inl v6)], [], mem E mu la)) (s2 := (38, [some (.inr (.inr (some (7, v0)))), some (.inl v1), some (.inl v2), some (.inl v3), some (.inr (.inl v4)), none, some (.inl v6)], [], mem E mu la)) rfl rfl rfl rfl (fun hc => ?_) (fun hc => ?_)
  · have h := h.1 hc
    dsimp only
    refine Ev.steps 3 (ip' := 78) (ls' := [some (.inr (.inr (some (7, v0)))), some (.inl v1), some (.inl v2), some (.inl v3), some (.inr (.inl v4)), none, some (.inl v6)]) (st' := [.inl v3, .inr (.inl v4), .inr (.inr (some (7, v0)))]) (M' := mem E mu la) rfl ?_
    refine Ev.ci (J := mi_131) (as := [.inl v3]) (rest := [.inr (.inl v4), .inr (.inr (some (7, v0)))]) rfl rfl rfl (Nat.le_of_ble_eq_true rfl) h (fun x13 mu14 la15 h => ?_)
    refine Ev.cl (J := mi_213) (as := [.inl x13]) (rest := [.inr (.inl v4), .inr (.inr (some (7, v0)))]) rfl rfl rfl (Nat.le_of_ble_eq_true rfl) h (fun x16 mu17 la18 h => ?_)
    refine Ev.ci (J := mi_192) (as := [.inr (.inr (some (7, v0))), .inr (.inl v4), .inr (.inl x16)]) (rest := []) rfl rfl rfl (Nat.le_of_ble_eq_true rfl) h (fun x19 mu20 la21 h => ?_)
    exact Ev.ret rfl rfl ⟨_, _, _, rfl, rfl, h⟩
  · have h := h.2 hc
    dsimp only
    refine Ev.steps 5 (ip' := 43) (ls' := [some (.inr (.inr (some (7, v0)))), some (.inl v1), some (.inl v2), some (.inl v3), some (.inr (.inl v4)), none, some (.inl v6)]) (st' := [.inl (v6 &&& (v3 ^^^ (-1 : Int32)))]) (M' := mem E mu la) rfl ?_
    refine Ev.br (c := ¬ (v6 &&& (v3 ^^^ (-1 : Int32))) = 0) (s1 := (73, [some (.inr (.inr (some (7, v0)))), some (.inl v1), some (.inl v2), some (.inl v3), some (.inr (.inl v4)), none, some (.inl v6)], [], mem E mu la)) (s2 := (44, [some (.inr (.inr (some (7, v0)))), some (.inl v1), some (.inl v2), some (.inl v3), some (.inr (.inl v4)), none, some (.inl v6)], [], mem E mu la)) rfl rfl rfl rfl (fun hc => ?_) (fun hc => ?_)
    · have h := h.1 hc
      dsimp only
      refine Ev.steps 2 (ip' := 32) (ls' := [some (.inr (.inr (some (7, v0)))), some (.inl v1), some (.inl v2), some (.inl v3), some (.inr (.inl v4)), none, some (.inl (v6 + (1 : Int32)))]) (st' := []) (M' := mem E mu la) rfl ?_
      exact h
    · have h := h.2 hc
      dsimp only
      refine Ev.steps 1 (ip' := 45) (ls' := [some (.inr (.inr (some (7, v0)))), some (.inl v1), some (.inl v2), some (.inl v3), some (.inr (.inl v4)), none, some (.inl v6)]) (st' := [.inr (.inr (some (7, v0)))]) (M' := mem E mu la) rfl ?_
      refine Ev.cv (J := mi_186) (as := [.inr (.inr (some (7, v0)))]) (rest := []) rfl rfl rfl (Nat.le_of_ble_eq_true rfl) h (fun mu23 la24 h => ?_)
      refine Ev.steps 4 (ip' := 50) (ls' := [some (.inr (.inr (some (7, v0)))), some (.inl v1), some (.inl v2), some (.inl v3), some (.inr (.inl v4)), none, some (.inl v6)]) (st' := [.inl (7 : Int32), .inr (.inr (some (39, v0))), .inl (7 : Int32), .inr (.inr (some (39, v0)))]) (M' := mem E mu23 la24) rfl ?_
      refine Ev.ial rfl rfl (by decide) h.1 ?_
      have h := h.2
      refine Ev.steps 2 (ip' := 53) (ls' := [some (.inr (.inr (some (7, v0)))), some (.inl v1), some (.inl v2), some (.inl v3), some (.inr (.inl v4)), none, some (.inl v6)]) (st' := [.inl ((mu23 39 v0 (7 : Int32).toNatClampNeg) ||| v6), .inl (7 : Int32), .inr (.inr (some (39, v0)))]) (M' := mem E mu23 la24) rfl ?_
      refine Ev.ias rfl rfl h.1 ?_
      have h := h.2
      generalize hgmu25 : up3 mu23 39 v0 (7 : Int32).toNatClampNeg ((mu23 39 v0 (7 : Int32).toNatClampNeg) ||| v6) = mu25
      have h := h mu25 hgmu25.symm
      refine Ev.steps 7 (ip' := 61) (ls' := [some (.inr (.inr (some (7, v0)))), some (.inl v1), some (.inl v2), some (.inl v3), some (.inr (.inl v4)), none, some (.inl v6)]) (st' := [.inl (mu25 7 v0 5), .inl v1, .inr (.inr (some (39, v0))), .inr (.inr (some (7, v0))), .inr (.inl v4)]) (M' := mem E mu25 la24) rfl ?_
      refine Ev.ci (J := mi_160) (as := [.inr (.inr (some (7, v0))), .inr (.inr (some (39, v0))), .inl v1, .inl (mu25 7 v0 5)]) (rest := [.inr (.inl v4)]) rfl rfl rfl (Nat.le_of_ble_eq_true rfl) h (fun x26 mu27 la28 h => ?_)
      refine Ev.steps 1 (ip' := 63) (ls' := [some (.inr (.inr (some (7, v0)))), some (.inl v1), some (.inl v2), some (.inl v3), some (.inr (.inl v4)), none, some (.inl v6)]) (st' := [.inl v1, .inl x26, .inr (.inl v4)]) (M' := mem E mu27 la28) rfl ?_
      refine Ev.br (c := ¬ x26 = v1) (s1 := (70, [some (.inr (.inr (some (7, v0)))), some (.inl v1), some (.inl v2), some (.inl v3), some (.inr (.inl v4)), none, some (.inl v6)], [.inr (.inl v4)], mem E mu27 la28)) (s2 := (64, [some (.inr (.inr (some (7, v0)))), some (.inl v1), some (.inl v2), some (.inl v3), some (.inr (.inl v4)), none, some (.inl v6)], [.inr (.inl v4)], mem E mu27 la28)) rfl rfl rfl rfl (fun hc => ?_) (fun hc => ?_)
      · have h := h.1 hc
        dsimp only
        refine Ev.steps 5 (ip' := 32) (ls' := [some (.inr (.inr (some (7, v0)))), some (.inl v1), some (.inl v2), some (.inl v3), some (.inr (.inl (v4 + (0 : Int64)))), none, some (.inl (v6 + (1 : Int32)))]) (st' := []) (M' := mem E mu27 la28) rfl ?_
        exact h
      · have h := h.2 hc
        dsimp only
        refine Ev.steps 4 (ip' := 68) (ls' := [some (.inr (.inr (some (7, v0)))), some (.inl v1), some (.inl v2), some (.inl v3), some (.inr (.inl v4)), none, some (.inl v6)]) (st' := [.inl v2, .inl v3, .inl v6, .inr (.inr (some (7, v0))), .inr (.inl v4)]) (M' := mem E mu27 la28) rfl ?_
        refine Ev.cl (J := mi_212) (as := [.inr (.inr (some (7, v0))), .inl v6, .inl v3, .inl v2]) (rest := [.inr (.inl v4)]) rfl rfl rfl (Nat.le_of_ble_eq_true rfl) h (fun x29 mu30 la31 h => ?_)
        refine Ev.steps 5 (ip' := 32) (ls' := [some (.inr (.inr (some (7, v0)))), some (.inl v1), some (.inl v2), some (.inl v3), some (.inr (.inl (v4 + x29))), none, some (.inl (v6 + (1 : Int32)))]) (st' := []) (M' := mem E mu30 la31) rfl ?_
        exact h
