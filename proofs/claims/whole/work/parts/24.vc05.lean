set_option maxRecDepth 100000 in
/-- AnnCups.lots(II)I -/
theorem vc_X6_lots {E : mEv} {d : Nat} {c : Nat} (a0 : Int32) (a1 : Int32) {mu : fMu} {la : fLa} {Q : Int32 → fMu → fLa → Prop} (h : (a0 < (1 : Int32) → (Q (-1 : Int32) mu la)) ∧ (¬ (a0 < (1 : Int32)) → (((20 : Int32) < a0 → (Q (-1 : Int32) mu la)) ∧ (¬ ((20 : Int32) < a0) → ((a1 < (1 : Int32) → (Q (-1 : Int32) mu la)) ∧ (¬ (a1 < (1 : Int32)) → (((lg_cmp a1.toInt64 (2147483647 : Int64)) < 0 → ((¬ (mu 1 0 0) = 0 → ((((mu 2 0 0) + a0) ≤ (40 : Int32) → (Ev E (d + 1) mi_87 36 [some (.inr (.inr (some (6, c)))), some (.inl a0), none, some (.inr (.inl a1.toInt64)), none, some (.inl (0 : Int32))] [] (mem E mu la) (qI E Q))) ∧ (¬ (((mu 2 0 0) + a0) ≤ (40 : Int32)) → (Q (-2 : Int32) mu la)))) ∧ (¬ (¬ (mu 1 0 0) = 0) → (Q (-4 : Int32) mu la)))) ∧ (¬ ((lg_cmp a1.toInt64 (2147483647 : Int64)) < 0) → (Q (-1 : Int32) mu la))))))))) : FnI E (d + 1) mi_87 [.inr (.inr (some (6, c))), .inl a0, .inl a1] mu la Q := by
  unfold FnI
  show Ev E (d + 1) mi_87 0 [some (.inr (.inr (some (6, c)))), some (.inl a0), some (.inl a1), none, none, none] [] (mem E mu la) (qI E Q)
  refine Ev.steps 2 (ip' := 2) (ls' := [some (.inr (.inr (some (6, c)))), some (.inl a0), some (.inl a1), none, none, none]) (st' := [.inl (1 : Int32), .inl a0]) (M' := mem E mu la) rfl ?_
  refine Ev.br (c := a0 < (1 : Int32)) (s1 := (14, [some (.inr (.inr (some (6, c)))), some (.inl a0), some (.inl a1), none, none, none], [], mem E mu la)) (s2 := (3, [some (.inr (.inr (some (6, c)))), some (.inl a0), some (.inl a1), none, none, none], [], mem E mu la)) rfl rfl rfl rfl (fun hc => ?_) (fun hc => ?_)
  · have h := h.1 hc
    dsimp only
    refine Ev.steps 1 (ip' := 15) (ls' := [some (.inr (.inr (some (6, c)))), some (.inl a0), some (.inl a1), none, none, none]) (st' := [.inl (-1 : Int32)]) (M' := mem E mu la) rfl ?_
    exact Ev.ret rfl rfl ⟨_, _, _, rfl, rfl, h⟩
  · have h := h.2 hc
    dsimp only
    refine Ev.steps 2 (ip' := 5) (ls' := [some (.inr (.inr (some (6, c)))), some (.inl a0), some (.inl a1), none, none, none]) (st' := [.inl (20 : Int32), .inl a0]) (M' := mem E mu la) rfl ?_
    refine Ev.br (c := (20 : Int32) < a0) (s1 := (14, [some (.inr (.inr (some (6, c)))), some (.inl a0), some (.inl a1), none, none, none], [], mem E mu la)) (s2 := (6, [some (.inr (.inr (some (6, c)))), some (.inl a0), some (.inl a1), none, none, none], [], mem E mu la)) rfl rfl rfl rfl (fun hc => ?_) (fun hc => ?_)
    · have h := h.1 hc
      dsimp only
      refine Ev.steps 1 (ip' := 15) (ls' := [some (.inr (.inr (some (6, c)))), some (.inl a0), some (.inl a1), none, none, none]) (st' := [.inl (-1 : Int32)]) (M' := mem E mu la) rfl ?_
      exact Ev.ret rfl rfl ⟨_, _, _, rfl, rfl, h⟩
    · have h := h.2 hc
      dsimp only
      refine Ev.steps 2 (ip' := 8) (ls' := [some (.inr (.inr (some (6, c)))), some (.inl a0), some (.inl a1), none, none, none]) (st' := [.inl (1 : Int32), .inl a1]) (M' := mem E mu la) rfl ?_
      refine Ev.br (c := a1 < (1 : Int32)) (s1 := (14, [some (.inr (.inr (some (6, c)))), some (.inl a0), some (.inl a1), none, none, none], [], mem E mu la)) (s2 := (9, [some (.inr (.inr (some (6, c)))), some (.inl a0), some (.inl a1), none, none, none], [], mem E mu la)) rfl rfl rfl rfl (fun hc => ?_) (fun hc => ?_)
      · have h := h.1 hc
        dsimp only
        refine Ev.steps 1 (ip' := 15) (ls' := [some (.inr (.inr (some (6, c)))), some (.inl a0), some (.inl a1), none, none, none]) (st' := [.inl (-1 : Int32)]) (M' := mem E mu la) rfl ?_
        exact Ev.ret rfl rfl ⟨_, _, _, rfl, rfl, h⟩
      · have h := h.2 hc
        dsimp only
        refine Ev.steps 4 (ip' := 13) (ls' := [some (.inr (.inr (some (6, c)))), some (.inl a0), some (.inl a1), none, none, none]) (st' := [.inl (lg_cmp a1.toInt64 (2147483647 : Int64))]) (M' := mem E mu la) rfl ?_
        refine Ev.br (c := (lg_cmp a1.toInt64 (2147483647 : Int64)) < 0) (s1 := (16, [some (.inr (.inr (some (6, c)))), some (.inl a0), some (.inl a1), none, none, none], [], mem E mu la)) (s2 := (14, [some (.inr (.inr (some (6, c)))), some (.inl a0), some (.inl a1), none, none, none], [], mem E mu la)) rfl rfl rfl rfl (fun hc => ?_) (fun hc => ?_)
        · have h := h.1 hc
          dsimp only
          refine Ev.steps 3 (ip' := 19) (ls' := [some (.inr (.inr (some (6, c)))), some (.inl a0), some (.inl a1), none, none, none]) (st' := [.inl (mu 1 0 0)]) (M' := mem E mu la) rfl ?_
          refine Ev.br (c := ¬ (mu 1 0 0) = 0) (s1 := (22, [some (.inr (.inr (some (6, c)))), some (.inl a0), some (.inl a1), none, none, none], [], mem E mu la)) (s2 := (20, [some (.inr (.inr (some (6, c)))), some (.inl a0), some (.inl a1), none, none, none], [], mem E mu la)) rfl rfl rfl rfl (fun hc => ?_) (fun hc => ?_)
          · have h := h.1 hc
            dsimp only
            refine Ev.steps 6 (ip' := 28) (ls' := [some (.inr (.inr (some (6, c)))), some (.inl a0), some (.inl a1), none, none, none]) (st' := [.inl (40 : Int32), .inl ((mu 2 0 0) + a0)]) (M' := mem E mu la) rfl ?_
            refine Ev.br (c := ((mu 2 0 0) + a0) ≤ (40 : Int32)) (s1 := (31, [some (.inr (.inr (some (6, c)))), some (.inl a0), some (.inl a1), none, none, none], [], mem E mu la)) (s2 := (29, [some (.inr (.inr (some (6, c)))), some (.inl a0), some (.inl a1), none, none, none], [], mem E mu la)) rfl rfl rfl rfl (fun hc => ?_) (fun hc => ?_)
            · have h := h.1 hc
              dsimp only
              refine Ev.steps 5 (ip' := 36) (ls' := [some (.inr (.inr (some (6, c)))), some (.inl a0), some (.inl a1), some (.inr (.inl a1.toInt64)), none, some (.inl (0 : Int32))]) (st' := []) (M' := mem E mu la) rfl ?_
              refine Ev.drop (ls := [some (.inr (.inr (some (6, c)))), some (.inl a0), none, some (.inr (.inl a1.toInt64)), none, some (.inl (0 : Int32))]) ⟨Or.inr rfl, Or.inr rfl, Or.inl rfl, Or.inr rfl, Or.inr rfl, Or.inr rfl, trivial⟩ ?_
              exact h
            · have h := h.2 hc
              dsimp only
              refine Ev.steps 1 (ip' := 30) (ls' := [some (.inr (.inr (some (6, c)))), some (.inl a0), some (.inl a1), none, none, none]) (st' := [.inl (-2 : Int32)]) (M' := mem E mu la) rfl ?_
              exact Ev.ret rfl rfl ⟨_, _, _, rfl, rfl, h⟩
          · have h := h.2 hc
            dsimp only
            refine Ev.steps 1 (ip' := 21) (ls' := [some (.inr (.inr (some (6, c)))), some (.inl a0), some (.inl a1), none, none, none]) (st' := [.inl (-4 : Int32)]) (M' := mem E mu la) rfl ?_
            exact Ev.ret rfl rfl ⟨_, _, _, rfl, rfl, h⟩
        · have h := h.2 hc
          dsimp only
          refine Ev.steps 1 (ip' := 15) (ls' := [some (.inr (.inr (some (6, c)))), some (.inl a0), some (.inl a1), none, none, none]) (st' := [.inl (-1 : Int32)]) (M' := mem E mu la) rfl ?_
          exact Ev.ret rfl rfl ⟨_, _, _, rfl, rfl, h⟩
set_option maxRecDepth 100000 in
theorem vc_X6_lots_36 {E : mEv} {d : Nat}  (v0 : Nat) (v1 : Int32) (v3 : Int64) (v5 : Int32) {mu : fMu} {la : fLa} {Q : Int32 → fMu → fLa → Prop} (h : (v1 ≤ v5 → (FnI E d mi_12 [.inr (.inr (some (0, 0)))] mu la (fun x1 mu2 la3 => Q x1 mu2 la3))) ∧ (¬ (v1 ≤ v5) → ((¬ (2147483647 : Int64) = 0) ∧ ((¬ ((mu 1 0 0).toInt64) = 0) ∧ ((¬ (8 : Int64) = 0) ∧ ((¬ ((mu 1 0 0).toInt64) = 0) ∧ (FnV E d mi_120 [.inr (.inr (some (6, v0))), .inl ((((v3 * (48271 : Int64)) - (v3 * (48271 : Int64)) / (2147483647 : Int64) * (2147483647 : Int64)) - ((v3 * (48271 : Int64)) - (v3 * (48271 : Int64)) / (2147483647 : Int64) * (2147483647 : Int64)) / ((mu 1 0 0).toInt64) * ((mu 1 0 0).toInt64)).toInt32), .inl (((((v3 * (48271 : Int64)) - (v3 * (48271 : Int64)) / (2147483647 : Int64) * (2147483647 : Int64)) / (8 : Int64)) - (((v3 * (48271 : Int64)) - (v3 * (48271 : Int64)) / (2147483647 : Int64) * (2147483647 : Int64)) / (8 : Int64)) / ((mu 1 0 0).toInt64) * ((mu 1 0 0).toInt64)).toInt32)] mu la (fun mu5 la6 => Ev E (d + 1) mi_87 36 [some (.inr (.inr (some (6, v0)))), some (.inl v1), none, some (.inr (.inl ((v3 * (48271 : Int64)) - (v3 * (48271 : Int64)) / (2147483647 : Int64) * (2147483647 : Int64)))), none, some (.inl (v5 + (1 : Int32)))] [] (mem E mu5 la6) (qI E Q))))))))) : Ev E (d + 1) mi_87 36 [some (.inr (.inr (some (6, v0)))), some (.inl v1), none, some (.inr (.inl v3)), none, some (.inl v5)] [] (mem E mu la) (qI E Q) := by
  refine Ev.steps 2 (ip' := 38) (ls' := [some (.inr (.inr (some (6, v0)))), some (.inl v1), none, some (.inr (.inl v3)), none, some (.inl v5)]) (st' := [.inl v1, .inl v5]) (M' := mem E mu la) rfl ?_
  refine Ev.br (c := v1 ≤ v5) (s1 := (65, [some (.inr (.inr (some (6, v0)))), some (.inl v1), none, some (.inr (.inl v3)), none, some (.inl v5)], [], mem E mu la)) (s2 := (39, [some (.inr (.inr (some (6, v0)))), some (.inl v1), none, some (.inr (.inl v3)), none, some (.inl v5)], [], mem E mu la)) rfl rfl rfl rfl (fun hc => ?_) (fun hc => ?_)
  · have h := h.1 hc
    dsimp only
    refine Ev.steps 2 (ip' := 67) (ls' := [some (.inr (.inr (some (6, v0)))), some (.inl v1), none, some (.inr (.inl v3)), none, some (.inl v5)]) (st' := [.inr (.inr (some (0, 0)))]) (M' := mem E mu la) rfl ?_
    refine Ev.ci (J := mi_12) (as := [.inr (.inr (some (0, 0)))]) (rest := []) rfl rfl rfl (Nat.le_of_ble_eq_true rfl) h (fun x1 mu2 la3 h => ?_)
    exact Ev.ret rfl rfl ⟨_, _, _, rfl, rfl, h⟩
  · have h := h.2 hc
    dsimp only
    refine Ev.steps 4 (ip' := 43) (ls' := [some (.inr (.inr (some (6, v0)))), some (.inl v1), none, some (.inr (.inl v3)), none, some (.inl v5)]) (st' := [.inr (.inl (2147483647 : Int64)), .inr (.inl (v3 * (48271 : Int64)))]) (M' := mem E mu la) rfl ?_
    refine Ev.want (c := (2147483647 : Int64) = 0) (s2 := (44, [some (.inr (.inr (some (6, v0)))), some (.inl v1), none, some (.inr (.inl v3)), none, some (.inl v5)], [.inr (.inl ((v3 * (48271 : Int64)) - (v3 * (48271 : Int64)) / (2147483647 : Int64) * (2147483647 : Int64)))], mem E mu la)) rfl rfl rfl rfl h.1 ?_
    have h := h.2
    refine Ev.steps 7 (ip' := 51) (ls' := [some (.inr (.inr (some (6, v0)))), some (.inl v1), none, some (.inr (.inl ((v3 * (48271 : Int64)) - (v3 * (48271 : Int64)) / (2147483647 : Int64) * (2147483647 : Int64)))), none, some (.inl v5)]) (st' := [.inr (.inl ((mu 1 0 0).toInt64)), .inr (.inl ((v3 * (48271 : Int64)) - (v3 * (48271 : Int64)) / (2147483647 : Int64) * (2147483647 : Int64))), .inr (.inr (some (6, v0)))]) (M' := mem E mu la) rfl ?_
    refine Ev.want (c := ((mu 1 0 0).toInt64) = 0) (s2 := (52, [some (.inr (.inr (some (6, v0)))), some (.inl v1), none, some (.inr (.inl ((v3 * (48271 : Int64)) - (v3 * (48271 : Int64)) / (2147483647 : Int64) * (2147483647 : Int64)))), none, some (.inl v5)], [.inr (.inl (((v3 * (48271 : Int64)) - (v3 * (48271 : Int64)) / (2147483647 : Int64) * (2147483647 : Int64)) - ((v3 * (48271 : Int64)) - (v3 * (48271 : Int64)) / (2147483647 : Int64) * (2147483647 : Int64)) / ((mu 1 0 0).toInt64) * ((mu 1 0 0).toInt64))), .inr (.inr (some (6, v0)))], mem E mu la)) rfl rfl rfl rfl h.1 ?_
    have h := h.2
    refine Ev.steps 3 (ip' := 55) (ls' := [some (.inr (.inr (some (6, v0)))), some (.inl v1), none, some (.inr (.inl ((v3 * (48271 : Int64)) - (v3 * (48271 : Int64)) / (2147483647 : Int64) * (2147483647 : Int64)))), none, some (.inl v5)]) (st' := [.inr (.inl (8 : Int64)), .inr (.inl ((v3 * (48271 : Int64)) - (v3 * (48271 : Int64)) / (2147483647 : Int64) * (2147483647 : Int64))), .inl ((((v3 * (48271 : Int64)) - (v3 * (48271 : Int64)) / (2147483647 : Int64) * (2147483647 : Int64)) - ((v3 * (48271 : Int64)) - (v3 * (48271 : Int64)) / (2147483647 : Int64) * (2147483647 : Int64)) / ((mu 1 0 0).toInt64) * ((mu 1 0 0).toInt64)).toInt32), .inr (.inr (some (6, v0)))]) (M' := mem E mu la) rfl ?_
    refine Ev.want (c := (8 : Int64) = 0) (s2 := (56, [some (.inr (.inr (some (6, v0)))), some (.inl v1), none, some (.inr (.inl ((v3 * (48271 : Int64)) - (v3 * (48271 : Int64)) / (2147483647 : Int64) * (2147483647 : Int64)))), none, some (.inl v5)], [.inr (.inl (((v3 * (48271 : Int64)) - (v3 * (48271 : Int64)) / (2147483647 : Int64) * (2147483647 : Int64)) / (8 : Int64))), .inl ((((v3 * (48271 : Int64)) - (v3 * (48271 : Int64)) / (2147483647 : Int64) * (2147483647 : Int64)) - ((v3 * (48271 : Int64)) - (v3 * (48271 : Int64)) / (2147483647 : Int64) * (2147483647 : Int64)) / ((mu 1 0 0).toInt64) * ((mu 1 0 0).toInt64)).toInt32), .inr (.inr (some (6, v0)))], mem E mu la)) rfl rfl rfl rfl h.1 ?_
    have h := h.2
    refine Ev.steps 4 (ip' := 60) (ls' := [some (.inr (.inr (some (6, v0)))), some (.inl v1), none, some (.inr (.inl ((v3 * (48271 : Int64)) - (v3 * (48271 : Int64)) / (2147483647 : Int64) * (2147483647 : Int64)))), none, some (.inl v5)]) (st' := [.inr (.inl ((mu 1 0 0).toInt64)), .inr (.inl (((v3 * (48271 : Int64)) - (v3 * (48271 : Int64)) / (2147483647 : Int64) * (2147483647 : Int64)) / (8 : Int64))), .inl ((((v3 * (48271 : Int64)) - (v3 * (48271 : Int64)) / (2147483647 : Int64) * (2147483647 : Int64)) - ((v3 * (48271 : Int64)) - (v3 * (48271 : Int64)) / (2147483647 : Int64) * (2147483647 : Int64)) / ((mu 1 0 0).toInt64) * ((mu 1 0 0).toInt64)).toInt32), .inr (.inr (some (6, v0)))]) (M' := mem E mu la) rfl ?_
    refine Ev.want (c := ((mu 1 0 0).toInt64) = 0) (s2 := (61, [some (.inr (.inr (some (6, v0)))), some (.inl v1), none, some (.inr (.inl ((v3 * (48271 : Int64)) - (v3 * (48271 : Int64)) / (2147483647 : Int64) * (2147483647 : Int64)))), none, some (.inl v5)], [.inr (.inl ((((v3 * (48271 : Int64)) - (v3 * (48271 : Int64)) / (2147483647 : Int64) * (2147483647 : Int64)) / (8 : Int64)) - (((v3 * (48271 : Int64)) - (v3 * (48271 : Int64)) / (2147483647 : Int64) * (2147483647 : Int64)) / (8 : Int64)) / ((mu 1 0 0).toInt64) * ((mu 1 0 0).toInt64))), .inl ((((v3 * (48271 : Int64)) - (v3 * (48271 : Int64)) / (2147483647 : Int64) * (2147483647 : Int64)) - ((v3 * (48271 : Int64)) - (v3 * (48271 : Int64)) / (2147483647 : Int64) * (2147483647 : Int64)) / ((mu 1 0 0).toInt64) * ((mu 1 0 0).toInt64)).toInt32), .inr (.inr (some (6, v0)))], mem E mu la)) rfl rfl rfl rfl h.1 ?_
    have h := h.2
    refine Ev.steps 1 (ip' := 62) (ls' := [some (.inr (.inr (some (6, v0)))), some (.inl v1), none, some (.inr (.inl ((v3 * (48271 : Int64)) - (v3 * (48271 : Int64)) / (2147483647 : Int64) * (2147483647 : Int64)))), none, some (.inl v5)]) (st' := [.inl (((((v3 * (48271 : Int64)) - (v3 * (48271 : Int64)) / (2147483647 : Int64) * (2147483647 : Int64)) / (8 : Int64)) - (((v3 * (48271 : Int64)) - (v3 * (48271 : Int64)) / (2147483647 : Int64) * (2147483647 : Int64)) / (8 : Int64)) / ((mu 1 0 0).toInt64) * ((mu 1 0 0).toInt64)).toInt32), .inl ((((v3 * (48271 : Int64)) - (v3 * (48271 : Int64)) / (2147483647 : Int64) * (2147483647 : Int64)) - ((v3 * (48271 : Int64)) - (v3 * (48271 : Int64)) / (2147483647 : Int64) * (2147483647 : Int64)) / ((mu 1 0 0).toInt64) * ((mu 1 0 0).toInt64)).toInt32), .inr (.inr (some (6, v0)))]) (M' := mem E mu la) rfl ?_
    refine Ev.cv (J := mi_120) (as := [.inr (.inr (some (6, v0))), .inl ((((v3 * (48271 : Int64)) - (v3 * (48271 : Int64)) / (2147483647 : Int64) * (2147483647 : Int64)) - ((v3 * (48271 : Int64)) - (v3 * (48271 : Int64)) / (2147483647 : Int64) * (2147483647 : Int64)) / ((mu 1 0 0).toInt64) * ((mu 1 0 0).toInt64)).toInt32), .inl (((((v3 * (48271 : Int64)) - (v3 * (48271 : Int64)) / (2147483647 : Int64) * (2147483647 : Int64)) / (8 : Int64)) - (((v3 * (48271 : Int64)) - (v3 * (48271 : Int64)) / (2147483647 : Int64) * (2147483647 : Int64)) / (8 : Int64)) / ((mu 1 0 0).toInt64) * ((mu 1 0 0).toInt64)).toInt32)]) (rest := []) rfl rfl rfl (Nat.le_of_ble_eq_true rfl) h (fun mu5 la6 h => ?_)
    refine Ev.steps 2 (ip' := 36) (ls' := [some (.inr (.inr (some (6, v0)))), some (.inl v1), none, some (.inr (.inl ((v3 * (48271 : Int64)) - (v3 * (48271 : Int64)) / (2147483647 : Int64) * (2147483647 : Int64)))), none, some (.inl (v5 + (1 : Int32)))]) (st' := []) (M' := mem E mu5 la6) rfl ?_
    exact h
set_option maxRecDepth 100000 in
/-- AnnCups.asked()I -/
theorem vc_X6_asked {E : mEv} {d : Nat} {c : Nat} {mu : fMu} {la : fLa} {Q : Int32 → fMu → fLa → Prop} (h : Q (mu 6 c 11) mu la) : FnI E d mi_88 [.inr (.inr (some (6, c)))] mu la Q := by
  unfold FnI
  show Ev E d mi_88 0 [some (.inr (.inr (some (6, c))))] [] (mem E mu la) (qI E Q)
  refine Ev.steps 2 (ip' := 2) (ls' := [some (.inr (.inr (some (6, c))))]) (st' := [.inl (mu 6 c 11)]) (M' := mem E mu la) rfl ?_
  exact Ev.ret rfl rfl ⟨_, _, _, rfl, rfl, h⟩
set_option maxRecDepth 100000 in
/-- AnnCups.upper()J -/
theorem vc_X6_upper {E : mEv} {d : Nat} {c : Nat} {mu : fMu} {la : fLa} {Q : Int64 → fMu → fLa → Prop} (h : Q (la 6 c 12) mu la) : FnL E d mi_89 [.inr (.inr (some (6, c)))] mu la Q := by
  unfold FnL
  show Ev E d mi_89 0 [some (.inr (.inr (some (6, c))))] [] (mem E mu la) (qL E Q)
  refine Ev.steps 2 (ip' := 2) (ls' := [some (.inr (.inr (some (6, c))))]) (st' := [.inr (.inl (la 6 c 12))]) (M' := mem E mu la) rfl ?_
  exact Ev.ret rfl rfl ⟨_, _, _, rfl, rfl, h⟩
set_option maxRecDepth 100000 in
/-- AnnCups.lower()J -/
theorem vc_X6_lower {E : mEv} {d : Nat} {c : Nat} {mu : fMu} {la : fLa} {Q : Int64 → fMu → fLa → Prop} (h : Q (la 6 c 13) mu la) : FnL E d mi_90 [.inr (.inr (some (6, c)))] mu la Q := by
  unfold FnL
  show Ev E d mi_90 0 [some (.inr (.inr (some (6, c))))] [] (mem E mu la) (qL E Q)
  refine Ev.steps 2 (ip' := 2) (ls' := [some (.inr (.inr (some (6, c))))]) (st' := [.inr (.inl (la 6 c 13))]) (M' := mem E mu la) rfl ?_
  exact Ev.ret rfl rfl ⟨_, _, _, rfl, rfl, h⟩
set_option maxRecDepth 100000 in
/-- AnnCups.count(I)I -/
theorem vc_X6_count {E : mEv} {d : Nat} {c : Nat} (a0 : Int32) {mu : fMu} {la : fLa} {Q : Int32 → fMu → fLa → Prop} (h : FnI E d mi_113 [.inr (.inr (some (6, c))), .inl a0] mu la (fun x1 mu2 la3 => Q x1 mu2 la3)) : FnI E (d + 1) mi_91 [.inr (.inr (some (6, c))), .inl a0] mu la Q := by
  unfold FnI
  show Ev E (d + 1) mi_91 0 [some (.inr (.inr (some (6, c)))), some (.inl a0)] [] (mem E mu la) (qI E Q)
  refine Ev.steps 2 (ip' := 2) (ls' := [some (.inr (.inr (some (6, c)))), some (.inl a0)]) (st' := [.inl a0, .inr (.inr (some (6, c)))]) (M' := mem E mu la) rfl ?_
  refine Ev.ci (J := mi_113) (as := [.inr (.inr (some (6, c))), .inl a0]) (rest := []) rfl rfl rfl (Nat.le_of_ble_eq_true rfl) h (fun x1 mu2 la3 h => ?_)
  exact Ev.ret rfl rfl ⟨_, _, _, rfl, rfl, h⟩
set_option maxRecDepth 100000 in
/-- AnnCups.finding()I -/
theorem vc_X6_finding {E : mEv} {d : Nat} {c : Nat} {mu : fMu} {la : fLa} {Q : Int32 → fMu → fLa → Prop} (h : Q (mu 6 c 10) mu la) : FnI E d mi_92 [.inr (.inr (some (6, c)))] mu la Q := by
  unfold FnI
  show Ev E d mi_92 0 [some (.inr (.inr (some (6, c))))] [] (mem E mu la) (qI E Q)
  refine Ev.steps 2 (ip' := 2) (ls' := [some (.inr (.inr (some (6, c))))]) (st' := [.inl (mu 6 c 10)]) (M' := mem E mu la) rfl ?_
  exact Ev.ret rfl rfl ⟨_, _, _, rfl, rfl, h⟩
set_option maxRecDepth 100000 in
/-- AnnCups.findings(I)I -/
theorem vc_X6_findings {E : mEv} {d : Nat} {c : Nat} (a0 : Int32) {mu : fMu} {la : fLa} {Q : Int32 → fMu → fLa → Prop} (h : (a0 < (1 : Int32) → (Q (-1 : Int32) mu la)) ∧ (¬ (a0 < (1 : Int32)) → ((a0 ≤ (5 : Int32) → (vp_in a0 6 ∧ (Q (mu 28 c a0.toNatClampNeg) mu la))) ∧ (¬ (a0 ≤ (5 : Int32)) → (Q (-1 : Int32) mu la))))) : FnI E d mi_93 [.inr (.inr (some (6, c))), .inl a0] mu la Q := by
  unfold FnI
  show Ev E d mi_93 0 [some (.inr (.inr (some (6, c)))), some (.inl a0)] [] (mem E mu la) (qI E Q)
  refine Ev.steps 2 (ip' := 2) (ls' := [some (.inr (.inr (some (6, c)))), some (.inl a0)]) (st' := [.inl (1 : Int32), .inl a0]) (M' := mem E mu la) rfl ?_
  refine Ev.br (c := a0 < (1 : Int32)) (s1 := (6, [some (.inr (.inr (some (6, c)))), some (.inl a0)], [], mem E mu la)) (s2 := (3, [some (.inr (.inr (some (6, c)))), some (.inl a0)], [], mem E mu la)) rfl rfl rfl rfl (fun hc => ?_) (fun hc => ?_)
  · have h := h.1 hc
    dsimp only
    refine Ev.steps 2 (ip' := 12) (ls' := [some (.inr (.inr (some (6, c)))), some (.inl a0)]) (st' := [.inl (-1 : Int32)]) (M' := mem E mu la) rfl ?_
    exact Ev.ret rfl rfl ⟨_, _, _, rfl, rfl, h⟩
  · have h := h.2 hc
    dsimp only
    refine Ev.steps 2 (ip' := 5) (ls' := [some (.inr (.inr (some (6, c)))), some (.inl a0)]) (st' := [.inl (5 : Int32), .inl a0]) (M' := mem E mu la) rfl ?_
    refine Ev.br (c := a0 ≤ (5 : Int32)) (s1 := (8, [some (.inr (.inr (some (6, c)))), some (.inl a0)], [], mem E mu la)) (s2 := (6, [some (.inr (.inr (some (6, c)))), some (.inl a0)], [], mem E mu la)) rfl rfl rfl rfl (fun hc => ?_) (fun hc => ?_)
    · have h := h.1 hc
      dsimp only
      refine Ev.steps 3 (ip' := 11) (ls' := [some (.inr (.inr (some (6, c)))), some (.inl a0)]) (st' := [.inl a0, .inr (.inr (some (28, c)))]) (M' := mem E mu la) rfl ?_
      refine Ev.ial rfl rfl (by decide) h.1 ?_
      have h := h.2
      exact Ev.ret rfl rfl ⟨_, _, _, rfl, rfl, h⟩
    · have h := h.2 hc
      dsimp only
      refine Ev.steps 2 (ip' := 12) (ls' := [some (.inr (.inr (some (6, c)))), some (.inl a0)]) (st' := [.inl (-1 : Int32)]) (M' := mem E mu la) rfl ?_
      exact Ev.ret rfl rfl ⟨_, _, _, rfl, rfl, h⟩
set_option maxRecDepth 100000 in
/-- AnnCups.digest()J -/
theorem vc_X6_digest {E : mEv} {d : Nat} {c : Nat} {mu : fMu} {la : fLa} {Q : Int64 → fMu → fLa → Prop} (h : Ev E (d + 1) mi_94 4 [some (.inr (.inr (some (6, c)))), some (.inr (.inl (17 : Int64))), none, some (.inl (0 : Int32)), none] [] (mem E mu la) (qL E Q)) : FnL E (d + 1) mi_94 [.inr (.inr (some (6, c)))] mu la Q := by
  unfold FnL
  show Ev E (d + 1) mi_94 0 [some (.inr (.inr (some (6, c)))), none, none, none, none] [] (mem E mu la) (qL E Q)
  refine Ev.steps 4 (ip' := 4) (ls' := [some (.inr (.inr (some (6, c)))), some (.inr (.inl (17 : Int64))), none, some (.inl (0 : Int32)), none]) (st' := []) (M' := mem E mu la) rfl ?_
  exact h
set_option maxRecDepth 100000 in
theorem vc_X6_digest_4 {E : mEv} {d : Nat}  (v0 : Nat) (v1 : Int64) (v3 : Int32) {mu : fMu} {la : fLa} {Q : Int64 → fMu → fLa → Prop} (h : ((12 : Int32) ≤ v3 → (Ev E (d + 1) mi_94 20 [some (.inr (.inr (some (6, v0)))), some (.inr (.inl v1)), none, some (.inl (0 : Int32)), none] [] (mem E mu la) (qL E Q))) ∧ (¬ ((12 : Int32) ≤ v3) → (FnI E d mi_113 [.inr (.inr (some (6, v0))), .inl v3] mu la (fun x1 mu2 la3 => Ev E (d + 1) mi_94 4 [some (.inr (.inr (some (6, v0)))), some (.inr (.inl (((31 : Int64) * v1) + x1.toInt64))), none, some (.inl (v3 + (1 : Int32))), none] [] (mem E mu2 la3) (qL E Q))))) : Ev E (d + 1) mi_94 4 [some (.inr (.inr (some (6, v0)))), some (.inr (.inl v1)), none, some (.inl v3), none] [] (mem E mu la) (qL E Q) := by
  refine Ev.steps 2 (ip' := 6) (ls' := [some (.inr (.inr (some (6, v0)))), some (.inr (.inl v1)), none, some (.inl v3), none]) (st' := [.inl (12 : Int32), .inl v3]) (M' := mem E mu la) rfl ?_
  refine Ev.br (c := (12 : Int32) ≤ v3) (s1 := (18, [some (.inr (.inr (some (6, v0)))), some (.inr (.inl v1)), none, some (.inl v3), none], [], mem E mu la)) (s2 := (7, [some (.inr (.inr (some (6, v0)))), some (.inr (.inl v1)), none, some (.inl v3), none], [], mem E mu la)) rfl rfl rfl rfl (fun hc => ?_) (fun hc => ?_)
  · have h := h.1 hc
    dsimp only
    refine Ev.steps 2 (ip' := 20) (ls' := [some (.inr (.inr (some (6, v0)))), some (.inr (.inl v1)), none, some (.inl (0 : Int32)), none]) (st' := []) (M' := mem E mu la) rfl ?_
    exact h
  · have h := h.2 hc
    dsimp only
    refine Ev.steps 5 (ip' := 12) (ls' := [some (.inr (.inr (some (6, v0)))), some (.inr (.inl v1)), none, some (.inl v3), none]) (st' := [.inl v3, .inr (.inr (some (6, v0))), .inr (.inl ((31 : Int64) * v1))]) (M' := mem E mu la) rfl ?_
    refine Ev.ci (J := mi_113) (as := [.inr (.inr (some (6, v0))), .inl v3]) (rest := [.inr (.inl ((31 : Int64) * v1))]) rfl rfl rfl (Nat.le_of_ble_eq_true rfl) h (fun x1 mu2 la3 h => ?_)
    refine Ev.steps 5 (ip' := 4) (ls' := [some (.inr (.inr (some (6, v0)))), some (.inr (.inl (((31 : Int64) * v1) + x1.toInt64))), none, some (.inl (v3 + (1 : Int32))), none]) (st' := []) (M' := mem E mu2 la3) rfl ?_
    exact h
set_option maxRecDepth 100000 in
theorem vc_X6_digest_20 {E : mEv} {d : Nat}  (v0 : Nat) (v1 : Int64) (v3 : Int32) {mu : fMu} {la : fLa} {Q : Int64 → fMu → fLa → Prop} (h : ((mu 1 0 0) ≤ v3 → (Ev E (d + 1) mi_94 46 [some (.inr (.inr (some (6, v0)))), some (.inr (.inl v1)), none, some (.inl (0 : Int32)), none] [] (mem E mu la) (qL E Q))) ∧ (¬ ((mu 1 0 0) ≤ v3) → (Ev E (d + 1) mi_94 27 [some (.inr (.inr (some (6, v0)))), some (.inr (.inl v1)), none, some (.inl v3), some (.inl (0 : Int32))] [] (mem E mu la) (qL E Q)))) : Ev E (d + 1) mi_94 20 [some (.inr (.inr (some (6, v0)))), some (.inr (.inl v1)), none, some (.inl v3), none] [] (mem E mu la) (qL E Q) := by
  refine Ev.steps 4 (ip' := 24) (ls' := [some (.inr (.inr (some (6, v0)))), some (.inr (.inl v1)), none, some (.inl v3), none]) (st' := [.inl (mu 1 0 0), .inl v3]) (M' := mem E mu la) rfl ?_
  refine Ev.br (c := (mu 1 0 0) ≤ v3) (s1 := (44, [some (.inr (.inr (some (6, v0)))), some (.inr (.inl v1)), none, some (.inl v3), none], [], mem E mu la)) (s2 := (25, [some (.inr (.inr (some (6, v0)))), some (.inr (.inl v1)), none, some (.inl v3), none], [], mem E mu la)) rfl rfl rfl rfl (fun hc => ?_) (fun hc => ?_)
  · have h := h.1 hc
    dsimp only
    refine Ev.steps 2 (ip' := 46) (ls' := [some (.inr (.inr (some (6, v0)))), some (.inr (.inl v1)), none, some (.inl (0 : Int32)), none]) (st' := []) (M' := mem E mu la) rfl ?_
    exact h
  · have h := h.2 hc
    dsimp only
    refine Ev.steps 2 (ip' := 27) (ls' := [some (.inr (.inr (some (6, v0)))), some (.inr (.inl v1)), none, some (.inl v3), some (.inl (0 : Int32))]) (st' := []) (M' := mem E mu la) rfl ?_
    exact h
set_option maxRecDepth 100000 in
theorem vc_X6_digest_27 {E : mEv} {d : Nat}  (v0 : Nat) (v1 : Int64) (v3 : Int32) (v4 : Int32) {mu : fMu} {la : fLa} {Q : Int64 → fMu → fLa → Prop} (h : ((6 : Int32) ≤ v4 → (Ev E (d + 1) mi_94 20 [some (.inr (.inr (some (6, v0)))), some (.inr (.inl v1)), none, some (.inl (v3 + (1 : Int32))), none] [] (mem E mu la) (qL E Q))) ∧ (¬ ((6 : Int32) ≤ v4) → (FnI E d mi_112 [.inr (.inr (some (6, v0))), .inl v3, .inl v4] mu la (fun x4 mu5 la6 => Ev E (d + 1) mi_94 27 [some (.inr (.inr (some (6, v0)))), some (.inr (.inl (((31 : Int64) * v1) + x4.toInt64))), none, some (.inl v3), some (.inl (v4 + (1 : Int32)))] [] (mem E mu5 la6) (qL E Q))))) : Ev E (d + 1) mi_94 27 [some (.inr (.inr (some (6, v0)))), some (.inr (.inl v1)), none, some (.inl v3), some (.inl v4)] [] (mem E mu la) (qL E Q) := by
  refine Ev.steps 2 (ip' := 29) (ls' := [some (.inr (.inr (some (6, v0)))), some (.inr (.inl v1)), none, some (.inl v3), some (.inl v4)]) (st' := [.inl (6 : Int32), .inl v4]) (M' := mem E mu la) rfl ?_
  refine Ev.br (c := (6 : Int32) ≤ v4) (s1 := (42, [some (.inr (.inr (some (6, v0)))), some (.inr (.inl v1)), none, some (.inl v3), some (.inl v4)], [], mem E mu la)) (s2 := (30, [some (.inr (.inr (some (6, v0)))), some (.inr (.inl v1)), none, some (.inl v3), some (.inl v4)], [], mem E mu la)) rfl rfl rfl rfl (fun hc => ?_) (fun hc => ?_)
  · have h := h.1 hc
    dsimp only
    refine Ev.steps 2 (ip' := 20) (ls' := [some (.inr (.inr (some (6, v0)))), some (.inr (.inl v1)), none, some (.inl (v3 + (1 : Int32))), some (.inl v4)]) (st' := []) (M' := mem E mu la) rfl ?_
    refine Ev.drop (ls := [some (.inr (.inr (some (6, v0)))), some (.inr (.inl v1)), none, some (.inl (v3 + (1 : Int32))), none]) ⟨Or.inr rfl, Or.inr rfl, Or.inr rfl, Or.inr rfl, Or.inl rfl, trivial⟩ ?_
    exact h
  · have h := h.2 hc
    dsimp only
    refine Ev.steps 6 (ip' := 36) (ls' := [some (.inr (.inr (some (6, v0)))), some (.inr (.inl v1)), none, some (.inl v3), some (.inl v4)]) (st' := [.inl v4, .inl v3, .inr (.inr (some (6, v0))), .inr (.inl ((31 : Int64) * v1))]) (M' := mem E mu la) rfl ?_
    refine Ev.ci (J := mi_112) (as := [.inr (.inr (some (6, v0))), .inl v3, .inl v4]) (rest := [.inr (.inl ((31 : Int64) * v1))]) rfl rfl rfl (Nat.le_of_ble_eq_true rfl) h (fun x4 mu5 la6 h => ?_)
    refine Ev.steps 5 (ip' := 27) (ls' := [some (.inr (.inr (some (6, v0)))), some (.inr (.inl (((31 : Int64) * v1) + x4.toInt64))), none, some (.inl v3), some (.inl (v4 + (1 : Int32)))]) (st' := []) (M' := mem E mu5 la6) rfl ?_
    exact h
set_option maxRecDepth 100000 in
theorem vc_X6_digest_46 {E : mEv} {d : Nat}  (v0 : Nat) (v1 : Int64) (v3 : Int32) {mu : fMu} {la : fLa} {Q : Int64 → fMu → fLa → Prop} (h : ((mu 1 0 0) ≤ v3 → (Ev E (d + 1) mi_94 66 [some (.inr (.inr (some (6, v0)))), some (.inr (.inl v1)), none, some (.inl (0 : Int32)), none] [] (mem E mu la) (qL E Q))) ∧ (¬ ((mu 1 0 0) ≤ v3) → (vp_in v3 6 ∧ (Ev E (d + 1) mi_94 46 [some (.inr (.inr (some (6, v0)))), some (.inr (.inl (((31 : Int64) * v1) + ((mu 9 0 v3.toNatClampNeg).toInt64)))), none, some (.inl (v3 + (1 : Int32))), none] [] (mem E mu la) (qL E Q))))) : Ev E (d + 1) mi_94 46 [some (.inr (.inr (some (6, v0)))), some (.inr (.inl v1)), none, some (.inl v3), none] [] (mem E mu la) (qL E Q) := by
  refine Ev.steps 4 (ip' := 50) (ls' := [some (.inr (.inr (some (6, v0)))), some (.inr (.inl v1)), none, some (.inl v3), none]) (st' := [.inl (mu 1 0 0), .inl v3]) (M' := mem E mu la) rfl ?_
  refine Ev.br (c := (mu 1 0 0) ≤ v3) (s1 := (64, [some (.inr (.inr (some (6, v0)))), some (.inr (.inl v1)), none, some (.inl v3), none], [], mem E mu la)) (s2 := (51, [some (.inr (.inr (some (6, v0)))), some (.inr (.inl v1)), none, some (.inl v3), none], [], mem E mu la)) rfl rfl rfl rfl (fun hc => ?_) (fun hc => ?_)
  · have h := h.1 hc
    dsimp only
    refine Ev.steps 2 (ip' := 66) (ls' := [some (.inr (.inr (some (6, v0)))), some (.inr (.inl v1)), none, some (.inl (0 : Int32)), none]) (st' := []) (M' := mem E mu la) rfl ?_
    exact h
  · have h := h.2 hc
    dsimp only
    refine Ev.steps 7 (ip' := 58) (ls' := [some (.inr (.inr (some (6, v0)))), some (.inr (.inl v1)), none, some (.inl v3), none]) (st' := [.inl v3, .inr (.inr (some (9, 0))), .inr (.inl ((31 : Int64) * v1))]) (M' := mem E mu la) rfl ?_
    refine Ev.ial rfl rfl (by decide) h.1 ?_
    have h := h.2
    refine Ev.steps 5 (ip' := 46) (ls' := [some (.inr (.inr (some (6, v0)))), some (.inr (.inl (((31 : Int64) * v1) + ((mu 9 0 v3.toNatClampNeg).toInt64)))), none, some (.inl (v3 + (1 : Int32))), none]) (st' := []) (M' := mem E mu la) rfl ?_
    exact h
set_option maxRecDepth 100000 in
theorem vc_X6_digest_66 {E : mEv} {d : Nat}  (v0 : Nat) (v1 : Int64) (v3 : Int32) {mu : fMu} {la : fLa} {Q : Int64 → fMu → fLa → Prop} (h : ((3 : Int32) ≤ v3 → (Ev E (d + 1) mi_94 84 [some (.inr (.inr (some (6, v0)))), some (.inr (.inl v1)), none, some (.inl (0 : Int32)), none] [] (mem E mu la) (qL E Q))) ∧ (¬ ((3 : Int32) ≤ v3) → (vp_in v3 3 ∧ (Ev E (d + 1) mi_94 66 [some (.inr (.inr (some (6, v0)))), some (.inr (.inl (((31 : Int64) * v1) + ((mu 2 (v3.toNatClampNeg + 1) 0).toInt64)))), none, some (.inl (v3 + (1 : Int32))), none] [] (mem E mu la) (qL E Q))))) : Ev E (d + 1) mi_94 66 [some (.inr (.inr (some (6, v0)))), some (.inr (.inl v1)), none, some (.inl v3), none] [] (mem E mu la) (qL E Q) := by
  refine Ev.steps 2 (ip' := 68) (ls' := [some (.inr (.inr (some (6, v0)))), some (.inr (.inl v1)), none, some (.inl v3), none]) (st' := [.inl (3 : Int32), .inl v3]) (M' := mem E mu la) rfl ?_
  refine Ev.br (c := (3 : Int32) ≤ v3) (s1 := (82, [some (.inr (.inr (some (6, v0)))), some (.inr (.inl v1)), none, some (.inl v3), none], [], mem E mu la)) (s2 := (69, [some (.inr (.inr (some (6, v0)))), some (.inr (.inl v1)), none, some (.inl v3), none], [], mem E mu la)) rfl rfl rfl rfl (fun hc => ?_) (fun hc => ?_)
  · have h := h.1 hc
    dsimp only
    refine Ev.steps 2 (ip' := 84) (ls' := [some (.inr (.inr (some (6, v0)))), some (.inr (.inl v1)), none, some (.inl (0 : Int32)), none]) (st' := []) (M' := mem E mu la) rfl ?_
    exact h
  · have h := h.2 hc
    dsimp only
    refine Ev.steps 6 (ip' := 75) (ls' := [some (.inr (.inr (some (6, v0)))), some (.inr (.inl v1)), none, some (.inl v3), none]) (st' := [.inl v3, .inr (.inr (some (27, v0))), .inr (.inl ((31 : Int64) * v1))]) (M' := mem E mu la) rfl ?_
    refine Ev.aal (r := some (2, v3.toNatClampNeg + 1)) rfl rfl rfl h.1 ?_
    have h := h.2
    refine Ev.steps 6 (ip' := 66) (ls' := [some (.inr (.inr (some (6, v0)))), some (.inr (.inl (((31 : Int64) * v1) + ((mu 2 (v3.toNatClampNeg + 1) 0).toInt64)))), none, some (.inl (v3 + (1 : Int32))), none]) (st' := []) (M' := mem E mu la) rfl ?_
    exact h
set_option maxRecDepth 100000 in
theorem vc_X6_digest_84 {E : mEv} {d : Nat}  (v0 : Nat) (v1 : Int64) (v3 : Int32) {mu : fMu} {la : fLa} {Q : Int64 → fMu → fLa → Prop} (h : ((6 : Int32) ≤ v3 → (Ev E (d + 1) mi_94 98 [some (.inr (.inr (some (6, v0)))), some (.inr (.inl v1)), none, some (.inl (0 : Int32)), none] [] (mem E mu la) (qL E Q))) ∧ (¬ ((6 : Int32) ≤ v3) → (vp_in v3 6 ∧ (FnL E d mi_30 [.inr (.inr (some (3, v3.toNatClampNeg))), .inr (.inl v1)] mu la (fun x7 mu8 la9 => Ev E (d + 1) mi_94 84 [some (.inr (.inr (some (6, v0)))), some (.inr (.inl x7)), none, some (.inl (v3 + (1 : Int32))), none] [] (mem E mu8 la9) (qL E Q)))))) : Ev E (d + 1) mi_94 84 [some (.inr (.inr (some (6, v0)))), some (.inr (.inl v1)), none, some (.inl v3), none] [] (mem E mu la) (qL E Q) := by
  refine Ev.steps 2 (ip' := 86) (ls' := [some (.inr (.inr (some (6, v0)))), some (.inr (.inl v1)), none, some (.inl v3), none]) (st' := [.inl (6 : Int32), .inl v3]) (M' := mem E mu la) rfl ?_
  refine Ev.br (c := (6 : Int32) ≤ v3) (s1 := (96, [some (.inr (.inr (some (6, v0)))), some (.inr (.inl v1)), none, some (.inl v3), none], [], mem E mu la)) (s2 := (87, [some (.inr (.inr (some (6, v0)))), some (.inr (.inl v1)), none, some (.inl v3), none], [], mem E mu la)) rfl rfl rfl rfl (fun hc => ?_) (fun hc => ?_)
  · have h := h.1 hc
    dsimp only
    refine Ev.steps 2 (ip' := 98) (ls' := [some (.inr (.inr (some (6, v0)))), some (.inr (.inl v1)), none, some (.inl (0 : Int32)), none]) (st' := []) (M' := mem E mu la) rfl ?_
    exact h
  · have h := h.2 hc
    dsimp only
    refine Ev.steps 3 (ip' := 90) (ls' := [some (.inr (.inr (some (6, v0)))), some (.inr (.inl v1)), none, some (.inl v3), none]) (st' := [.inl v3, .inr (.inr (some (25, v0)))]) (M' := mem E mu la) rfl ?_
    refine Ev.aal (r := some (3, v3.toNatClampNeg)) rfl rfl rfl h.1 ?_
    have h := h.2
    refine Ev.steps 1 (ip' := 92) (ls' := [some (.inr (.inr (some (6, v0)))), some (.inr (.inl v1)), none, some (.inl v3), none]) (st' := [.inr (.inl v1), .inr (.inr (some (3, v3.toNatClampNeg)))]) (M' := mem E mu la) rfl ?_
    refine Ev.cl (J := mi_30) (as := [.inr (.inr (some (3, v3.toNatClampNeg))), .inr (.inl v1)]) (rest := []) rfl rfl rfl (Nat.le_of_ble_eq_true rfl) h (fun x7 mu8 la9 h => ?_)
    refine Ev.steps 3 (ip' := 84) (ls' := [some (.inr (.inr (some (6, v0)))), some (.inr (.inl x7)), none, some (.inl (v3 + (1 : Int32))), none]) (st' := []) (M' := mem E mu8 la9) rfl ?_
    exact h
set_option maxRecDepth 100000 in
theorem vc_X6_digest_98 {E : mEv} {d : Nat}  (v0 : Nat) (v1 : Int64) (v3 : Int32) {mu : fMu} {la : fLa} {Q : Int64 → fMu → fLa → Prop} (h : ((4 : Int32) ≤ v3 → (Q v1 mu la)) ∧ (¬ ((4 : Int32) ≤ v3) → (vp_in v3 4 ∧ (FnL E d mi_48 [.inr (.inr (some (5, v3.toNatClampNeg))), .inr (.inl v1)] mu la (fun x10 mu11 la12 => Ev E (d + 1) mi_94 98 [some (.inr (.inr (some (6, v0)))), some (.inr (.inl x10)), none, some (.inl (v3 + (1 : Int32))), none] [] (mem E mu11 la12) (qL E Q)))))) : Ev E (d + 1) mi_94 98 [some (.inr (.inr (some (6, v0)))), some (.inr (.inl v1)), none, some (.inl v3), none] [] (mem E mu la) (qL E Q) := by
  refine Ev.steps 2 (ip' := 100) (ls' := [some (.inr (.inr (some (6, v0)))), some (.inr (.inl v1)), none, some (.inl v3), none]) (st' := [.inl (4 : Int32), .inl v3]) (M' := mem E mu la) rfl ?_
  refine Ev.br (c := (4 : Int32) ≤ v3) (s1 := (110, [some (.inr (.inr (some (6, v0)))), some (.inr (.inl v1)), none, some (.inl v3), none], [], mem E mu la)) (s2 := (101, [some (.inr (.inr (some (6, v0)))), some (.inr (.inl v1)), none, some (.inl v3), none], [], mem E mu la)) rfl rfl rfl rfl (fun hc => ?_) (fun hc => ?_)
  · have h := h.1 hc
    dsimp only
    refine Ev.steps 1 (ip' := 111) (ls' := [some (.inr (.inr (some (6, v0)))), some (.inr (.inl v1)), none, some (.inl v3), none]) (st' := [.inr (.inl v1)]) (M' := mem E mu la) rfl ?_
    exact Ev.ret rfl rfl ⟨_, _, _, rfl, rfl, h⟩
  · have h := h.2 hc
    dsimp only
    refine Ev.steps 3 (ip' := 104) (ls' := [some (.inr (.inr (some (6, v0)))), some (.inr (.inl v1)), none, some (.inl v3), none]) (st' := [.inl v3, .inr (.inr (some (26, v0)))]) (M' := mem E mu la) rfl ?_
    refine Ev.aal (r := some (5, v3.toNatClampNeg)) rfl rfl rfl h.1 ?_
    have h := h.2
    refine Ev.steps 1 (ip' := 106) (ls' := [some (.inr (.inr (some (6, v0)))), some (.inr (.inl v1)), none, some (.inl v3), none]) (st' := [.inr (.inl v1), .inr (.inr (some (5, v3.toNatClampNeg)))]) (M' := mem E mu la) rfl ?_
    refine Ev.cl (J := mi_48) (as := [.inr (.inr (some (5, v3.toNatClampNeg))), .inr (.inl v1)]) (rest := []) rfl rfl rfl (Nat.le_of_ble_eq_true rfl) h (fun x10 mu11 la12 h => ?_)
    refine Ev.steps 3 (ip' := 98) (ls' := [some (.inr (.inr (some (6, v0)))), some (.inr (.inl x10)), none, some (.inl (v3 + (1 : Int32))), none]) (st' := []) (M' := mem E mu11 la12) rfl ?_
    exact h
set_option maxRecDepth 100000 in
/-- AnnCups.found(I)I -/
theorem vc_X6_found {E : mEv} {d : Nat} {c : Nat} (a0 : Int32) {mu : fMu} {la : fLa} {Q : Int32 → fMu → fLa → Prop} (h : ∀ mu1 : fMu, mu1 = up3 mu 6 c 10 a0 → (vp_in a0 6 ∧ (vp_in a0 6 ∧ ∀ mu2 : fMu, mu2 = up3 mu1 28 c a0.toNatClampNeg ((mu1 28 c a0.toNatClampNeg) + (1 : Int32)) → (Q (-3 : Int32) mu2 la)))) : FnI E d mi_95 [.inr (.inr (some (6, c))), .inl a0] mu la Q := by
  unfold FnI
  show Ev E d mi_95 0 [some (.inr (.inr (some (6, c)))), some (.inl a0)] [] (mem E mu la) (qI E Q)
  refine Ev.steps 3 (ip' := 3) (ls' := [some (.inr (.inr (some (6, c)))), some (.inl a0)]) (st' := []) (M' := mem E (up3 mu 6 c 10 a0) la) rfl ?_
  generalize hgmu1 : up3 mu 6 c 10 a0 = mu1
  have h := h mu1 hgmu1.symm
  refine Ev.steps 4 (ip' := 7) (ls' := [some (.inr (.inr (some (6, c)))), some (.inl a0)]) (st' := [.inl a0, .inr (.inr (some (28, c))), .inl a0, .inr (.inr (some (28, c)))]) (M' := mem E mu1 la) rfl ?_
  refine Ev.ial rfl rfl (by decide) h.1 ?_
  have h := h.2
  refine Ev.steps 2 (ip' := 10) (ls' := [some (.inr (.inr (some (6, c)))), some (.inl a0)]) (st' := [.inl ((mu1 28 c a0.toNatClampNeg) + (1 : Int32)), .inl a0, .inr (.inr (some (28, c)))]) (M' := mem E mu1 la) rfl ?_
  refine Ev.ias rfl rfl h.1 ?_
  have h := h.2
  generalize hgmu2 : up3 mu1 28 c a0.toNatClampNeg ((mu1 28 c a0.toNatClampNeg) + (1 : Int32)) = mu2
  have h := h mu2 hgmu2.symm
  refine Ev.steps 1 (ip' := 12) (ls' := [some (.inr (.inr (some (6, c)))), some (.inl a0)]) (st' := [.inl (-3 : Int32)]) (M' := mem E mu2 la) rfl ?_
  exact Ev.ret rfl rfl ⟨_, _, _, rfl, rfl, h⟩
set_option maxRecDepth 100000 in
/-- AnnCups.rowOf(I)LAnnCups$Row; -/
theorem vc_X6_rowOf {E : mEv} {d : Nat} {c : Nat} (a0 : Int32) {mu : fMu} {la : fLa} {Qn : fMu → fLa → Prop} {Qs : Nat → fMu → fLa → Prop} (h : (a0 < 0 → (Qn mu la)) ∧ (¬ (a0 < 0) → ((a0 < (6 : Int32) → (vp_in a0 6 ∧ (Qs a0.toNatClampNeg mu la))) ∧ (¬ (a0 < (6 : Int32)) → (Qn mu la))))) : FnR E d mi_96 [.inr (.inr (some (6, c))), .inl a0] mu la 3 Qn Qs := by
  unfold FnR
  show Ev E d mi_96 0 [some (.inr (.inr (some (6, c)))), some (.inl a0)] [] (mem E mu la) (qR E 3 Qn Qs)
  refine Ev.steps 1 (ip' := 1) (ls' := [some (.inr (.inr (some (6, c)))), some (.inl a0)]) (st' := [.inl a0]) (M' := mem E mu la) rfl ?_
  refine Ev.br (c := a0 < 0) (s1 := (5, [some (.inr (.inr (some (6, c)))), some (.inl a0)], [], mem E mu la)) (s2 := (2, [some (.inr (.inr (some (6, c)))), some (.inl a0)], [], mem E mu la)) rfl rfl rfl rfl (fun hc => ?_) (fun hc => ?_)
  · have h := h.1 hc
    dsimp only
    refine Ev.steps 2 (ip' := 11) (ls' := [some (.inr (.inr (some (6, c)))), some (.inl a0)]) (st' := [.inr (.inr none)]) (M' := mem E mu la) rfl ?_
    exact Ev.ret rfl rfl ⟨_, _, rfl, Or.inl ⟨rfl, h⟩⟩
  · have h := h.2 hc
    dsimp only
    refine Ev.steps 2 (ip' := 4) (ls' := [some (.inr (.inr (some (6, c)))), some (.inl a0)]) (st' := [.inl (6 : Int32), .inl a0]) (M' := mem E mu la) rfl ?_
    refine Ev.br (c := a0 < (6 : Int32)) (s1 := (7, [some (.inr (.inr (some (6, c)))), some (.inl a0)], [], mem E mu la)) (s2 := (5, [some (.inr (.inr (some (6, c)))), some (.inl a0)], [], mem E mu la)) rfl rfl rfl rfl (fun hc => ?_) (fun hc => ?_)
    · have h := h.1 hc
      dsimp only
      refine Ev.steps 3 (ip' := 10) (ls' := [some (.inr (.inr (some (6, c)))), some (.inl a0)]) (st' := [.inl a0, .inr (.inr (some (25, c)))]) (M' := mem E mu la) rfl ?_
      refine Ev.aal (r := some (3, a0.toNatClampNeg)) rfl rfl rfl h.1 ?_
      have h := h.2
      exact Ev.ret rfl rfl ⟨_, _, rfl, Or.inr ⟨_, rfl, h⟩⟩
    · have h := h.2 hc
      dsimp only
      refine Ev.steps 2 (ip' := 11) (ls' := [some (.inr (.inr (some (6, c)))), some (.inl a0)]) (st' := [.inr (.inr none)]) (M' := mem E mu la) rfl ?_
      exact Ev.ret rfl rfl ⟨_, _, rfl, Or.inl ⟨rfl, h⟩⟩
set_option maxRecDepth 100000 in
/-- AnnCups.textOf(I)LAnnCups$Text; -/
theorem vc_X6_textOf {E : mEv} {d : Nat} {c : Nat} (a0 : Int32) {mu : fMu} {la : fLa} {Qn : fMu → fLa → Prop} {Qs : Nat → fMu → fLa → Prop} (h : (a0 < 0 → (Qn mu la)) ∧ (¬ (a0 < 0) → ((a0 < (4 : Int32) → (vp_in a0 4 ∧ (Qs a0.toNatClampNeg mu la))) ∧ (¬ (a0 < (4 : Int32)) → (Qn mu la))))) : FnR E d mi_97 [.inr (.inr (some (6, c))), .inl a0] mu la 5 Qn Qs := by
  unfold FnR
  show Ev E d mi_97 0 [some (.inr (.inr (some (6, c)))), some (.inl a0)] [] (mem E mu la) (qR E 5 Qn Qs)
  refine Ev.steps 1 (ip' := 1) (ls' := [some (.inr (.inr (some (6, c)))), some (.inl a0)]) (st' := [.inl a0]) (M' := mem E mu la) rfl ?_
  refine Ev.br (c := a0 < 0) (s1 := (5, [some (.inr (.inr (some (6, c)))), some (.inl a0)], [], mem E mu la)) (s2 := (2, [some (.inr (.inr (some (6, c)))), some (.inl a0)], [], mem E mu la)) rfl rfl rfl rfl (fun hc => ?_) (fun hc => ?_)
  · have h := h.1 hc
    dsimp only
    refine Ev.steps 2 (ip' := 11) (ls' := [some (.inr (.inr (some (6, c)))), some (.inl a0)]) (st' := [.inr (.inr none)]) (M' := mem E mu la) rfl ?_
    exact Ev.ret rfl rfl ⟨_, _, rfl, Or.inl ⟨rfl, h⟩⟩
  · have h := h.2 hc
    dsimp only
    refine Ev.steps 2 (ip' := 4) (ls' := [some (.inr (.inr (some (6, c)))), some (.inl a0)]) (st' := [.inl (4 : Int32), .inl a0]) (M' := mem E mu la) rfl ?_
    refine Ev.br (c := a0 < (4 : Int32)) (s1 := (7, [some (.inr (.inr (some (6, c)))), some (.inl a0)], [], mem E mu la)) (s2 := (5, [some (.inr (.inr (some (6, c)))), some (.inl a0)], [], mem E mu la)) rfl rfl rfl rfl (fun hc => ?_) (fun hc => ?_)
    · have h := h.1 hc
      dsimp only
      refine Ev.steps 3 (ip' := 10) (ls' := [some (.inr (.inr (some (6, c)))), some (.inl a0)]) (st' := [.inl a0, .inr (.inr (some (26, c)))]) (M' := mem E mu la) rfl ?_
      refine Ev.aal (r := some (5, a0.toNatClampNeg)) rfl rfl rfl h.1 ?_
      have h := h.2
      exact Ev.ret rfl rfl ⟨_, _, rfl, Or.inr ⟨_, rfl, h⟩⟩
    · have h := h.2 hc
      dsimp only
      refine Ev.steps 2 (ip' := 11) (ls' := [some (.inr (.inr (some (6, c)))), some (.inl a0)]) (st' := [.inr (.inr none)]) (M' := mem E mu la) rfl ?_
      exact Ev.ret rfl rfl ⟨_, _, rfl, Or.inl ⟨rfl, h⟩⟩
set_option maxRecDepth 100000 in
/-- AnnCups.keptAt(I)LAnnCups$Deeds; -/
theorem vc_X6_keptAt {E : mEv} {d : Nat} {c : Nat} (a0 : Int32) {mu : fMu} {la : fLa} {Qn : fMu → fLa → Prop} {Qs : Nat → fMu → fLa → Prop} (h : (a0 < 0 → (Qn mu la)) ∧ (¬ (a0 < 0) → ((a0 < (3 : Int32) → (vp_in a0 3 ∧ (Qs (a0.toNatClampNeg + 1) mu la))) ∧ (¬ (a0 < (3 : Int32)) → (Qn mu la))))) : FnR E d mi_98 [.inr (.inr (some (6, c))), .inl a0] mu la 2 Qn Qs := by
  unfold FnR
  show Ev E d mi_98 0 [some (.inr (.inr (some (6, c)))), some (.inl a0)] [] (mem E mu la) (qR E 2 Qn Qs)
  refine Ev.steps 1 (ip' := 1) (ls' := [some (.inr (.inr (some (6, c)))), some (.inl a0)]) (st' := [.inl a0]) (M' := mem E mu la) rfl ?_
  refine Ev.br (c := a0 < 0) (s1 := (5, [some (.inr (.inr (some (6, c)))), some (.inl a0)], [], mem E mu la)) (s2 := (2, [some (.inr (.inr (some (6, c)))), some (.inl a0)], [], mem E mu la)) rfl rfl rfl rfl (fun hc => ?_) (fun hc => ?_)
  · have h := h.1 hc
    dsimp only
    refine Ev.steps 2 (ip' := 11) (ls' := [some (.inr (.inr (some (6, c)))), some (.inl a0)]) (st' := [.inr (.inr none)]) (M' := mem E mu la) rfl ?_
    exact Ev.ret rfl rfl ⟨_, _, rfl, Or.inl ⟨rfl, h⟩⟩
  · have h := h.2 hc
    dsimp only
    refine Ev.steps 2 (ip' := 4) (ls' := [some (.inr (.inr (some (6, c)))), some (.inl a0)]) (st' := [.inl (3 : Int32), .inl a0]) (M' := mem E mu la) rfl ?_
    refine Ev.br (c := a0 < (3 : Int32)) (s1 := (7, [some (.inr (.inr (some (6, c)))), some (.inl a0)], [], mem E mu la)) (s2 := (5, [some (.inr (.inr (some (6, c)))), some (.inl a0)], [], mem E mu la)) rfl rfl rfl rfl (fun hc => ?_) (fun hc => ?_)
    · have h := h.1 hc
      dsimp only
      refine Ev.steps 3 (ip' := 10) (ls' := [some (.inr (.inr (some (6, c)))), some (.inl a0)]) (st' := [.inl a0, .inr (.inr (some (27, c)))]) (M' := mem E mu la) rfl ?_
      refine Ev.aal (r := some (2, a0.toNatClampNeg + 1)) rfl rfl rfl h.1 ?_
      have h := h.2
      exact Ev.ret rfl rfl ⟨_, _, rfl, Or.inr ⟨_, rfl, h⟩⟩
    · have h := h.2 hc
      dsimp only
      refine Ev.steps 2 (ip' := 11) (ls' := [some (.inr (.inr (some (6, c)))), some (.inl a0)]) (st' := [.inr (.inr none)]) (M' := mem E mu la) rfl ?_
      exact Ev.ret rfl rfl ⟨_, _, rfl, Or.inl ⟨rfl, h⟩⟩
set_option maxRecDepth 100000 in
/-- AnnCups.tellParts(JJ)V -/
theorem vc_X6_tellParts {E : mEv} {d : Nat} {c : Nat} (a0 : Int64) (a1 : Int64) {mu : fMu} {la : fLa} {Q : fMu → fLa → Prop} (h : FnL E d mi_100 [.inr (.inl a0), .inr (.inl a1)] mu la (fun x1 mu2 la3 => ((lg_cmp x1 (0 : Int64)) ≤ 0 → (Q mu2 la3)) ∧ (¬ ((lg_cmp x1 (0 : Int64)) ≤ 0) → ((¬ x1 = 0) ∧ (∀ la4 : fLa, la4 = up3 la3 6 c 12 (a0 / x1) → ((¬ x1 = 0) ∧ (∀ la5 : fLa, la5 = up3 la4 6 c 13 (a1 / x1) → (Q mu2 la5)))))))) : FnV E (d + 1) mi_99 [.inr (.inr (some (6, c))), .inr (.inl a0), .inr (.inl a1)] mu la Q := by
  unfold FnV
  show Ev E (d + 1) mi_99 0 [some (.inr (.inr (some (6, c)))), some (.inr (.inl a0)), none, some (.inr (.inl a1)), none, none, none] [] (mem E mu la) (qV E Q)
  refine Ev.steps 2 (ip' := 2) (ls' := [some (.inr (.inr (some (6, c)))), some (.inr (.inl a0)), none, some (.inr (.inl a1)), none, none, none]) (st' := [.inr (.inl a1), .inr (.inl a0)]) (M' := mem E mu la) rfl ?_
  refine Ev.cl (J := mi_100) (as := [.inr (.inl a0), .inr (.inl a1)]) (rest := []) rfl rfl rfl (Nat.le_of_ble_eq_true rfl) h (fun x1 mu2 la3 h => ?_)
  refine Ev.steps 4 (ip' := 7) (ls' := [some (.inr (.inr (some (6, c)))), some (.inr (.inl a0)), none, some (.inr (.inl a1)), none, some (.inr (.inl x1)), none]) (st' := [.inl (lg_cmp x1 (0 : Int64))]) (M' := mem E mu2 la3) rfl ?_
  refine Ev.br (c := (lg_cmp x1 (0 : Int64)) ≤ 0) (s1 := (18, [some (.inr (.inr (some (6, c)))), some (.inr (.inl a0)), none, some (.inr (.inl a1)), none, some (.inr (.inl x1)), none], [], mem E mu2 la3)) (s2 := (8, [some (.inr (.inr (some (6, c)))), some (.inr (.inl a0)), none, some (.inr (.inl a1)), none, some (.inr (.inl x1)), none], [], mem E mu2 la3)) rfl rfl rfl rfl (fun hc => ?_) (fun hc => ?_)
  · have h := h.1 hc
    dsimp only
    exact Ev.ret rfl rfl ⟨_, _, rfl, rfl, h⟩
  · have h := h.2 hc
    dsimp only
    refine Ev.steps 3 (ip' := 11) (ls' := [some (.inr (.inr (some (6, c)))), some (.inr (.inl a0)), none, some (.inr (.inl a1)), none, some (.inr (.inl x1)), none]) (st' := [.inr (.inl x1), .inr (.inl a0), .inr (.inr (some (6, c)))]) (M' := mem E mu2 la3) rfl ?_
    refine Ev.want (c := x1 = 0) (s2 := (12, [some (.inr (.inr (some (6, c)))), some (.inr (.inl a0)), none, some (.inr (.inl a1)), none, some (.inr (.inl x1)), none], [.inr (.inl (a0 / x1)), .inr (.inr (some (6, c)))], mem E mu2 la3)) rfl rfl rfl rfl h.1 ?_
    have h := h.2
    refine Ev.steps 1 (ip' := 13) (ls' := [some (.inr (.inr (some (6, c)))), some (.inr (.inl a0)), none, some (.inr (.inl a1)), none, some (.inr (.inl x1)), none]) (st' := []) (M' := mem E mu2 (up3 la3 6 c 12 (a0 / x1))) rfl ?_
    generalize hgla4 : up3 la3 6 c 12 (a0 / x1) = la4
    have h := h la4 hgla4.symm
    refine Ev.steps 3 (ip' := 16) (ls' := [some (.inr (.inr (some (6, c)))), some (.inr (.inl a0)), none, some (.inr (.inl a1)), none, some (.inr (.inl x1)), none]) (st' := [.inr (.inl x1), .inr (.inl a1), .inr (.inr (some (6, c)))]) (M' := mem E mu2 la4) rfl ?_
    refine Ev.want (c := x1 = 0) (s2 := (17, [some (.inr (.inr (some (6, c)))), some (.inr (.inl a0)), none, some (.inr (.inl a1)), none, some (.inr (.inl x1)), none], [.inr (.inl (a1 / x1)), .inr (.inr (some (6, c)))], mem E mu2 la4)) rfl rfl rfl rfl h.1 ?_
    have h := h.2
    refine Ev.steps 1 (ip' := 18) (ls' := [some (.inr (.inr (some (6, c)))), some (.inr (.inl a0)), none, some (.inr (.inl a1)), none, some (.inr (.inl x1)), none]) (st' := []) (M' := mem E mu2 (up3 la4 6 c 13 (a1 / x1))) rfl ?_
    generalize hgla5 : up3 la4 6 c 13 (a1 / x1) = la5
    have h := h la5 hgla5.symm
    exact Ev.ret rfl rfl ⟨_, _, rfl, rfl, h⟩
set_option maxRecDepth 100000 in
/-- AnnCups.commonDivisor(JJ)J -/
theorem vc_X6_commonDivisor {E : mEv} {d : Nat} (a0 : Int64) (a1 : Int64) {mu : fMu} {la : fLa} {Q : Int64 → fMu → fLa → Prop} (h : Ev E d mi_100 2 [some (.inr (.inl a0)), none, some (.inr (.inl a1)), none, some (.inl (0 : Int32)), none, none] [] (mem E mu la) (qL E Q)) : FnL E d mi_100 [.inr (.inl a0), .inr (.inl a1)] mu la Q := by
  unfold FnL
  show Ev E d mi_100 0 [some (.inr (.inl a0)), none, some (.inr (.inl a1)), none, none, none, none] [] (mem E mu la) (qL E Q)
  refine Ev.steps 2 (ip' := 2) (ls' := [some (.inr (.inl a0)), none, some (.inr (.inl a1)), none, some (.inl (0 : Int32)), none, none]) (st' := []) (M' := mem E mu la) rfl ?_
  exact h
set_option maxRecDepth 100000 in
theorem vc_X6_commonDivisor_2 {E : mEv} {d : Nat}  (v0 : Int64) (v2 : Int64) (v4 : Int32) {mu : fMu} {la : fLa} {Q : Int64 → fMu → fLa → Prop} (h : ((1000000 : Int32) ≤ v4 → (Q v0 mu la)) ∧ (¬ ((1000000 : Int32) ≤ v4) → (((lg_cmp v2 (0 : Int64)) = 0 → (Q v0 mu la)) ∧ (¬ ((lg_cmp v2 (0 : Int64)) = 0) → ((¬ v2 = 0) ∧ (Ev E d mi_100 2 [some (.inr (.inl v2)), none, some (.inr (.inl (v0 - v0 / v2 * v2))), none, some (.inl (v4 + (1 : Int32))), none, none] [] (mem E mu la) (qL E Q))))))) : Ev E d mi_100 2 [some (.inr (.inl v0)), none, some (.inr (.inl v2)), none, some (.inl v4), none, none] [] (mem E mu la) (qL E Q) := by
  refine Ev.steps 2 (ip' := 4) (ls' := [some (.inr (.inl v0)), none, some (.inr (.inl v2)), none, some (.inl v4), none, none]) (st' := [.inl (1000000 : Int32), .inl v4]) (M' := mem E mu la) rfl ?_
  refine Ev.br (c := (1000000 : Int32) ≤ v4) (s1 := (19, [some (.inr (.inl v0)), none, some (.inr (.inl v2)), none, some (.inl v4), none, none], [], mem E mu la)) (s2 := (5, [some (.inr (.inl v0)), none, some (.inr (.inl v2)), none, some (.inl v4), none, none], [], mem E mu la)) rfl rfl rfl rfl (fun hc => ?_) (fun hc => ?_)
  · have h := h.1 hc
    dsimp only
    refine Ev.steps 1 (ip' := 20) (ls' := [some (.inr (.inl v0)), none, some (.inr (.inl v2)), none, some (.inl v4), none, none]) (st' := [.inr (.inl v0)]) (M' := mem E mu la) rfl ?_
    exact Ev.ret rfl rfl ⟨_, _, _, rfl, rfl, h⟩
  · have h := h.2 hc
    dsimp only
    refine Ev.steps 3 (ip' := 8) (ls' := [some (.inr (.inl v0)), none, some (.inr (.inl v2)), none, some (.inl v4), none, none]) (st' := [.inl (lg_cmp v2 (0 : Int64))]) (M' := mem E mu la) rfl ?_
    refine Ev.br (c := (lg_cmp v2 (0 : Int64)) = 0) (s1 := (19, [some (.inr (.inl v0)), none, some (.inr (.inl v2)), none, some (.inl v4), none, none], [], mem E mu la)) (s2 := (9, [some (.inr (.inl v0)), none, some (.inr (.inl v2)), none, some (.inl v4), none, none], [], mem E mu la)) rfl rfl rfl rfl (fun hc => ?_) (fun hc => ?_)
    · have h := h.1 hc
      dsimp only
      refine Ev.steps 1 (ip' := 20) (ls' := [some (.inr (.inl v0)), none, some (.inr (.inl v2)), none, some (.inl v4), none, none]) (st' := [.inr (.inl v0)]) (M' := mem E mu la) rfl ?_
      exact Ev.ret rfl rfl ⟨_, _, _, rfl, rfl, h⟩
    · have h := h.2 hc
      dsimp only
      refine Ev.steps 2 (ip' := 11) (ls' := [some (.inr (.inl v0)), none, some (.inr (.inl v2)), none, some (.inl v4), none, none]) (st' := [.inr (.inl v2), .inr (.inl v0)]) (M' := mem E mu la) rfl ?_
      refine Ev.want (c := v2 = 0) (s2 := (12, [some (.inr (.inl v0)), none, some (.inr (.inl v2)), none, some (.inl v4), none, none], [.inr (.inl (v0 - v0 / v2 * v2))], mem E mu la)) rfl rfl rfl rfl h.1 ?_
      have h := h.2
      refine Ev.steps 7 (ip' := 2) (ls' := [some (.inr (.inl v2)), none, some (.inr (.inl (v0 - v0 / v2 * v2))), none, some (.inl (v4 + (1 : Int32))), some (.inr (.inl (v0 - v0 / v2 * v2))), none]) (st' := []) (M' := mem E mu la) rfl ?_
      refine Ev.drop (ls := [some (.inr (.inl v2)), none, some (.inr (.inl (v0 - v0 / v2 * v2))), none, some (.inl (v4 + (1 : Int32))), none, none]) ⟨Or.inr rfl, Or.inr rfl, Or.inr rfl, Or.inr rfl, Or.inr rfl, Or.inl rfl, Or.inr rfl, trivial⟩ ?_
      exact h
set_option maxRecDepth 100000 in
/-- AnnCups.power(II)J -/
theorem vc_X6_power {E : mEv} {d : Nat} (a0 : Int32) (a1 : Int32) {mu : fMu} {la : fLa} {Q : Int64 → fMu → fLa → Prop} (h : Ev E d mi_101 4 [some (.inl a0), some (.inl a1), some (.inr (.inl (1 : Int64))), none, some (.inl (0 : Int32))] [] (mem E mu la) (qL E Q)) : FnL E d mi_101 [.inl a0, .inl a1] mu la Q := by
  unfold FnL
  show Ev E d mi_101 0 [some (.inl a0), some (.inl a1), none, none, none] [] (mem E mu la) (qL E Q)
  refine Ev.steps 4 (ip' := 4) (ls' := [some (.inl a0), some (.inl a1), some (.inr (.inl (1 : Int64))), none, some (.inl (0 : Int32))]) (st' := []) (M' := mem E mu la) rfl ?_
  exact h
set_option maxRecDepth 100000 in
theorem vc_X6_power_4 {E : mEv} {d : Nat}  (v0 : Int32) (v1 : Int32) (v2 : Int64) (v4 : Int32) {mu : fMu} {la : fLa} {Q : Int64 → fMu → fLa → Prop} (h : (v1 ≤ v4 → (Q v2 mu la)) ∧ (¬ (v1 ≤ v4) → (Ev E d mi_101 4 [some (.inl v0), some (.inl v1), some (.inr (.inl (v2 * v0.toInt64))), none, some (.inl (v4 + (1 : Int32)))] [] (mem E mu la) (qL E Q)))) : Ev E d mi_101 4 [some (.inl v0), some (.inl v1), some (.inr (.inl v2)), none, some (.inl v4)] [] (mem E mu la) (qL E Q) := by
  refine Ev.steps 2 (ip' := 6) (ls' := [some (.inl v0), some (.inl v1), some (.inr (.inl v2)), none, some (.inl v4)]) (st' := [.inl v1, .inl v4]) (M' := mem E mu la) rfl ?_
  refine Ev.br (c := v1 ≤ v4) (s1 := (14, [some (.inl v0), some (.inl v1), some (.inr (.inl v2)), none, some (.inl v4)], [], mem E mu la)) (s2 := (7, [some (.inl v0), some (.inl v1), some (.inr (.inl v2)), none, some (.inl v4)], [], mem E mu la)) rfl rfl rfl rfl (fun hc => ?_) (fun hc => ?_)
  · have h := h.1 hc
    dsimp only
    refine Ev.steps 1 (ip' := 15) (ls' := [some (.inl v0), some (.inl v1), some (.inr (.inl v2)), none, some (.inl v4)]) (st' := [.inr (.inl v2)]) (M' := mem E mu la) rfl ?_
    exact Ev.ret rfl rfl ⟨_, _, _, rfl, rfl, h⟩
  · have h := h.2 hc
    dsimp only
    refine Ev.steps 7 (ip' := 4) (ls' := [some (.inl v0), some (.inl v1), some (.inr (.inl (v2 * v0.toInt64))), none, some (.inl (v4 + (1 : Int32)))]) (st' := []) (M' := mem E mu la) rfl ?_
    exact h
set_option maxRecDepth 100000 in
/-- AnnCups.areAlike(III)Z -/
theorem vc_X6_areAlike {E : mEv} {d : Nat} (a0 : Int32) (a1 : Int32) (a2 : Int32) {mu : fMu} {la : fLa} {Q : Int32 → fMu → fLa → Prop} (h : (a2 < (if 0 ≤ (a0 - a1) then (a0 - a1) else 0 - (a0 - a1)) → (Q (0 : Int32) mu la)) ∧ (¬ (a2 < (if 0 ≤ (a0 - a1) then (a0 - a1) else 0 - (a0 - a1))) → (Q (1 : Int32) mu la))) : FnI E d mi_102 [.inl a0, .inl a1, .inl a2] mu la Q := by
  unfold FnI
  show Ev E d mi_102 0 [some (.inl a0), some (.inl a1), some (.inl a2)] [] (mem E mu la) (qI E Q)
  refine Ev.steps 5 (ip' := 5) (ls' := [some (.inl a0), some (.inl a1), some (.inl a2)]) (st' := [.inl a2, .inl (if 0 ≤ (a0 - a1) then (a0 - a1) else 0 - (a0 - a1))]) (M' := mem E mu la) rfl ?_
  refine Ev.br (c := a2 < (if 0 ≤ (a0 - a1) then (a0 - a1) else 0 - (a0 - a1))) (s1 := (8, [some (.inl a0), some (.inl a1), some (.inl a2)], [], mem E mu la)) (s2 := (6, [some (.inl a0), some (.inl a1), some (.inl a2)], [], mem E mu la)) rfl rfl rfl rfl (fun hc => ?_) (fun hc => ?_)
  · have h := h.1 hc
    dsimp only
    refine Ev.steps 1 (ip' := 9) (ls' := [some (.inl a0), some (.inl a1), some (.inl a2)]) (st' := [.inl (0 : Int32)]) (M' := mem E mu la) rfl ?_
    exact Ev.retZ rfl rfl (Or.inl rfl) ⟨_, _, _, rfl, rfl, h⟩
  · have h := h.2 hc
    dsimp only
    refine Ev.steps 2 (ip' := 9) (ls' := [some (.inl a0), some (.inl a1), some (.inl a2)]) (st' := [.inl (1 : Int32)]) (M' := mem E mu la) rfl ?_
    exact Ev.retZ rfl rfl (Or.inr rfl) ⟨_, _, _, rfl, rfl, h⟩
set_option maxRecDepth 100000 in
/-- AnnCups.firstOf(I)I -/
theorem vc_X6_firstOf {E : mEv} {d : Nat} (a0 : Int32) {mu : fMu} {la : fLa} {Q : Int32 → fMu → fLa → Prop} (h : (¬ a0 = 0 → (FnI E d mi_227 [.inl ((a0 &&& (-a0)) - (1 : Int32))] mu la (fun x1 mu2 la3 => Q x1 mu2 la3))) ∧ (¬ (¬ a0 = 0) → (Q (-9 : Int32) mu la))) : FnI E (d + 1) mi_103 [.inl a0] mu la Q := by
  unfold FnI
  show Ev E (d + 1) mi_103 0 [some (.inl a0)] [] (mem E mu la) (qI E Q)
  refine Ev.steps 1 (ip' := 1) (ls' := [some (.inl a0)]) (st' := [.inl a0]) (M' := mem E mu la) rfl ?_
  refine Ev.br (c := ¬ a0 = 0) (s1 := (4, [some (.inl a0)], [], mem E mu la)) (s2 := (2, [some (.inl a0)], [], mem E mu la)) rfl rfl rfl rfl (fun hc => ?_) (fun hc => ?_)
  · have h := h.1 hc
    dsimp only
    refine Ev.steps 6 (ip' := 10) (ls' := [some (.inl a0)]) (st' := [.inl ((a0 &&& (-a0)) - (1 : Int32))]) (M' := mem E mu la) rfl ?_
    refine Ev.ci (J := mi_227) (as := [.inl ((a0 &&& (-a0)) - (1 : Int32))]) (rest := []) rfl rfl rfl (Nat.le_of_ble_eq_true rfl) h (fun x1 mu2 la3 h => ?_)
    exact Ev.ret rfl rfl ⟨_, _, _, rfl, rfl, h⟩
  · have h := h.2 hc
    dsimp only
    refine Ev.steps 2 (ip' := 11) (ls' := [some (.inl a0)]) (st' := [.inl (-9 : Int32)]) (M' := mem E mu la) rfl ?_
    exact Ev.ret rfl rfl ⟨_, _, _, rfl, rfl, h⟩
set_option maxRecDepth 100000 in
/-- AnnCups.setOf(I)I -/
theorem vc_X6_setOf {E : mEv} {d : Nat} (a0 : Int32) {mu : fMu} {la : fLa} {Q : Int32 → fMu → fLa → Prop} (h : (¬ a0 = (-9 : Int32) → (Q ((1 : Int32) <<< (a0 &&& 31)) mu la)) ∧ (¬ (¬ a0 = (-9 : Int32)) → (Q (0 : Int32) mu la))) : FnI E d mi_104 [.inl a0] mu la Q := by
  unfold FnI
  show Ev E d mi_104 0 [some (.inl a0)] [] (mem E mu la) (qI E Q)
  refine Ev.steps 2 (ip' := 2) (ls' := [some (.inl a0)]) (st' := [.inl (-9 : Int32), .inl a0]) (M' := mem E mu la) rfl ?_
  refine Ev.br (c := ¬ a0 = (-9 : Int32)) (s1 := (5, [some (.inl a0)], [], mem E mu la)) (s2 := (3, [some (.inl a0)], [], mem E mu la)) rfl rfl rfl rfl (fun hc => ?_) (fun hc => ?_)
  · have h := h.1 hc
    dsimp only
    refine Ev.steps 3 (ip' := 8) (ls' := [some (.inl a0)]) (st' := [.inl ((1 : Int32) <<< (a0 &&& 31))]) (M' := mem E mu la) rfl ?_
    exact Ev.ret rfl rfl ⟨_, _, _, rfl, rfl, h⟩
  · have h := h.2 hc
    dsimp only
    refine Ev.steps 2 (ip' := 8) (ls' := [some (.inl a0)]) (st' := [.inl (0 : Int32)]) (M' := mem E mu la) rfl ?_
    exact Ev.ret rfl rfl ⟨_, _, _, rfl, rfl, h⟩
set_option maxRecDepth 100000 in
/-- AnnCups.isOf(II)Z -/
theorem vc_X6_isOf {E : mEv} {d : Nat} (a0 : Int32) (a1 : Int32) {mu : fMu} {la : fLa} {Q : Int32 → fMu → fLa → Prop} (h : (a1 = 0 → (Q (1 : Int32) mu la)) ∧ (¬ a1 = 0 → ((a1 = 1 → ((a0 = (1 : Int32) → (Q (1 : Int32) mu la)) ∧ (¬ (a0 = (1 : Int32)) → ((¬ a0 = (4 : Int32) → (Q (0 : Int32) mu la)) ∧ (¬ (¬ a0 = (4 : Int32)) → (Q (1 : Int32) mu la)))))) ∧ (¬ a1 = 1 → ((a1 = 2 → ((a0 = (2 : Int32) → (Q (1 : Int32) mu la)) ∧ (¬ (a0 = (2 : Int32)) → ((¬ a0 = (5 : Int32) → (Q (0 : Int32) mu la)) ∧ (¬ (¬ a0 = (5 : Int32)) → (Q (1 : Int32) mu la)))))) ∧ (¬ a1 = 2 → ((¬ a0 = a1 → (Q (0 : Int32) mu la)) ∧ (¬ (¬ a0 = a1) → (Q (1 : Int32) mu la))))))))) : FnI E d mi_105 [.inl a0, .inl a1] mu la Q := by
  unfold FnI
  show Ev E d mi_105 0 [some (.inl a0), some (.inl a1)] [] (mem E mu la) (qI E Q)
  refine Ev.steps 1 (ip' := 1) (ls' := [some (.inl a0), some (.inl a1)]) (st' := [.inl a1]) (M' := mem E mu la) rfl ?_
  by_cases hc0 : a1 = 0
  · refine Ev.one (s' := (2, [some (.inl a0), some (.inl a1)], [], mem E mu la)) rfl rfl rfl (by rw [hc0]; rfl) ?_
    have h := h.1 hc0
    dsimp only
    refine Ev.steps 1 (ip' := 3) (ls' := [some (.inl a0), some (.inl a1)]) (st' := [.inl (1 : Int32)]) (M' := mem E mu la) rfl ?_
    exact Ev.retZ rfl rfl (Or.inr rfl) ⟨_, _, _, rfl, rfl, h⟩
  · have h := h.2 hc0
    by_cases hc1 : a1 = 1
    · refine Ev.one (s' := (4, [some (.inl a0), some (.inl a1)], [], mem E mu la)) rfl rfl rfl (by rw [hc1]; rfl) ?_
      have h := h.1 hc1
      dsimp only
      refine Ev.steps 2 (ip' := 6) (ls' := [some (.inl a0), some (.inl a1)]) (st' := [.inl (1 : Int32), .inl a0]) (M' := mem E mu la) rfl ?_
      refine Ev.br (c := a0 = (1 : Int32)) (s1 := (10, [some (.inl a0), some (.inl a1)], [], mem E mu la)) (s2 := (7, [some (.inl a0), some (.inl a1)], [], mem E mu la)) rfl rfl rfl rfl (fun hc => ?_) (fun hc => ?_)
      · have h := h.1 hc
        dsimp only
        refine Ev.steps 2 (ip' := 13) (ls' := [some (.inl a0), some (.inl a1)]) (st' := [.inl (1 : Int32)]) (M' := mem E mu la) rfl ?_
        exact Ev.retZ rfl rfl (Or.inr rfl) ⟨_, _, _, rfl, rfl, h⟩
      · have h := h.2 hc
        dsimp only
        refine Ev.steps 2 (ip' := 9) (ls' := [some (.inl a0), some (.inl a1)]) (st' := [.inl (4 : Int32), .inl a0]) (M' := mem E mu la) rfl ?_
        refine Ev.br (c := ¬ a0 = (4 : Int32)) (s1 := (12, [some (.inl a0), some (.inl a1)], [], mem E mu la)) (s2 := (10, [some (.inl a0), some (.inl a1)], [], mem E mu la)) rfl rfl rfl rfl (fun hc => ?_) (fun hc => ?_)
        · have h := h.1 hc
          dsimp only
          refine Ev.steps 1 (ip' := 13) (ls' := [some (.inl a0), some (.inl a1)]) (st' := [.inl (0 : Int32)]) (M' := mem E mu la) rfl ?_
          exact Ev.retZ rfl rfl (Or.inl rfl) ⟨_, _, _, rfl, rfl, h⟩
        · have h := h.2 hc
          dsimp only
          refine Ev.steps 2 (ip' := 13) (ls' := [some (.inl a0), some (.inl a1)]) (st' := [.inl (1 : Int32)]) (M' := mem E mu la) rfl ?_
          exact Ev.retZ rfl rfl (Or.inr rfl) ⟨_, _, _, rfl, rfl, h⟩
    · have h := h.2 hc1
      by_cases hc2 : a1 = 2
      · refine Ev.one (s' := (14, [some (.inl a0), some (.inl a1)], [], mem E mu la)) rfl rfl rfl (by rw [hc2]; rfl) ?_
        have h := h.1 hc2
        dsimp only
        refine Ev.steps 2 (ip' := 16) (ls' := [some (.inl a0), some (.inl a1)]) (st' := [.inl (2 : Int32), .inl a0]) (M' := mem E mu la) rfl ?_
        refine Ev.br (c := a0 = (2 : Int32)) (s1 := (20, [some (.inl a0), some (.inl a1)], [], mem E mu la)) (s2 := (17, [some (.inl a0), some (.inl a1)], [], mem E mu la)) rfl rfl rfl rfl (fun hc => ?_) (fun hc => ?_)
        · have h := h.1 hc
          dsimp only
          refine Ev.steps 2 (ip' := 23) (ls' := [some (.inl a0), some (.inl a1)]) (st' := [.inl (1 : Int32)]) (M' := mem E mu la) rfl ?_
          exact Ev.retZ rfl rfl (Or.inr rfl) ⟨_, _, _, rfl, rfl, h⟩
        · have h := h.2 hc
          dsimp only
          refine Ev.steps 2 (ip' := 19) (ls' := [some (.inl a0), some (.inl a1)]) (st' := [.inl (5 : Int32), .inl a0]) (M' := mem E mu la) rfl ?_
          refine Ev.br (c := ¬ a0 = (5 : Int32)) (s1 := (22, [some (.inl a0), some (.inl a1)], [], mem E mu la)) (s2 := (20, [some (.inl a0), some (.inl a1)], [], mem E mu la)) rfl rfl rfl rfl (fun hc => ?_) (fun hc => ?_)
          · have h := h.1 hc
            dsimp only
            refine Ev.steps 1 (ip' := 23) (ls' := [some (.inl a0), some (.inl a1)]) (st' := [.inl (0 : Int32)]) (M' := mem E mu la) rfl ?_
            exact Ev.retZ rfl rfl (Or.inl rfl) ⟨_, _, _, rfl, rfl, h⟩
          · have h := h.2 hc
            dsimp only
            refine Ev.steps 2 (ip' := 23) (ls' := [some (.inl a0), some (.inl a1)]) (st' := [.inl (1 : Int32)]) (M' := mem E mu la) rfl ?_
            exact Ev.retZ rfl rfl (Or.inr rfl) ⟨_, _, _, rfl, rfl, h⟩
      · have h := h.2 hc2
        refine Ev.one (s' := (24, [some (.inl a0), some (.inl a1)], [], mem E mu la)) rfl rfl rfl (if_pos (tsw_out a1 0 2 (fun z h1 h2 => by
          rcases (show z = 0 ∨ z = 1 ∨ z = 2 by omega) with rfl | rfl | rfl
          · exact fun e => hc0 (Int32.toInt_inj.mp e)
          · exact fun e => hc1 (Int32.toInt_inj.mp e)
          · exact fun e => hc2 (Int32.toInt_inj.mp e)))) ?_
        dsimp only
        refine Ev.steps 2 (ip' := 26) (ls' := [some (.inl a0), some (.inl a1)]) (st' := [.inl a1, .inl a0]) (M' := mem E mu la) rfl ?_
        refine Ev.br (c := ¬ a0 = a1) (s1 := (29, [some (.inl a0), some (.inl a1)], [], mem E mu la)) (s2 := (27, [some (.inl a0), some (.inl a1)], [], mem E mu la)) rfl rfl rfl rfl (fun hc => ?_) (fun hc => ?_)
        · have h := h.1 hc
          dsimp only
          refine Ev.steps 1 (ip' := 30) (ls' := [some (.inl a0), some (.inl a1)]) (st' := [.inl (0 : Int32)]) (M' := mem E mu la) rfl ?_
          exact Ev.retZ rfl rfl (Or.inl rfl) ⟨_, _, _, rfl, rfl, h⟩
        · have h := h.2 hc
          dsimp only
          refine Ev.steps 2 (ip' := 30) (ls' := [some (.inl a0), some (.inl a1)]) (st' := [.inl (1 : Int32)]) (M' := mem E mu la) rfl ?_
          exact Ev.retZ rfl rfl (Or.inr rfl) ⟨_, _, _, rfl, rfl, h⟩
set_option maxRecDepth 100000 in
/-- AnnCups.timeOf(IIZ)I -/
theorem vc_X6_timeOf {E : mEv} {d : Nat} (a0 : Int32) (a1 : Int32) (a2 : Int32) {mu : fMu} {la : fLa} {Q : Int32 → fMu → fLa → Prop} (h : (a0 = 1 → (FnI E d mi_107 [.inl a1, .inl a2] mu la (fun x1 mu2 la3 => Q x1 mu2 la3))) ∧ (¬ a0 = 1 → ((a0 = 2 → (FnI E d mi_108 [.inl a1] mu la (fun x4 mu5 la6 => Q x4 mu5 la6))) ∧ (¬ a0 = 2 → ((a0 = 3 → (Q a1 mu la)) ∧ (¬ a0 = 3 → ((a0 = 4 → (FnI E d mi_107 [.inl a1, .inl a2] mu la (fun x7 mu8 la9 => Q ((2 : Int32) * x7) mu8 la9))) ∧ (¬ a0 = 4 → ((a0 = 5 → (FnI E d mi_108 [.inl a1] mu la (fun x10 mu11 la12 => Q (x10 + (3 : Int32)) mu11 la12))) ∧ (¬ a0 = 5 → (Q a1 mu la))))))))))) : FnI E (d + 1) mi_106 [.inl a0, .inl a1, .inl a2] mu la Q := by
  unfold FnI
  show Ev E (d + 1) mi_106 0 [some (.inl a0), some (.inl a1), some (.inl a2)] [] (mem E mu la) (qI E Q)
  refine Ev.steps 1 (ip' := 1) (ls' := [some (.inl a0), some (.inl a1), some (.inl a2)]) (st' := [.inl a0]) (M' := mem E mu la) rfl ?_
  by_cases hc0 : a0 = 1
  · refine Ev.one (s' := (2, [some (.inl a0), some (.inl a1), some (.inl a2)], [], mem E mu la)) rfl rfl rfl (by rw [hc0]; rfl) ?_
    have h := h.1 hc0
    dsimp only
    refine Ev.steps 2 (ip' := 4) (ls' := [some (.inl a0), some (.inl a1), some (.inl a2)]) (st' := [.inl a2, .inl a1]) (M' := mem E mu la) rfl ?_
    refine Ev.ci (J := mi_107) (as := [.inl a1, .inl a2]) (rest := []) rfl rfl rfl (Nat.le_of_ble_eq_true rfl) h (fun x1 mu2 la3 h => ?_)
    exact Ev.ret rfl rfl ⟨_, _, _, rfl, rfl, h⟩
  · have h := h.2 hc0
    by_cases hc1 : a0 = 2
    · refine Ev.one (s' := (12, [some (.inl a0), some (.inl a1), some (.inl a2)], [], mem E mu la)) rfl rfl rfl (by rw [hc1]; rfl) ?_
      have h := h.1 hc1
      dsimp only
      refine Ev.steps 1 (ip' := 13) (ls' := [some (.inl a0), some (.inl a1), some (.inl a2)]) (st' := [.inl a1]) (M' := mem E mu la) rfl ?_
      refine Ev.ci (J := mi_108) (as := [.inl a1]) (rest := []) rfl rfl rfl (Nat.le_of_ble_eq_true rfl) h (fun x4 mu5 la6 h => ?_)
      exact Ev.ret rfl rfl ⟨_, _, _, rfl, rfl, h⟩
    · have h := h.2 hc1
      by_cases hc2 : a0 = 3
      · refine Ev.one (s' := (20, [some (.inl a0), some (.inl a1), some (.inl a2)], [], mem E mu la)) rfl rfl rfl (by rw [hc2]; rfl) ?_
        have h := h.1 hc2
        dsimp only
        refine Ev.steps 1 (ip' := 21) (ls' := [some (.inl a0), some (.inl a1), some (.inl a2)]) (st' := [.inl a1]) (M' := mem E mu la) rfl ?_
        exact Ev.ret rfl rfl ⟨_, _, _, rfl, rfl, h⟩
      · have h := h.2 hc2
        by_cases hc3 : a0 = 4
        · refine Ev.one (s' := (6, [some (.inl a0), some (.inl a1), some (.inl a2)], [], mem E mu la)) rfl rfl rfl (by rw [hc3]; rfl) ?_
          have h := h.1 hc3
          dsimp only
          refine Ev.steps 3 (ip' := 9) (ls' := [some (.inl a0), some (.inl a1), some (.inl a2)]) (st' := [.inl a2, .inl a1, .inl (2 : Int32)]) (M' := mem E mu la) rfl ?_
          refine Ev.ci (J := mi_107) (as := [.inl a1, .inl a2]) (rest := [.inl (2 : Int32)]) rfl rfl rfl (Nat.le_of_ble_eq_true rfl) h (fun x7 mu8 la9 h => ?_)
          refine Ev.steps 1 (ip' := 11) (ls' := [some (.inl a0), some (.inl a1), some (.inl a2)]) (st' := [.inl ((2 : Int32) * x7)]) (M' := mem E mu8 la9) rfl ?_
          exact Ev.ret rfl rfl ⟨_, _, _, rfl, rfl, h⟩
        · have h := h.2 hc3
          by_cases hc4 : a0 = 5
          · refine Ev.one (s' := (15, [some (.inl a0), some (.inl a1), some (.inl a2)], [], mem E mu la)) rfl rfl rfl (by rw [hc4]; rfl) ?_
            have h := h.1 hc4
            dsimp only
            refine Ev.steps 1 (ip' := 16) (ls' := [some (.inl a0), some (.inl a1), some (.inl a2)]) (st' := [.inl a1]) (M' := mem E mu la) rfl ?_
            refine Ev.ci (J := mi_108) (as := [.inl a1]) (rest := []) rfl rfl rfl (Nat.le_of_ble_eq_true rfl) h (fun x10 mu11 la12 h => ?_)
            refine Ev.steps 2 (ip' := 19) (ls' := [some (.inl a0), some (.inl a1), some (.inl a2)]) (st' := [.inl (x10 + (3 : Int32))]) (M' := mem E mu11 la12) rfl ?_
            exact Ev.ret rfl rfl ⟨_, _, _, rfl, rfl, h⟩
          · have h := h.2 hc4
            refine Ev.one (s' := (20, [some (.inl a0), some (.inl a1), some (.inl a2)], [], mem E mu la)) rfl rfl rfl (if_pos (tsw_out a0 1 5 (fun z h1 h2 => by
              rcases (show z = 1 ∨ z = 2 ∨ z = 3 ∨ z = 4 ∨ z = 5 by omega) with rfl | rfl | rfl | rfl | rfl
              · exact fun e => hc0 (Int32.toInt_inj.mp e)
              · exact fun e => hc1 (Int32.toInt_inj.mp e)
              · exact fun e => hc2 (Int32.toInt_inj.mp e)
              · exact fun e => hc3 (Int32.toInt_inj.mp e)
              · exact fun e => hc4 (Int32.toInt_inj.mp e)))) ?_
            dsimp only
            refine Ev.steps 1 (ip' := 21) (ls' := [some (.inl a0), some (.inl a1), some (.inl a2)]) (st' := [.inl a1]) (M' := mem E mu la) rfl ?_
            exact Ev.ret rfl rfl ⟨_, _, _, rfl, rfl, h⟩
set_option maxRecDepth 100000 in
/-- AnnCups.jugTime(IZ)I -/
theorem vc_X6_jugTime {E : mEv} {d : Nat} (a0 : Int32) (a1 : Int32) {mu : fMu} {la : fLa} {Q : Int32 → fMu → fLa → Prop} (h : (a1 = 0 → (Q a0 mu la)) ∧ (¬ (a1 = 0) → ((¬ (2 : Int32) = 0) ∧ (Q (if (1 : Int32) < (a0 / (2 : Int32)) then (a0 / (2 : Int32)) else (1 : Int32)) mu la)))) : FnI E d mi_107 [.inl a0, .inl a1] mu la Q := by
  unfold FnI
  show Ev E d mi_107 0 [some (.inl a0), some (.inl a1)] [] (mem E mu la) (qI E Q)
  refine Ev.steps 1 (ip' := 1) (ls' := [some (.inl a0), some (.inl a1)]) (st' := [.inl a1]) (M' := mem E mu la) rfl ?_
  refine Ev.br (c := a1 = 0) (s1 := (8, [some (.inl a0), some (.inl a1)], [], mem E mu la)) (s2 := (2, [some (.inl a0), some (.inl a1)], [], mem E mu la)) rfl rfl rfl rfl (fun hc => ?_) (fun hc => ?_)
  · have h := h.1 hc
    dsimp only
    refine Ev.steps 1 (ip' := 9) (ls' := [some (.inl a0), some (.inl a1)]) (st' := [.inl a0]) (M' := mem E mu la) rfl ?_
    exact Ev.ret rfl rfl ⟨_, _, _, rfl, rfl, h⟩
  · have h := h.2 hc
    dsimp only
    refine Ev.steps 3 (ip' := 5) (ls' := [some (.inl a0), some (.inl a1)]) (st' := [.inl (2 : Int32), .inl a0, .inl (1 : Int32)]) (M' := mem E mu la) rfl ?_
    refine Ev.want (c := (2 : Int32) = 0) (s2 := (6, [some (.inl a0), some (.inl a1)], [.inl (a0 / (2 : Int32)), .inl (1 : Int32)], mem E mu la)) rfl rfl rfl rfl h.1 ?_
    have h := h.2
    refine Ev.steps 2 (ip' := 9) (ls' := [some (.inl a0), some (.inl a1)]) (st' := [.inl (if (1 : Int32) < (a0 / (2 : Int32)) then (a0 / (2 : Int32)) else (1 : Int32))]) (M' := mem E mu la) rfl ?_
    exact Ev.ret rfl rfl ⟨_, _, _, rfl, rfl, h⟩
set_option maxRecDepth 100000 in
/-- AnnCups.teaTime(I)I -/
theorem vc_X6_teaTime {E : mEv} {d : Nat} (a0 : Int32) {mu : fMu} {la : fLa} {Q : Int32 → fMu → fLa → Prop} (h : Q (if (1 : Int32) < (a0 - (2 : Int32)) then (a0 - (2 : Int32)) else (1 : Int32)) mu la) : FnI E d mi_108 [.inl a0] mu la Q := by
  unfold FnI
  show Ev E d mi_108 0 [some (.inl a0)] [] (mem E mu la) (qI E Q)
  refine Ev.steps 5 (ip' := 5) (ls' := [some (.inl a0)]) (st' := [.inl (if (1 : Int32) < (a0 - (2 : Int32)) then (a0 - (2 : Int32)) else (1 : Int32))]) (M' := mem E mu la) rfl ?_
  exact Ev.ret rfl rfl ⟨_, _, _, rfl, rfl, h⟩
set_option maxRecDepth 100000 in
/-- AnnCups.readBar(LAnnCups$Text;LAnnCups$Cups;)I -/
theorem vc_X6_readBar {E : mEv} {d : Nat} (a0 : Nat) (a1 : Nat) {mu : fMu} {la : fLa} {Q : Int32 → fMu → fLa → Prop} (h : ∀ mu1 : fMu, mu1 = up3 mu 1 a1 0 (0 : Int32) → (FnI E d mi_110 [.inr (.inr (some (5, a0))), .inl (0 : Int32)] mu1 la (fun x2 mu3 la4 => FnI E d mi_45 [.inr (.inr (some (5, a0))), .inl x2] mu3 la4 (fun x5 mu6 la7 => (x5 = (101 : Int32) → (FnI E d mi_46 [.inr (.inr (some (5, a0))), .inl (x2 + (1 : Int32)), .inl (0 : Int32), .inl (9 : Int32)] mu6 la7 (fun x8 mu9 la10 => ∀ mu11 : fMu, mu11 = up3 mu9 1 a1 1 x8 → ((0 ≤ (mu11 1 a1 1) → (Ev E (d + 1) mi_109 30 [some (.inr (.inr (some (5, a0)))), some (.inr (.inr (some (1, a1)))), some (.inl ((x2 + (1 : Int32)) + (1 : Int32))), some (.inl (0 : Int32)), none] [] (mem E mu11 la10) (qI E Q))) ∧ (¬ (0 ≤ (mu11 1 a1 1)) → (Q (x2 + (1 : Int32)) mu11 la10)))))) ∧ (¬ (x5 = (101 : Int32)) → (Q x2 mu6 la7)))))) : FnI E (d + 1) mi_109 [.inr (.inr (some (5, a0))), .inr (.inr (some (1, a1)))] mu la Q := by
  unfold FnI
  show Ev E (d + 1) mi_109 0 [some (.inr (.inr (some (5, a0)))), some (.inr (.inr (some (1, a1)))), none, none, none] [] (mem E mu la) (qI E Q)
  refine Ev.steps 3 (ip' := 3) (ls' := [some (.inr (.inr (some (5, a0)))), some (.inr (.inr (some (1, a1)))), none, none, none]) (st' := []) (M' := mem E (up3 mu 1 a1 0 (0 : Int32)) la) rfl ?_
  generalize hgmu1 : up3 mu 1 a1 0 (0 : Int32) = mu1
  have h := h mu1 hgmu1.symm
  refine Ev.steps 2 (ip' := 5) (ls' := [some (.inr (.inr (some (5, a0)))), some (.inr (.inr (some (1, a1)))), none, none, none]) (st' := [.inl (0 : Int32), .inr (.inr (some (5, a0)))]) (M' := mem E mu1 la) rfl ?_
  refine Ev.ci (J := mi_110) (as := [.inr (.inr (some (5, a0))), .inl (0 : Int32)]) (rest := []) rfl rfl rfl (Nat.le_of_ble_eq_true rfl) h (fun x2 mu3 la4 h => ?_)
  refine Ev.steps 3 (ip' := 9) (ls' := [some (.inr (.inr (some (5, a0)))), some (.inr (.inr (some (1, a1)))), some (.inl x2), none, none]) (st' := [.inl x2, .inr (.inr (some (5, a0)))]) (M' := mem E mu3 la4) rfl ?_
  refine Ev.ci (J := mi_45) (as := [.inr (.inr (some (5, a0))), .inl x2]) (rest := []) rfl rfl rfl (Nat.le_of_ble_eq_true rfl) h (fun x5 mu6 la7 h => ?_)
  refine Ev.steps 1 (ip' := 11) (ls' := [some (.inr (.inr (some (5, a0)))), some (.inr (.inr (some (1, a1)))), some (.inl x2), none, none]) (st' := [.inl (101 : Int32), .inl x5]) (M' := mem E mu6 la7) rfl ?_
  refine Ev.br (c := x5 = (101 : Int32)) (s1 := (14, [some (.inr (.inr (some (5, a0)))), some (.inr (.inr (some (1, a1)))), some (.inl x2), none, none], [], mem E mu6 la7)) (s2 := (12, [some (.inr (.inr (some (5, a0)))), some (.inr (.inr (some (1, a1)))), some (.inl x2), none, none], [], mem E mu6 la7)) rfl rfl rfl rfl (fun hc => ?_) (fun hc => ?_)
  · have h := h.1 hc
    dsimp only
    refine Ev.steps 6 (ip' := 20) (ls' := [some (.inr (.inr (some (5, a0)))), some (.inr (.inr (some (1, a1)))), some (.inl (x2 + (1 : Int32))), none, none]) (st' := [.inl (9 : Int32), .inl (0 : Int32), .inl (x2 + (1 : Int32)), .inr (.inr (some (5, a0))), .inr (.inr (some (1, a1)))]) (M' := mem E mu6 la7) rfl ?_
    refine Ev.ci (J := mi_46) (as := [.inr (.inr (some (5, a0))), .inl (x2 + (1 : Int32)), .inl (0 : Int32), .inl (9 : Int32)]) (rest := [.inr (.inr (some (1, a1)))]) rfl rfl rfl (Nat.le_of_ble_eq_true rfl) h (fun x8 mu9 la10 h => ?_)
    refine Ev.steps 1 (ip' := 22) (ls' := [some (.inr (.inr (some (5, a0)))), some (.inr (.inr (some (1, a1)))), some (.inl (x2 + (1 : Int32))), none, none]) (st' := []) (M' := mem E (up3 mu9 1 a1 1 x8) la10) rfl ?_
    generalize hgmu11 : up3 mu9 1 a1 1 x8 = mu11
    have h := h mu11 hgmu11.symm
    refine Ev.steps 2 (ip' := 24) (ls' := [some (.inr (.inr (some (5, a0)))), some (.inr (.inr (some (1, a1)))), some (.inl (x2 + (1 : Int32))), none, none]) (st' := [.inl (mu11 1 a1 1)]) (M' := mem E mu11 la10) rfl ?_
    refine Ev.br (c := 0 ≤ (mu11 1 a1 1)) (s1 := (27, [some (.inr (.inr (some (5, a0)))), some (.inr (.inr (some (1, a1)))), some (.inl (x2 + (1 : Int32))), none, none], [], mem E mu11 la10)) (s2 := (25, [some (.inr (.inr (some (5, a0)))), some (.inr (.inr (some (1, a1)))), some (.inl (x2 + (1 : Int32))), none, none], [], mem E mu11 la10)) rfl rfl rfl rfl (fun hc => ?_) (fun hc => ?_)
    · have h := h.1 hc
      dsimp only
      refine Ev.steps 3 (ip' := 30) (ls' := [some (.inr (.inr (some (5, a0)))), some (.inr (.inr (some (1, a1)))), some (.inl ((x2 + (1 : Int32)) + (1 : Int32))), some (.inl (0 : Int32)), none]) (st' := []) (M' := mem E mu11 la10) rfl ?_
      exact h
    · have h := h.2 hc
      dsimp only
      refine Ev.steps 1 (ip' := 26) (ls' := [some (.inr (.inr (some (5, a0)))), some (.inr (.inr (some (1, a1)))), some (.inl (x2 + (1 : Int32))), none, none]) (st' := [.inl (x2 + (1 : Int32))]) (M' := mem E mu11 la10) rfl ?_
      exact Ev.ret rfl rfl ⟨_, _, _, rfl, rfl, h⟩
  · have h := h.2 hc
    dsimp only
    refine Ev.steps 1 (ip' := 13) (ls' := [some (.inr (.inr (some (5, a0)))), some (.inr (.inr (some (1, a1)))), some (.inl x2), none, none]) (st' := [.inl x2]) (M' := mem E mu6 la7) rfl ?_
    exact Ev.ret rfl rfl ⟨_, _, _, rfl, rfl, h⟩
set_option maxRecDepth 100000 in
theorem vc_X6_readBar_30 {E : mEv} {d : Nat}  (v0 : Nat) (v1 : Nat) (v2 : Int32) (v3 : Int32) {mu : fMu} {la : fLa} {Q : Int32 → fMu → fLa → Prop} (h : ((6 : Int32) ≤ v3 → (FnI E d mi_110 [.inr (.inr (some (5, v0))), .inl v2] mu la (fun x12 mu13 la14 => ((mu13 5 v0 0) ≤ x12 → (Q (-9 : Int32) mu13 la14)) ∧ (¬ ((mu13 5 v0 0) ≤ x12) → (Q x12 mu13 la14))))) ∧ (¬ ((6 : Int32) ≤ v3) → (FnI E d mi_110 [.inr (.inr (some (5, v0))), .inl v2] mu la (fun x15 mu16 la17 => (v3 ≤ 0 → (FnI E d mi_111 [.inr (.inr (some (5, v0))), .inl x15, .inr (.inr (some (1, v1))), .inl v3] mu16 la17 (fun x18 mu19 la20 => ((5 : Int32) ≤ x18 → (∀ mu21 : fMu, mu21 = up3 mu19 1 v1 0 (v3 + (1 : Int32)) → (Ev E (d + 1) mi_109 30 [some (.inr (.inr (some (5, v0)))), some (.inr (.inr (some (1, v1)))), some (.inl (x15 + x18)), some (.inl (v3 + (1 : Int32))), none] [] (mem E mu21 la20) (qI E Q)))) ∧ (¬ ((5 : Int32) ≤ x18) → (Q (x15 + x18) mu19 la20))))) ∧ (¬ (v3 ≤ 0) → ((x15 < (mu16 5 v0 0) → (FnI E d mi_111 [.inr (.inr (some (5, v0))), .inl x15, .inr (.inr (some (1, v1))), .inl v3] mu16 la17 (fun x22 mu23 la24 => ((5 : Int32) ≤ x22 → (∀ mu25 : fMu, mu25 = up3 mu23 1 v1 0 (v3 + (1 : Int32)) → (Ev E (d + 1) mi_109 30 [some (.inr (.inr (some (5, v0)))), some (.inr (.inr (some (1, v1)))), some (.inl (x15 + x22)), some (.inl (v3 + (1 : Int32))), none] [] (mem E mu25 la24) (qI E Q)))) ∧ (¬ ((5 : Int32) ≤ x22) → (Q (x15 + x22) mu23 la24))))) ∧ (¬ (x15 < (mu16 5 v0 0)) → (FnI E d mi_110 [.inr (.inr (some (5, v0))), .inl x15] mu16 la17 (fun x26 mu27 la28 => ((mu27 5 v0 0) ≤ x26 → (Q (-9 : Int32) mu27 la28)) ∧ (¬ ((mu27 5 v0 0) ≤ x26) → (Q x26 mu27 la28))))))))))) : Ev E (d + 1) mi_109 30 [some (.inr (.inr (some (5, v0)))), some (.inr (.inr (some (1, v1)))), some (.inl v2), some (.inl v3), none] [] (mem E mu la) (qI E Q) := by
  refine Ev.steps 2 (ip' := 32) (ls' := [some (.inr (.inr (some (5, v0)))), some (.inr (.inr (some (1, v1)))), some (.inl v2), some (.inl v3), none]) (st' := [.inl (6 : Int32), .inl v3]) (M' := mem E mu la) rfl ?_
  refine Ev.br (c := (6 : Int32) ≤ v3) (s1 := (66, [some (.inr (.inr (some (5, v0)))), some (.inr (.inr (some (1, v1)))), some (.inl v2), some (.inl v3), none], [], mem E mu la)) (s2 := (33, [some (.inr (.inr (some (5, v0)))), some (.inr (.inr (some (1, v1)))), some (.inl v2), some (.inl v3), none], [], mem E mu la)) rfl rfl rfl rfl (fun hc => ?_) (fun hc => ?_)
  · have h := h.1 hc
    dsimp only
    refine Ev.steps 2 (ip' := 68) (ls' := [some (.inr (.inr (some (5, v0)))), some (.inr (.inr (some (1, v1)))), some (.inl v2), some (.inl v3), none]) (st' := [.inl v2, .inr (.inr (some (5, v0)))]) (M' := mem E mu la) rfl ?_
    refine Ev.ci (J := mi_110) (as := [.inr (.inr (some (5, v0))), .inl v2]) (rest := []) rfl rfl rfl (Nat.le_of_ble_eq_true rfl) h (fun x12 mu13 la14 h => ?_)
    refine Ev.steps 4 (ip' := 73) (ls' := [some (.inr (.inr (some (5, v0)))), some (.inr (.inr (some (1, v1)))), some (.inl x12), some (.inl v3), none]) (st' := [.inl (mu13 5 v0 0), .inl x12]) (M' := mem E mu13 la14) rfl ?_
    refine Ev.br (c := (mu13 5 v0 0) ≤ x12) (s1 := (76, [some (.inr (.inr (some (5, v0)))), some (.inr (.inr (some (1, v1)))), some (.inl x12), some (.inl v3), none], [], mem E mu13 la14)) (s2 := (74, [some (.inr (.inr (some (5, v0)))), some (.inr (.inr (some (1, v1)))), some (.inl x12), some (.inl v3), none], [], mem E mu13 la14)) rfl rfl rfl rfl (fun hc => ?_) (fun hc => ?_)
    · have h := h.1 hc
      dsimp only
      refine Ev.steps 1 (ip' := 77) (ls' := [some (.inr (.inr (some (5, v0)))), some (.inr (.inr (some (1, v1)))), some (.inl x12), some (.inl v3), none]) (st' := [.inl (-9 : Int32)]) (M' := mem E mu13 la14) rfl ?_
      exact Ev.ret rfl rfl ⟨_, _, _, rfl, rfl, h⟩
    · have h := h.2 hc
      dsimp only
      refine Ev.steps 2 (ip' := 77) (ls' := [some (.inr (.inr (some (5, v0)))), some (.inr (.inr (some (1, v1)))), some (.inl x12), some (.inl v3), none]) (st' := [.inl x12]) (M' := mem E mu13 la14) rfl ?_
      exact Ev.ret rfl rfl ⟨_, _, _, rfl, rfl, h⟩
  · have h := h.2 hc
    dsimp only
    refine Ev.steps 2 (ip' := 35) (ls' := [some (.inr (.inr (some (5, v0)))), some (.inr (.inr (some (1, v1)))), some (.inl v2), some (.inl v3), none]) (st' := [.inl v2, .inr (.inr (some (5, v0)))]) (M' := mem E mu la) rfl ?_
    refine Ev.ci (J := mi_110) (as := [.inr (.inr (some (5, v0))), .inl v2]) (rest := []) rfl rfl rfl (Nat.le_of_ble_eq_true rfl) h (fun x15 mu16 la17 h => ?_)
    refine Ev.steps 2 (ip' := 38) (ls' := [some (.inr (.inr (some (5, v0)))), some (.inr (.inr (some (1, v1)))), some (.inl x15), some (.inl v3), none]) (st' := [.inl v3]) (M' := mem E mu16 la17) rfl ?_
    refine Ev.br (c := v3 ≤ 0) (s1 := (44, [some (.inr (.inr (some (5, v0)))), some (.inr (.inr (some (1, v1)))), some (.inl x15), some (.inl v3), none], [], mem E mu16 la17)) (s2 := (39, [some (.inr (.inr (some (5, v0)))), some (.inr (.inr (some (1, v1)))), some (.inl x15), some (.inl v3), none], [], mem E mu16 la17)) rfl rfl rfl rfl (fun hc => ?_) (fun hc => ?_)
    · have h := h.1 hc
      dsimp only
      refine Ev.steps 4 (ip' := 48) (ls' := [some (.inr (.inr (some (5, v0)))), some (.inr (.inr (some (1, v1)))), some (.inl x15), some (.inl v3), none]) (st' := [.inl v3, .inr (.inr (some (1, v1))), .inl x15, .inr (.inr (some (5, v0)))]) (M' := mem E mu16 la17) rfl ?_
      refine Ev.ci (J := mi_111) (as := [.inr (.inr (some (5, v0))), .inl x15, .inr (.inr (some (1, v1))), .inl v3]) (rest := []) rfl rfl rfl (Nat.le_of_ble_eq_true rfl) h (fun x18 mu19 la20 h => ?_)
      refine Ev.steps 7 (ip' := 56) (ls' := [some (.inr (.inr (some (5, v0)))), some (.inr (.inr (some (1, v1)))), some (.inl (x15 + x18)), some (.inl v3), some (.inl x18)]) (st' := [.inl (5 : Int32), .inl x18]) (M' := mem E mu19 la20) rfl ?_
      refine Ev.br (c := (5 : Int32) ≤ x18) (s1 := (59, [some (.inr (.inr (some (5, v0)))), some (.inr (.inr (some (1, v1)))), some (.inl (x15 + x18)), some (.inl v3), some (.inl x18)], [], mem E mu19 la20)) (s2 := (57, [some (.inr (.inr (some (5, v0)))), some (.inr (.inr (some (1, v1)))), some (.inl (x15 + x18)), some (.inl v3), some (.inl x18)], [], mem E mu19 la20)) rfl rfl rfl rfl (fun hc => ?_) (fun hc => ?_)
      · have h := h.1 hc
        dsimp only
        refine Ev.steps 5 (ip' := 64) (ls' := [some (.inr (.inr (some (5, v0)))), some (.inr (.inr (some (1, v1)))), some (.inl (x15 + x18)), some (.inl v3), some (.inl x18)]) (st' := []) (M' := mem E (up3 mu19 1 v1 0 (v3 + (1 : Int32))) la20) rfl ?_
        generalize hgmu21 : up3 mu19 1 v1 0 (v3 + (1 : Int32)) = mu21
        have h := h mu21 hgmu21.symm
        refine Ev.steps 2 (ip' := 30) (ls' := [some (.inr (.inr (some (5, v0)))), some (.inr (.inr (some (1, v1)))), some (.inl (x15 + x18)), some (.inl (v3 + (1 : Int32))), some (.inl x18)]) (st' := []) (M' := mem E mu21 la20) rfl ?_
        refine Ev.drop (ls := [some (.inr (.inr (some (5, v0)))), some (.inr (.inr (some (1, v1)))), some (.inl (x15 + x18)), some (.inl (v3 + (1 : Int32))), none]) ⟨Or.inr rfl, Or.inr rfl, Or.inr rfl, Or.inr rfl, Or.inl rfl, trivial⟩ ?_
        exact h
      · have h := h.2 hc
        dsimp only
        refine Ev.steps 1 (ip' := 58) (ls' := [some (.inr (.inr (some (5, v0)))), some (.inr (.inr (some (1, v1)))), some (.inl (x15 + x18)), some (.inl v3), some (.inl x18)]) (st' := [.inl (x15 + x18)]) (M' := mem E mu19 la20) rfl ?_
        exact Ev.ret rfl rfl ⟨_, _, _, rfl, rfl, h⟩
    · have h := h.2 hc
      dsimp only
      refine Ev.steps 3 (ip' := 42) (ls' := [some (.inr (.inr (some (5, v0)))), some (.inr (.inr (some (1, v1)))), some (.inl x15), some (.inl v3), none]) (st' := [.inl (mu16 5 v0 0), .inl x15]) (M' := mem E mu16 la17) rfl ?_
      refine Ev.br (c := x15 < (mu16 5 v0 0)) (s1 := (44, [some (.inr (.inr (some (5, v0)))), some (.inr (.inr (some (1, v1)))), some (.inl x15), some (.inl v3), none], [], mem E mu16 la17)) (s2 := (43, [some (.inr (.inr (some (5, v0)))), some (.inr (.inr (some (1, v1)))), some (.inl x15), some (.inl v3), none], [], mem E mu16 la17)) rfl rfl rfl rfl (fun hc => ?_) (fun hc => ?_)
      · have h := h.1 hc
        dsimp only
        refine Ev.steps 4 (ip' := 48) (ls' := [some (.inr (.inr (some (5, v0)))), some (.inr (.inr (some (1, v1)))), some (.inl x15), some (.inl v3), none]) (st' := [.inl v3, .inr (.inr (some (1, v1))), .inl x15, .inr (.inr (some (5, v0)))]) (M' := mem E mu16 la17) rfl ?_
        refine Ev.ci (J := mi_111) (as := [.inr (.inr (some (5, v0))), .inl x15, .inr (.inr (some (1, v1))), .inl v3]) (rest := []) rfl rfl rfl (Nat.le_of_ble_eq_true rfl) h (fun x22 mu23 la24 h => ?_)
        refine Ev.steps 7 (ip' := 56) (ls' := [some (.inr (.inr (some (5, v0)))), some (.inr (.inr (some (1, v1)))), some (.inl (x15 + x22)), some (.inl v3), some (.inl x22)]) (st' := [.inl (5 : Int32), .inl x22]) (M' := mem E mu23 la24) rfl ?_
        refine Ev.br (c := (5 : Int32) ≤ x22) (s1 := (59, [some (.inr (.inr (some (5, v0)))), some (.inr (.inr (some (1, v1)))), some (.inl (x15 + x22)), some (.inl v3), some (.inl x22)], [], mem E mu23 la24)) (s2 := (57, [some (.inr (.inr (some (5, v0)))), some (.inr (.inr (some (1, v1)))), some (.inl (x15 + x22)), some (.inl v3), some (.inl x22)], [], mem E mu23 la24)) rfl rfl rfl rfl (fun hc => ?_) (fun hc => ?_)
        · have h := h.1 hc
          dsimp only
          refine Ev.steps 5 (ip' := 64) (ls' := [some (.inr (.inr (some (5, v0)))), some (.inr (.inr (some (1, v1)))), some (.inl (x15 + x22)), some (.inl v3), some (.inl x22)]) (st' := []) (M' := mem E (up3 mu23 1 v1 0 (v3 + (1 : Int32))) la24) rfl ?_
          generalize hgmu25 : up3 mu23 1 v1 0 (v3 + (1 : Int32)) = mu25
          have h := h mu25 hgmu25.symm
          refine Ev.steps 2 (ip' := 30) (ls' := [some (.inr (.inr (some (5, v0)))), some (.inr (.inr (some (1, v1)))), some (.inl (x15 + x22)), some (.inl (v3 + (1 : Int32))), some (.inl x22)]) (st' := []) (M' := mem E mu25 la24) rfl ?_
          refine Ev.drop (ls := [some (.inr (.inr (some (5, v0)))), some (.inr (.inr (some (1, v1)))), some (.inl (x15 + x22)), some (.inl (v3 + (1 : Int32))), none]) ⟨Or.inr rfl, Or.inr rfl, Or.inr rfl, Or.inr rfl, Or.inl rfl, trivial⟩ ?_
          exact h
        · have h := h.2 hc
          dsimp only
          refine Ev.steps 1 (ip' := 58) (ls' := [some (.inr (.inr (some (5, v0)))), some (.inr (.inr (some (1, v1)))), some (.inl (x15 + x22)), some (.inl v3), some (.inl x22)]) (st' := [.inl (x15 + x22)]) (M' := mem E mu23 la24) rfl ?_
          exact Ev.ret rfl rfl ⟨_, _, _, rfl, rfl, h⟩
      · have h := h.2 hc
        dsimp only
        refine Ev.steps 3 (ip' := 68) (ls' := [some (.inr (.inr (some (5, v0)))), some (.inr (.inr (some (1, v1)))), some (.inl x15), some (.inl v3), none]) (st' := [.inl x15, .inr (.inr (some (5, v0)))]) (M' := mem E mu16 la17) rfl ?_
        refine Ev.ci (J := mi_110) (as := [.inr (.inr (some (5, v0))), .inl x15]) (rest := []) rfl rfl rfl (Nat.le_of_ble_eq_true rfl) h (fun x26 mu27 la28 h => ?_)
        refine Ev.steps 4 (ip' := 73) (ls' := [some (.inr (.inr (some (5, v0)))), some (.inr (.inr (some (1, v1)))), some (.inl x26), some (.inl v3), none]) (st' := [.inl (mu27 5 v0 0), .inl x26]) (M' := mem E mu27 la28) rfl ?_
        refine Ev.br (c := (mu27 5 v0 0) ≤ x26) (s1 := (76, [some (.inr (.inr (some (5, v0)))), some (.inr (.inr (some (1, v1)))), some (.inl x26), some (.inl v3), none], [], mem E mu27 la28)) (s2 := (74, [some (.inr (.inr (some (5, v0)))), some (.inr (.inr (some (1, v1)))), some (.inl x26), some (.inl v3), none], [], mem E mu27 la28)) rfl rfl rfl rfl (fun hc => ?_) (fun hc => ?_)
        · have h := h.1 hc
          dsimp only
          refine Ev.steps 1 (ip' := 77) (ls' := [some (.inr (.inr (some (5, v0)))), some (.inr (.inr (some (1, v1)))), some (.inl x26), some (.inl v3), none]) (st' := [.inl (-9 : Int32)]) (M' := mem E mu27 la28) rfl ?_
          exact Ev.ret rfl rfl ⟨_, _, _, rfl, rfl, h⟩
        · have h := h.2 hc
          dsimp only
          refine Ev.steps 2 (ip' := 77) (ls' := [some (.inr (.inr (some (5, v0)))), some (.inr (.inr (some (1, v1)))), some (.inl x26), some (.inl v3), none]) (st' := [.inl x26]) (M' := mem E mu27 la28) rfl ?_
          exact Ev.ret rfl rfl ⟨_, _, _, rfl, rfl, h⟩
