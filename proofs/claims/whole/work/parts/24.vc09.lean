set_option maxRecDepth 100000 in
/-- AnnCupsModel.takesAs(IIZ)I -/
theorem vc_X7_takesAs {E : mEv} {d : Nat} (a0 : Int32) (a1 : Int32) (a2 : Int32) {mu : fMu} {la : fLa} {Q : Int32 → fMu → fLa → Prop} (h : (¬ a2 = 0 → ((a1 ≤ (1 : Int32) → ((a1 ≤ (2 : Int32) → ((a0 = 1 → (Q (1 : Int32) mu la)) ∧ (¬ a0 = 1 → ((a0 = 2 → (Q (1 : Int32) mu la)) ∧ (¬ a0 = 2 → ((a0 = 3 → (Q a1 mu la)) ∧ (¬ a0 = 3 → ((a0 = 4 → (Q ((2 : Int32) * (1 : Int32)) mu la)) ∧ (¬ a0 = 4 → ((a0 = 5 → (Q ((1 : Int32) + (3 : Int32)) mu la)) ∧ (¬ a0 = 5 → (Q a1 mu la)))))))))))) ∧ (¬ (a1 ≤ (2 : Int32)) → ((a0 = 1 → (Q (1 : Int32) mu la)) ∧ (¬ a0 = 1 → ((a0 = 2 → (Q (a1 - (2 : Int32)) mu la)) ∧ (¬ a0 = 2 → ((a0 = 3 → (Q a1 mu la)) ∧ (¬ a0 = 3 → ((a0 = 4 → (Q ((2 : Int32) * (1 : Int32)) mu la)) ∧ (¬ a0 = 4 → ((a0 = 5 → (Q ((a1 - (2 : Int32)) + (3 : Int32)) mu la)) ∧ (¬ a0 = 5 → (Q a1 mu la)))))))))))))) ∧ (¬ (a1 ≤ (1 : Int32)) → ((¬ (2 : Int32) = 0) ∧ ((a1 ≤ (2 : Int32) → ((a0 = 1 → (Q (a1 / (2 : Int32)) mu la)) ∧ (¬ a0 = 1 → ((a0 = 2 → (Q (1 : Int32) mu la)) ∧ (¬ a0 = 2 → ((a0 = 3 → (Q a1 mu la)) ∧ (¬ a0 = 3 → ((a0 = 4 → (Q ((2 : Int32) * (a1 / (2 : Int32))) mu la)) ∧ (¬ a0 = 4 → ((a0 = 5 → (Q ((1 : Int32) + (3 : Int32)) mu la)) ∧ (¬ a0 = 5 → (Q a1 mu la)))))))))))) ∧ (¬ (a1 ≤ (2 : Int32)) → ((a0 = 1 → (Q (a1 / (2 : Int32)) mu la)) ∧ (¬ a0 = 1 → ((a0 = 2 → (Q (a1 - (2 : Int32)) mu la)) ∧ (¬ a0 = 2 → ((a0 = 3 → (Q a1 mu la)) ∧ (¬ a0 = 3 → ((a0 = 4 → (Q ((2 : Int32) * (a1 / (2 : Int32))) mu la)) ∧ (¬ a0 = 4 → ((a0 = 5 → (Q ((a1 - (2 : Int32)) + (3 : Int32)) mu la)) ∧ (¬ a0 = 5 → (Q a1 mu la))))))))))))))))) ∧ (¬ (¬ a2 = 0) → ((a1 ≤ (2 : Int32) → ((a0 = 1 → (Q a1 mu la)) ∧ (¬ a0 = 1 → ((a0 = 2 → (Q (1 : Int32) mu la)) ∧ (¬ a0 = 2 → ((a0 = 3 → (Q a1 mu la)) ∧ (¬ a0 = 3 → ((a0 = 4 → (Q ((2 : Int32) * a1) mu la)) ∧ (¬ a0 = 4 → ((a0 = 5 → (Q ((1 : Int32) + (3 : Int32)) mu la)) ∧ (¬ a0 = 5 → (Q a1 mu la)))))))))))) ∧ (¬ (a1 ≤ (2 : Int32)) → ((a0 = 1 → (Q a1 mu la)) ∧ (¬ a0 = 1 → ((a0 = 2 → (Q (a1 - (2 : Int32)) mu la)) ∧ (¬ a0 = 2 → ((a0 = 3 → (Q a1 mu la)) ∧ (¬ a0 = 3 → ((a0 = 4 → (Q ((2 : Int32) * a1) mu la)) ∧ (¬ a0 = 4 → ((a0 = 5 → (Q ((a1 - (2 : Int32)) + (3 : Int32)) mu la)) ∧ (¬ a0 = 5 → (Q a1 mu la))))))))))))))) : FnI E d mi_157 [.inl a0, .inl a1, .inl a2] mu la Q := by
  unfold FnI
  show Ev E d mi_157 0 [some (.inl a0), some (.inl a1), some (.inl a2), none, none] [] (mem E mu la) (qI E Q)
  refine Ev.steps 1 (ip' := 1) (ls' := [some (.inl a0), some (.inl a1), some (.inl a2), none, none]) (st' := [.inl a2]) (M' := mem E mu la) rfl ?_
  refine Ev.br (c := ¬ a2 = 0) (s1 := (4, [some (.inl a0), some (.inl a1), some (.inl a2), none, none], [], mem E mu la)) (s2 := (2, [some (.inl a0), some (.inl a1), some (.inl a2), none, none], [], mem E mu la)) rfl rfl rfl rfl (fun hc => ?_) (fun hc => ?_)
  · have h := h.1 hc
    dsimp only
    refine Ev.steps 2 (ip' := 6) (ls' := [some (.inl a0), some (.inl a1), some (.inl a2), none, none]) (st' := [.inl (1 : Int32), .inl a1]) (M' := mem E mu la) rfl ?_
    refine Ev.br (c := a1 ≤ (1 : Int32)) (s1 := (11, [some (.inl a0), some (.inl a1), some (.inl a2), none, none], [], mem E mu la)) (s2 := (7, [some (.inl a0), some (.inl a1), some (.inl a2), none, none], [], mem E mu la)) rfl rfl rfl rfl (fun hc => ?_) (fun hc => ?_)
    · have h := h.1 hc
      dsimp only
      refine Ev.steps 4 (ip' := 15) (ls' := [some (.inl a0), some (.inl a1), some (.inl a2), some (.inl (1 : Int32)), none]) (st' := [.inl (2 : Int32), .inl a1]) (M' := mem E mu la) rfl ?_
      refine Ev.br (c := a1 ≤ (2 : Int32)) (s1 := (20, [some (.inl a0), some (.inl a1), some (.inl a2), some (.inl (1 : Int32)), none], [], mem E mu la)) (s2 := (16, [some (.inl a0), some (.inl a1), some (.inl a2), some (.inl (1 : Int32)), none], [], mem E mu la)) rfl rfl rfl rfl (fun hc => ?_) (fun hc => ?_)
      · have h := h.1 hc
        dsimp only
        refine Ev.steps 3 (ip' := 23) (ls' := [some (.inl a0), some (.inl a1), some (.inl a2), some (.inl (1 : Int32)), some (.inl (1 : Int32))]) (st' := [.inl a0]) (M' := mem E mu la) rfl ?_
        by_cases hc0 : a0 = 1
        · refine Ev.one (s' := (24, [some (.inl a0), some (.inl a1), some (.inl a2), some (.inl (1 : Int32)), some (.inl (1 : Int32))], [], mem E mu la)) rfl rfl rfl (by rw [hc0]; rfl) ?_
          have h := h.1 hc0
          dsimp only
          refine Ev.steps 1 (ip' := 25) (ls' := [some (.inl a0), some (.inl a1), some (.inl a2), some (.inl (1 : Int32)), some (.inl (1 : Int32))]) (st' := [.inl (1 : Int32)]) (M' := mem E mu la) rfl ?_
          exact Ev.ret rfl rfl ⟨_, _, _, rfl, rfl, h⟩
        · have h := h.2 hc0
          by_cases hc1 : a0 = 2
          · refine Ev.one (s' := (30, [some (.inl a0), some (.inl a1), some (.inl a2), some (.inl (1 : Int32)), some (.inl (1 : Int32))], [], mem E mu la)) rfl rfl rfl (by rw [hc1]; rfl) ?_
            have h := h.1 hc1
            dsimp only
            refine Ev.steps 1 (ip' := 31) (ls' := [some (.inl a0), some (.inl a1), some (.inl a2), some (.inl (1 : Int32)), some (.inl (1 : Int32))]) (st' := [.inl (1 : Int32)]) (M' := mem E mu la) rfl ?_
            exact Ev.ret rfl rfl ⟨_, _, _, rfl, rfl, h⟩
          · have h := h.2 hc1
            by_cases hc2 : a0 = 3
            · refine Ev.one (s' := (36, [some (.inl a0), some (.inl a1), some (.inl a2), some (.inl (1 : Int32)), some (.inl (1 : Int32))], [], mem E mu la)) rfl rfl rfl (by rw [hc2]; rfl) ?_
              have h := h.1 hc2
              dsimp only
              refine Ev.steps 1 (ip' := 37) (ls' := [some (.inl a0), some (.inl a1), some (.inl a2), some (.inl (1 : Int32)), some (.inl (1 : Int32))]) (st' := [.inl a1]) (M' := mem E mu la) rfl ?_
              exact Ev.ret rfl rfl ⟨_, _, _, rfl, rfl, h⟩
            · have h := h.2 hc2
              by_cases hc3 : a0 = 4
              · refine Ev.one (s' := (26, [some (.inl a0), some (.inl a1), some (.inl a2), some (.inl (1 : Int32)), some (.inl (1 : Int32))], [], mem E mu la)) rfl rfl rfl (by rw [hc3]; rfl) ?_
                have h := h.1 hc3
                dsimp only
                refine Ev.steps 3 (ip' := 29) (ls' := [some (.inl a0), some (.inl a1), some (.inl a2), some (.inl (1 : Int32)), some (.inl (1 : Int32))]) (st' := [.inl ((2 : Int32) * (1 : Int32))]) (M' := mem E mu la) rfl ?_
                exact Ev.ret rfl rfl ⟨_, _, _, rfl, rfl, h⟩
              · have h := h.2 hc3
                by_cases hc4 : a0 = 5
                · refine Ev.one (s' := (32, [some (.inl a0), some (.inl a1), some (.inl a2), some (.inl (1 : Int32)), some (.inl (1 : Int32))], [], mem E mu la)) rfl rfl rfl (by rw [hc4]; rfl) ?_
                  have h := h.1 hc4
                  dsimp only
                  refine Ev.steps 3 (ip' := 35) (ls' := [some (.inl a0), some (.inl a1), some (.inl a2), some (.inl (1 : Int32)), some (.inl (1 : Int32))]) (st' := [.inl ((1 : Int32) + (3 : Int32))]) (M' := mem E mu la) rfl ?_
                  exact Ev.ret rfl rfl ⟨_, _, _, rfl, rfl, h⟩
                · have h := h.2 hc4
                  refine Ev.one (s' := (36, [some (.inl a0), some (.inl a1), some (.inl a2), some (.inl (1 : Int32)), some (.inl (1 : Int32))], [], mem E mu la)) rfl rfl rfl (if_pos (tsw_out a0 1 5 (fun z h1 h2 => by
                    rcases (show z = 1 ∨ z = 2 ∨ z = 3 ∨ z = 4 ∨ z = 5 by omega) with rfl | rfl | rfl | rfl | rfl
                    · exact fun e => hc0 (Int32.toInt_inj.mp e)
                    · exact fun e => hc1 (Int32.toInt_inj.mp e)
                    · exact fun e => hc2 (Int32.toInt_inj.mp e)
                    · exact fun e => hc3 (Int32.toInt_inj.mp e)
                    · exact fun e => hc4 (Int32.toInt_inj.mp e)))) ?_
                  dsimp only
                  refine Ev.steps 1 (ip' := 37) (ls' := [some (.inl a0), some (.inl a1), some (.inl a2), some (.inl (1 : Int32)), some (.inl (1 : Int32))]) (st' := [.inl a1]) (M' := mem E mu la) rfl ?_
                  exact Ev.ret rfl rfl ⟨_, _, _, rfl, rfl, h⟩
      · have h := h.2 hc
        dsimp only
        refine Ev.steps 6 (ip' := 23) (ls' := [some (.inl a0), some (.inl a1), some (.inl a2), some (.inl (1 : Int32)), some (.inl (a1 - (2 : Int32)))]) (st' := [.inl a0]) (M' := mem E mu la) rfl ?_
        by_cases hc0 : a0 = 1
        · refine Ev.one (s' := (24, [some (.inl a0), some (.inl a1), some (.inl a2), some (.inl (1 : Int32)), some (.inl (a1 - (2 : Int32)))], [], mem E mu la)) rfl rfl rfl (by rw [hc0]; rfl) ?_
          have h := h.1 hc0
          dsimp only
          refine Ev.steps 1 (ip' := 25) (ls' := [some (.inl a0), some (.inl a1), some (.inl a2), some (.inl (1 : Int32)), some (.inl (a1 - (2 : Int32)))]) (st' := [.inl (1 : Int32)]) (M' := mem E mu la) rfl ?_
          exact Ev.ret rfl rfl ⟨_, _, _, rfl, rfl, h⟩
        · have h := h.2 hc0
          by_cases hc1 : a0 = 2
          · refine Ev.one (s' := (30, [some (.inl a0), some (.inl a1), some (.inl a2), some (.inl (1 : Int32)), some (.inl (a1 - (2 : Int32)))], [], mem E mu la)) rfl rfl rfl (by rw [hc1]; rfl) ?_
            have h := h.1 hc1
            dsimp only
            refine Ev.steps 1 (ip' := 31) (ls' := [some (.inl a0), some (.inl a1), some (.inl a2), some (.inl (1 : Int32)), some (.inl (a1 - (2 : Int32)))]) (st' := [.inl (a1 - (2 : Int32))]) (M' := mem E mu la) rfl ?_
            exact Ev.ret rfl rfl ⟨_, _, _, rfl, rfl, h⟩
          · have h := h.2 hc1
            by_cases hc2 : a0 = 3
            · refine Ev.one (s' := (36, [some (.inl a0), some (.inl a1), some (.inl a2), some (.inl (1 : Int32)), some (.inl (a1 - (2 : Int32)))], [], mem E mu la)) rfl rfl rfl (by rw [hc2]; rfl) ?_
              have h := h.1 hc2
              dsimp only
              refine Ev.steps 1 (ip' := 37) (ls' := [some (.inl a0), some (.inl a1), some (.inl a2), some (.inl (1 : Int32)), some (.inl (a1 - (2 : Int32)))]) (st' := [.inl a1]) (M' := mem E mu la) rfl ?_
              exact Ev.ret rfl rfl ⟨_, _, _, rfl, rfl, h⟩
            · have h := h.2 hc2
              by_cases hc3 : a0 = 4
              · refine Ev.one (s' := (26, [some (.inl a0), some (.inl a1), some (.inl a2), some (.inl (1 : Int32)), some (.inl (a1 - (2 : Int32)))], [], mem E mu la)) rfl rfl rfl (by rw [hc3]; rfl) ?_
                have h := h.1 hc3
                dsimp only
                refine Ev.steps 3 (ip' := 29) (ls' := [some (.inl a0), some (.inl a1), some (.inl a2), some (.inl (1 : Int32)), some (.inl (a1 - (2 : Int32)))]) (st' := [.inl ((2 : Int32) * (1 : Int32))]) (M' := mem E mu la) rfl ?_
                exact Ev.ret rfl rfl ⟨_, _, _, rfl, rfl, h⟩
              · have h := h.2 hc3
                by_cases hc4 : a0 = 5
                · refine Ev.one (s' := (32, [some (.inl a0), some (.inl a1), some (.inl a2), some (.inl (1 : Int32)), some (.inl (a1 - (2 : Int32)))], [], mem E mu la)) rfl rfl rfl (by rw [hc4]; rfl) ?_
                  have h := h.1 hc4
                  dsimp only
                  refine Ev.steps 3 (ip' := 35) (ls' := [some (.inl a0), some (.inl a1), some (.inl a2), some (.inl (1 : Int32)), some (.inl (a1 - (2 : Int32)))]) (st' := [.inl ((a1 - (2 : Int32)) + (3 : Int32))]) (M' := mem E mu la) rfl ?_
                  exact Ev.ret rfl rfl ⟨_, _, _, rfl, rfl, h⟩
                · have h := h.2 hc4
                  refine Ev.one (s' := (36, [some (.inl a0), some (.inl a1), some (.inl a2), some (.inl (1 : Int32)), some (.inl (a1 - (2 : Int32)))], [], mem E mu la)) rfl rfl rfl (if_pos (tsw_out a0 1 5 (fun z h1 h2 => by
                    rcases (show z = 1 ∨ z = 2 ∨ z = 3 ∨ z = 4 ∨ z = 5 by omega) with rfl | rfl | rfl | rfl | rfl
                    · exact fun e => hc0 (Int32.toInt_inj.mp e)
                    · exact fun e => hc1 (Int32.toInt_inj.mp e)
                    · exact fun e => hc2 (Int32.toInt_inj.mp e)
                    · exact fun e => hc3 (Int32.toInt_inj.mp e)
                    · exact fun e => hc4 (Int32.toInt_inj.mp e)))) ?_
                  dsimp only
                  refine Ev.steps 1 (ip' := 37) (ls' := [some (.inl a0), some (.inl a1), some (.inl a2), some (.inl (1 : Int32)), some (.inl (a1 - (2 : Int32)))]) (st' := [.inl a1]) (M' := mem E mu la) rfl ?_
                  exact Ev.ret rfl rfl ⟨_, _, _, rfl, rfl, h⟩
    · have h := h.2 hc
      dsimp only
      refine Ev.steps 2 (ip' := 9) (ls' := [some (.inl a0), some (.inl a1), some (.inl a2), none, none]) (st' := [.inl (2 : Int32), .inl a1]) (M' := mem E mu la) rfl ?_
      refine Ev.want (c := (2 : Int32) = 0) (s2 := (10, [some (.inl a0), some (.inl a1), some (.inl a2), none, none], [.inl (a1 / (2 : Int32))], mem E mu la)) rfl rfl rfl rfl h.1 ?_
      have h := h.2
      refine Ev.steps 4 (ip' := 15) (ls' := [some (.inl a0), some (.inl a1), some (.inl a2), some (.inl (a1 / (2 : Int32))), none]) (st' := [.inl (2 : Int32), .inl a1]) (M' := mem E mu la) rfl ?_
      refine Ev.br (c := a1 ≤ (2 : Int32)) (s1 := (20, [some (.inl a0), some (.inl a1), some (.inl a2), some (.inl (a1 / (2 : Int32))), none], [], mem E mu la)) (s2 := (16, [some (.inl a0), some (.inl a1), some (.inl a2), some (.inl (a1 / (2 : Int32))), none], [], mem E mu la)) rfl rfl rfl rfl (fun hc => ?_) (fun hc => ?_)
      · have h := h.1 hc
        dsimp only
        refine Ev.steps 3 (ip' := 23) (ls' := [some (.inl a0), some (.inl a1), some (.inl a2), some (.inl (a1 / (2 : Int32))), some (.inl (1 : Int32))]) (st' := [.inl a0]) (M' := mem E mu la) rfl ?_
        by_cases hc0 : a0 = 1
        · refine Ev.one (s' := (24, [some (.inl a0), some (.inl a1), some (.inl a2), some (.inl (a1 / (2 : Int32))), some (.inl (1 : Int32))], [], mem E mu la)) rfl rfl rfl (by rw [hc0]; rfl) ?_
          have h := h.1 hc0
          dsimp only
          refine Ev.steps 1 (ip' := 25) (ls' := [some (.inl a0), some (.inl a1), some (.inl a2), some (.inl (a1 / (2 : Int32))), some (.inl (1 : Int32))]) (st' := [.inl (a1 / (2 : Int32))]) (M' := mem E mu la) rfl ?_
          exact Ev.ret rfl rfl ⟨_, _, _, rfl, rfl, h⟩
        · have h := h.2 hc0
          by_cases hc1 : a0 = 2
          · refine Ev.one (s' := (30, [some (.inl a0), some (.inl a1), some (.inl a2), some (.inl (a1 / (2 : Int32))), some (.inl (1 : Int32))], [], mem E mu la)) rfl rfl rfl (by rw [hc1]; rfl) ?_
            have h := h.1 hc1
            dsimp only
            refine Ev.steps 1 (ip' := 31) (ls' := [some (.inl a0), some (.inl a1), some (.inl a2), some (.inl (a1 / (2 : Int32))), some (.inl (1 : Int32))]) (st' := [.inl (1 : Int32)]) (M' := mem E mu la) rfl ?_
            exact Ev.ret rfl rfl ⟨_, _, _, rfl, rfl, h⟩
          · have h := h.2 hc1
            by_cases hc2 : a0 = 3
            · refine Ev.one (s' := (36, [some (.inl a0), some (.inl a1), some (.inl a2), some (.inl (a1 / (2 : Int32))), some (.inl (1 : Int32))], [], mem E mu la)) rfl rfl rfl (by rw [hc2]; rfl) ?_
              have h := h.1 hc2
              dsimp only
              refine Ev.steps 1 (ip' := 37) (ls' := [some (.inl a0), some (.inl a1), some (.inl a2), some (.inl (a1 / (2 : Int32))), some (.inl (1 : Int32))]) (st' := [.inl a1]) (M' := mem E mu la) rfl ?_
              exact Ev.ret rfl rfl ⟨_, _, _, rfl, rfl, h⟩
            · have h := h.2 hc2
              by_cases hc3 : a0 = 4
              · refine Ev.one (s' := (26, [some (.inl a0), some (.inl a1), some (.inl a2), some (.inl (a1 / (2 : Int32))), some (.inl (1 : Int32))], [], mem E mu la)) rfl rfl rfl (by rw [hc3]; rfl) ?_
                have h := h.1 hc3
                dsimp only
                refine Ev.steps 3 (ip' := 29) (ls' := [some (.inl a0), some (.inl a1), some (.inl a2), some (.inl (a1 / (2 : Int32))), some (.inl (1 : Int32))]) (st' := [.inl ((2 : Int32) * (a1 / (2 : Int32)))]) (M' := mem E mu la) rfl ?_
                exact Ev.ret rfl rfl ⟨_, _, _, rfl, rfl, h⟩
              · have h := h.2 hc3
                by_cases hc4 : a0 = 5
                · refine Ev.one (s' := (32, [some (.inl a0), some (.inl a1), some (.inl a2), some (.inl (a1 / (2 : Int32))), some (.inl (1 : Int32))], [], mem E mu la)) rfl rfl rfl (by rw [hc4]; rfl) ?_
                  have h := h.1 hc4
                  dsimp only
                  refine Ev.steps 3 (ip' := 35) (ls' := [some (.inl a0), some (.inl a1), some (.inl a2), some (.inl (a1 / (2 : Int32))), some (.inl (1 : Int32))]) (st' := [.inl ((1 : Int32) + (3 : Int32))]) (M' := mem E mu la) rfl ?_
                  exact Ev.ret rfl rfl ⟨_, _, _, rfl, rfl, h⟩
                · have h := h.2 hc4
                  refine Ev.one (s' := (36, [some (.inl a0), some (.inl a1), some (.inl a2), some (.inl (a1 / (2 : Int32))), some (.inl (1 : Int32))], [], mem E mu la)) rfl rfl rfl (if_pos (tsw_out a0 1 5 (fun z h1 h2 => by
                    rcases (show z = 1 ∨ z = 2 ∨ z = 3 ∨ z = 4 ∨ z = 5 by omega) with rfl | rfl | rfl | rfl | rfl
                    · exact fun e => hc0 (Int32.toInt_inj.mp e)
                    · exact fun e => hc1 (Int32.toInt_inj.mp e)
                    · exact fun e => hc2 (Int32.toInt_inj.mp e)
                    · exact fun e => hc3 (Int32.toInt_inj.mp e)
                    · exact fun e => hc4 (Int32.toInt_inj.mp e)))) ?_
                  dsimp only
                  refine Ev.steps 1 (ip' := 37) (ls' := [some (.inl a0), some (.inl a1), some (.inl a2), some (.inl (a1 / (2 : Int32))), some (.inl (1 : Int32))]) (st' := [.inl a1]) (M' := mem E mu la) rfl ?_
                  exact Ev.ret rfl rfl ⟨_, _, _, rfl, rfl, h⟩
      · have h := h.2 hc
        dsimp only
        refine Ev.steps 6 (ip' := 23) (ls' := [some (.inl a0), some (.inl a1), some (.inl a2), some (.inl (a1 / (2 : Int32))), some (.inl (a1 - (2 : Int32)))]) (st' := [.inl a0]) (M' := mem E mu la) rfl ?_
        by_cases hc0 : a0 = 1
        · refine Ev.one (s' := (24, [some (.inl a0), some (.inl a1), some (.inl a2), some (.inl (a1 / (2 : Int32))), some (.inl (a1 - (2 : Int32)))], [], mem E mu la)) rfl rfl rfl (by rw [hc0]; rfl) ?_
          have h := h.1 hc0
          dsimp only
          refine Ev.steps 1 (ip' := 25) (ls' := [some (.inl a0), some (.inl a1), some (.inl a2), some (.inl (a1 / (2 : Int32))), some (.inl (a1 - (2 : Int32)))]) (st' := [.inl (a1 / (2 : Int32))]) (M' := mem E mu la) rfl ?_
          exact Ev.ret rfl rfl ⟨_, _, _, rfl, rfl, h⟩
        · have h := h.2 hc0
          by_cases hc1 : a0 = 2
          · refine Ev.one (s' := (30, [some (.inl a0), some (.inl a1), some (.inl a2), some (.inl (a1 / (2 : Int32))), some (.inl (a1 - (2 : Int32)))], [], mem E mu la)) rfl rfl rfl (by rw [hc1]; rfl) ?_
            have h := h.1 hc1
            dsimp only
            refine Ev.steps 1 (ip' := 31) (ls' := [some (.inl a0), some (.inl a1), some (.inl a2), some (.inl (a1 / (2 : Int32))), some (.inl (a1 - (2 : Int32)))]) (st' := [.inl (a1 - (2 : Int32))]) (M' := mem E mu la) rfl ?_
            exact Ev.ret rfl rfl ⟨_, _, _, rfl, rfl, h⟩
          · have h := h.2 hc1
            by_cases hc2 : a0 = 3
            · refine Ev.one (s' := (36, [some (.inl a0), some (.inl a1), some (.inl a2), some (.inl (a1 / (2 : Int32))), some (.inl (a1 - (2 : Int32)))], [], mem E mu la)) rfl rfl rfl (by rw [hc2]; rfl) ?_
              have h := h.1 hc2
              dsimp only
              refine Ev.steps 1 (ip' := 37) (ls' := [some (.inl a0), some (.inl a1), some (.inl a2), some (.inl (a1 / (2 : Int32))), some (.inl (a1 - (2 : Int32)))]) (st' := [.inl a1]) (M' := mem E mu la) rfl ?_
              exact Ev.ret rfl rfl ⟨_, _, _, rfl, rfl, h⟩
            · have h := h.2 hc2
              by_cases hc3 : a0 = 4
              · refine Ev.one (s' := (26, [some (.inl a0), some (.inl a1), some (.inl a2), some (.inl (a1 / (2 : Int32))), some (.inl (a1 - (2 : Int32)))], [], mem E mu la)) rfl rfl rfl (by rw [hc3]; rfl) ?_
                have h := h.1 hc3
                dsimp only
                refine Ev.steps 3 (ip' := 29) (ls' := [some (.inl a0), some (.inl a1), some (.inl a2), some (.inl (a1 / (2 : Int32))), some (.inl (a1 - (2 : Int32)))]) (st' := [.inl ((2 : Int32) * (a1 / (2 : Int32)))]) (M' := mem E mu la) rfl ?_
                exact Ev.ret rfl rfl ⟨_, _, _, rfl, rfl, h⟩
              · have h := h.2 hc3
                by_cases hc4 : a0 = 5
                · refine Ev.one (s' := (32, [some (.inl a0), some (.inl a1), some (.inl a2), some (.inl (a1 / (2 : Int32))), some (.inl (a1 - (2 : Int32)))], [], mem E mu la)) rfl rfl rfl (by rw [hc4]; rfl) ?_
                  have h := h.1 hc4
                  dsimp only
                  refine Ev.steps 3 (ip' := 35) (ls' := [some (.inl a0), some (.inl a1), some (.inl a2), some (.inl (a1 / (2 : Int32))), some (.inl (a1 - (2 : Int32)))]) (st' := [.inl ((a1 - (2 : Int32)) + (3 : Int32))]) (M' := mem E mu la) rfl ?_
                  exact Ev.ret rfl rfl ⟨_, _, _, rfl, rfl, h⟩
                · have h := h.2 hc4
                  refine Ev.one (s' := (36, [some (.inl a0), some (.inl a1), some (.inl a2), some (.inl (a1 / (2 : Int32))), some (.inl (a1 - (2 : Int32)))], [], mem E mu la)) rfl rfl rfl (if_pos (tsw_out a0 1 5 (fun z h1 h2 => by
                    rcases (show z = 1 ∨ z = 2 ∨ z = 3 ∨ z = 4 ∨ z = 5 by omega) with rfl | rfl | rfl | rfl | rfl
                    · exact fun e => hc0 (Int32.toInt_inj.mp e)
                    · exact fun e => hc1 (Int32.toInt_inj.mp e)
                    · exact fun e => hc2 (Int32.toInt_inj.mp e)
                    · exact fun e => hc3 (Int32.toInt_inj.mp e)
                    · exact fun e => hc4 (Int32.toInt_inj.mp e)))) ?_
                  dsimp only
                  refine Ev.steps 1 (ip' := 37) (ls' := [some (.inl a0), some (.inl a1), some (.inl a2), some (.inl (a1 / (2 : Int32))), some (.inl (a1 - (2 : Int32)))]) (st' := [.inl a1]) (M' := mem E mu la) rfl ?_
                  exact Ev.ret rfl rfl ⟨_, _, _, rfl, rfl, h⟩
  · have h := h.2 hc
    dsimp only
    refine Ev.steps 5 (ip' := 15) (ls' := [some (.inl a0), some (.inl a1), some (.inl a2), some (.inl a1), none]) (st' := [.inl (2 : Int32), .inl a1]) (M' := mem E mu la) rfl ?_
    refine Ev.br (c := a1 ≤ (2 : Int32)) (s1 := (20, [some (.inl a0), some (.inl a1), some (.inl a2), some (.inl a1), none], [], mem E mu la)) (s2 := (16, [some (.inl a0), some (.inl a1), some (.inl a2), some (.inl a1), none], [], mem E mu la)) rfl rfl rfl rfl (fun hc => ?_) (fun hc => ?_)
    · have h := h.1 hc
      dsimp only
      refine Ev.steps 3 (ip' := 23) (ls' := [some (.inl a0), some (.inl a1), some (.inl a2), some (.inl a1), some (.inl (1 : Int32))]) (st' := [.inl a0]) (M' := mem E mu la) rfl ?_
      by_cases hc0 : a0 = 1
      · refine Ev.one (s' := (24, [some (.inl a0), some (.inl a1), some (.inl a2), some (.inl a1), some (.inl (1 : Int32))], [], mem E mu la)) rfl rfl rfl (by rw [hc0]; rfl) ?_
        have h := h.1 hc0
        dsimp only
        refine Ev.steps 1 (ip' := 25) (ls' := [some (.inl a0), some (.inl a1), some (.inl a2), some (.inl a1), some (.inl (1 : Int32))]) (st' := [.inl a1]) (M' := mem E mu la) rfl ?_
        exact Ev.ret rfl rfl ⟨_, _, _, rfl, rfl, h⟩
      · have h := h.2 hc0
        by_cases hc1 : a0 = 2
        · refine Ev.one (s' := (30, [some (.inl a0), some (.inl a1), some (.inl a2), some (.inl a1), some (.inl (1 : Int32))], [], mem E mu la)) rfl rfl rfl (by rw [hc1]; rfl) ?_
          have h := h.1 hc1
          dsimp only
          refine Ev.steps 1 (ip' := 31) (ls' := [some (.inl a0), some (.inl a1), some (.inl a2), some (.inl a1), some (.inl (1 : Int32))]) (st' := [.inl (1 : Int32)]) (M' := mem E mu la) rfl ?_
          exact Ev.ret rfl rfl ⟨_, _, _, rfl, rfl, h⟩
        · have h := h.2 hc1
          by_cases hc2 : a0 = 3
          · refine Ev.one (s' := (36, [some (.inl a0), some (.inl a1), some (.inl a2), some (.inl a1), some (.inl (1 : Int32))], [], mem E mu la)) rfl rfl rfl (by rw [hc2]; rfl) ?_
            have h := h.1 hc2
            dsimp only
            refine Ev.steps 1 (ip' := 37) (ls' := [some (.inl a0), some (.inl a1), some (.inl a2), some (.inl a1), some (.inl (1 : Int32))]) (st' := [.inl a1]) (M' := mem E mu la) rfl ?_
            exact Ev.ret rfl rfl ⟨_, _, _, rfl, rfl, h⟩
          · have h := h.2 hc2
            by_cases hc3 : a0 = 4
            · refine Ev.one (s' := (26, [some (.inl a0), some (.inl a1), some (.inl a2), some (.inl a1), some (.inl (1 : Int32))], [], mem E mu la)) rfl rfl rfl (by rw [hc3]; rfl) ?_
              have h := h.1 hc3
              dsimp only
              refine Ev.steps 3 (ip' := 29) (ls' := [some (.inl a0), some (.inl a1), some (.inl a2), some (.inl a1), some (.inl (1 : Int32))]) (st' := [.inl ((2 : Int32) * a1)]) (M' := mem E mu la) rfl ?_
              exact Ev.ret rfl rfl ⟨_, _, _, rfl, rfl, h⟩
            · have h := h.2 hc3
              by_cases hc4 : a0 = 5
              · refine Ev.one (s' := (32, [some (.inl a0), some (.inl a1), some (.inl a2), some (.inl a1), some (.inl (1 : Int32))], [], mem E mu la)) rfl rfl rfl (by rw [hc4]; rfl) ?_
                have h := h.1 hc4
                dsimp only
                refine Ev.steps 3 (ip' := 35) (ls' := [some (.inl a0), some (.inl a1), some (.inl a2), some (.inl a1), some (.inl (1 : Int32))]) (st' := [.inl ((1 : Int32) + (3 : Int32))]) (M' := mem E mu la) rfl ?_
                exact Ev.ret rfl rfl ⟨_, _, _, rfl, rfl, h⟩
              · have h := h.2 hc4
                refine Ev.one (s' := (36, [some (.inl a0), some (.inl a1), some (.inl a2), some (.inl a1), some (.inl (1 : Int32))], [], mem E mu la)) rfl rfl rfl (if_pos (tsw_out a0 1 5 (fun z h1 h2 => by
                  rcases (show z = 1 ∨ z = 2 ∨ z = 3 ∨ z = 4 ∨ z = 5 by omega) with rfl | rfl | rfl | rfl | rfl
                  · exact fun e => hc0 (Int32.toInt_inj.mp e)
                  · exact fun e => hc1 (Int32.toInt_inj.mp e)
                  · exact fun e => hc2 (Int32.toInt_inj.mp e)
                  · exact fun e => hc3 (Int32.toInt_inj.mp e)
                  · exact fun e => hc4 (Int32.toInt_inj.mp e)))) ?_
                dsimp only
                refine Ev.steps 1 (ip' := 37) (ls' := [some (.inl a0), some (.inl a1), some (.inl a2), some (.inl a1), some (.inl (1 : Int32))]) (st' := [.inl a1]) (M' := mem E mu la) rfl ?_
                exact Ev.ret rfl rfl ⟨_, _, _, rfl, rfl, h⟩
    · have h := h.2 hc
      dsimp only
      refine Ev.steps 6 (ip' := 23) (ls' := [some (.inl a0), some (.inl a1), some (.inl a2), some (.inl a1), some (.inl (a1 - (2 : Int32)))]) (st' := [.inl a0]) (M' := mem E mu la) rfl ?_
      by_cases hc0 : a0 = 1
      · refine Ev.one (s' := (24, [some (.inl a0), some (.inl a1), some (.inl a2), some (.inl a1), some (.inl (a1 - (2 : Int32)))], [], mem E mu la)) rfl rfl rfl (by rw [hc0]; rfl) ?_
        have h := h.1 hc0
        dsimp only
        refine Ev.steps 1 (ip' := 25) (ls' := [some (.inl a0), some (.inl a1), some (.inl a2), some (.inl a1), some (.inl (a1 - (2 : Int32)))]) (st' := [.inl a1]) (M' := mem E mu la) rfl ?_
        exact Ev.ret rfl rfl ⟨_, _, _, rfl, rfl, h⟩
      · have h := h.2 hc0
        by_cases hc1 : a0 = 2
        · refine Ev.one (s' := (30, [some (.inl a0), some (.inl a1), some (.inl a2), some (.inl a1), some (.inl (a1 - (2 : Int32)))], [], mem E mu la)) rfl rfl rfl (by rw [hc1]; rfl) ?_
          have h := h.1 hc1
          dsimp only
          refine Ev.steps 1 (ip' := 31) (ls' := [some (.inl a0), some (.inl a1), some (.inl a2), some (.inl a1), some (.inl (a1 - (2 : Int32)))]) (st' := [.inl (a1 - (2 : Int32))]) (M' := mem E mu la) rfl ?_
          exact Ev.ret rfl rfl ⟨_, _, _, rfl, rfl, h⟩
        · have h := h.2 hc1
          by_cases hc2 : a0 = 3
          · refine Ev.one (s' := (36, [some (.inl a0), some (.inl a1), some (.inl a2), some (.inl a1), some (.inl (a1 - (2 : Int32)))], [], mem E mu la)) rfl rfl rfl (by rw [hc2]; rfl) ?_
            have h := h.1 hc2
            dsimp only
            refine Ev.steps 1 (ip' := 37) (ls' := [some (.inl a0), some (.inl a1), some (.inl a2), some (.inl a1), some (.inl (a1 - (2 : Int32)))]) (st' := [.inl a1]) (M' := mem E mu la) rfl ?_
            exact Ev.ret rfl rfl ⟨_, _, _, rfl, rfl, h⟩
          · have h := h.2 hc2
            by_cases hc3 : a0 = 4
            · refine Ev.one (s' := (26, [some (.inl a0), some (.inl a1), some (.inl a2), some (.inl a1), some (.inl (a1 - (2 : Int32)))], [], mem E mu la)) rfl rfl rfl (by rw [hc3]; rfl) ?_
              have h := h.1 hc3
              dsimp only
              refine Ev.steps 3 (ip' := 29) (ls' := [some (.inl a0), some (.inl a1), some (.inl a2), some (.inl a1), some (.inl (a1 - (2 : Int32)))]) (st' := [.inl ((2 : Int32) * a1)]) (M' := mem E mu la) rfl ?_
              exact Ev.ret rfl rfl ⟨_, _, _, rfl, rfl, h⟩
            · have h := h.2 hc3
              by_cases hc4 : a0 = 5
              · refine Ev.one (s' := (32, [some (.inl a0), some (.inl a1), some (.inl a2), some (.inl a1), some (.inl (a1 - (2 : Int32)))], [], mem E mu la)) rfl rfl rfl (by rw [hc4]; rfl) ?_
                have h := h.1 hc4
                dsimp only
                refine Ev.steps 3 (ip' := 35) (ls' := [some (.inl a0), some (.inl a1), some (.inl a2), some (.inl a1), some (.inl (a1 - (2 : Int32)))]) (st' := [.inl ((a1 - (2 : Int32)) + (3 : Int32))]) (M' := mem E mu la) rfl ?_
                exact Ev.ret rfl rfl ⟨_, _, _, rfl, rfl, h⟩
              · have h := h.2 hc4
                refine Ev.one (s' := (36, [some (.inl a0), some (.inl a1), some (.inl a2), some (.inl a1), some (.inl (a1 - (2 : Int32)))], [], mem E mu la)) rfl rfl rfl (if_pos (tsw_out a0 1 5 (fun z h1 h2 => by
                  rcases (show z = 1 ∨ z = 2 ∨ z = 3 ∨ z = 4 ∨ z = 5 by omega) with rfl | rfl | rfl | rfl | rfl
                  · exact fun e => hc0 (Int32.toInt_inj.mp e)
                  · exact fun e => hc1 (Int32.toInt_inj.mp e)
                  · exact fun e => hc2 (Int32.toInt_inj.mp e)
                  · exact fun e => hc3 (Int32.toInt_inj.mp e)
                  · exact fun e => hc4 (Int32.toInt_inj.mp e)))) ?_
                dsimp only
                refine Ev.steps 1 (ip' := 37) (ls' := [some (.inl a0), some (.inl a1), some (.inl a2), some (.inl a1), some (.inl (a1 - (2 : Int32)))]) (st' := [.inl a1]) (M' := mem E mu la) rfl ?_
                exact Ev.ret rfl rfl ⟨_, _, _, rfl, rfl, h⟩
set_option maxRecDepth 100000 in
/-- AnnCupsModel.takesOf([II)I -/
theorem vc_X7_takesOf {E : mEv} {d : Nat} {c : Nat} (k0 n0 a0 : Nat) (hk0 : nth mKs k0 = some (.inr (.int, n0))) (hz0 : k0 ≠ 100) (a1 : Int32) {mu : fMu} {la : fLa} {Q : Int32 → fMu → fLa → Prop} (h : vp_in a1 6 ∧ (vp_in a1 6 ∧ (vp_in (8 : Int32) n0 ∧ (((mu k0 a0 (8 : Int32).toNatClampNeg) = (-9 : Int32) → (FnI E d mi_157 [.inl (mu 33 c a1.toNatClampNeg), .inl (mu 34 c a1.toNatClampNeg), .inl (0 : Int32)] mu la (fun x1 mu2 la3 => Q x1 mu2 la3))) ∧ (¬ ((mu k0 a0 (8 : Int32).toNatClampNeg) = (-9 : Int32)) → (vp_in (8 : Int32) n0 ∧ (vp_in (mu k0 a0 (8 : Int32).toNatClampNeg) 6 ∧ (vp_in a1 6 ∧ ((¬ (mu 35 c (mu k0 a0 (8 : Int32).toNatClampNeg).toNatClampNeg) = (mu 35 c a1.toNatClampNeg) → (FnI E d mi_157 [.inl (mu 33 c a1.toNatClampNeg), .inl (mu 34 c a1.toNatClampNeg), .inl (0 : Int32)] mu la (fun x4 mu5 la6 => Q x4 mu5 la6))) ∧ (¬ (¬ (mu 35 c (mu k0 a0 (8 : Int32).toNatClampNeg).toNatClampNeg) = (mu 35 c a1.toNatClampNeg)) → (FnI E d mi_157 [.inl (mu 33 c a1.toNatClampNeg), .inl (mu 34 c a1.toNatClampNeg), .inl (1 : Int32)] mu la (fun x7 mu8 la9 => Q x7 mu8 la9)))))))))))) : FnI E (d + 1) mi_158 [.inr (.inr (some (7, c))), .inr (.inr (some (k0, a0))), .inl a1] mu la Q := by
  unfold FnI
  show Ev E (d + 1) mi_158 0 [some (.inr (.inr (some (7, c)))), some (.inr (.inr (some (k0, a0)))), some (.inl a1)] [] (mem E mu la) (qI E Q)
  refine Ev.steps 3 (ip' := 3) (ls' := [some (.inr (.inr (some (7, c)))), some (.inr (.inr (some (k0, a0)))), some (.inl a1)]) (st' := [.inl a1, .inr (.inr (some (33, c)))]) (M' := mem E mu la) rfl ?_
  refine Ev.ial rfl rfl (by decide) h.1 ?_
  have h := h.2
  refine Ev.steps 3 (ip' := 7) (ls' := [some (.inr (.inr (some (7, c)))), some (.inr (.inr (some (k0, a0)))), some (.inl a1)]) (st' := [.inl a1, .inr (.inr (some (34, c))), .inl (mu 33 c a1.toNatClampNeg)]) (M' := mem E mu la) rfl ?_
  refine Ev.ial rfl rfl (by decide) h.1 ?_
  have h := h.2
  refine Ev.steps 2 (ip' := 10) (ls' := [some (.inr (.inr (some (7, c)))), some (.inr (.inr (some (k0, a0)))), some (.inl a1)]) (st' := [.inl (8 : Int32), .inr (.inr (some (k0, a0))), .inl (mu 34 c a1.toNatClampNeg), .inl (mu 33 c a1.toNatClampNeg)]) (M' := mem E mu la) rfl ?_
  refine Ev.ial rfl hk0 hz0 h.1 ?_
  have h := h.2
  refine Ev.steps 1 (ip' := 12) (ls' := [some (.inr (.inr (some (7, c)))), some (.inr (.inr (some (k0, a0)))), some (.inl a1)]) (st' := [.inl (-9 : Int32), .inl (mu k0 a0 (8 : Int32).toNatClampNeg), .inl (mu 34 c a1.toNatClampNeg), .inl (mu 33 c a1.toNatClampNeg)]) (M' := mem E mu la) rfl ?_
  refine Ev.br (c := (mu k0 a0 (8 : Int32).toNatClampNeg) = (-9 : Int32)) (s1 := (26, [some (.inr (.inr (some (7, c)))), some (.inr (.inr (some (k0, a0)))), some (.inl a1)], [.inl (mu 34 c a1.toNatClampNeg), .inl (mu 33 c a1.toNatClampNeg)], mem E mu la)) (s2 := (13, [some (.inr (.inr (some (7, c)))), some (.inr (.inr (some (k0, a0)))), some (.inl a1)], [.inl (mu 34 c a1.toNatClampNeg), .inl (mu 33 c a1.toNatClampNeg)], mem E mu la)) rfl rfl rfl rfl (fun hc => ?_) (fun hc => ?_)
  · have h := h.1 hc
    dsimp only
    refine Ev.steps 1 (ip' := 27) (ls' := [some (.inr (.inr (some (7, c)))), some (.inr (.inr (some (k0, a0)))), some (.inl a1)]) (st' := [.inl (0 : Int32), .inl (mu 34 c a1.toNatClampNeg), .inl (mu 33 c a1.toNatClampNeg)]) (M' := mem E mu la) rfl ?_
    refine Ev.ci (J := mi_157) (as := [.inl (mu 33 c a1.toNatClampNeg), .inl (mu 34 c a1.toNatClampNeg), .inl (0 : Int32)]) (rest := []) rfl rfl rfl (Nat.le_of_ble_eq_true rfl) h (fun x1 mu2 la3 h => ?_)
    exact Ev.ret rfl rfl ⟨_, _, _, rfl, rfl, h⟩
  · have h := h.2 hc
    dsimp only
    refine Ev.steps 4 (ip' := 17) (ls' := [some (.inr (.inr (some (7, c)))), some (.inr (.inr (some (k0, a0)))), some (.inl a1)]) (st' := [.inl (8 : Int32), .inr (.inr (some (k0, a0))), .inr (.inr (some (35, c))), .inl (mu 34 c a1.toNatClampNeg), .inl (mu 33 c a1.toNatClampNeg)]) (M' := mem E mu la) rfl ?_
    refine Ev.ial rfl hk0 hz0 h.1 ?_
    have h := h.2
    refine Ev.ial rfl rfl (by decide) h.1 ?_
    have h := h.2
    refine Ev.steps 3 (ip' := 22) (ls' := [some (.inr (.inr (some (7, c)))), some (.inr (.inr (some (k0, a0)))), some (.inl a1)]) (st' := [.inl a1, .inr (.inr (some (35, c))), .inl (mu 35 c (mu k0 a0 (8 : Int32).toNatClampNeg).toNatClampNeg), .inl (mu 34 c a1.toNatClampNeg), .inl (mu 33 c a1.toNatClampNeg)]) (M' := mem E mu la) rfl ?_
    refine Ev.ial rfl rfl (by decide) h.1 ?_
    have h := h.2
    refine Ev.br (c := ¬ (mu 35 c (mu k0 a0 (8 : Int32).toNatClampNeg).toNatClampNeg) = (mu 35 c a1.toNatClampNeg)) (s1 := (26, [some (.inr (.inr (some (7, c)))), some (.inr (.inr (some (k0, a0)))), some (.inl a1)], [.inl (mu 34 c a1.toNatClampNeg), .inl (mu 33 c a1.toNatClampNeg)], mem E mu la)) (s2 := (24, [some (.inr (.inr (some (7, c)))), some (.inr (.inr (some (k0, a0)))), some (.inl a1)], [.inl (mu 34 c a1.toNatClampNeg), .inl (mu 33 c a1.toNatClampNeg)], mem E mu la)) rfl rfl rfl rfl (fun hc => ?_) (fun hc => ?_)
    · have h := h.1 hc
      dsimp only
      refine Ev.steps 1 (ip' := 27) (ls' := [some (.inr (.inr (some (7, c)))), some (.inr (.inr (some (k0, a0)))), some (.inl a1)]) (st' := [.inl (0 : Int32), .inl (mu 34 c a1.toNatClampNeg), .inl (mu 33 c a1.toNatClampNeg)]) (M' := mem E mu la) rfl ?_
      refine Ev.ci (J := mi_157) (as := [.inl (mu 33 c a1.toNatClampNeg), .inl (mu 34 c a1.toNatClampNeg), .inl (0 : Int32)]) (rest := []) rfl rfl rfl (Nat.le_of_ble_eq_true rfl) h (fun x4 mu5 la6 h => ?_)
      exact Ev.ret rfl rfl ⟨_, _, _, rfl, rfl, h⟩
    · have h := h.2 hc
      dsimp only
      refine Ev.steps 2 (ip' := 27) (ls' := [some (.inr (.inr (some (7, c)))), some (.inr (.inr (some (k0, a0)))), some (.inl a1)]) (st' := [.inl (1 : Int32), .inl (mu 34 c a1.toNatClampNeg), .inl (mu 33 c a1.toNatClampNeg)]) (M' := mem E mu la) rfl ?_
      refine Ev.ci (J := mi_157) (as := [.inl (mu 33 c a1.toNatClampNeg), .inl (mu 34 c a1.toNatClampNeg), .inl (1 : Int32)]) (rest := []) rfl rfl rfl (Nat.le_of_ble_eq_true rfl) h (fun x7 mu8 la9 h => ?_)
      exact Ev.ret rfl rfl ⟨_, _, _, rfl, rfl, h⟩
set_option maxRecDepth 100000 in
/-- AnnCupsModel.abs(I)I -/
theorem vc_X7_abs {E : mEv} {d : Nat} (a0 : Int32) {mu : fMu} {la : fLa} {Q : Int32 → fMu → fLa → Prop} (h : (0 ≤ a0 → (Q a0 mu la)) ∧ (¬ (0 ≤ a0) → (Q (-a0) mu la))) : FnI E d mi_159 [.inl a0] mu la Q := by
  unfold FnI
  show Ev E d mi_159 0 [some (.inl a0)] [] (mem E mu la) (qI E Q)
  refine Ev.steps 1 (ip' := 1) (ls' := [some (.inl a0)]) (st' := [.inl a0]) (M' := mem E mu la) rfl ?_
  refine Ev.br (c := 0 ≤ a0) (s1 := (5, [some (.inl a0)], [], mem E mu la)) (s2 := (2, [some (.inl a0)], [], mem E mu la)) rfl rfl rfl rfl (fun hc => ?_) (fun hc => ?_)
  · have h := h.1 hc
    dsimp only
    refine Ev.steps 1 (ip' := 6) (ls' := [some (.inl a0)]) (st' := [.inl a0]) (M' := mem E mu la) rfl ?_
    exact Ev.ret rfl rfl ⟨_, _, _, rfl, rfl, h⟩
  · have h := h.2 hc
    dsimp only
    refine Ev.steps 3 (ip' := 6) (ls' := [some (.inl a0)]) (st' := [.inl (-a0)]) (M' := mem E mu la) rfl ?_
    exact Ev.ret rfl rfl ⟨_, _, _, rfl, rfl, h⟩
set_option maxRecDepth 100000 in
/-- AnnCupsModel.whoTakes([III)I -/
theorem vc_X7_whoTakes {E : mEv} {d : Nat} {c : Nat} (k0 n0 a0 : Nat) (hk0 : nth mKs k0 = some (.inr (.int, n0))) (hz0 : k0 ≠ 100) (a1 : Int32) (a2 : Int32) {mu : fMu} {la : fLa} {Q : Int32 → fMu → fLa → Prop} (h : Ev E (d + 1) mi_160 2 [some (.inr (.inr (some (7, c)))), some (.inr (.inr (some (k0, a0)))), some (.inl a1), some (.inl a2), some (.inl (0 : Int32))] [] (mem E mu la) (qI E Q)) : FnI E (d + 1) mi_160 [.inr (.inr (some (7, c))), .inr (.inr (some (k0, a0))), .inl a1, .inl a2] mu la Q := by
  unfold FnI
  show Ev E (d + 1) mi_160 0 [some (.inr (.inr (some (7, c)))), some (.inr (.inr (some (k0, a0)))), some (.inl a1), some (.inl a2), none] [] (mem E mu la) (qI E Q)
  refine Ev.steps 2 (ip' := 2) (ls' := [some (.inr (.inr (some (7, c)))), some (.inr (.inr (some (k0, a0)))), some (.inl a1), some (.inl a2), some (.inl (0 : Int32))]) (st' := []) (M' := mem E mu la) rfl ?_
  exact h
set_option maxRecDepth 100000 in
theorem vc_X7_whoTakes_2 {E : mEv} {d : Nat} (k0 n0 a0 : Nat) (hk0 : nth mKs k0 = some (.inr (.int, n0))) (hz0 : k0 ≠ 100) (v0 : Nat) (v2 : Int32) (v3 : Int32) (v4 : Int32) {mu : fMu} {la : fLa} {Q : Int32 → fMu → fLa → Prop} (h : ((mu 7 v0 4) ≤ v4 → (Q (-9 : Int32) mu la)) ∧ (¬ ((mu 7 v0 4) ≤ v4) → (FnI E d mi_156 [.inr (.inr (some (7, v0))), .inl v4] mu la (fun x1 mu2 la3 => (x1 = 0 → (Ev E (d + 1) mi_160 2 [some (.inr (.inr (some (7, v0)))), some (.inr (.inr (some (k0, a0)))), some (.inl v2), some (.inl v3), some (.inl (v4 + (1 : Int32)))] [] (mem E mu2 la3) (qI E Q))) ∧ (¬ (x1 = 0) → (vp_in (7 : Int32) n0 ∧ (FnI E d mi_130 [.inl (mu2 k0 a0 (7 : Int32).toNatClampNeg), .inl v4] mu2 la3 (fun x4 mu5 la6 => (¬ x4 = 0 → (Ev E (d + 1) mi_160 2 [some (.inr (.inr (some (7, v0)))), some (.inr (.inr (some (k0, a0)))), some (.inl v2), some (.inl v3), some (.inl (v4 + (1 : Int32)))] [] (mem E mu5 la6) (qI E Q))) ∧ (¬ (¬ x4 = 0) → (vp_in v4 6 ∧ (vp_in v2 6 ∧ (FnI E d mi_159 [.inl ((mu5 36 v0 v4.toNatClampNeg) - (mu5 37 v0 v2.toNatClampNeg))] mu5 la6 (fun x7 mu8 la9 => (v3 < x7 → (Ev E (d + 1) mi_160 2 [some (.inr (.inr (some (7, v0)))), some (.inr (.inr (some (k0, a0)))), some (.inl v2), some (.inl v3), some (.inl (v4 + (1 : Int32)))] [] (mem E mu8 la9) (qI E Q))) ∧ (¬ (v3 < x7) → (Q v4 mu8 la9))))))))))))))) : Ev E (d + 1) mi_160 2 [some (.inr (.inr (some (7, v0)))), some (.inr (.inr (some (k0, a0)))), some (.inl v2), some (.inl v3), some (.inl v4)] [] (mem E mu la) (qI E Q) := by
  refine Ev.steps 3 (ip' := 5) (ls' := [some (.inr (.inr (some (7, v0)))), some (.inr (.inr (some (k0, a0)))), some (.inl v2), some (.inl v3), some (.inl v4)]) (st' := [.inl (mu 7 v0 4), .inl v4]) (M' := mem E mu la) rfl ?_
  refine Ev.br (c := (mu 7 v0 4) ≤ v4) (s1 := (32, [some (.inr (.inr (some (7, v0)))), some (.inr (.inr (some (k0, a0)))), some (.inl v2), some (.inl v3), some (.inl v4)], [], mem E mu la)) (s2 := (6, [some (.inr (.inr (some (7, v0)))), some (.inr (.inr (some (k0, a0)))), some (.inl v2), some (.inl v3), some (.inl v4)], [], mem E mu la)) rfl rfl rfl rfl (fun hc => ?_) (fun hc => ?_)
  · have h := h.1 hc
    dsimp only
    refine Ev.steps 1 (ip' := 33) (ls' := [some (.inr (.inr (some (7, v0)))), some (.inr (.inr (some (k0, a0)))), some (.inl v2), some (.inl v3), some (.inl v4)]) (st' := [.inl (-9 : Int32)]) (M' := mem E mu la) rfl ?_
    exact Ev.ret rfl rfl ⟨_, _, _, rfl, rfl, h⟩
  · have h := h.2 hc
    dsimp only
    refine Ev.steps 2 (ip' := 8) (ls' := [some (.inr (.inr (some (7, v0)))), some (.inr (.inr (some (k0, a0)))), some (.inl v2), some (.inl v3), some (.inl v4)]) (st' := [.inl v4, .inr (.inr (some (7, v0)))]) (M' := mem E mu la) rfl ?_
    refine Ev.ci (J := mi_156) (as := [.inr (.inr (some (7, v0))), .inl v4]) (rest := []) rfl rfl rfl (Nat.le_of_ble_eq_true rfl) h (fun x1 mu2 la3 h => ?_)
    refine Ev.br (c := x1 = 0) (s1 := (30, [some (.inr (.inr (some (7, v0)))), some (.inr (.inr (some (k0, a0)))), some (.inl v2), some (.inl v3), some (.inl v4)], [], mem E mu2 la3)) (s2 := (10, [some (.inr (.inr (some (7, v0)))), some (.inr (.inr (some (k0, a0)))), some (.inl v2), some (.inl v3), some (.inl v4)], [], mem E mu2 la3)) rfl rfl rfl rfl (fun hc => ?_) (fun hc => ?_)
    · have h := h.1 hc
      dsimp only
      refine Ev.steps 2 (ip' := 2) (ls' := [some (.inr (.inr (some (7, v0)))), some (.inr (.inr (some (k0, a0)))), some (.inl v2), some (.inl v3), some (.inl (v4 + (1 : Int32)))]) (st' := []) (M' := mem E mu2 la3) rfl ?_
      exact h
    · have h := h.2 hc
      dsimp only
      refine Ev.steps 2 (ip' := 12) (ls' := [some (.inr (.inr (some (7, v0)))), some (.inr (.inr (some (k0, a0)))), some (.inl v2), some (.inl v3), some (.inl v4)]) (st' := [.inl (7 : Int32), .inr (.inr (some (k0, a0)))]) (M' := mem E mu2 la3) rfl ?_
      refine Ev.ial rfl hk0 hz0 h.1 ?_
      have h := h.2
      refine Ev.steps 1 (ip' := 14) (ls' := [some (.inr (.inr (some (7, v0)))), some (.inr (.inr (some (k0, a0)))), some (.inl v2), some (.inl v3), some (.inl v4)]) (st' := [.inl v4, .inl (mu2 k0 a0 (7 : Int32).toNatClampNeg)]) (M' := mem E mu2 la3) rfl ?_
      refine Ev.ci (J := mi_130) (as := [.inl (mu2 k0 a0 (7 : Int32).toNatClampNeg), .inl v4]) (rest := []) rfl rfl rfl (Nat.le_of_ble_eq_true rfl) h (fun x4 mu5 la6 h => ?_)
      refine Ev.br (c := ¬ x4 = 0) (s1 := (30, [some (.inr (.inr (some (7, v0)))), some (.inr (.inr (some (k0, a0)))), some (.inl v2), some (.inl v3), some (.inl v4)], [], mem E mu5 la6)) (s2 := (16, [some (.inr (.inr (some (7, v0)))), some (.inr (.inr (some (k0, a0)))), some (.inl v2), some (.inl v3), some (.inl v4)], [], mem E mu5 la6)) rfl rfl rfl rfl (fun hc => ?_) (fun hc => ?_)
      · have h := h.1 hc
        dsimp only
        refine Ev.steps 2 (ip' := 2) (ls' := [some (.inr (.inr (some (7, v0)))), some (.inr (.inr (some (k0, a0)))), some (.inl v2), some (.inl v3), some (.inl (v4 + (1 : Int32)))]) (st' := []) (M' := mem E mu5 la6) rfl ?_
        exact h
      · have h := h.2 hc
        dsimp only
        refine Ev.steps 3 (ip' := 19) (ls' := [some (.inr (.inr (some (7, v0)))), some (.inr (.inr (some (k0, a0)))), some (.inl v2), some (.inl v3), some (.inl v4)]) (st' := [.inl v4, .inr (.inr (some (36, v0)))]) (M' := mem E mu5 la6) rfl ?_
        refine Ev.ial rfl rfl (by decide) h.1 ?_
        have h := h.2
        refine Ev.steps 3 (ip' := 23) (ls' := [some (.inr (.inr (some (7, v0)))), some (.inr (.inr (some (k0, a0)))), some (.inl v2), some (.inl v3), some (.inl v4)]) (st' := [.inl v2, .inr (.inr (some (37, v0))), .inl (mu5 36 v0 v4.toNatClampNeg)]) (M' := mem E mu5 la6) rfl ?_
        refine Ev.ial rfl rfl (by decide) h.1 ?_
        have h := h.2
        refine Ev.steps 1 (ip' := 25) (ls' := [some (.inr (.inr (some (7, v0)))), some (.inr (.inr (some (k0, a0)))), some (.inl v2), some (.inl v3), some (.inl v4)]) (st' := [.inl ((mu5 36 v0 v4.toNatClampNeg) - (mu5 37 v0 v2.toNatClampNeg))]) (M' := mem E mu5 la6) rfl ?_
        refine Ev.ci (J := mi_159) (as := [.inl ((mu5 36 v0 v4.toNatClampNeg) - (mu5 37 v0 v2.toNatClampNeg))]) (rest := []) rfl rfl rfl (Nat.le_of_ble_eq_true rfl) h (fun x7 mu8 la9 h => ?_)
        refine Ev.steps 1 (ip' := 27) (ls' := [some (.inr (.inr (some (7, v0)))), some (.inr (.inr (some (k0, a0)))), some (.inl v2), some (.inl v3), some (.inl v4)]) (st' := [.inl v3, .inl x7]) (M' := mem E mu8 la9) rfl ?_
        refine Ev.br (c := v3 < x7) (s1 := (30, [some (.inr (.inr (some (7, v0)))), some (.inr (.inr (some (k0, a0)))), some (.inl v2), some (.inl v3), some (.inl v4)], [], mem E mu8 la9)) (s2 := (28, [some (.inr (.inr (some (7, v0)))), some (.inr (.inr (some (k0, a0)))), some (.inl v2), some (.inl v3), some (.inl v4)], [], mem E mu8 la9)) rfl rfl rfl rfl (fun hc => ?_) (fun hc => ?_)
        · have h := h.1 hc
          dsimp only
          refine Ev.steps 2 (ip' := 2) (ls' := [some (.inr (.inr (some (7, v0)))), some (.inr (.inr (some (k0, a0)))), some (.inl v2), some (.inl v3), some (.inl (v4 + (1 : Int32)))]) (st' := []) (M' := mem E mu8 la9) rfl ?_
          exact h
        · have h := h.2 hc
          dsimp only
          refine Ev.steps 1 (ip' := 29) (ls' := [some (.inr (.inr (some (7, v0)))), some (.inr (.inr (some (k0, a0)))), some (.inl v2), some (.inl v3), some (.inl v4)]) (st' := [.inl v4]) (M' := mem E mu8 la9) rfl ?_
          exact Ev.ret rfl rfl ⟨_, _, _, rfl, rfl, h⟩
set_option maxRecDepth 100000 in
/-- AnnCupsModel.makesOn([III)V -/
theorem vc_X7_makesOn {E : mEv} {d : Nat} {c : Nat} (k0 n0 a0 : Nat) (hk0 : nth mKs k0 = some (.inr (.int, n0))) (hz0 : k0 ≠ 100) (a1 : Int32) (a2 : Int32) {mu : fMu} {la : fLa} {Q : fMu → fLa → Prop} (h : vp_in (6 : Int32) n0 ∧ (FnI E d mi_158 [.inr (.inr (some (7, c))), .inr (.inr (some (k0, a0))), .inl a1] mu la (fun x1 mu2 la3 => vp_in (6 : Int32) n0 ∧ ∀ mu4 : fMu, mu4 = up3 mu2 k0 a0 (6 : Int32).toNatClampNeg ((mu k0 a0 (6 : Int32).toNatClampNeg) + x1) → (vp_in (8 : Int32) n0 ∧ ∀ mu5 : fMu, mu5 = up3 mu4 k0 a0 (8 : Int32).toNatClampNeg a1 → (FnI E d mi_160 [.inr (.inr (some (7, c))), .inr (.inr (some (k0, a0))), .inl a1, .inl a2] mu5 la3 (fun x6 mu7 la8 => (¬ x6 = (-9 : Int32) → (vp_in ((0 : Int32) + a1) n0 ∧ ∀ mu9 : fMu, mu9 = up3 mu7 k0 a0 ((0 : Int32) + a1).toNatClampNeg x6 → (vp_in (7 : Int32) n0 ∧ ((¬ x6 = (-9 : Int32) → (vp_in (7 : Int32) n0 ∧ ∀ mu10 : fMu, mu10 = up3 mu9 k0 a0 (7 : Int32).toNatClampNeg ((mu9 k0 a0 (7 : Int32).toNatClampNeg) ||| ((1 : Int32) <<< (x6 &&& 31))) → (Q mu10 la8))) ∧ (¬ (¬ x6 = (-9 : Int32)) → (vp_in (7 : Int32) n0 ∧ ∀ mu11 : fMu, mu11 = up3 mu9 k0 a0 (7 : Int32).toNatClampNeg ((mu9 k0 a0 (7 : Int32).toNatClampNeg) ||| (0 : Int32)) → (Q mu11 la8))))))) ∧ (¬ (¬ x6 = (-9 : Int32)) → (vp_in ((0 : Int32) + a1) n0 ∧ ∀ mu12 : fMu, mu12 = up3 mu7 k0 a0 ((0 : Int32) + a1).toNatClampNeg (6 : Int32) → (vp_in (7 : Int32) n0 ∧ ((¬ x6 = (-9 : Int32) → (vp_in (7 : Int32) n0 ∧ ∀ mu13 : fMu, mu13 = up3 mu12 k0 a0 (7 : Int32).toNatClampNeg ((mu12 k0 a0 (7 : Int32).toNatClampNeg) ||| ((1 : Int32) <<< (x6 &&& 31))) → (Q mu13 la8))) ∧ (¬ (¬ x6 = (-9 : Int32)) → (vp_in (7 : Int32) n0 ∧ ∀ mu14 : fMu, mu14 = up3 mu12 k0 a0 (7 : Int32).toNatClampNeg ((mu12 k0 a0 (7 : Int32).toNatClampNeg) ||| (0 : Int32)) → (Q mu14 la8))))))))))))) : FnV E (d + 1) mi_161 [.inr (.inr (some (7, c))), .inr (.inr (some (k0, a0))), .inl a1, .inl a2] mu la Q := by
  unfold FnV
  show Ev E (d + 1) mi_161 0 [some (.inr (.inr (some (7, c)))), some (.inr (.inr (some (k0, a0)))), some (.inl a1), some (.inl a2), none] [] (mem E mu la) (qV E Q)
  refine Ev.steps 3 (ip' := 3) (ls' := [some (.inr (.inr (some (7, c)))), some (.inr (.inr (some (k0, a0)))), some (.inl a1), some (.inl a2), none]) (st' := [.inl (6 : Int32), .inr (.inr (some (k0, a0))), .inl (6 : Int32), .inr (.inr (some (k0, a0)))]) (M' := mem E mu la) rfl ?_
  refine Ev.ial rfl hk0 hz0 h.1 ?_
  have h := h.2
  refine Ev.steps 3 (ip' := 7) (ls' := [some (.inr (.inr (some (7, c)))), some (.inr (.inr (some (k0, a0)))), some (.inl a1), some (.inl a2), none]) (st' := [.inl a1, .inr (.inr (some (k0, a0))), .inr (.inr (some (7, c))), .inl (mu k0 a0 (6 : Int32).toNatClampNeg), .inl (6 : Int32), .inr (.inr (some (k0, a0)))]) (M' := mem E mu la) rfl ?_
  refine Ev.ci (J := mi_158) (as := [.inr (.inr (some (7, c))), .inr (.inr (some (k0, a0))), .inl a1]) (rest := [.inl (mu k0 a0 (6 : Int32).toNatClampNeg), .inl (6 : Int32), .inr (.inr (some (k0, a0)))]) rfl rfl rfl (Nat.le_of_ble_eq_true rfl) h (fun x1 mu2 la3 h => ?_)
  refine Ev.steps 1 (ip' := 9) (ls' := [some (.inr (.inr (some (7, c)))), some (.inr (.inr (some (k0, a0)))), some (.inl a1), some (.inl a2), none]) (st' := [.inl ((mu k0 a0 (6 : Int32).toNatClampNeg) + x1), .inl (6 : Int32), .inr (.inr (some (k0, a0)))]) (M' := mem E mu2 la3) rfl ?_
  refine Ev.ias rfl hk0 h.1 ?_
  have h := h.2
  generalize hgmu4 : up3 mu2 k0 a0 (6 : Int32).toNatClampNeg ((mu k0 a0 (6 : Int32).toNatClampNeg) + x1) = mu4
  have h := h mu4 hgmu4.symm
  refine Ev.steps 3 (ip' := 13) (ls' := [some (.inr (.inr (some (7, c)))), some (.inr (.inr (some (k0, a0)))), some (.inl a1), some (.inl a2), none]) (st' := [.inl a1, .inl (8 : Int32), .inr (.inr (some (k0, a0)))]) (M' := mem E mu4 la3) rfl ?_
  refine Ev.ias rfl hk0 h.1 ?_
  have h := h.2
  generalize hgmu5 : up3 mu4 k0 a0 (8 : Int32).toNatClampNeg a1 = mu5
  have h := h mu5 hgmu5.symm
  refine Ev.steps 4 (ip' := 18) (ls' := [some (.inr (.inr (some (7, c)))), some (.inr (.inr (some (k0, a0)))), some (.inl a1), some (.inl a2), none]) (st' := [.inl a2, .inl a1, .inr (.inr (some (k0, a0))), .inr (.inr (some (7, c)))]) (M' := mem E mu5 la3) rfl ?_
  refine Ev.ci (J := mi_160) (as := [.inr (.inr (some (7, c))), .inr (.inr (some (k0, a0))), .inl a1, .inl a2]) (rest := []) rfl rfl rfl (Nat.le_of_ble_eq_true rfl) h (fun x6 mu7 la8 h => ?_)
  refine Ev.steps 7 (ip' := 26) (ls' := [some (.inr (.inr (some (7, c)))), some (.inr (.inr (some (k0, a0)))), some (.inl a1), some (.inl a2), some (.inl x6)]) (st' := [.inl (-9 : Int32), .inl x6, .inl ((0 : Int32) + a1), .inr (.inr (some (k0, a0)))]) (M' := mem E mu7 la8) rfl ?_
  refine Ev.br (c := ¬ x6 = (-9 : Int32)) (s1 := (29, [some (.inr (.inr (some (7, c)))), some (.inr (.inr (some (k0, a0)))), some (.inl a1), some (.inl a2), some (.inl x6)], [.inl ((0 : Int32) + a1), .inr (.inr (some (k0, a0)))], mem E mu7 la8)) (s2 := (27, [some (.inr (.inr (some (7, c)))), some (.inr (.inr (some (k0, a0)))), some (.inl a1), some (.inl a2), some (.inl x6)], [.inl ((0 : Int32) + a1), .inr (.inr (some (k0, a0)))], mem E mu7 la8)) rfl rfl rfl rfl (fun hc => ?_) (fun hc => ?_)
  · have h := h.1 hc
    dsimp only
    refine Ev.steps 1 (ip' := 30) (ls' := [some (.inr (.inr (some (7, c)))), some (.inr (.inr (some (k0, a0)))), some (.inl a1), some (.inl a2), some (.inl x6)]) (st' := [.inl x6, .inl ((0 : Int32) + a1), .inr (.inr (some (k0, a0)))]) (M' := mem E mu7 la8) rfl ?_
    refine Ev.ias rfl hk0 h.1 ?_
    have h := h.2
    generalize hgmu9 : up3 mu7 k0 a0 ((0 : Int32) + a1).toNatClampNeg x6 = mu9
    have h := h mu9 hgmu9.symm
    refine Ev.steps 3 (ip' := 34) (ls' := [some (.inr (.inr (some (7, c)))), some (.inr (.inr (some (k0, a0)))), some (.inl a1), some (.inl a2), some (.inl x6)]) (st' := [.inl (7 : Int32), .inr (.inr (some (k0, a0))), .inl (7 : Int32), .inr (.inr (some (k0, a0)))]) (M' := mem E mu9 la8) rfl ?_
    refine Ev.ial rfl hk0 hz0 h.1 ?_
    have h := h.2
    refine Ev.steps 2 (ip' := 37) (ls' := [some (.inr (.inr (some (7, c)))), some (.inr (.inr (some (k0, a0)))), some (.inl a1), some (.inl a2), some (.inl x6)]) (st' := [.inl (-9 : Int32), .inl x6, .inl (mu9 k0 a0 (7 : Int32).toNatClampNeg), .inl (7 : Int32), .inr (.inr (some (k0, a0)))]) (M' := mem E mu9 la8) rfl ?_
    refine Ev.br (c := ¬ x6 = (-9 : Int32)) (s1 := (40, [some (.inr (.inr (some (7, c)))), some (.inr (.inr (some (k0, a0)))), some (.inl a1), some (.inl a2), some (.inl x6)], [.inl (mu9 k0 a0 (7 : Int32).toNatClampNeg), .inl (7 : Int32), .inr (.inr (some (k0, a0)))], mem E mu9 la8)) (s2 := (38, [some (.inr (.inr (some (7, c)))), some (.inr (.inr (some (k0, a0)))), some (.inl a1), some (.inl a2), some (.inl x6)], [.inl (mu9 k0 a0 (7 : Int32).toNatClampNeg), .inl (7 : Int32), .inr (.inr (some (k0, a0)))], mem E mu9 la8)) rfl rfl rfl rfl (fun hc => ?_) (fun hc => ?_)
    · have h := h.1 hc
      dsimp only
      refine Ev.steps 4 (ip' := 44) (ls' := [some (.inr (.inr (some (7, c)))), some (.inr (.inr (some (k0, a0)))), some (.inl a1), some (.inl a2), some (.inl x6)]) (st' := [.inl ((mu9 k0 a0 (7 : Int32).toNatClampNeg) ||| ((1 : Int32) <<< (x6 &&& 31))), .inl (7 : Int32), .inr (.inr (some (k0, a0)))]) (M' := mem E mu9 la8) rfl ?_
      refine Ev.ias rfl hk0 h.1 ?_
      have h := h.2
      generalize hgmu10 : up3 mu9 k0 a0 (7 : Int32).toNatClampNeg ((mu9 k0 a0 (7 : Int32).toNatClampNeg) ||| ((1 : Int32) <<< (x6 &&& 31))) = mu10
      have h := h mu10 hgmu10.symm
      exact Ev.ret rfl rfl ⟨_, _, rfl, rfl, h⟩
    · have h := h.2 hc
      dsimp only
      refine Ev.steps 3 (ip' := 44) (ls' := [some (.inr (.inr (some (7, c)))), some (.inr (.inr (some (k0, a0)))), some (.inl a1), some (.inl a2), some (.inl x6)]) (st' := [.inl ((mu9 k0 a0 (7 : Int32).toNatClampNeg) ||| (0 : Int32)), .inl (7 : Int32), .inr (.inr (some (k0, a0)))]) (M' := mem E mu9 la8) rfl ?_
      refine Ev.ias rfl hk0 h.1 ?_
      have h := h.2
      generalize hgmu11 : up3 mu9 k0 a0 (7 : Int32).toNatClampNeg ((mu9 k0 a0 (7 : Int32).toNatClampNeg) ||| (0 : Int32)) = mu11
      have h := h mu11 hgmu11.symm
      exact Ev.ret rfl rfl ⟨_, _, rfl, rfl, h⟩
  · have h := h.2 hc
    dsimp only
    refine Ev.steps 2 (ip' := 30) (ls' := [some (.inr (.inr (some (7, c)))), some (.inr (.inr (some (k0, a0)))), some (.inl a1), some (.inl a2), some (.inl x6)]) (st' := [.inl (6 : Int32), .inl ((0 : Int32) + a1), .inr (.inr (some (k0, a0)))]) (M' := mem E mu7 la8) rfl ?_
    refine Ev.ias rfl hk0 h.1 ?_
    have h := h.2
    generalize hgmu12 : up3 mu7 k0 a0 ((0 : Int32) + a1).toNatClampNeg (6 : Int32) = mu12
    have h := h mu12 hgmu12.symm
    refine Ev.steps 3 (ip' := 34) (ls' := [some (.inr (.inr (some (7, c)))), some (.inr (.inr (some (k0, a0)))), some (.inl a1), some (.inl a2), some (.inl x6)]) (st' := [.inl (7 : Int32), .inr (.inr (some (k0, a0))), .inl (7 : Int32), .inr (.inr (some (k0, a0)))]) (M' := mem E mu12 la8) rfl ?_
    refine Ev.ial rfl hk0 hz0 h.1 ?_
    have h := h.2
    refine Ev.steps 2 (ip' := 37) (ls' := [some (.inr (.inr (some (7, c)))), some (.inr (.inr (some (k0, a0)))), some (.inl a1), some (.inl a2), some (.inl x6)]) (st' := [.inl (-9 : Int32), .inl x6, .inl (mu12 k0 a0 (7 : Int32).toNatClampNeg), .inl (7 : Int32), .inr (.inr (some (k0, a0)))]) (M' := mem E mu12 la8) rfl ?_
    refine Ev.br (c := ¬ x6 = (-9 : Int32)) (s1 := (40, [some (.inr (.inr (some (7, c)))), some (.inr (.inr (some (k0, a0)))), some (.inl a1), some (.inl a2), some (.inl x6)], [.inl (mu12 k0 a0 (7 : Int32).toNatClampNeg), .inl (7 : Int32), .inr (.inr (some (k0, a0)))], mem E mu12 la8)) (s2 := (38, [some (.inr (.inr (some (7, c)))), some (.inr (.inr (some (k0, a0)))), some (.inl a1), some (.inl a2), some (.inl x6)], [.inl (mu12 k0 a0 (7 : Int32).toNatClampNeg), .inl (7 : Int32), .inr (.inr (some (k0, a0)))], mem E mu12 la8)) rfl rfl rfl rfl (fun hc => ?_) (fun hc => ?_)
    · have h := h.1 hc
      dsimp only
      refine Ev.steps 4 (ip' := 44) (ls' := [some (.inr (.inr (some (7, c)))), some (.inr (.inr (some (k0, a0)))), some (.inl a1), some (.inl a2), some (.inl x6)]) (st' := [.inl ((mu12 k0 a0 (7 : Int32).toNatClampNeg) ||| ((1 : Int32) <<< (x6 &&& 31))), .inl (7 : Int32), .inr (.inr (some (k0, a0)))]) (M' := mem E mu12 la8) rfl ?_
      refine Ev.ias rfl hk0 h.1 ?_
      have h := h.2
      generalize hgmu13 : up3 mu12 k0 a0 (7 : Int32).toNatClampNeg ((mu12 k0 a0 (7 : Int32).toNatClampNeg) ||| ((1 : Int32) <<< (x6 &&& 31))) = mu13
      have h := h mu13 hgmu13.symm
      exact Ev.ret rfl rfl ⟨_, _, rfl, rfl, h⟩
    · have h := h.2 hc
      dsimp only
      refine Ev.steps 3 (ip' := 44) (ls' := [some (.inr (.inr (some (7, c)))), some (.inr (.inr (some (k0, a0)))), some (.inl a1), some (.inl a2), some (.inl x6)]) (st' := [.inl ((mu12 k0 a0 (7 : Int32).toNatClampNeg) ||| (0 : Int32)), .inl (7 : Int32), .inr (.inr (some (k0, a0)))]) (M' := mem E mu12 la8) rfl ?_
      refine Ev.ias rfl hk0 h.1 ?_
      have h := h.2
      generalize hgmu14 : up3 mu12 k0 a0 (7 : Int32).toNatClampNeg ((mu12 k0 a0 (7 : Int32).toNatClampNeg) ||| (0 : Int32)) = mu14
      have h := h mu14 hgmu14.symm
      exact Ev.ret rfl rfl ⟨_, _, rfl, rfl, h⟩
set_option maxRecDepth 100000 in
/-- AnnCupsModel.isMade([II)Z -/
theorem vc_X7_isMade {E : mEv} {d : Nat} (k0 n0 a0 : Nat) (hk0 : nth mKs k0 = some (.inr (.int, n0))) (hz0 : k0 ≠ 100) (a1 : Int32) {mu : fMu} {la : fLa} {Q : Int32 → fMu → fLa → Prop} (h : vp_in ((0 : Int32) + a1) n0 ∧ (((mu k0 a0 ((0 : Int32) + a1).toNatClampNeg) = (-9 : Int32) → (Q (0 : Int32) mu la)) ∧ (¬ ((mu k0 a0 ((0 : Int32) + a1).toNatClampNeg) = (-9 : Int32)) → (Q (1 : Int32) mu la)))) : FnI E d mi_162 [.inr (.inr (some (k0, a0))), .inl a1] mu la Q := by
  unfold FnI
  show Ev E d mi_162 0 [some (.inr (.inr (some (k0, a0)))), some (.inl a1)] [] (mem E mu la) (qI E Q)
  refine Ev.steps 4 (ip' := 4) (ls' := [some (.inr (.inr (some (k0, a0)))), some (.inl a1)]) (st' := [.inl ((0 : Int32) + a1), .inr (.inr (some (k0, a0)))]) (M' := mem E mu la) rfl ?_
  refine Ev.ial rfl hk0 hz0 h.1 ?_
  have h := h.2
  refine Ev.steps 1 (ip' := 6) (ls' := [some (.inr (.inr (some (k0, a0)))), some (.inl a1)]) (st' := [.inl (-9 : Int32), .inl (mu k0 a0 ((0 : Int32) + a1).toNatClampNeg)]) (M' := mem E mu la) rfl ?_
  refine Ev.br (c := (mu k0 a0 ((0 : Int32) + a1).toNatClampNeg) = (-9 : Int32)) (s1 := (9, [some (.inr (.inr (some (k0, a0)))), some (.inl a1)], [], mem E mu la)) (s2 := (7, [some (.inr (.inr (some (k0, a0)))), some (.inl a1)], [], mem E mu la)) rfl rfl rfl rfl (fun hc => ?_) (fun hc => ?_)
  · have h := h.1 hc
    dsimp only
    refine Ev.steps 1 (ip' := 10) (ls' := [some (.inr (.inr (some (k0, a0)))), some (.inl a1)]) (st' := [.inl (0 : Int32)]) (M' := mem E mu la) rfl ?_
    exact Ev.retZ rfl rfl (Or.inl rfl) ⟨_, _, _, rfl, rfl, h⟩
  · have h := h.2 hc
    dsimp only
    refine Ev.steps 2 (ip' := 10) (ls' := [some (.inr (.inr (some (k0, a0)))), some (.inl a1)]) (st' := [.inl (1 : Int32)]) (M' := mem E mu la) rfl ?_
    exact Ev.retZ rfl rfl (Or.inr rfl) ⟨_, _, _, rfl, rfl, h⟩
set_option maxRecDepth 100000 in
/-- AnnCupsModel.wrongOf([I)I -/
theorem vc_X7_wrongOf {E : mEv} {d : Nat} {c : Nat} (k0 n0 a0 : Nat) (hk0 : nth mKs k0 = some (.inr (.int, n0))) (hz0 : k0 ≠ 100) {mu : fMu} {la : fLa} {Q : Int32 → fMu → fLa → Prop} (h : Ev E (d + 1) mi_163 4 [some (.inr (.inr (some (7, c)))), some (.inr (.inr (some (k0, a0)))), some (.inl (0 : Int32)), some (.inl (0 : Int32))] [] (mem E mu la) (qI E Q)) : FnI E (d + 1) mi_163 [.inr (.inr (some (7, c))), .inr (.inr (some (k0, a0)))] mu la Q := by
  unfold FnI
  show Ev E (d + 1) mi_163 0 [some (.inr (.inr (some (7, c)))), some (.inr (.inr (some (k0, a0)))), none, none] [] (mem E mu la) (qI E Q)
  refine Ev.steps 4 (ip' := 4) (ls' := [some (.inr (.inr (some (7, c)))), some (.inr (.inr (some (k0, a0)))), some (.inl (0 : Int32)), some (.inl (0 : Int32))]) (st' := []) (M' := mem E mu la) rfl ?_
  exact h
set_option maxRecDepth 100000 in
theorem vc_X7_wrongOf_4 {E : mEv} {d : Nat} (k0 n0 a0 : Nat) (hk0 : nth mKs k0 = some (.inr (.int, n0))) (hz0 : k0 ≠ 100) (v0 : Nat) (v2 : Int32) (v3 : Int32) {mu : fMu} {la : fLa} {Q : Int32 → fMu → fLa → Prop} (h : ((mu 7 v0 4) ≤ v3 → (Q v2 mu la)) ∧ (¬ ((mu 7 v0 4) ≤ v3) → (vp_in ((0 : Int32) + v3) n0 ∧ (FnI E d mi_129 [.inr (.inl ((mu k0 a0 ((0 : Int32) + v3).toNatClampNeg).toInt64)), .inr (.inl (0 : Int64)), .inr (.inl (5 : Int64))] mu la (fun x1 mu2 la3 => (x1 = 0 → (Ev E (d + 1) mi_163 4 [some (.inr (.inr (some (7, v0)))), some (.inr (.inr (some (k0, a0)))), some (.inl (v2 ||| (0 : Int32))), some (.inl (v3 + (1 : Int32)))] [] (mem E mu2 la3) (qI E Q))) ∧ (¬ (x1 = 0) → (vp_in ((0 : Int32) + v3) n0 ∧ (((mu2 k0 a0 ((0 : Int32) + v3).toNatClampNeg) = v3 → (Ev E (d + 1) mi_163 4 [some (.inr (.inr (some (7, v0)))), some (.inr (.inr (some (k0, a0)))), some (.inl (v2 ||| (0 : Int32))), some (.inl (v3 + (1 : Int32)))] [] (mem E mu2 la3) (qI E Q))) ∧ (¬ ((mu2 k0 a0 ((0 : Int32) + v3).toNatClampNeg) = v3) → (vp_in ((0 : Int32) + v3) n0 ∧ (Ev E (d + 1) mi_163 4 [some (.inr (.inr (some (7, v0)))), some (.inr (.inr (some (k0, a0)))), some (.inl (v2 ||| ((1 : Int32) <<< ((mu2 k0 a0 ((0 : Int32) + v3).toNatClampNeg) &&& 31)))), some (.inl (v3 + (1 : Int32)))] [] (mem E mu2 la3) (qI E Q)))))))))))) : Ev E (d + 1) mi_163 4 [some (.inr (.inr (some (7, v0)))), some (.inr (.inr (some (k0, a0)))), some (.inl v2), some (.inl v3)] [] (mem E mu la) (qI E Q) := by
  refine Ev.steps 3 (ip' := 7) (ls' := [some (.inr (.inr (some (7, v0)))), some (.inr (.inr (some (k0, a0)))), some (.inl v2), some (.inl v3)]) (st' := [.inl (mu 7 v0 4), .inl v3]) (M' := mem E mu la) rfl ?_
  refine Ev.br (c := (mu 7 v0 4) ≤ v3) (s1 := (39, [some (.inr (.inr (some (7, v0)))), some (.inr (.inr (some (k0, a0)))), some (.inl v2), some (.inl v3)], [], mem E mu la)) (s2 := (8, [some (.inr (.inr (some (7, v0)))), some (.inr (.inr (some (k0, a0)))), some (.inl v2), some (.inl v3)], [], mem E mu la)) rfl rfl rfl rfl (fun hc => ?_) (fun hc => ?_)
  · have h := h.1 hc
    dsimp only
    refine Ev.steps 1 (ip' := 40) (ls' := [some (.inr (.inr (some (7, v0)))), some (.inr (.inr (some (k0, a0)))), some (.inl v2), some (.inl v3)]) (st' := [.inl v2]) (M' := mem E mu la) rfl ?_
    exact Ev.ret rfl rfl ⟨_, _, _, rfl, rfl, h⟩
  · have h := h.2 hc
    dsimp only
    refine Ev.steps 5 (ip' := 13) (ls' := [some (.inr (.inr (some (7, v0)))), some (.inr (.inr (some (k0, a0)))), some (.inl v2), some (.inl v3)]) (st' := [.inl ((0 : Int32) + v3), .inr (.inr (some (k0, a0))), .inl v2]) (M' := mem E mu la) rfl ?_
    refine Ev.ial rfl hk0 hz0 h.1 ?_
    have h := h.2
    refine Ev.steps 3 (ip' := 17) (ls' := [some (.inr (.inr (some (7, v0)))), some (.inr (.inr (some (k0, a0)))), some (.inl v2), some (.inl v3)]) (st' := [.inr (.inl (5 : Int64)), .inr (.inl (0 : Int64)), .inr (.inl ((mu k0 a0 ((0 : Int32) + v3).toNatClampNeg).toInt64)), .inl v2]) (M' := mem E mu la) rfl ?_
    refine Ev.ci (J := mi_129) (as := [.inr (.inl ((mu k0 a0 ((0 : Int32) + v3).toNatClampNeg).toInt64)), .inr (.inl (0 : Int64)), .inr (.inl (5 : Int64))]) (rest := [.inl v2]) rfl rfl rfl (Nat.le_of_ble_eq_true rfl) h (fun x1 mu2 la3 h => ?_)
    refine Ev.br (c := x1 = 0) (s1 := (34, [some (.inr (.inr (some (7, v0)))), some (.inr (.inr (some (k0, a0)))), some (.inl v2), some (.inl v3)], [.inl v2], mem E mu2 la3)) (s2 := (19, [some (.inr (.inr (some (7, v0)))), some (.inr (.inr (some (k0, a0)))), some (.inl v2), some (.inl v3)], [.inl v2], mem E mu2 la3)) rfl rfl rfl rfl (fun hc => ?_) (fun hc => ?_)
    · have h := h.1 hc
      dsimp only
      refine Ev.steps 5 (ip' := 4) (ls' := [some (.inr (.inr (some (7, v0)))), some (.inr (.inr (some (k0, a0)))), some (.inl (v2 ||| (0 : Int32))), some (.inl (v3 + (1 : Int32)))]) (st' := []) (M' := mem E mu2 la3) rfl ?_
      exact h
    · have h := h.2 hc
      dsimp only
      refine Ev.steps 4 (ip' := 23) (ls' := [some (.inr (.inr (some (7, v0)))), some (.inr (.inr (some (k0, a0)))), some (.inl v2), some (.inl v3)]) (st' := [.inl ((0 : Int32) + v3), .inr (.inr (some (k0, a0))), .inl v2]) (M' := mem E mu2 la3) rfl ?_
      refine Ev.ial rfl hk0 hz0 h.1 ?_
      have h := h.2
      refine Ev.steps 1 (ip' := 25) (ls' := [some (.inr (.inr (some (7, v0)))), some (.inr (.inr (some (k0, a0)))), some (.inl v2), some (.inl v3)]) (st' := [.inl v3, .inl (mu2 k0 a0 ((0 : Int32) + v3).toNatClampNeg), .inl v2]) (M' := mem E mu2 la3) rfl ?_
      refine Ev.br (c := (mu2 k0 a0 ((0 : Int32) + v3).toNatClampNeg) = v3) (s1 := (34, [some (.inr (.inr (some (7, v0)))), some (.inr (.inr (some (k0, a0)))), some (.inl v2), some (.inl v3)], [.inl v2], mem E mu2 la3)) (s2 := (26, [some (.inr (.inr (some (7, v0)))), some (.inr (.inr (some (k0, a0)))), some (.inl v2), some (.inl v3)], [.inl v2], mem E mu2 la3)) rfl rfl rfl rfl (fun hc => ?_) (fun hc => ?_)
      · have h := h.1 hc
        dsimp only
        refine Ev.steps 5 (ip' := 4) (ls' := [some (.inr (.inr (some (7, v0)))), some (.inr (.inr (some (k0, a0)))), some (.inl (v2 ||| (0 : Int32))), some (.inl (v3 + (1 : Int32)))]) (st' := []) (M' := mem E mu2 la3) rfl ?_
        exact h
      · have h := h.2 hc
        dsimp only
        refine Ev.steps 5 (ip' := 31) (ls' := [some (.inr (.inr (some (7, v0)))), some (.inr (.inr (some (k0, a0)))), some (.inl v2), some (.inl v3)]) (st' := [.inl ((0 : Int32) + v3), .inr (.inr (some (k0, a0))), .inl (1 : Int32), .inl v2]) (M' := mem E mu2 la3) rfl ?_
        refine Ev.ial rfl hk0 hz0 h.1 ?_
        have h := h.2
        refine Ev.steps 6 (ip' := 4) (ls' := [some (.inr (.inr (some (7, v0)))), some (.inr (.inr (some (k0, a0)))), some (.inl (v2 ||| ((1 : Int32) <<< ((mu2 k0 a0 ((0 : Int32) + v3).toNatClampNeg) &&& 31)))), some (.inl (v3 + (1 : Int32)))]) (st' := []) (M' := mem E mu2 la3) rfl ?_
        exact h
set_option maxRecDepth 100000 in
/-- AnnCupsModel.heldBy([II)I -/
theorem vc_X7_heldBy {E : mEv} {d : Nat} {c : Nat} (k0 n0 a0 : Nat) (hk0 : nth mKs k0 = some (.inr (.int, n0))) (hz0 : k0 ≠ 100) (a1 : Int32) {mu : fMu} {la : fLa} {Q : Int32 → fMu → fLa → Prop} (h : Ev E d mi_164 2 [some (.inr (.inr (some (7, c)))), some (.inr (.inr (some (k0, a0)))), some (.inl a1), some (.inl (0 : Int32))] [] (mem E mu la) (qI E Q)) : FnI E d mi_164 [.inr (.inr (some (7, c))), .inr (.inr (some (k0, a0))), .inl a1] mu la Q := by
  unfold FnI
  show Ev E d mi_164 0 [some (.inr (.inr (some (7, c)))), some (.inr (.inr (some (k0, a0)))), some (.inl a1), none] [] (mem E mu la) (qI E Q)
  refine Ev.steps 2 (ip' := 2) (ls' := [some (.inr (.inr (some (7, c)))), some (.inr (.inr (some (k0, a0)))), some (.inl a1), some (.inl (0 : Int32))]) (st' := []) (M' := mem E mu la) rfl ?_
  exact h
set_option maxRecDepth 100000 in
theorem vc_X7_heldBy_2 {E : mEv} {d : Nat} (k0 n0 a0 : Nat) (hk0 : nth mKs k0 = some (.inr (.int, n0))) (hz0 : k0 ≠ 100) (v0 : Nat) (v2 : Int32) (v3 : Int32) {mu : fMu} {la : fLa} {Q : Int32 → fMu → fLa → Prop} (h : ((mu 7 v0 4) ≤ v3 → (Q (-9 : Int32) mu la)) ∧ (¬ ((mu 7 v0 4) ≤ v3) → (vp_in ((0 : Int32) + v3) n0 ∧ ((¬ (mu k0 a0 ((0 : Int32) + v3).toNatClampNeg) = v2 → (Ev E d mi_164 2 [some (.inr (.inr (some (7, v0)))), some (.inr (.inr (some (k0, a0)))), some (.inl v2), some (.inl (v3 + (1 : Int32)))] [] (mem E mu la) (qI E Q))) ∧ (¬ (¬ (mu k0 a0 ((0 : Int32) + v3).toNatClampNeg) = v2) → (Q v3 mu la)))))) : Ev E d mi_164 2 [some (.inr (.inr (some (7, v0)))), some (.inr (.inr (some (k0, a0)))), some (.inl v2), some (.inl v3)] [] (mem E mu la) (qI E Q) := by
  refine Ev.steps 3 (ip' := 5) (ls' := [some (.inr (.inr (some (7, v0)))), some (.inr (.inr (some (k0, a0)))), some (.inl v2), some (.inl v3)]) (st' := [.inl (mu 7 v0 4), .inl v3]) (M' := mem E mu la) rfl ?_
  refine Ev.br (c := (mu 7 v0 4) ≤ v3) (s1 := (17, [some (.inr (.inr (some (7, v0)))), some (.inr (.inr (some (k0, a0)))), some (.inl v2), some (.inl v3)], [], mem E mu la)) (s2 := (6, [some (.inr (.inr (some (7, v0)))), some (.inr (.inr (some (k0, a0)))), some (.inl v2), some (.inl v3)], [], mem E mu la)) rfl rfl rfl rfl (fun hc => ?_) (fun hc => ?_)
  · have h := h.1 hc
    dsimp only
    refine Ev.steps 1 (ip' := 18) (ls' := [some (.inr (.inr (some (7, v0)))), some (.inr (.inr (some (k0, a0)))), some (.inl v2), some (.inl v3)]) (st' := [.inl (-9 : Int32)]) (M' := mem E mu la) rfl ?_
    exact Ev.ret rfl rfl ⟨_, _, _, rfl, rfl, h⟩
  · have h := h.2 hc
    dsimp only
    refine Ev.steps 4 (ip' := 10) (ls' := [some (.inr (.inr (some (7, v0)))), some (.inr (.inr (some (k0, a0)))), some (.inl v2), some (.inl v3)]) (st' := [.inl ((0 : Int32) + v3), .inr (.inr (some (k0, a0)))]) (M' := mem E mu la) rfl ?_
    refine Ev.ial rfl hk0 hz0 h.1 ?_
    have h := h.2
    refine Ev.steps 1 (ip' := 12) (ls' := [some (.inr (.inr (some (7, v0)))), some (.inr (.inr (some (k0, a0)))), some (.inl v2), some (.inl v3)]) (st' := [.inl v2, .inl (mu k0 a0 ((0 : Int32) + v3).toNatClampNeg)]) (M' := mem E mu la) rfl ?_
    refine Ev.br (c := ¬ (mu k0 a0 ((0 : Int32) + v3).toNatClampNeg) = v2) (s1 := (15, [some (.inr (.inr (some (7, v0)))), some (.inr (.inr (some (k0, a0)))), some (.inl v2), some (.inl v3)], [], mem E mu la)) (s2 := (13, [some (.inr (.inr (some (7, v0)))), some (.inr (.inr (some (k0, a0)))), some (.inl v2), some (.inl v3)], [], mem E mu la)) rfl rfl rfl rfl (fun hc => ?_) (fun hc => ?_)
    · have h := h.1 hc
      dsimp only
      refine Ev.steps 2 (ip' := 2) (ls' := [some (.inr (.inr (some (7, v0)))), some (.inr (.inr (some (k0, a0)))), some (.inl v2), some (.inl (v3 + (1 : Int32)))]) (st' := []) (M' := mem E mu la) rfl ?_
      exact h
    · have h := h.2 hc
      dsimp only
      refine Ev.steps 1 (ip' := 14) (ls' := [some (.inr (.inr (some (7, v0)))), some (.inr (.inr (some (k0, a0)))), some (.inl v2), some (.inl v3)]) (st' := [.inl v3]) (M' := mem E mu la) rfl ?_
      exact Ev.ret rfl rfl ⟨_, _, _, rfl, rfl, h⟩
set_option maxRecDepth 100000 in
/-- AnnCupsModel.madeOf([I)I -/
theorem vc_X7_madeOf {E : mEv} {d : Nat} {c : Nat} (k0 n0 a0 : Nat) (hk0 : nth mKs k0 = some (.inr (.int, n0))) (hz0 : k0 ≠ 100) {mu : fMu} {la : fLa} {Q : Int32 → fMu → fLa → Prop} (h : Ev E (d + 1) mi_165 4 [some (.inr (.inr (some (7, c)))), some (.inr (.inr (some (k0, a0)))), some (.inl (0 : Int32)), some (.inl (0 : Int32))] [] (mem E mu la) (qI E Q)) : FnI E (d + 1) mi_165 [.inr (.inr (some (7, c))), .inr (.inr (some (k0, a0)))] mu la Q := by
  unfold FnI
  show Ev E (d + 1) mi_165 0 [some (.inr (.inr (some (7, c)))), some (.inr (.inr (some (k0, a0)))), none, none] [] (mem E mu la) (qI E Q)
  refine Ev.steps 4 (ip' := 4) (ls' := [some (.inr (.inr (some (7, c)))), some (.inr (.inr (some (k0, a0)))), some (.inl (0 : Int32)), some (.inl (0 : Int32))]) (st' := []) (M' := mem E mu la) rfl ?_
  exact h
set_option maxRecDepth 100000 in
theorem vc_X7_madeOf_4 {E : mEv} {d : Nat} (k0 n0 a0 : Nat) (hk0 : nth mKs k0 = some (.inr (.int, n0))) (hz0 : k0 ≠ 100) (v0 : Nat) (v2 : Int32) (v3 : Int32) {mu : fMu} {la : fLa} {Q : Int32 → fMu → fLa → Prop} (h : ((mu 7 v0 4) ≤ v3 → (Q v2 mu la)) ∧ (¬ ((mu 7 v0 4) ≤ v3) → (FnI E d mi_162 [.inr (.inr (some (k0, a0))), .inl v3] mu la (fun x1 mu2 la3 => (x1 = 0 → (Ev E (d + 1) mi_165 4 [some (.inr (.inr (some (7, v0)))), some (.inr (.inr (some (k0, a0)))), some (.inl (v2 ||| (0 : Int32))), some (.inl (v3 + (1 : Int32)))] [] (mem E mu2 la3) (qI E Q))) ∧ (¬ (x1 = 0) → (Ev E (d + 1) mi_165 4 [some (.inr (.inr (some (7, v0)))), some (.inr (.inr (some (k0, a0)))), some (.inl (v2 ||| ((1 : Int32) <<< (v3 &&& 31)))), some (.inl (v3 + (1 : Int32)))] [] (mem E mu2 la3) (qI E Q))))))) : Ev E (d + 1) mi_165 4 [some (.inr (.inr (some (7, v0)))), some (.inr (.inr (some (k0, a0)))), some (.inl v2), some (.inl v3)] [] (mem E mu la) (qI E Q) := by
  refine Ev.steps 3 (ip' := 7) (ls' := [some (.inr (.inr (some (7, v0)))), some (.inr (.inr (some (k0, a0)))), some (.inl v2), some (.inl v3)]) (st' := [.inl (mu 7 v0 4), .inl v3]) (M' := mem E mu la) rfl ?_
  refine Ev.br (c := (mu 7 v0 4) ≤ v3) (s1 := (22, [some (.inr (.inr (some (7, v0)))), some (.inr (.inr (some (k0, a0)))), some (.inl v2), some (.inl v3)], [], mem E mu la)) (s2 := (8, [some (.inr (.inr (some (7, v0)))), some (.inr (.inr (some (k0, a0)))), some (.inl v2), some (.inl v3)], [], mem E mu la)) rfl rfl rfl rfl (fun hc => ?_) (fun hc => ?_)
  · have h := h.1 hc
    dsimp only
    refine Ev.steps 1 (ip' := 23) (ls' := [some (.inr (.inr (some (7, v0)))), some (.inr (.inr (some (k0, a0)))), some (.inl v2), some (.inl v3)]) (st' := [.inl v2]) (M' := mem E mu la) rfl ?_
    exact Ev.ret rfl rfl ⟨_, _, _, rfl, rfl, h⟩
  · have h := h.2 hc
    dsimp only
    refine Ev.steps 3 (ip' := 11) (ls' := [some (.inr (.inr (some (7, v0)))), some (.inr (.inr (some (k0, a0)))), some (.inl v2), some (.inl v3)]) (st' := [.inl v3, .inr (.inr (some (k0, a0))), .inl v2]) (M' := mem E mu la) rfl ?_
    refine Ev.ci (J := mi_162) (as := [.inr (.inr (some (k0, a0))), .inl v3]) (rest := [.inl v2]) rfl rfl rfl (Nat.le_of_ble_eq_true rfl) h (fun x1 mu2 la3 h => ?_)
    refine Ev.br (c := x1 = 0) (s1 := (17, [some (.inr (.inr (some (7, v0)))), some (.inr (.inr (some (k0, a0)))), some (.inl v2), some (.inl v3)], [.inl v2], mem E mu2 la3)) (s2 := (13, [some (.inr (.inr (some (7, v0)))), some (.inr (.inr (some (k0, a0)))), some (.inl v2), some (.inl v3)], [.inl v2], mem E mu2 la3)) rfl rfl rfl rfl (fun hc => ?_) (fun hc => ?_)
    · have h := h.1 hc
      dsimp only
      refine Ev.steps 5 (ip' := 4) (ls' := [some (.inr (.inr (some (7, v0)))), some (.inr (.inr (some (k0, a0)))), some (.inl (v2 ||| (0 : Int32))), some (.inl (v3 + (1 : Int32)))]) (st' := []) (M' := mem E mu2 la3) rfl ?_
      exact h
    · have h := h.2 hc
      dsimp only
      refine Ev.steps 8 (ip' := 4) (ls' := [some (.inr (.inr (some (7, v0)))), some (.inr (.inr (some (k0, a0)))), some (.inl (v2 ||| ((1 : Int32) <<< (v3 &&& 31)))), some (.inl (v3 + (1 : Int32)))]) (st' := []) (M' := mem E mu2 la3) rfl ?_
      exact h
set_option maxRecDepth 100000 in
/-- AnnCupsModel.standing()I -/
theorem vc_X7_standing {E : mEv} {d : Nat} {c : Nat} {mu : fMu} {la : fLa} {Q : Int32 → fMu → fLa → Prop} (h : Ev E d mi_166 4 [some (.inr (.inr (some (7, c)))), some (.inl (0 : Int32)), some (.inl (0 : Int32))] [] (mem E mu la) (qI E Q)) : FnI E d mi_166 [.inr (.inr (some (7, c)))] mu la Q := by
  unfold FnI
  show Ev E d mi_166 0 [some (.inr (.inr (some (7, c)))), none, none] [] (mem E mu la) (qI E Q)
  refine Ev.steps 4 (ip' := 4) (ls' := [some (.inr (.inr (some (7, c)))), some (.inl (0 : Int32)), some (.inl (0 : Int32))]) (st' := []) (M' := mem E mu la) rfl ?_
  exact h
set_option maxRecDepth 100000 in
theorem vc_X7_standing_4 {E : mEv} {d : Nat}  (v0 : Nat) (v1 : Int32) (v2 : Int32) {mu : fMu} {la : fLa} {Q : Int32 → fMu → fLa → Prop} (h : ((mu 7 v0 4) ≤ v2 → (Q v1 mu la)) ∧ (¬ ((mu 7 v0 4) ≤ v2) → (vp_in ((0 : Int32) + v2) 9 ∧ ((¬ (mu 38 v0 ((0 : Int32) + v2).toNatClampNeg) = (6 : Int32) → (Ev E d mi_166 4 [some (.inr (.inr (some (7, v0)))), some (.inl (v1 ||| (0 : Int32))), some (.inl (v2 + (1 : Int32)))] [] (mem E mu la) (qI E Q))) ∧ (¬ (¬ (mu 38 v0 ((0 : Int32) + v2).toNatClampNeg) = (6 : Int32)) → (Ev E d mi_166 4 [some (.inr (.inr (some (7, v0)))), some (.inl (v1 ||| ((1 : Int32) <<< (v2 &&& 31)))), some (.inl (v2 + (1 : Int32)))] [] (mem E mu la) (qI E Q))))))) : Ev E d mi_166 4 [some (.inr (.inr (some (7, v0)))), some (.inl v1), some (.inl v2)] [] (mem E mu la) (qI E Q) := by
  refine Ev.steps 3 (ip' := 7) (ls' := [some (.inr (.inr (some (7, v0)))), some (.inl v1), some (.inl v2)]) (st' := [.inl (mu 7 v0 4), .inl v2]) (M' := mem E mu la) rfl ?_
  refine Ev.br (c := (mu 7 v0 4) ≤ v2) (s1 := (26, [some (.inr (.inr (some (7, v0)))), some (.inl v1), some (.inl v2)], [], mem E mu la)) (s2 := (8, [some (.inr (.inr (some (7, v0)))), some (.inl v1), some (.inl v2)], [], mem E mu la)) rfl rfl rfl rfl (fun hc => ?_) (fun hc => ?_)
  · have h := h.1 hc
    dsimp only
    refine Ev.steps 1 (ip' := 27) (ls' := [some (.inr (.inr (some (7, v0)))), some (.inl v1), some (.inl v2)]) (st' := [.inl v1]) (M' := mem E mu la) rfl ?_
    exact Ev.ret rfl rfl ⟨_, _, _, rfl, rfl, h⟩
  · have h := h.2 hc
    dsimp only
    refine Ev.steps 6 (ip' := 14) (ls' := [some (.inr (.inr (some (7, v0)))), some (.inl v1), some (.inl v2)]) (st' := [.inl ((0 : Int32) + v2), .inr (.inr (some (38, v0))), .inl v1]) (M' := mem E mu la) rfl ?_
    refine Ev.ial rfl rfl (by decide) h.1 ?_
    have h := h.2
    refine Ev.steps 1 (ip' := 16) (ls' := [some (.inr (.inr (some (7, v0)))), some (.inl v1), some (.inl v2)]) (st' := [.inl (6 : Int32), .inl (mu 38 v0 ((0 : Int32) + v2).toNatClampNeg), .inl v1]) (M' := mem E mu la) rfl ?_
    refine Ev.br (c := ¬ (mu 38 v0 ((0 : Int32) + v2).toNatClampNeg) = (6 : Int32)) (s1 := (21, [some (.inr (.inr (some (7, v0)))), some (.inl v1), some (.inl v2)], [.inl v1], mem E mu la)) (s2 := (17, [some (.inr (.inr (some (7, v0)))), some (.inl v1), some (.inl v2)], [.inl v1], mem E mu la)) rfl rfl rfl rfl (fun hc => ?_) (fun hc => ?_)
    · have h := h.1 hc
      dsimp only
      refine Ev.steps 5 (ip' := 4) (ls' := [some (.inr (.inr (some (7, v0)))), some (.inl (v1 ||| (0 : Int32))), some (.inl (v2 + (1 : Int32)))]) (st' := []) (M' := mem E mu la) rfl ?_
      exact h
    · have h := h.2 hc
      dsimp only
      refine Ev.steps 8 (ip' := 4) (ls' := [some (.inr (.inr (some (7, v0)))), some (.inl (v1 ||| ((1 : Int32) <<< (v2 &&& 31)))), some (.inl (v2 + (1 : Int32)))]) (st' := []) (M' := mem E mu la) rfl ?_
      exact h
set_option maxRecDepth 100000 in
/-- AnnCupsModel.told(II)I -/
theorem vc_X7_told {E : mEv} {d : Nat} {c : Nat} (a0 : Int32) (a1 : Int32) {mu : fMu} {la : fLa} {Q : Int32 → fMu → fLa → Prop} (h : (a1 = 0 → (vp_in a0 6 ∧ (Q (mu 33 c a0.toNatClampNeg) mu la))) ∧ (¬ a1 = 0 → ((a1 = 1 → (FnI E d mi_158 [.inr (.inr (some (7, c))), .inr (.inr (some (38, c))), .inl a0] mu la (fun x1 mu2 la3 => Q x1 mu2 la3))) ∧ (¬ a1 = 1 → ((a1 = 2 → (vp_in a0 6 ∧ (Q (mu 35 c a0.toNatClampNeg) mu la))) ∧ (¬ a1 = 2 → ((a1 = 3 → (vp_in a0 6 ∧ (Q (mu 36 c a0.toNatClampNeg) mu la))) ∧ (¬ a1 = 3 → ((a1 = 4 → (vp_in a0 6 ∧ (Q (mu 37 c a0.toNatClampNeg) mu la))) ∧ (¬ a1 = 4 → (vp_in ((0 : Int32) + a0) 9 ∧ (Q (mu 38 c ((0 : Int32) + a0).toNatClampNeg) mu la)))))))))))) : FnI E (d + 1) mi_167 [.inr (.inr (some (7, c))), .inl a0, .inl a1] mu la Q := by
  unfold FnI
  show Ev E (d + 1) mi_167 0 [some (.inr (.inr (some (7, c)))), some (.inl a0), some (.inl a1)] [] (mem E mu la) (qI E Q)
  refine Ev.steps 1 (ip' := 1) (ls' := [some (.inr (.inr (some (7, c)))), some (.inl a0), some (.inl a1)]) (st' := [.inl a1]) (M' := mem E mu la) rfl ?_
  by_cases hc0 : a1 = 0
  · refine Ev.one (s' := (2, [some (.inr (.inr (some (7, c)))), some (.inl a0), some (.inl a1)], [], mem E mu la)) rfl rfl rfl (by rw [hc0]; rfl) ?_
    have h := h.1 hc0
    dsimp only
    refine Ev.steps 3 (ip' := 5) (ls' := [some (.inr (.inr (some (7, c)))), some (.inl a0), some (.inl a1)]) (st' := [.inl a0, .inr (.inr (some (33, c)))]) (M' := mem E mu la) rfl ?_
    refine Ev.ial rfl rfl (by decide) h.1 ?_
    have h := h.2
    exact Ev.ret rfl rfl ⟨_, _, _, rfl, rfl, h⟩
  · have h := h.2 hc0
    by_cases hc1 : a1 = 1
    · refine Ev.one (s' := (7, [some (.inr (.inr (some (7, c)))), some (.inl a0), some (.inl a1)], [], mem E mu la)) rfl rfl rfl (by rw [hc1]; rfl) ?_
      have h := h.1 hc1
      dsimp only
      refine Ev.steps 4 (ip' := 11) (ls' := [some (.inr (.inr (some (7, c)))), some (.inl a0), some (.inl a1)]) (st' := [.inl a0, .inr (.inr (some (38, c))), .inr (.inr (some (7, c)))]) (M' := mem E mu la) rfl ?_
      refine Ev.ci (J := mi_158) (as := [.inr (.inr (some (7, c))), .inr (.inr (some (38, c))), .inl a0]) (rest := []) rfl rfl rfl (Nat.le_of_ble_eq_true rfl) h (fun x1 mu2 la3 h => ?_)
      exact Ev.ret rfl rfl ⟨_, _, _, rfl, rfl, h⟩
    · have h := h.2 hc1
      by_cases hc2 : a1 = 2
      · refine Ev.one (s' := (13, [some (.inr (.inr (some (7, c)))), some (.inl a0), some (.inl a1)], [], mem E mu la)) rfl rfl rfl (by rw [hc2]; rfl) ?_
        have h := h.1 hc2
        dsimp only
        refine Ev.steps 3 (ip' := 16) (ls' := [some (.inr (.inr (some (7, c)))), some (.inl a0), some (.inl a1)]) (st' := [.inl a0, .inr (.inr (some (35, c)))]) (M' := mem E mu la) rfl ?_
        refine Ev.ial rfl rfl (by decide) h.1 ?_
        have h := h.2
        exact Ev.ret rfl rfl ⟨_, _, _, rfl, rfl, h⟩
      · have h := h.2 hc2
        by_cases hc3 : a1 = 3
        · refine Ev.one (s' := (18, [some (.inr (.inr (some (7, c)))), some (.inl a0), some (.inl a1)], [], mem E mu la)) rfl rfl rfl (by rw [hc3]; rfl) ?_
          have h := h.1 hc3
          dsimp only
          refine Ev.steps 3 (ip' := 21) (ls' := [some (.inr (.inr (some (7, c)))), some (.inl a0), some (.inl a1)]) (st' := [.inl a0, .inr (.inr (some (36, c)))]) (M' := mem E mu la) rfl ?_
          refine Ev.ial rfl rfl (by decide) h.1 ?_
          have h := h.2
          exact Ev.ret rfl rfl ⟨_, _, _, rfl, rfl, h⟩
        · have h := h.2 hc3
          by_cases hc4 : a1 = 4
          · refine Ev.one (s' := (23, [some (.inr (.inr (some (7, c)))), some (.inl a0), some (.inl a1)], [], mem E mu la)) rfl rfl rfl (by rw [hc4]; rfl) ?_
            have h := h.1 hc4
            dsimp only
            refine Ev.steps 3 (ip' := 26) (ls' := [some (.inr (.inr (some (7, c)))), some (.inl a0), some (.inl a1)]) (st' := [.inl a0, .inr (.inr (some (37, c)))]) (M' := mem E mu la) rfl ?_
            refine Ev.ial rfl rfl (by decide) h.1 ?_
            have h := h.2
            exact Ev.ret rfl rfl ⟨_, _, _, rfl, rfl, h⟩
          · have h := h.2 hc4
            refine Ev.one (s' := (28, [some (.inr (.inr (some (7, c)))), some (.inl a0), some (.inl a1)], [], mem E mu la)) rfl rfl rfl (if_pos (tsw_out a1 0 4 (fun z h1 h2 => by
              rcases (show z = 0 ∨ z = 1 ∨ z = 2 ∨ z = 3 ∨ z = 4 by omega) with rfl | rfl | rfl | rfl | rfl
              · exact fun e => hc0 (Int32.toInt_inj.mp e)
              · exact fun e => hc1 (Int32.toInt_inj.mp e)
              · exact fun e => hc2 (Int32.toInt_inj.mp e)
              · exact fun e => hc3 (Int32.toInt_inj.mp e)
              · exact fun e => hc4 (Int32.toInt_inj.mp e)))) ?_
            dsimp only
            refine Ev.steps 5 (ip' := 33) (ls' := [some (.inr (.inr (some (7, c)))), some (.inl a0), some (.inl a1)]) (st' := [.inl ((0 : Int32) + a0), .inr (.inr (some (38, c)))]) (M' := mem E mu la) rfl ?_
            refine Ev.ial rfl rfl (by decide) h.1 ?_
            have h := h.2
            exact Ev.ret rfl rfl ⟨_, _, _, rfl, rfl, h⟩
set_option maxRecDepth 100000 in
/-- AnnCupsModel.cup(II)I -/
theorem vc_X7_cup {E : mEv} {d : Nat} {c : Nat} (a0 : Int32) (a1 : Int32) {mu : fMu} {la : fLa} {Q : Int32 → fMu → fLa → Prop} (h : FnI E d mi_155 [.inr (.inr (some (7, c))), .inl a0] mu la (fun x1 mu2 la3 => (x1 = 0 → (Q (-1 : Int32) mu2 la3)) ∧ (¬ (x1 = 0) → (FnI E d mi_129 [.inr (.inl a1.toInt64), .inr (.inl (0 : Int64)), .inr (.inl (5 : Int64))] mu2 la3 (fun x4 mu5 la6 => (x4 = 0 → (Q (-1 : Int32) mu5 la6)) ∧ (¬ (x4 = 0) → (FnI E d mi_167 [.inr (.inr (some (7, c))), .inl a0, .inl a1] mu5 la6 (fun x7 mu8 la9 => FnI E d mi_133 [.inr (.inr (some (7, c))), .inl x7] mu8 la9 (fun x10 mu11 la12 => Q x10 mu11 la12))))))))) : FnI E (d + 1) mi_168 [.inr (.inr (some (7, c))), .inl a0, .inl a1] mu la Q := by
  unfold FnI
  show Ev E (d + 1) mi_168 0 [some (.inr (.inr (some (7, c)))), some (.inl a0), some (.inl a1)] [] (mem E mu la) (qI E Q)
  refine Ev.steps 2 (ip' := 2) (ls' := [some (.inr (.inr (some (7, c)))), some (.inl a0), some (.inl a1)]) (st' := [.inl a0, .inr (.inr (some (7, c)))]) (M' := mem E mu la) rfl ?_
  refine Ev.ci (J := mi_155) (as := [.inr (.inr (some (7, c))), .inl a0]) (rest := []) rfl rfl rfl (Nat.le_of_ble_eq_true rfl) h (fun x1 mu2 la3 h => ?_)
  refine Ev.br (c := x1 = 0) (s1 := (17, [some (.inr (.inr (some (7, c)))), some (.inl a0), some (.inl a1)], [], mem E mu2 la3)) (s2 := (4, [some (.inr (.inr (some (7, c)))), some (.inl a0), some (.inl a1)], [], mem E mu2 la3)) rfl rfl rfl rfl (fun hc => ?_) (fun hc => ?_)
  · have h := h.1 hc
    dsimp only
    refine Ev.steps 1 (ip' := 18) (ls' := [some (.inr (.inr (some (7, c)))), some (.inl a0), some (.inl a1)]) (st' := [.inl (-1 : Int32)]) (M' := mem E mu2 la3) rfl ?_
    exact Ev.ret rfl rfl ⟨_, _, _, rfl, rfl, h⟩
  · have h := h.2 hc
    dsimp only
    refine Ev.steps 4 (ip' := 8) (ls' := [some (.inr (.inr (some (7, c)))), some (.inl a0), some (.inl a1)]) (st' := [.inr (.inl (5 : Int64)), .inr (.inl (0 : Int64)), .inr (.inl a1.toInt64)]) (M' := mem E mu2 la3) rfl ?_
    refine Ev.ci (J := mi_129) (as := [.inr (.inl a1.toInt64), .inr (.inl (0 : Int64)), .inr (.inl (5 : Int64))]) (rest := []) rfl rfl rfl (Nat.le_of_ble_eq_true rfl) h (fun x4 mu5 la6 h => ?_)
    refine Ev.br (c := x4 = 0) (s1 := (17, [some (.inr (.inr (some (7, c)))), some (.inl a0), some (.inl a1)], [], mem E mu5 la6)) (s2 := (10, [some (.inr (.inr (some (7, c)))), some (.inl a0), some (.inl a1)], [], mem E mu5 la6)) rfl rfl rfl rfl (fun hc => ?_) (fun hc => ?_)
    · have h := h.1 hc
      dsimp only
      refine Ev.steps 1 (ip' := 18) (ls' := [some (.inr (.inr (some (7, c)))), some (.inl a0), some (.inl a1)]) (st' := [.inl (-1 : Int32)]) (M' := mem E mu5 la6) rfl ?_
      exact Ev.ret rfl rfl ⟨_, _, _, rfl, rfl, h⟩
    · have h := h.2 hc
      dsimp only
      refine Ev.steps 4 (ip' := 14) (ls' := [some (.inr (.inr (some (7, c)))), some (.inl a0), some (.inl a1)]) (st' := [.inl a1, .inl a0, .inr (.inr (some (7, c))), .inr (.inr (some (7, c)))]) (M' := mem E mu5 la6) rfl ?_
      refine Ev.ci (J := mi_167) (as := [.inr (.inr (some (7, c))), .inl a0, .inl a1]) (rest := [.inr (.inr (some (7, c)))]) rfl rfl rfl (Nat.le_of_ble_eq_true rfl) h (fun x7 mu8 la9 h => ?_)
      refine Ev.ci (J := mi_133) (as := [.inr (.inr (some (7, c))), .inl x7]) (rest := []) rfl rfl rfl (Nat.le_of_ble_eq_true rfl) h (fun x10 mu11 la12 h => ?_)
      refine Ev.steps 1 (ip' := 18) (ls' := [some (.inr (.inr (some (7, c)))), some (.inl a0), some (.inl a1)]) (st' := [.inl x10]) (M' := mem E mu11 la12) rfl ?_
      exact Ev.ret rfl rfl ⟨_, _, _, rfl, rfl, h⟩
