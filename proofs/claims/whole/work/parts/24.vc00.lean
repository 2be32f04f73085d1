theorem tsw_out (x : Int32) (lo hi : Int) (h : ∀ z : Int, lo ≤ z → z ≤ hi → x.toInt ≠ z) : x.toInt < lo ∨ hi < x.toInt := by
  by_cases a : x.toInt < lo
  · exact Or.inl a
  · by_cases b : hi < x.toInt
    · exact Or.inr b
    · exact absurd rfl (h x.toInt (by omega) (by omega))
theorem Ev.cpy {E : mEv} {d : Nat} {I : mI} {ip : Nat} {ls : List (Option mV)} {Q : Option mV → mM → Prop} {v : Value} {mu : fMu} {la : fLa} {k1 i1 k2 i2 n1 n2 : Nat} {n dp sp : Int32} (h1 : nth I.2.2.2.2.2.2.2.1 ip = some (.dup2_x2, v)) (hk1 : nth mKs k1 = some (.inr (.int, n1))) (hk2 : nth mKs k2 = some (.inr (.int, n2))) (hc : ¬ (n < 0 ∨ sp < 0 ∨ dp < 0 ∨ n1 < sp.toNatClampNeg + n.toNatClampNeg ∨ n2 < dp.toNatClampNeg + n.toNatClampNeg)) (kk : Ev E d I (ip + 1) ls [] (mem E (up2 mu k2 i2 (va_cpy (mu k1 i1) (mu k2 i2) sp.toNatClampNeg dp.toNatClampNeg n.toNatClampNeg)) la) Q) : Ev E d I ip ls [.inl n, .inl dp, .inr (.inr (some (k2, i2))), .inl sp, .inr (.inr (some (k1, i1)))] (mem E mu la) Q := by
  refine Ev.one (s' := (ip + 1, ls, [], mem E (up2 mu k2 i2 (va_cpy (mu k1 i1) (mu k2 i2) sp.toNatClampNeg dp.toNatClampNeg n.toNatClampNeg)) la)) h1 rfl rfl ?_ kk
  unfold mstep
  dsimp only
  rw [hk1, hk2]
  exact if_neg (fun z => z.elim (fun q => absurd q (by decide)) hc)
theorem Ev.retZ {E : mEv} {d : Nat} {I : mI} {ip : Nat} {ls : List (Option mV)} {M : mM} {Q : Option mV → mM → Prop} {v : Value} {x : Int32} (h1 : nth I.2.2.2.2.2.2.2.1 ip = some (.ireturn, v)) (h2 : I.2.2.2.2.1 = some .boolean) (h3 : x = 0 ∨ x = 1) (q : Q (some (.inl x)) M) : Ev E d I ip ls [.inl x] M Q := by
  refine Ev.ret h1 ?_ q
  unfold mRet
  dsimp only
  rw [h2]
  exact if_pos h3
set_option maxRecDepth 100000 in
/-- AnnCups.Counter.openAnew()V -/
theorem vc_X0_openAnew {E : mEv} {d : Nat} {c : Nat} {mu : fMu} {la : fLa} {Q : fMu → fLa → Prop} (h : ∀ mu1 : fMu, mu1 = up3 mu 0 c 1 (0 : Int32) → (∀ mu2 : fMu, mu2 = up3 mu1 0 c 2 (-9 : Int32) → (∀ mu3 : fMu, mu3 = up3 mu2 0 c 3 (0 : Int32) → (∀ mu4 : fMu, mu4 = up3 mu3 0 c 4 (0 : Int32) → (FnV E d mi_228 [.inr (.inr (some (8, c))), .inl (-9 : Int32)] mu4 la (fun mu6 la7 => FnV E d mi_228 [.inr (.inr (some (9, c))), .inl (-9 : Int32)] mu6 la7 (fun mu9 la10 => Q mu9 la10))))))) : FnV E (d + 1) mi_1 [.inr (.inr (some (0, c)))] mu la Q := by
  unfold FnV
  show Ev E (d + 1) mi_1 0 [some (.inr (.inr (some (0, c))))] [] (mem E mu la) (qV E Q)
  refine Ev.steps 3 (ip' := 3) (ls' := [some (.inr (.inr (some (0, c))))]) (st' := []) (M' := mem E (up3 mu 0 c 1 (0 : Int32)) la) rfl ?_
  generalize hgmu1 : up3 mu 0 c 1 (0 : Int32) = mu1
  have h := h mu1 hgmu1.symm
  refine Ev.steps 3 (ip' := 6) (ls' := [some (.inr (.inr (some (0, c))))]) (st' := []) (M' := mem E (up3 mu1 0 c 2 (-9 : Int32)) la) rfl ?_
  generalize hgmu2 : up3 mu1 0 c 2 (-9 : Int32) = mu2
  have h := h mu2 hgmu2.symm
  refine Ev.steps 3 (ip' := 9) (ls' := [some (.inr (.inr (some (0, c))))]) (st' := []) (M' := mem E (up3 mu2 0 c 3 (0 : Int32)) la) rfl ?_
  generalize hgmu3 : up3 mu2 0 c 3 (0 : Int32) = mu3
  have h := h mu3 hgmu3.symm
  refine Ev.steps 3 (ip' := 12) (ls' := [some (.inr (.inr (some (0, c))))]) (st' := []) (M' := mem E (up3 mu3 0 c 4 (0 : Int32)) la) rfl ?_
  generalize hgmu4 : up3 mu3 0 c 4 (0 : Int32) = mu4
  have h := h mu4 hgmu4.symm
  refine Ev.steps 3 (ip' := 15) (ls' := [some (.inr (.inr (some (0, c))))]) (st' := [.inl (-9 : Int32), .inr (.inr (some (8, c)))]) (M' := mem E mu4 la) rfl ?_
  refine Ev.cv (J := mi_228) (as := [.inr (.inr (some (8, c))), .inl (-9 : Int32)]) (rest := []) rfl rfl rfl (Nat.le_of_ble_eq_true rfl) h (fun mu6 la7 h => ?_)
  refine Ev.steps 3 (ip' := 19) (ls' := [some (.inr (.inr (some (0, c))))]) (st' := [.inl (-9 : Int32), .inr (.inr (some (9, c)))]) (M' := mem E mu6 la7) rfl ?_
  refine Ev.cv (J := mi_228) (as := [.inr (.inr (some (9, c))), .inl (-9 : Int32)]) (rest := []) rfl rfl rfl (Nat.le_of_ble_eq_true rfl) h (fun mu9 la10 h => ?_)
  exact Ev.ret rfl rfl ⟨_, _, rfl, rfl, h⟩
set_option maxRecDepth 100000 in
/-- AnnCups.Counter.become(LAnnCups$Counter;)V -/
theorem vc_X0_become {E : mEv} {d : Nat} {c : Nat} (a0 : Nat) {mu : fMu} {la : fLa} {Q : fMu → fLa → Prop} (h : ∀ mu1 : fMu, mu1 = up3 mu 0 c 1 (mu 0 a0 1) → (∀ mu2 : fMu, mu2 = up3 mu1 0 c 2 (mu1 0 a0 2) → (∀ mu3 : fMu, mu3 = up3 mu2 0 c 3 (mu2 0 a0 3) → (∀ mu4 : fMu, mu4 = up3 mu3 0 c 4 (mu3 0 a0 4) → (Ev E d mi_2 18 [some (.inr (.inr (some (0, c)))), some (.inr (.inr (some (0, a0)))), some (.inl (0 : Int32))] [] (mem E mu4 la) (qV E Q)))))) : FnV E d mi_2 [.inr (.inr (some (0, c))), .inr (.inr (some (0, a0)))] mu la Q := by
  unfold FnV
  show Ev E d mi_2 0 [some (.inr (.inr (some (0, c)))), some (.inr (.inr (some (0, a0)))), none] [] (mem E mu la) (qV E Q)
  refine Ev.steps 4 (ip' := 4) (ls' := [some (.inr (.inr (some (0, c)))), some (.inr (.inr (some (0, a0)))), none]) (st' := []) (M' := mem E (up3 mu 0 c 1 (mu 0 a0 1)) la) rfl ?_
  generalize hgmu1 : up3 mu 0 c 1 (mu 0 a0 1) = mu1
  have h := h mu1 hgmu1.symm
  refine Ev.steps 4 (ip' := 8) (ls' := [some (.inr (.inr (some (0, c)))), some (.inr (.inr (some (0, a0)))), none]) (st' := []) (M' := mem E (up3 mu1 0 c 2 (mu1 0 a0 2)) la) rfl ?_
  generalize hgmu2 : up3 mu1 0 c 2 (mu1 0 a0 2) = mu2
  have h := h mu2 hgmu2.symm
  refine Ev.steps 4 (ip' := 12) (ls' := [some (.inr (.inr (some (0, c)))), some (.inr (.inr (some (0, a0)))), none]) (st' := []) (M' := mem E (up3 mu2 0 c 3 (mu2 0 a0 3)) la) rfl ?_
  generalize hgmu3 : up3 mu2 0 c 3 (mu2 0 a0 3) = mu3
  have h := h mu3 hgmu3.symm
  refine Ev.steps 4 (ip' := 16) (ls' := [some (.inr (.inr (some (0, c)))), some (.inr (.inr (some (0, a0)))), none]) (st' := []) (M' := mem E (up3 mu3 0 c 4 (mu3 0 a0 4)) la) rfl ?_
  generalize hgmu4 : up3 mu3 0 c 4 (mu3 0 a0 4) = mu4
  have h := h mu4 hgmu4.symm
  refine Ev.steps 2 (ip' := 18) (ls' := [some (.inr (.inr (some (0, c)))), some (.inr (.inr (some (0, a0)))), some (.inl (0 : Int32))]) (st' := []) (M' := mem E mu4 la) rfl ?_
  exact h
set_option maxRecDepth 100000 in
theorem vc_X0_become_18 {E : mEv} {d : Nat}  (v0 : Nat) (v1 : Nat) (v2 : Int32) {mu : fMu} {la : fLa} {Q : fMu → fLa → Prop} (h : ((6 : Int32) ≤ v2 → (Q mu la)) ∧ (¬ ((6 : Int32) ≤ v2) → (vp_in v2 6 ∧ (vp_in v2 6 ∧ ∀ mu5 : fMu, mu5 = up3 mu 8 v0 v2.toNatClampNeg (mu 8 v1 v2.toNatClampNeg) → (vp_in v2 6 ∧ (vp_in v2 6 ∧ ∀ mu6 : fMu, mu6 = up3 mu5 9 v0 v2.toNatClampNeg (mu5 9 v1 v2.toNatClampNeg) → (Ev E d mi_2 18 [some (.inr (.inr (some (0, v0)))), some (.inr (.inr (some (0, v1)))), some (.inl (v2 + (1 : Int32)))] [] (mem E mu6 la) (qV E Q)))))))) : Ev E d mi_2 18 [some (.inr (.inr (some (0, v0)))), some (.inr (.inr (some (0, v1)))), some (.inl v2)] [] (mem E mu la) (qV E Q) := by
  refine Ev.steps 2 (ip' := 20) (ls' := [some (.inr (.inr (some (0, v0)))), some (.inr (.inr (some (0, v1)))), some (.inl v2)]) (st' := [.inl (6 : Int32), .inl v2]) (M' := mem E mu la) rfl ?_
  refine Ev.br (c := (6 : Int32) ≤ v2) (s1 := (39, [some (.inr (.inr (some (0, v0)))), some (.inr (.inr (some (0, v1)))), some (.inl v2)], [], mem E mu la)) (s2 := (21, [some (.inr (.inr (some (0, v0)))), some (.inr (.inr (some (0, v1)))), some (.inl v2)], [], mem E mu la)) rfl rfl rfl rfl (fun hc => ?_) (fun hc => ?_)
  · have h := h.1 hc
    dsimp only
    exact Ev.ret rfl rfl ⟨_, _, rfl, rfl, h⟩
  · have h := h.2 hc
    dsimp only
    refine Ev.steps 6 (ip' := 27) (ls' := [some (.inr (.inr (some (0, v0)))), some (.inr (.inr (some (0, v1)))), some (.inl v2)]) (st' := [.inl v2, .inr (.inr (some (8, v1))), .inl v2, .inr (.inr (some (8, v0)))]) (M' := mem E mu la) rfl ?_
    refine Ev.ial rfl rfl (by decide) h.1 ?_
    have h := h.2
    refine Ev.ias rfl rfl h.1 ?_
    have h := h.2
    generalize hgmu5 : up3 mu 8 v0 v2.toNatClampNeg (mu 8 v1 v2.toNatClampNeg) = mu5
    have h := h mu5 hgmu5.symm
    refine Ev.steps 6 (ip' := 35) (ls' := [some (.inr (.inr (some (0, v0)))), some (.inr (.inr (some (0, v1)))), some (.inl v2)]) (st' := [.inl v2, .inr (.inr (some (9, v1))), .inl v2, .inr (.inr (some (9, v0)))]) (M' := mem E mu5 la) rfl ?_
    refine Ev.ial rfl rfl (by decide) h.1 ?_
    have h := h.2
    refine Ev.ias rfl rfl h.1 ?_
    have h := h.2
    generalize hgmu6 : up3 mu5 9 v0 v2.toNatClampNeg (mu5 9 v1 v2.toNatClampNeg) = mu6
    have h := h mu6 hgmu6.symm
    refine Ev.steps 2 (ip' := 18) (ls' := [some (.inr (.inr (some (0, v0)))), some (.inr (.inr (some (0, v1)))), some (.inl (v2 + (1 : Int32)))]) (st' := []) (M' := mem E mu6 la) rfl ?_
    exact h
set_option maxRecDepth 100000 in
/-- AnnCups.Counter.isMade(I)Z -/
theorem vc_X0_isMade {E : mEv} {d : Nat} {c : Nat} (a0 : Int32) {mu : fMu} {la : fLa} {Q : Int32 → fMu → fLa → Prop} (h : (((mu 0 c 3) &&& ((1 : Int32) <<< (a0 &&& 31))) = 0 → (Q (0 : Int32) mu la)) ∧ (¬ (((mu 0 c 3) &&& ((1 : Int32) <<< (a0 &&& 31))) = 0) → (Q (1 : Int32) mu la))) : FnI E d mi_3 [.inr (.inr (some (0, c))), .inl a0] mu la Q := by
  unfold FnI
  show Ev E d mi_3 0 [some (.inr (.inr (some (0, c)))), some (.inl a0)] [] (mem E mu la) (qI E Q)
  refine Ev.steps 6 (ip' := 6) (ls' := [some (.inr (.inr (some (0, c)))), some (.inl a0)]) (st' := [.inl ((mu 0 c 3) &&& ((1 : Int32) <<< (a0 &&& 31)))]) (M' := mem E mu la) rfl ?_
  refine Ev.br (c := ((mu 0 c 3) &&& ((1 : Int32) <<< (a0 &&& 31))) = 0) (s1 := (9, [some (.inr (.inr (some (0, c)))), some (.inl a0)], [], mem E mu la)) (s2 := (7, [some (.inr (.inr (some (0, c)))), some (.inl a0)], [], mem E mu la)) rfl rfl rfl rfl (fun hc => ?_) (fun hc => ?_)
  · have h := h.1 hc
    dsimp only
    refine Ev.steps 1 (ip' := 10) (ls' := [some (.inr (.inr (some (0, c)))), some (.inl a0)]) (st' := [.inl (0 : Int32)]) (M' := mem E mu la) rfl ?_
    exact Ev.retZ rfl rfl (Or.inl rfl) ⟨_, _, _, rfl, rfl, h⟩
  · have h := h.2 hc
    dsimp only
    refine Ev.steps 2 (ip' := 10) (ls' := [some (.inr (.inr (some (0, c)))), some (.inl a0)]) (st' := [.inl (1 : Int32)]) (M' := mem E mu la) rfl ?_
    exact Ev.retZ rfl rfl (Or.inr rfl) ⟨_, _, _, rfl, rfl, h⟩
set_option maxRecDepth 100000 in
/-- AnnCups.Counter.serve(I)V -/
theorem vc_X0_serve {E : mEv} {d : Nat} {c : Nat} (a0 : Int32) {mu : fMu} {la : fLa} {Q : fMu → fLa → Prop} (h : FnI E d mi_18 [.inr (.inr (some (1, 0))), .inl a0, .inl (mu 0 c 4)] mu la (fun x1 mu2 la3 => FnI E d mi_17 [.inr (.inr (some (1, 0))), .inl a0, .inl (mu2 0 c 2)] mu2 la3 (fun x4 mu5 la6 => ∀ mu7 : fMu, mu7 = up3 mu5 0 c 1 ((mu2 0 c 1) + x4) → (∀ mu8 : fMu, mu8 = up3 mu7 0 c 2 a0 → (∀ mu9 : fMu, mu9 = up3 mu8 0 c 3 ((mu8 0 c 3) ||| ((1 : Int32) <<< (a0 &&& 31))) → (FnI E d mi_14 [.inr (.inr (some (1, 0))), .inl x1] mu9 la6 (fun x10 mu11 la12 => (x10 = 0 → (vp_in a0 6 ∧ ∀ mu13 : fMu, mu13 = up3 mu11 8 c a0.toNatClampNeg (6 : Int32) → (Q mu13 la12))) ∧ (¬ (x10 = 0) → (vp_in a0 6 ∧ ∀ mu14 : fMu, mu14 = up3 mu11 8 c a0.toNatClampNeg x1 → (vp_in x1 6 ∧ ∀ mu15 : fMu, mu15 = up3 mu14 9 c x1.toNatClampNeg a0 → (∀ mu16 : fMu, mu16 = up3 mu15 0 c 4 ((mu15 0 c 4) ||| ((1 : Int32) <<< (x1 &&& 31))) → (Q mu16 la12)))))))))))) : FnV E (d + 1) mi_4 [.inr (.inr (some (0, c))), .inl a0] mu la Q := by
  unfold FnV
  show Ev E (d + 1) mi_4 0 [some (.inr (.inr (some (0, c)))), some (.inl a0), none] [] (mem E mu la) (qV E Q)
  refine Ev.steps 5 (ip' := 5) (ls' := [some (.inr (.inr (some (0, c)))), some (.inl a0), none]) (st' := [.inl (mu 0 c 4), .inl a0, .inr (.inr (some (1, 0)))]) (M' := mem E mu la) rfl ?_
  refine Ev.ci (J := mi_18) (as := [.inr (.inr (some (1, 0))), .inl a0, .inl (mu 0 c 4)]) (rest := []) rfl rfl rfl (Nat.le_of_ble_eq_true rfl) h (fun x1 mu2 la3 h => ?_)
  refine Ev.steps 9 (ip' := 15) (ls' := [some (.inr (.inr (some (0, c)))), some (.inl a0), some (.inl x1)]) (st' := [.inl (mu2 0 c 2), .inl a0, .inr (.inr (some (1, 0))), .inl (mu2 0 c 1), .inr (.inr (some (0, c)))]) (M' := mem E mu2 la3) rfl ?_
  refine Ev.ci (J := mi_17) (as := [.inr (.inr (some (1, 0))), .inl a0, .inl (mu2 0 c 2)]) (rest := [.inl (mu2 0 c 1), .inr (.inr (some (0, c)))]) rfl rfl rfl (Nat.le_of_ble_eq_true rfl) h (fun x4 mu5 la6 h => ?_)
  refine Ev.steps 2 (ip' := 18) (ls' := [some (.inr (.inr (some (0, c)))), some (.inl a0), some (.inl x1)]) (st' := []) (M' := mem E (up3 mu5 0 c 1 ((mu2 0 c 1) + x4)) la6) rfl ?_
  generalize hgmu7 : up3 mu5 0 c 1 ((mu2 0 c 1) + x4) = mu7
  have h := h mu7 hgmu7.symm
  refine Ev.steps 3 (ip' := 21) (ls' := [some (.inr (.inr (some (0, c)))), some (.inl a0), some (.inl x1)]) (st' := []) (M' := mem E (up3 mu7 0 c 2 a0) la6) rfl ?_
  generalize hgmu8 : up3 mu7 0 c 2 a0 = mu8
  have h := h mu8 hgmu8.symm
  refine Ev.steps 8 (ip' := 29) (ls' := [some (.inr (.inr (some (0, c)))), some (.inl a0), some (.inl x1)]) (st' := []) (M' := mem E (up3 mu8 0 c 3 ((mu8 0 c 3) ||| ((1 : Int32) <<< (a0 &&& 31)))) la6) rfl ?_
  generalize hgmu9 : up3 mu8 0 c 3 ((mu8 0 c 3) ||| ((1 : Int32) <<< (a0 &&& 31))) = mu9
  have h := h mu9 hgmu9.symm
  refine Ev.steps 3 (ip' := 32) (ls' := [some (.inr (.inr (some (0, c)))), some (.inl a0), some (.inl x1)]) (st' := [.inl x1, .inr (.inr (some (1, 0)))]) (M' := mem E mu9 la6) rfl ?_
  refine Ev.ci (J := mi_14) (as := [.inr (.inr (some (1, 0))), .inl x1]) (rest := []) rfl rfl rfl (Nat.le_of_ble_eq_true rfl) h (fun x10 mu11 la12 h => ?_)
  refine Ev.br (c := x10 = 0) (s1 := (53, [some (.inr (.inr (some (0, c)))), some (.inl a0), some (.inl x1)], [], mem E mu11 la12)) (s2 := (34, [some (.inr (.inr (some (0, c)))), some (.inl a0), some (.inl x1)], [], mem E mu11 la12)) rfl rfl rfl rfl (fun hc => ?_) (fun hc => ?_)
  · have h := h.1 hc
    dsimp only
    refine Ev.steps 4 (ip' := 57) (ls' := [some (.inr (.inr (some (0, c)))), some (.inl a0), some (.inl x1)]) (st' := [.inl (6 : Int32), .inl a0, .inr (.inr (some (8, c)))]) (M' := mem E mu11 la12) rfl ?_
    refine Ev.ias rfl rfl h.1 ?_
    have h := h.2
    generalize hgmu13 : up3 mu11 8 c a0.toNatClampNeg (6 : Int32) = mu13
    have h := h mu13 hgmu13.symm
    exact Ev.ret rfl rfl ⟨_, _, rfl, rfl, h⟩
  · have h := h.2 hc
    dsimp only
    refine Ev.steps 4 (ip' := 38) (ls' := [some (.inr (.inr (some (0, c)))), some (.inl a0), some (.inl x1)]) (st' := [.inl x1, .inl a0, .inr (.inr (some (8, c)))]) (M' := mem E mu11 la12) rfl ?_
    refine Ev.ias rfl rfl h.1 ?_
    have h := h.2
    generalize hgmu14 : up3 mu11 8 c a0.toNatClampNeg x1 = mu14
    have h := h mu14 hgmu14.symm
    refine Ev.steps 4 (ip' := 43) (ls' := [some (.inr (.inr (some (0, c)))), some (.inl a0), some (.inl x1)]) (st' := [.inl a0, .inl x1, .inr (.inr (some (9, c)))]) (M' := mem E mu14 la12) rfl ?_
    refine Ev.ias rfl rfl h.1 ?_
    have h := h.2
    generalize hgmu15 : up3 mu14 9 c x1.toNatClampNeg a0 = mu15
    have h := h mu15 hgmu15.symm
    refine Ev.steps 8 (ip' := 52) (ls' := [some (.inr (.inr (some (0, c)))), some (.inl a0), some (.inl x1)]) (st' := []) (M' := mem E (up3 mu15 0 c 4 ((mu15 0 c 4) ||| ((1 : Int32) <<< (x1 &&& 31)))) la12) rfl ?_
    generalize hgmu16 : up3 mu15 0 c 4 ((mu15 0 c 4) ||| ((1 : Int32) <<< (x1 &&& 31))) = mu16
    have h := h mu16 hgmu16.symm
    refine Ev.steps 1 (ip' := 58) (ls' := [some (.inr (.inr (some (0, c)))), some (.inl a0), some (.inl x1)]) (st' := []) (M' := mem E mu16 la12) rfl ?_
    exact Ev.ret rfl rfl ⟨_, _, rfl, rfl, h⟩
set_option maxRecDepth 100000 in
/-- AnnCups.Counter.unserve(IIII)V -/
theorem vc_X0_unserve {E : mEv} {d : Nat} {c : Nat} (a0 : Int32) (a1 : Int32) (a2 : Int32) (a3 : Int32) {mu : fMu} {la : fLa} {Q : fMu → fLa → Prop} (h : vp_in a0 6 ∧ (FnI E d mi_14 [.inr (.inr (some (1, 0))), .inl (mu 8 c a0.toNatClampNeg)] mu la (fun x1 mu2 la3 => (x1 = 0 → (vp_in a0 6 ∧ ∀ mu4 : fMu, mu4 = up3 mu2 8 c a0.toNatClampNeg (-9 : Int32) → (∀ mu5 : fMu, mu5 = up3 mu4 0 c 3 ((mu4 0 c 3) &&& (((1 : Int32) <<< (a0 &&& 31)) ^^^ (-1 : Int32))) → (∀ mu6 : fMu, mu6 = up3 mu5 0 c 1 a1 → (∀ mu7 : fMu, mu7 = up3 mu6 0 c 2 a2 → (∀ mu8 : fMu, mu8 = up3 mu7 0 c 4 a3 → (Q mu8 la3))))))) ∧ (¬ (x1 = 0) → (vp_in (mu 8 c a0.toNatClampNeg) 6 ∧ ∀ mu9 : fMu, mu9 = up3 mu2 9 c (mu 8 c a0.toNatClampNeg).toNatClampNeg (-9 : Int32) → (vp_in a0 6 ∧ ∀ mu10 : fMu, mu10 = up3 mu9 8 c a0.toNatClampNeg (-9 : Int32) → (∀ mu11 : fMu, mu11 = up3 mu10 0 c 3 ((mu10 0 c 3) &&& (((1 : Int32) <<< (a0 &&& 31)) ^^^ (-1 : Int32))) → (∀ mu12 : fMu, mu12 = up3 mu11 0 c 1 a1 → (∀ mu13 : fMu, mu13 = up3 mu12 0 c 2 a2 → (∀ mu14 : fMu, mu14 = up3 mu13 0 c 4 a3 → (Q mu14 la3))))))))))) : FnV E (d + 1) mi_5 [.inr (.inr (some (0, c))), .inl a0, .inl a1, .inl a2, .inl a3] mu la Q := by
  unfold FnV
  show Ev E (d + 1) mi_5 0 [some (.inr (.inr (some (0, c)))), some (.inl a0), some (.inl a1), some (.inl a2), some (.inl a3), none] [] (mem E mu la) (qV E Q)
  refine Ev.steps 3 (ip' := 3) (ls' := [some (.inr (.inr (some (0, c)))), some (.inl a0), some (.inl a1), some (.inl a2), some (.inl a3), none]) (st' := [.inl a0, .inr (.inr (some (8, c)))]) (M' := mem E mu la) rfl ?_
  refine Ev.ial rfl rfl (by decide) h.1 ?_
  have h := h.2
  refine Ev.steps 4 (ip' := 8) (ls' := [some (.inr (.inr (some (0, c)))), some (.inl a0), some (.inl a1), some (.inl a2), some (.inl a3), some (.inl (mu 8 c a0.toNatClampNeg))]) (st' := [.inl (mu 8 c a0.toNatClampNeg), .inr (.inr (some (1, 0)))]) (M' := mem E mu la) rfl ?_
  refine Ev.ci (J := mi_14) (as := [.inr (.inr (some (1, 0))), .inl (mu 8 c a0.toNatClampNeg)]) (rest := []) rfl rfl rfl (Nat.le_of_ble_eq_true rfl) h (fun x1 mu2 la3 h => ?_)
  refine Ev.br (c := x1 = 0) (s1 := (15, [some (.inr (.inr (some (0, c)))), some (.inl a0), some (.inl a1), some (.inl a2), some (.inl a3), some (.inl (mu 8 c a0.toNatClampNeg))], [], mem E mu2 la3)) (s2 := (10, [some (.inr (.inr (some (0, c)))), some (.inl a0), some (.inl a1), some (.inl a2), some (.inl a3), some (.inl (mu 8 c a0.toNatClampNeg))], [], mem E mu2 la3)) rfl rfl rfl rfl (fun hc => ?_) (fun hc => ?_)
  · have h := h.1 hc
    dsimp only
    refine Ev.steps 4 (ip' := 19) (ls' := [some (.inr (.inr (some (0, c)))), some (.inl a0), some (.inl a1), some (.inl a2), some (.inl a3), some (.inl (mu 8 c a0.toNatClampNeg))]) (st' := [.inl (-9 : Int32), .inl a0, .inr (.inr (some (8, c)))]) (M' := mem E mu2 la3) rfl ?_
    refine Ev.ias rfl rfl h.1 ?_
    have h := h.2
    generalize hgmu4 : up3 mu2 8 c a0.toNatClampNeg (-9 : Int32) = mu4
    have h := h mu4 hgmu4.symm
    refine Ev.steps 10 (ip' := 30) (ls' := [some (.inr (.inr (some (0, c)))), some (.inl a0), some (.inl a1), some (.inl a2), some (.inl a3), some (.inl (mu 8 c a0.toNatClampNeg))]) (st' := []) (M' := mem E (up3 mu4 0 c 3 ((mu4 0 c 3) &&& (((1 : Int32) <<< (a0 &&& 31)) ^^^ (-1 : Int32)))) la3) rfl ?_
    generalize hgmu5 : up3 mu4 0 c 3 ((mu4 0 c 3) &&& (((1 : Int32) <<< (a0 &&& 31)) ^^^ (-1 : Int32))) = mu5
    have h := h mu5 hgmu5.symm
    refine Ev.steps 3 (ip' := 33) (ls' := [some (.inr (.inr (some (0, c)))), some (.inl a0), some (.inl a1), some (.inl a2), some (.inl a3), some (.inl (mu 8 c a0.toNatClampNeg))]) (st' := []) (M' := mem E (up3 mu5 0 c 1 a1) la3) rfl ?_
    generalize hgmu6 : up3 mu5 0 c 1 a1 = mu6
    have h := h mu6 hgmu6.symm
    refine Ev.steps 3 (ip' := 36) (ls' := [some (.inr (.inr (some (0, c)))), some (.inl a0), some (.inl a1), some (.inl a2), some (.inl a3), some (.inl (mu 8 c a0.toNatClampNeg))]) (st' := []) (M' := mem E (up3 mu6 0 c 2 a2) la3) rfl ?_
    generalize hgmu7 : up3 mu6 0 c 2 a2 = mu7
    have h := h mu7 hgmu7.symm
    refine Ev.steps 3 (ip' := 39) (ls' := [some (.inr (.inr (some (0, c)))), some (.inl a0), some (.inl a1), some (.inl a2), some (.inl a3), some (.inl (mu 8 c a0.toNatClampNeg))]) (st' := []) (M' := mem E (up3 mu7 0 c 4 a3) la3) rfl ?_
    generalize hgmu8 : up3 mu7 0 c 4 a3 = mu8
    have h := h mu8 hgmu8.symm
    exact Ev.ret rfl rfl ⟨_, _, rfl, rfl, h⟩
  · have h := h.2 hc
    dsimp only
    refine Ev.steps 4 (ip' := 14) (ls' := [some (.inr (.inr (some (0, c)))), some (.inl a0), some (.inl a1), some (.inl a2), some (.inl a3), some (.inl (mu 8 c a0.toNatClampNeg))]) (st' := [.inl (-9 : Int32), .inl (mu 8 c a0.toNatClampNeg), .inr (.inr (some (9, c)))]) (M' := mem E mu2 la3) rfl ?_
    refine Ev.ias rfl rfl h.1 ?_
    have h := h.2
    generalize hgmu9 : up3 mu2 9 c (mu 8 c a0.toNatClampNeg).toNatClampNeg (-9 : Int32) = mu9
    have h := h mu9 hgmu9.symm
    refine Ev.steps 4 (ip' := 19) (ls' := [some (.inr (.inr (some (0, c)))), some (.inl a0), some (.inl a1), some (.inl a2), some (.inl a3), some (.inl (mu 8 c a0.toNatClampNeg))]) (st' := [.inl (-9 : Int32), .inl a0, .inr (.inr (some (8, c)))]) (M' := mem E mu9 la3) rfl ?_
    refine Ev.ias rfl rfl h.1 ?_
    have h := h.2
    generalize hgmu10 : up3 mu9 8 c a0.toNatClampNeg (-9 : Int32) = mu10
    have h := h mu10 hgmu10.symm
    refine Ev.steps 10 (ip' := 30) (ls' := [some (.inr (.inr (some (0, c)))), some (.inl a0), some (.inl a1), some (.inl a2), some (.inl a3), some (.inl (mu 8 c a0.toNatClampNeg))]) (st' := []) (M' := mem E (up3 mu10 0 c 3 ((mu10 0 c 3) &&& (((1 : Int32) <<< (a0 &&& 31)) ^^^ (-1 : Int32)))) la3) rfl ?_
    generalize hgmu11 : up3 mu10 0 c 3 ((mu10 0 c 3) &&& (((1 : Int32) <<< (a0 &&& 31)) ^^^ (-1 : Int32))) = mu11
    have h := h mu11 hgmu11.symm
    refine Ev.steps 3 (ip' := 33) (ls' := [some (.inr (.inr (some (0, c)))), some (.inl a0), some (.inl a1), some (.inl a2), some (.inl a3), some (.inl (mu 8 c a0.toNatClampNeg))]) (st' := []) (M' := mem E (up3 mu11 0 c 1 a1) la3) rfl ?_
    generalize hgmu12 : up3 mu11 0 c 1 a1 = mu12
    have h := h mu12 hgmu12.symm
    refine Ev.steps 3 (ip' := 36) (ls' := [some (.inr (.inr (some (0, c)))), some (.inl a0), some (.inl a1), some (.inl a2), some (.inl a3), some (.inl (mu 8 c a0.toNatClampNeg))]) (st' := []) (M' := mem E (up3 mu12 0 c 2 a2) la3) rfl ?_
    generalize hgmu13 : up3 mu12 0 c 2 a2 = mu13
    have h := h mu13 hgmu13.symm
    refine Ev.steps 3 (ip' := 39) (ls' := [some (.inr (.inr (some (0, c)))), some (.inl a0), some (.inl a1), some (.inl a2), some (.inl a3), some (.inl (mu 8 c a0.toNatClampNeg))]) (st' := []) (M' := mem E (up3 mu13 0 c 4 a3) la3) rfl ?_
    generalize hgmu14 : up3 mu13 0 c 4 a3 = mu14
    have h := h mu14 hgmu14.symm
    exact Ev.ret rfl rfl ⟨_, _, rfl, rfl, h⟩
set_option maxRecDepth 100000 in
/-- AnnCups.Counter.swap(II)V -/
theorem vc_X0_swap {E : mEv} {d : Nat} {c : Nat} (a0 : Int32) (a1 : Int32) {mu : fMu} {la : fLa} {Q : fMu → fLa → Prop} (h : vp_in a0 6 ∧ (vp_in a1 6 ∧ (FnV E d mi_7 [.inr (.inr (some (0, c))), .inl a0, .inl (mu 9 c a1.toNatClampNeg)] mu la (fun mu2 la3 => FnV E d mi_7 [.inr (.inr (some (0, c))), .inl a1, .inl (mu 9 c a0.toNatClampNeg)] mu2 la3 (fun mu5 la6 => Q mu5 la6))))) : FnV E (d + 1) mi_6 [.inr (.inr (some (0, c))), .inl a0, .inl a1] mu la Q := by
  unfold FnV
  show Ev E (d + 1) mi_6 0 [some (.inr (.inr (some (0, c)))), some (.inl a0), some (.inl a1), none, none] [] (mem E mu la) (qV E Q)
  refine Ev.steps 3 (ip' := 3) (ls' := [some (.inr (.inr (some (0, c)))), some (.inl a0), some (.inl a1), none, none]) (st' := [.inl a0, .inr (.inr (some (9, c)))]) (M' := mem E mu la) rfl ?_
  refine Ev.ial rfl rfl (by decide) h.1 ?_
  have h := h.2
  refine Ev.steps 4 (ip' := 8) (ls' := [some (.inr (.inr (some (0, c)))), some (.inl a0), some (.inl a1), some (.inl (mu 9 c a0.toNatClampNeg)), none]) (st' := [.inl a1, .inr (.inr (some (9, c)))]) (M' := mem E mu la) rfl ?_
  refine Ev.ial rfl rfl (by decide) h.1 ?_
  have h := h.2
  refine Ev.steps 4 (ip' := 13) (ls' := [some (.inr (.inr (some (0, c)))), some (.inl a0), some (.inl a1), some (.inl (mu 9 c a0.toNatClampNeg)), some (.inl (mu 9 c a1.toNatClampNeg))]) (st' := [.inl (mu 9 c a1.toNatClampNeg), .inl a0, .inr (.inr (some (0, c)))]) (M' := mem E mu la) rfl ?_
  refine Ev.cv (J := mi_7) (as := [.inr (.inr (some (0, c))), .inl a0, .inl (mu 9 c a1.toNatClampNeg)]) (rest := []) rfl rfl rfl (Nat.le_of_ble_eq_true rfl) h (fun mu2 la3 h => ?_)
  refine Ev.steps 3 (ip' := 17) (ls' := [some (.inr (.inr (some (0, c)))), some (.inl a0), some (.inl a1), some (.inl (mu 9 c a0.toNatClampNeg)), some (.inl (mu 9 c a1.toNatClampNeg))]) (st' := [.inl (mu 9 c a0.toNatClampNeg), .inl a1, .inr (.inr (some (0, c)))]) (M' := mem E mu2 la3) rfl ?_
  refine Ev.cv (J := mi_7) (as := [.inr (.inr (some (0, c))), .inl a1, .inl (mu 9 c a0.toNatClampNeg)]) (rest := []) rfl rfl rfl (Nat.le_of_ble_eq_true rfl) h (fun mu5 la6 h => ?_)
  exact Ev.ret rfl rfl ⟨_, _, rfl, rfl, h⟩
set_option maxRecDepth 100000 in
/-- AnnCups.Counter.receive(II)V -/
theorem vc_X0_receive {E : mEv} {d : Nat} {c : Nat} (a0 : Int32) (a1 : Int32) {mu : fMu} {la : fLa} {Q : fMu → fLa → Prop} (h : vp_in a0 6 ∧ ∀ mu1 : fMu, mu1 = up3 mu 9 c a0.toNatClampNeg a1 → (FnI E d mi_14 [.inr (.inr (some (1, 0))), .inl a1] mu1 la (fun x2 mu3 la4 => (x2 = 0 → (Q mu3 la4)) ∧ (¬ (x2 = 0) → (vp_in a1 6 ∧ ∀ mu5 : fMu, mu5 = up3 mu3 8 c a1.toNatClampNeg a0 → (∀ mu6 : fMu, mu6 = up3 mu5 0 c 4 ((mu5 0 c 4) ||| ((1 : Int32) <<< (a0 &&& 31))) → (Q mu6 la4))))))) : FnV E (d + 1) mi_7 [.inr (.inr (some (0, c))), .inl a0, .inl a1] mu la Q := by
  unfold FnV
  show Ev E (d + 1) mi_7 0 [some (.inr (.inr (some (0, c)))), some (.inl a0), some (.inl a1)] [] (mem E mu la) (qV E Q)
  refine Ev.steps 4 (ip' := 4) (ls' := [some (.inr (.inr (some (0, c)))), some (.inl a0), some (.inl a1)]) (st' := [.inl a1, .inl a0, .inr (.inr (some (9, c)))]) (M' := mem E mu la) rfl ?_
  refine Ev.ias rfl rfl h.1 ?_
  have h := h.2
  generalize hgmu1 : up3 mu 9 c a0.toNatClampNeg a1 = mu1
  have h := h mu1 hgmu1.symm
  refine Ev.steps 3 (ip' := 8) (ls' := [some (.inr (.inr (some (0, c)))), some (.inl a0), some (.inl a1)]) (st' := [.inl a1, .inr (.inr (some (1, 0)))]) (M' := mem E mu1 la) rfl ?_
  refine Ev.ci (J := mi_14) (as := [.inr (.inr (some (1, 0))), .inl a1]) (rest := []) rfl rfl rfl (Nat.le_of_ble_eq_true rfl) h (fun x2 mu3 la4 h => ?_)
  refine Ev.br (c := x2 = 0) (s1 := (23, [some (.inr (.inr (some (0, c)))), some (.inl a0), some (.inl a1)], [], mem E mu3 la4)) (s2 := (10, [some (.inr (.inr (some (0, c)))), some (.inl a0), some (.inl a1)], [], mem E mu3 la4)) rfl rfl rfl rfl (fun hc => ?_) (fun hc => ?_)
  · have h := h.1 hc
    dsimp only
    exact Ev.ret rfl rfl ⟨_, _, rfl, rfl, h⟩
  · have h := h.2 hc
    dsimp only
    refine Ev.steps 4 (ip' := 14) (ls' := [some (.inr (.inr (some (0, c)))), some (.inl a0), some (.inl a1)]) (st' := [.inl a0, .inl a1, .inr (.inr (some (8, c)))]) (M' := mem E mu3 la4) rfl ?_
    refine Ev.ias rfl rfl h.1 ?_
    have h := h.2
    generalize hgmu5 : up3 mu3 8 c a1.toNatClampNeg a0 = mu5
    have h := h mu5 hgmu5.symm
    refine Ev.steps 8 (ip' := 23) (ls' := [some (.inr (.inr (some (0, c)))), some (.inl a0), some (.inl a1)]) (st' := []) (M' := mem E (up3 mu5 0 c 4 ((mu5 0 c 4) ||| ((1 : Int32) <<< (a0 &&& 31)))) la4) rfl ?_
    generalize hgmu6 : up3 mu5 0 c 4 ((mu5 0 c 4) ||| ((1 : Int32) <<< (a0 &&& 31))) = mu6
    have h := h mu6 hgmu6.symm
    exact Ev.ret rfl rfl ⟨_, _, rfl, rfl, h⟩
set_option maxRecDepth 100000 in
/-- AnnCups.Counter.happen(III)V -/
theorem vc_X0_happen {E : mEv} {d : Nat} {c : Nat} (a0 : Int32) (a1 : Int32) (a2 : Int32) {mu : fMu} {la : fLa} {Q : fMu → fLa → Prop} (h : (¬ a0 = (1 : Int32) → ((¬ a0 = (2 : Int32) → ((¬ a0 = (3 : Int32) → (Q mu la)) ∧ (¬ (¬ a0 = (3 : Int32)) → (vp_in a1 6 ∧ ∀ mu1 : fMu, mu1 = up3 mu 8 c a1.toNatClampNeg (7 : Int32) → (Q mu1 la))))) ∧ (¬ (¬ a0 = (2 : Int32)) → (FnV E d mi_6 [.inr (.inr (some (0, c))), .inl a1, .inl a2] mu la (fun mu3 la4 => Q mu3 la4))))) ∧ (¬ (¬ a0 = (1 : Int32)) → (FnV E d mi_4 [.inr (.inr (some (0, c))), .inl a1] mu la (fun mu6 la7 => Q mu6 la7)))) : FnV E (d + 1) mi_8 [.inr (.inr (some (0, c))), .inl a0, .inl a1, .inl a2] mu la Q := by
  unfold FnV
  show Ev E (d + 1) mi_8 0 [some (.inr (.inr (some (0, c)))), some (.inl a0), some (.inl a1), some (.inl a2)] [] (mem E mu la) (qV E Q)
  refine Ev.steps 2 (ip' := 2) (ls' := [some (.inr (.inr (some (0, c)))), some (.inl a0), some (.inl a1), some (.inl a2)]) (st' := [.inl (1 : Int32), .inl a0]) (M' := mem E mu la) rfl ?_
  refine Ev.br (c := ¬ a0 = (1 : Int32)) (s1 := (7, [some (.inr (.inr (some (0, c)))), some (.inl a0), some (.inl a1), some (.inl a2)], [], mem E mu la)) (s2 := (3, [some (.inr (.inr (some (0, c)))), some (.inl a0), some (.inl a1), some (.inl a2)], [], mem E mu la)) rfl rfl rfl rfl (fun hc => ?_) (fun hc => ?_)
  · have h := h.1 hc
    dsimp only
    refine Ev.steps 2 (ip' := 9) (ls' := [some (.inr (.inr (some (0, c)))), some (.inl a0), some (.inl a1), some (.inl a2)]) (st' := [.inl (2 : Int32), .inl a0]) (M' := mem E mu la) rfl ?_
    refine Ev.br (c := ¬ a0 = (2 : Int32)) (s1 := (15, [some (.inr (.inr (some (0, c)))), some (.inl a0), some (.inl a1), some (.inl a2)], [], mem E mu la)) (s2 := (10, [some (.inr (.inr (some (0, c)))), some (.inl a0), some (.inl a1), some (.inl a2)], [], mem E mu la)) rfl rfl rfl rfl (fun hc => ?_) (fun hc => ?_)
    · have h := h.1 hc
      dsimp only
      refine Ev.steps 2 (ip' := 17) (ls' := [some (.inr (.inr (some (0, c)))), some (.inl a0), some (.inl a1), some (.inl a2)]) (st' := [.inl (3 : Int32), .inl a0]) (M' := mem E mu la) rfl ?_
      refine Ev.br (c := ¬ a0 = (3 : Int32)) (s1 := (23, [some (.inr (.inr (some (0, c)))), some (.inl a0), some (.inl a1), some (.inl a2)], [], mem E mu la)) (s2 := (18, [some (.inr (.inr (some (0, c)))), some (.inl a0), some (.inl a1), some (.inl a2)], [], mem E mu la)) rfl rfl rfl rfl (fun hc => ?_) (fun hc => ?_)
      · have h := h.1 hc
        dsimp only
        exact Ev.ret rfl rfl ⟨_, _, rfl, rfl, h⟩
      · have h := h.2 hc
        dsimp only
        refine Ev.steps 4 (ip' := 22) (ls' := [some (.inr (.inr (some (0, c)))), some (.inl a0), some (.inl a1), some (.inl a2)]) (st' := [.inl (7 : Int32), .inl a1, .inr (.inr (some (8, c)))]) (M' := mem E mu la) rfl ?_
        refine Ev.ias rfl rfl h.1 ?_
        have h := h.2
        generalize hgmu1 : up3 mu 8 c a1.toNatClampNeg (7 : Int32) = mu1
        have h := h mu1 hgmu1.symm
        exact Ev.ret rfl rfl ⟨_, _, rfl, rfl, h⟩
    · have h := h.2 hc
      dsimp only
      refine Ev.steps 3 (ip' := 13) (ls' := [some (.inr (.inr (some (0, c)))), some (.inl a0), some (.inl a1), some (.inl a2)]) (st' := [.inl a2, .inl a1, .inr (.inr (some (0, c)))]) (M' := mem E mu la) rfl ?_
      refine Ev.cv (J := mi_6) (as := [.inr (.inr (some (0, c))), .inl a1, .inl a2]) (rest := []) rfl rfl rfl (Nat.le_of_ble_eq_true rfl) h (fun mu3 la4 h => ?_)
      refine Ev.steps 1 (ip' := 23) (ls' := [some (.inr (.inr (some (0, c)))), some (.inl a0), some (.inl a1), some (.inl a2)]) (st' := []) (M' := mem E mu3 la4) rfl ?_
      exact Ev.ret rfl rfl ⟨_, _, rfl, rfl, h⟩
  · have h := h.2 hc
    dsimp only
    refine Ev.steps 2 (ip' := 5) (ls' := [some (.inr (.inr (some (0, c)))), some (.inl a0), some (.inl a1), some (.inl a2)]) (st' := [.inl a1, .inr (.inr (some (0, c)))]) (M' := mem E mu la) rfl ?_
    refine Ev.cv (J := mi_4) (as := [.inr (.inr (some (0, c))), .inl a1]) (rest := []) rfl rfl rfl (Nat.le_of_ble_eq_true rfl) h (fun mu6 la7 h => ?_)
    refine Ev.steps 1 (ip' := 23) (ls' := [some (.inr (.inr (some (0, c)))), some (.inl a0), some (.inl a1), some (.inl a2)]) (st' := []) (M' := mem E mu6 la7) rfl ?_
    exact Ev.ret rfl rfl ⟨_, _, rfl, rfl, h⟩
set_option maxRecDepth 100000 in
/-- AnnCups.Counter.replay(LAnnCups$Deeds;)V -/
theorem vc_X0_replay {E : mEv} {d : Nat} {c : Nat} (a0 : Nat) {mu : fMu} {la : fLa} {Q : fMu → fLa → Prop} (h : FnV E d mi_1 [.inr (.inr (some (0, c)))] mu la (fun mu2 la3 => Ev E (d + 1) mi_9 4 [some (.inr (.inr (some (0, c)))), some (.inr (.inr (some (2, a0)))), some (.inl (0 : Int32))] [] (mem E mu2 la3) (qV E Q))) : FnV E (d + 1) mi_9 [.inr (.inr (some (0, c))), .inr (.inr (some (2, a0)))] mu la Q := by
  unfold FnV
  show Ev E (d + 1) mi_9 0 [some (.inr (.inr (some (0, c)))), some (.inr (.inr (some (2, a0)))), none] [] (mem E mu la) (qV E Q)
  refine Ev.steps 1 (ip' := 1) (ls' := [some (.inr (.inr (some (0, c)))), some (.inr (.inr (some (2, a0)))), none]) (st' := [.inr (.inr (some (0, c)))]) (M' := mem E mu la) rfl ?_
  refine Ev.cv (J := mi_1) (as := [.inr (.inr (some (0, c)))]) (rest := []) rfl rfl rfl (Nat.le_of_ble_eq_true rfl) h (fun mu2 la3 h => ?_)
  refine Ev.steps 2 (ip' := 4) (ls' := [some (.inr (.inr (some (0, c)))), some (.inr (.inr (some (2, a0)))), some (.inl (0 : Int32))]) (st' := []) (M' := mem E mu2 la3) rfl ?_
  exact h
set_option maxRecDepth 100000 in
theorem vc_X0_replay_4 {E : mEv} {d : Nat}  (v0 : Nat) (v1 : Nat) (v2 : Int32) {mu : fMu} {la : fLa} {Q : fMu → fLa → Prop} (h : ((mu 2 v1 0) ≤ v2 → (Q mu la)) ∧ (¬ ((mu 2 v1 0) ≤ v2) → (vp_in v2 40 ∧ (vp_in v2 40 ∧ (vp_in v2 40 ∧ (FnV E d mi_8 [.inr (.inr (some (0, v0))), .inl (mu 18 v1 v2.toNatClampNeg), .inl (mu 19 v1 v2.toNatClampNeg), .inl (mu 20 v1 v2.toNatClampNeg)] mu la (fun mu5 la6 => Ev E (d + 1) mi_9 4 [some (.inr (.inr (some (0, v0)))), some (.inr (.inr (some (2, v1)))), some (.inl (v2 + (1 : Int32)))] [] (mem E mu5 la6) (qV E Q)))))))) : Ev E (d + 1) mi_9 4 [some (.inr (.inr (some (0, v0)))), some (.inr (.inr (some (2, v1)))), some (.inl v2)] [] (mem E mu la) (qV E Q) := by
  refine Ev.steps 3 (ip' := 7) (ls' := [some (.inr (.inr (some (0, v0)))), some (.inr (.inr (some (2, v1)))), some (.inl v2)]) (st' := [.inl (mu 2 v1 0), .inl v2]) (M' := mem E mu la) rfl ?_
  refine Ev.br (c := (mu 2 v1 0) ≤ v2) (s1 := (24, [some (.inr (.inr (some (0, v0)))), some (.inr (.inr (some (2, v1)))), some (.inl v2)], [], mem E mu la)) (s2 := (8, [some (.inr (.inr (some (0, v0)))), some (.inr (.inr (some (2, v1)))), some (.inl v2)], [], mem E mu la)) rfl rfl rfl rfl (fun hc => ?_) (fun hc => ?_)
  · have h := h.1 hc
    dsimp only
    exact Ev.ret rfl rfl ⟨_, _, rfl, rfl, h⟩
  · have h := h.2 hc
    dsimp only
    refine Ev.steps 4 (ip' := 12) (ls' := [some (.inr (.inr (some (0, v0)))), some (.inr (.inr (some (2, v1)))), some (.inl v2)]) (st' := [.inl v2, .inr (.inr (some (18, v1))), .inr (.inr (some (0, v0)))]) (M' := mem E mu la) rfl ?_
    refine Ev.ial rfl rfl (by decide) h.1 ?_
    have h := h.2
    refine Ev.steps 3 (ip' := 16) (ls' := [some (.inr (.inr (some (0, v0)))), some (.inr (.inr (some (2, v1)))), some (.inl v2)]) (st' := [.inl v2, .inr (.inr (some (19, v1))), .inl (mu 18 v1 v2.toNatClampNeg), .inr (.inr (some (0, v0)))]) (M' := mem E mu la) rfl ?_
    refine Ev.ial rfl rfl (by decide) h.1 ?_
    have h := h.2
    refine Ev.steps 3 (ip' := 20) (ls' := [some (.inr (.inr (some (0, v0)))), some (.inr (.inr (some (2, v1)))), some (.inl v2)]) (st' := [.inl v2, .inr (.inr (some (20, v1))), .inl (mu 19 v1 v2.toNatClampNeg), .inl (mu 18 v1 v2.toNatClampNeg), .inr (.inr (some (0, v0)))]) (M' := mem E mu la) rfl ?_
    refine Ev.ial rfl rfl (by decide) h.1 ?_
    have h := h.2
    refine Ev.cv (J := mi_8) (as := [.inr (.inr (some (0, v0))), .inl (mu 18 v1 v2.toNatClampNeg), .inl (mu 19 v1 v2.toNatClampNeg), .inl (mu 20 v1 v2.toNatClampNeg)]) (rest := []) rfl rfl rfl (Nat.le_of_ble_eq_true rfl) h (fun mu5 la6 h => ?_)
    refine Ev.steps 2 (ip' := 4) (ls' := [some (.inr (.inr (some (0, v0)))), some (.inr (.inr (some (2, v1)))), some (.inl (v2 + (1 : Int32)))]) (st' := []) (M' := mem E mu5 la6) rfl ?_
    exact h
set_option maxRecDepth 100000 in
/-- AnnCups.Counter.standing()I -/
theorem vc_X0_standing {E : mEv} {d : Nat} {c : Nat} {mu : fMu} {la : fLa} {Q : Int32 → fMu → fLa → Prop} (h : Ev E d mi_10 4 [some (.inr (.inr (some (0, c)))), some (.inl (0 : Int32)), some (.inl (0 : Int32))] [] (mem E mu la) (qI E Q)) : FnI E d mi_10 [.inr (.inr (some (0, c)))] mu la Q := by
  unfold FnI
  show Ev E d mi_10 0 [some (.inr (.inr (some (0, c)))), none, none] [] (mem E mu la) (qI E Q)
  refine Ev.steps 4 (ip' := 4) (ls' := [some (.inr (.inr (some (0, c)))), some (.inl (0 : Int32)), some (.inl (0 : Int32))]) (st' := []) (M' := mem E mu la) rfl ?_
  exact h
set_option maxRecDepth 100000 in
theorem vc_X0_standing_4 {E : mEv} {d : Nat}  (v0 : Nat) (v1 : Int32) (v2 : Int32) {mu : fMu} {la : fLa} {Q : Int32 → fMu → fLa → Prop} (h : ((mu 1 0 0) ≤ v2 → (Q v1 mu la)) ∧ (¬ ((mu 1 0 0) ≤ v2) → (vp_in v2 6 ∧ ((¬ (mu 8 v0 v2.toNatClampNeg) = (6 : Int32) → (Ev E d mi_10 4 [some (.inr (.inr (some (0, v0)))), some (.inl (v1 ||| (0 : Int32))), some (.inl (v2 + (1 : Int32)))] [] (mem E mu la) (qI E Q))) ∧ (¬ (¬ (mu 8 v0 v2.toNatClampNeg) = (6 : Int32)) → (Ev E d mi_10 4 [some (.inr (.inr (some (0, v0)))), some (.inl (v1 ||| ((1 : Int32) <<< (v2 &&& 31)))), some (.inl (v2 + (1 : Int32)))] [] (mem E mu la) (qI E Q))))))) : Ev E d mi_10 4 [some (.inr (.inr (some (0, v0)))), some (.inl v1), some (.inl v2)] [] (mem E mu la) (qI E Q) := by
  refine Ev.steps 4 (ip' := 8) (ls' := [some (.inr (.inr (some (0, v0)))), some (.inl v1), some (.inl v2)]) (st' := [.inl (mu 1 0 0), .inl v2]) (M' := mem E mu la) rfl ?_
  refine Ev.br (c := (mu 1 0 0) ≤ v2) (s1 := (25, [some (.inr (.inr (some (0, v0)))), some (.inl v1), some (.inl v2)], [], mem E mu la)) (s2 := (9, [some (.inr (.inr (some (0, v0)))), some (.inl v1), some (.inl v2)], [], mem E mu la)) rfl rfl rfl rfl (fun hc => ?_) (fun hc => ?_)
  · have h := h.1 hc
    dsimp only
    refine Ev.steps 1 (ip' := 26) (ls' := [some (.inr (.inr (some (0, v0)))), some (.inl v1), some (.inl v2)]) (st' := [.inl v1]) (M' := mem E mu la) rfl ?_
    exact Ev.ret rfl rfl ⟨_, _, _, rfl, rfl, h⟩
  · have h := h.2 hc
    dsimp only
    refine Ev.steps 4 (ip' := 13) (ls' := [some (.inr (.inr (some (0, v0)))), some (.inl v1), some (.inl v2)]) (st' := [.inl v2, .inr (.inr (some (8, v0))), .inl v1]) (M' := mem E mu la) rfl ?_
    refine Ev.ial rfl rfl (by decide) h.1 ?_
    have h := h.2
    refine Ev.steps 1 (ip' := 15) (ls' := [some (.inr (.inr (some (0, v0)))), some (.inl v1), some (.inl v2)]) (st' := [.inl (6 : Int32), .inl (mu 8 v0 v2.toNatClampNeg), .inl v1]) (M' := mem E mu la) rfl ?_
    refine Ev.br (c := ¬ (mu 8 v0 v2.toNatClampNeg) = (6 : Int32)) (s1 := (20, [some (.inr (.inr (some (0, v0)))), some (.inl v1), some (.inl v2)], [.inl v1], mem E mu la)) (s2 := (16, [some (.inr (.inr (some (0, v0)))), some (.inl v1), some (.inl v2)], [.inl v1], mem E mu la)) rfl rfl rfl rfl (fun hc => ?_) (fun hc => ?_)
    · have h := h.1 hc
      dsimp only
      refine Ev.steps 5 (ip' := 4) (ls' := [some (.inr (.inr (some (0, v0)))), some (.inl (v1 ||| (0 : Int32))), some (.inl (v2 + (1 : Int32)))]) (st' := []) (M' := mem E mu la) rfl ?_
      exact h
    · have h := h.2 hc
      dsimp only
      refine Ev.steps 8 (ip' := 4) (ls' := [some (.inr (.inr (some (0, v0)))), some (.inl (v1 ||| ((1 : Int32) <<< (v2 &&& 31)))), some (.inl (v2 + (1 : Int32)))]) (st' := []) (M' := mem E mu la) rfl ?_
      exact h
set_option maxRecDepth 100000 in
/-- AnnCups.Counter.wrongOnes()I -/
theorem vc_X0_wrongOnes {E : mEv} {d : Nat} {c : Nat} {mu : fMu} {la : fLa} {Q : Int32 → fMu → fLa → Prop} (h : Ev E d mi_11 4 [some (.inr (.inr (some (0, c)))), some (.inl (0 : Int32)), some (.inl (0 : Int32))] [] (mem E mu la) (qI E Q)) : FnI E d mi_11 [.inr (.inr (some (0, c)))] mu la Q := by
  unfold FnI
  show Ev E d mi_11 0 [some (.inr (.inr (some (0, c)))), none, none] [] (mem E mu la) (qI E Q)
  refine Ev.steps 4 (ip' := 4) (ls' := [some (.inr (.inr (some (0, c)))), some (.inl (0 : Int32)), some (.inl (0 : Int32))]) (st' := []) (M' := mem E mu la) rfl ?_
  exact h
set_option maxRecDepth 100000 in
theorem vc_X0_wrongOnes_4 {E : mEv} {d : Nat}  (v0 : Nat) (v1 : Int32) (v2 : Int32) {mu : fMu} {la : fLa} {Q : Int32 → fMu → fLa → Prop} (h : ((mu 1 0 0) ≤ v2 → (Q v1 mu la)) ∧ (¬ ((mu 1 0 0) ≤ v2) → (vp_in v2 6 ∧ (((mu 9 v0 v2.toNatClampNeg) = (-9 : Int32) → (Ev E d mi_11 4 [some (.inr (.inr (some (0, v0)))), some (.inl (v1 ||| (0 : Int32))), some (.inl (v2 + (1 : Int32)))] [] (mem E mu la) (qI E Q))) ∧ (¬ ((mu 9 v0 v2.toNatClampNeg) = (-9 : Int32)) → (vp_in v2 6 ∧ (((mu 9 v0 v2.toNatClampNeg) = v2 → (Ev E d mi_11 4 [some (.inr (.inr (some (0, v0)))), some (.inl (v1 ||| (0 : Int32))), some (.inl (v2 + (1 : Int32)))] [] (mem E mu la) (qI E Q))) ∧ (¬ ((mu 9 v0 v2.toNatClampNeg) = v2) → (Ev E d mi_11 4 [some (.inr (.inr (some (0, v0)))), some (.inl (v1 ||| ((1 : Int32) <<< (v2 &&& 31)))), some (.inl (v2 + (1 : Int32)))] [] (mem E mu la) (qI E Q)))))))))) : Ev E d mi_11 4 [some (.inr (.inr (some (0, v0)))), some (.inl v1), some (.inl v2)] [] (mem E mu la) (qI E Q) := by
  refine Ev.steps 4 (ip' := 8) (ls' := [some (.inr (.inr (some (0, v0)))), some (.inl v1), some (.inl v2)]) (st' := [.inl (mu 1 0 0), .inl v2]) (M' := mem E mu la) rfl ?_
  refine Ev.br (c := (mu 1 0 0) ≤ v2) (s1 := (31, [some (.inr (.inr (some (0, v0)))), some (.inl v1), some (.inl v2)], [], mem E mu la)) (s2 := (9, [some (.inr (.inr (some (0, v0)))), some (.inl v1), some (.inl v2)], [], mem E mu la)) rfl rfl rfl rfl (fun hc => ?_) (fun hc => ?_)
  · have h := h.1 hc
    dsimp only
    refine Ev.steps 1 (ip' := 32) (ls' := [some (.inr (.inr (some (0, v0)))), some (.inl v1), some (.inl v2)]) (st' := [.inl v1]) (M' := mem E mu la) rfl ?_
    exact Ev.ret rfl rfl ⟨_, _, _, rfl, rfl, h⟩
  · have h := h.2 hc
    dsimp only
    refine Ev.steps 4 (ip' := 13) (ls' := [some (.inr (.inr (some (0, v0)))), some (.inl v1), some (.inl v2)]) (st' := [.inl v2, .inr (.inr (some (9, v0))), .inl v1]) (M' := mem E mu la) rfl ?_
    refine Ev.ial rfl rfl (by decide) h.1 ?_
    have h := h.2
    refine Ev.steps 1 (ip' := 15) (ls' := [some (.inr (.inr (some (0, v0)))), some (.inl v1), some (.inl v2)]) (st' := [.inl (-9 : Int32), .inl (mu 9 v0 v2.toNatClampNeg), .inl v1]) (M' := mem E mu la) rfl ?_
    refine Ev.br (c := (mu 9 v0 v2.toNatClampNeg) = (-9 : Int32)) (s1 := (26, [some (.inr (.inr (some (0, v0)))), some (.inl v1), some (.inl v2)], [.inl v1], mem E mu la)) (s2 := (16, [some (.inr (.inr (some (0, v0)))), some (.inl v1), some (.inl v2)], [.inl v1], mem E mu la)) rfl rfl rfl rfl (fun hc => ?_) (fun hc => ?_)
    · have h := h.1 hc
      dsimp only
      refine Ev.steps 5 (ip' := 4) (ls' := [some (.inr (.inr (some (0, v0)))), some (.inl (v1 ||| (0 : Int32))), some (.inl (v2 + (1 : Int32)))]) (st' := []) (M' := mem E mu la) rfl ?_
      exact h
    · have h := h.2 hc
      dsimp only
      refine Ev.steps 3 (ip' := 19) (ls' := [some (.inr (.inr (some (0, v0)))), some (.inl v1), some (.inl v2)]) (st' := [.inl v2, .inr (.inr (some (9, v0))), .inl v1]) (M' := mem E mu la) rfl ?_
      refine Ev.ial rfl rfl (by decide) h.1 ?_
      have h := h.2
      refine Ev.steps 1 (ip' := 21) (ls' := [some (.inr (.inr (some (0, v0)))), some (.inl v1), some (.inl v2)]) (st' := [.inl v2, .inl (mu 9 v0 v2.toNatClampNeg), .inl v1]) (M' := mem E mu la) rfl ?_
      refine Ev.br (c := (mu 9 v0 v2.toNatClampNeg) = v2) (s1 := (26, [some (.inr (.inr (some (0, v0)))), some (.inl v1), some (.inl v2)], [.inl v1], mem E mu la)) (s2 := (22, [some (.inr (.inr (some (0, v0)))), some (.inl v1), some (.inl v2)], [.inl v1], mem E mu la)) rfl rfl rfl rfl (fun hc => ?_) (fun hc => ?_)
      · have h := h.1 hc
        dsimp only
        refine Ev.steps 5 (ip' := 4) (ls' := [some (.inr (.inr (some (0, v0)))), some (.inl (v1 ||| (0 : Int32))), some (.inl (v2 + (1 : Int32)))]) (st' := []) (M' := mem E mu la) rfl ?_
        exact h
      · have h := h.2 hc
        dsimp only
        refine Ev.steps 8 (ip' := 4) (ls' := [some (.inr (.inr (some (0, v0)))), some (.inl (v1 ||| ((1 : Int32) <<< (v2 &&& 31)))), some (.inl (v2 + (1 : Int32)))]) (st' := []) (M' := mem E mu la) rfl ?_
        exact h
set_option maxRecDepth 100000 in
/-- AnnCups.Counter.howManyWrong()I -/
theorem vc_X0_howManyWrong {E : mEv} {d : Nat} {c : Nat} {mu : fMu} {la : fLa} {Q : Int32 → fMu → fLa → Prop} (h : FnI E d mi_11 [.inr (.inr (some (0, c)))] mu la (fun x1 mu2 la3 => FnI E d mi_227 [.inl x1] mu2 la3 (fun x4 mu5 la6 => Q x4 mu5 la6))) : FnI E (d + 1) mi_12 [.inr (.inr (some (0, c)))] mu la Q := by
  unfold FnI
  show Ev E (d + 1) mi_12 0 [some (.inr (.inr (some (0, c))))] [] (mem E mu la) (qI E Q)
  refine Ev.steps 1 (ip' := 1) (ls' := [some (.inr (.inr (some (0, c))))]) (st' := [.inr (.inr (some (0, c)))]) (M' := mem E mu la) rfl ?_
  refine Ev.ci (J := mi_11) (as := [.inr (.inr (some (0, c)))]) (rest := []) rfl rfl rfl (Nat.le_of_ble_eq_true rfl) h (fun x1 mu2 la3 h => ?_)
  refine Ev.ci (J := mi_227) (as := [.inl x1]) (rest := []) rfl rfl rfl (Nat.le_of_ble_eq_true rfl) h (fun x4 mu5 la6 h => ?_)
  exact Ev.ret rfl rfl ⟨_, _, _, rfl, rfl, h⟩
set_option maxRecDepth 100000 in
/-- AnnCups.Cups.has(I)Z -/
theorem vc_X1_has {E : mEv} {d : Nat} {c : Nat} (a0 : Int32) {mu : fMu} {la : fLa} {Q : Int32 → fMu → fLa → Prop} (h : (a0 < 0 → (Q (0 : Int32) mu la)) ∧ (¬ (a0 < 0) → (((mu 1 c 0) ≤ a0 → (Q (0 : Int32) mu la)) ∧ (¬ ((mu 1 c 0) ≤ a0) → (Q (1 : Int32) mu la))))) : FnI E d mi_14 [.inr (.inr (some (1, c))), .inl a0] mu la Q := by
  unfold FnI
  show Ev E d mi_14 0 [some (.inr (.inr (some (1, c)))), some (.inl a0)] [] (mem E mu la) (qI E Q)
  refine Ev.steps 1 (ip' := 1) (ls' := [some (.inr (.inr (some (1, c)))), some (.inl a0)]) (st' := [.inl a0]) (M' := mem E mu la) rfl ?_
  refine Ev.br (c := a0 < 0) (s1 := (8, [some (.inr (.inr (some (1, c)))), some (.inl a0)], [], mem E mu la)) (s2 := (2, [some (.inr (.inr (some (1, c)))), some (.inl a0)], [], mem E mu la)) rfl rfl rfl rfl (fun hc => ?_) (fun hc => ?_)
  · have h := h.1 hc
    dsimp only
    refine Ev.steps 1 (ip' := 9) (ls' := [some (.inr (.inr (some (1, c)))), some (.inl a0)]) (st' := [.inl (0 : Int32)]) (M' := mem E mu la) rfl ?_
    exact Ev.retZ rfl rfl (Or.inl rfl) ⟨_, _, _, rfl, rfl, h⟩
  · have h := h.2 hc
    dsimp only
    refine Ev.steps 3 (ip' := 5) (ls' := [some (.inr (.inr (some (1, c)))), some (.inl a0)]) (st' := [.inl (mu 1 c 0), .inl a0]) (M' := mem E mu la) rfl ?_
    refine Ev.br (c := (mu 1 c 0) ≤ a0) (s1 := (8, [some (.inr (.inr (some (1, c)))), some (.inl a0)], [], mem E mu la)) (s2 := (6, [some (.inr (.inr (some (1, c)))), some (.inl a0)], [], mem E mu la)) rfl rfl rfl rfl (fun hc => ?_) (fun hc => ?_)
    · have h := h.1 hc
      dsimp only
      refine Ev.steps 1 (ip' := 9) (ls' := [some (.inr (.inr (some (1, c)))), some (.inl a0)]) (st' := [.inl (0 : Int32)]) (M' := mem E mu la) rfl ?_
      exact Ev.retZ rfl rfl (Or.inl rfl) ⟨_, _, _, rfl, rfl, h⟩
    · have h := h.2 hc
      dsimp only
      refine Ev.steps 2 (ip' := 9) (ls' := [some (.inr (.inr (some (1, c)))), some (.inl a0)]) (st' := [.inl (1 : Int32)]) (M' := mem E mu la) rfl ?_
      exact Ev.retZ rfl rfl (Or.inr rfl) ⟨_, _, _, rfl, rfl, h⟩
set_option maxRecDepth 100000 in
/-- AnnCups.Cups.isThere(I)Z -/
theorem vc_X1_isThere {E : mEv} {d : Nat} {c : Nat} (a0 : Int32) {mu : fMu} {la : fLa} {Q : Int32 → fMu → fLa → Prop} (h : (((mu 1 c 2) &&& ((1 : Int32) <<< (a0 &&& 31))) = 0 → (Q (0 : Int32) mu la)) ∧ (¬ (((mu 1 c 2) &&& ((1 : Int32) <<< (a0 &&& 31))) = 0) → (Q (1 : Int32) mu la))) : FnI E d mi_15 [.inr (.inr (some (1, c))), .inl a0] mu la Q := by
  unfold FnI
  show Ev E d mi_15 0 [some (.inr (.inr (some (1, c)))), some (.inl a0)] [] (mem E mu la) (qI E Q)
  refine Ev.steps 6 (ip' := 6) (ls' := [some (.inr (.inr (some (1, c)))), some (.inl a0)]) (st' := [.inl ((mu 1 c 2) &&& ((1 : Int32) <<< (a0 &&& 31)))]) (M' := mem E mu la) rfl ?_
  refine Ev.br (c := ((mu 1 c 2) &&& ((1 : Int32) <<< (a0 &&& 31))) = 0) (s1 := (9, [some (.inr (.inr (some (1, c)))), some (.inl a0)], [], mem E mu la)) (s2 := (7, [some (.inr (.inr (some (1, c)))), some (.inl a0)], [], mem E mu la)) rfl rfl rfl rfl (fun hc => ?_) (fun hc => ?_)
  · have h := h.1 hc
    dsimp only
    refine Ev.steps 1 (ip' := 10) (ls' := [some (.inr (.inr (some (1, c)))), some (.inl a0)]) (st' := [.inl (0 : Int32)]) (M' := mem E mu la) rfl ?_
    exact Ev.retZ rfl rfl (Or.inl rfl) ⟨_, _, _, rfl, rfl, h⟩
  · have h := h.2 hc
    dsimp only
    refine Ev.steps 2 (ip' := 10) (ls' := [some (.inr (.inr (some (1, c)))), some (.inl a0)]) (st' := [.inl (1 : Int32)]) (M' := mem E mu la) rfl ?_
    exact Ev.retZ rfl rfl (Or.inr rfl) ⟨_, _, _, rfl, rfl, h⟩
set_option maxRecDepth 100000 in
/-- AnnCups.Cups.everyOne()I -/
theorem vc_X1_everyOne {E : mEv} {d : Nat} {c : Nat} {mu : fMu} {la : fLa} {Q : Int32 → fMu → fLa → Prop} (h : Q (((1 : Int32) <<< ((mu 1 c 0) &&& 31)) - (1 : Int32)) mu la) : FnI E d mi_16 [.inr (.inr (some (1, c)))] mu la Q := by
  unfold FnI
  show Ev E d mi_16 0 [some (.inr (.inr (some (1, c))))] [] (mem E mu la) (qI E Q)
  refine Ev.steps 6 (ip' := 6) (ls' := [some (.inr (.inr (some (1, c))))]) (st' := [.inl (((1 : Int32) <<< ((mu 1 c 0) &&& 31)) - (1 : Int32))]) (M' := mem E mu la) rfl ?_
  exact Ev.ret rfl rfl ⟨_, _, _, rfl, rfl, h⟩
set_option maxRecDepth 100000 in
/-- AnnCups.Cups.timeBehind(II)I -/
theorem vc_X1_timeBehind {E : mEv} {d : Nat} {c : Nat} (a0 : Int32) (a1 : Int32) {mu : fMu} {la : fLa} {Q : Int32 → fMu → fLa → Prop} (h : FnI E d mi_14 [.inr (.inr (some (1, c))), .inl a1] mu la (fun x1 mu2 la3 => (x1 = 0 → (((0 : Int32) = 0 → (vp_in a0 6 ∧ (Q (mu2 16 c a0.toNatClampNeg) mu2 la3))) ∧ (¬ ((0 : Int32) = 0) → (vp_in a0 6 ∧ (Q (mu2 17 c a0.toNatClampNeg) mu2 la3))))) ∧ (¬ (x1 = 0) → (vp_in a1 6 ∧ (vp_in a0 6 ∧ ((¬ (mu2 12 c a1.toNatClampNeg) = (mu2 12 c a0.toNatClampNeg) → (((0 : Int32) = 0 → (vp_in a0 6 ∧ (Q (mu2 16 c a0.toNatClampNeg) mu2 la3))) ∧ (¬ ((0 : Int32) = 0) → (vp_in a0 6 ∧ (Q (mu2 17 c a0.toNatClampNeg) mu2 la3))))) ∧ (¬ (¬ (mu2 12 c a1.toNatClampNeg) = (mu2 12 c a0.toNatClampNeg)) → (((1 : Int32) = 0 → (vp_in a0 6 ∧ (Q (mu2 16 c a0.toNatClampNeg) mu2 la3))) ∧ (¬ ((1 : Int32) = 0) → (vp_in a0 6 ∧ (Q (mu2 17 c a0.toNatClampNeg) mu2 la3))))))))))) : FnI E (d + 1) mi_17 [.inr (.inr (some (1, c))), .inl a0, .inl a1] mu la Q := by
  unfold FnI
  show Ev E (d + 1) mi_17 0 [some (.inr (.inr (some (1, c)))), some (.inl a0), some (.inl a1), none] [] (mem E mu la) (qI E Q)
  refine Ev.steps 2 (ip' := 2) (ls' := [some (.inr (.inr (some (1, c)))), some (.inl a0), some (.inl a1), none]) (st' := [.inl a1, .inr (.inr (some (1, c)))]) (M' := mem E mu la) rfl ?_
  refine Ev.ci (J := mi_14) (as := [.inr (.inr (some (1, c))), .inl a1]) (rest := []) rfl rfl rfl (Nat.le_of_ble_eq_true rfl) h (fun x1 mu2 la3 h => ?_)
  refine Ev.br (c := x1 = 0) (s1 := (15, [some (.inr (.inr (some (1, c)))), some (.inl a0), some (.inl a1), none], [], mem E mu2 la3)) (s2 := (4, [some (.inr (.inr (some (1, c)))), some (.inl a0), some (.inl a1), none], [], mem E mu2 la3)) rfl rfl rfl rfl (fun hc => ?_) (fun hc => ?_)
  · have h := h.1 hc
    dsimp only
    refine Ev.steps 3 (ip' := 18) (ls' := [some (.inr (.inr (some (1, c)))), some (.inl a0), some (.inl a1), some (.inl (0 : Int32))]) (st' := [.inl (0 : Int32)]) (M' := mem E mu2 la3) rfl ?_
    refine Ev.br (c := (0 : Int32) = 0) (s1 := (24, [some (.inr (.inr (some (1, c)))), some (.inl a0), some (.inl a1), some (.inl (0 : Int32))], [], mem E mu2 la3)) (s2 := (19, [some (.inr (.inr (some (1, c)))), some (.inl a0), some (.inl a1), some (.inl (0 : Int32))], [], mem E mu2 la3)) rfl rfl rfl rfl (fun hc => ?_) (fun hc => ?_)
    · have h := h.1 hc
      dsimp only
      refine Ev.steps 3 (ip' := 27) (ls' := [some (.inr (.inr (some (1, c)))), some (.inl a0), some (.inl a1), some (.inl (0 : Int32))]) (st' := [.inl a0, .inr (.inr (some (16, c)))]) (M' := mem E mu2 la3) rfl ?_
      refine Ev.ial rfl rfl (by decide) h.1 ?_
      have h := h.2
      exact Ev.ret rfl rfl ⟨_, _, _, rfl, rfl, h⟩
    · have h := h.2 hc
      dsimp only
      refine Ev.steps 3 (ip' := 22) (ls' := [some (.inr (.inr (some (1, c)))), some (.inl a0), some (.inl a1), some (.inl (0 : Int32))]) (st' := [.inl a0, .inr (.inr (some (17, c)))]) (M' := mem E mu2 la3) rfl ?_
      refine Ev.ial rfl rfl (by decide) h.1 ?_
      have h := h.2
      refine Ev.steps 1 (ip' := 28) (ls' := [some (.inr (.inr (some (1, c)))), some (.inl a0), some (.inl a1), some (.inl (0 : Int32))]) (st' := [.inl (mu2 17 c a0.toNatClampNeg)]) (M' := mem E mu2 la3) rfl ?_
      exact Ev.ret rfl rfl ⟨_, _, _, rfl, rfl, h⟩
  · have h := h.2 hc
    dsimp only
    refine Ev.steps 3 (ip' := 7) (ls' := [some (.inr (.inr (some (1, c)))), some (.inl a0), some (.inl a1), none]) (st' := [.inl a1, .inr (.inr (some (12, c)))]) (M' := mem E mu2 la3) rfl ?_
    refine Ev.ial rfl rfl (by decide) h.1 ?_
    have h := h.2
    refine Ev.steps 3 (ip' := 11) (ls' := [some (.inr (.inr (some (1, c)))), some (.inl a0), some (.inl a1), none]) (st' := [.inl a0, .inr (.inr (some (12, c))), .inl (mu2 12 c a1.toNatClampNeg)]) (M' := mem E mu2 la3) rfl ?_
    refine Ev.ial rfl rfl (by decide) h.1 ?_
    have h := h.2
    refine Ev.br (c := ¬ (mu2 12 c a1.toNatClampNeg) = (mu2 12 c a0.toNatClampNeg)) (s1 := (15, [some (.inr (.inr (some (1, c)))), some (.inl a0), some (.inl a1), none], [], mem E mu2 la3)) (s2 := (13, [some (.inr (.inr (some (1, c)))), some (.inl a0), some (.inl a1), none], [], mem E mu2 la3)) rfl rfl rfl rfl (fun hc => ?_) (fun hc => ?_)
    · have h := h.1 hc
      dsimp only
      refine Ev.steps 3 (ip' := 18) (ls' := [some (.inr (.inr (some (1, c)))), some (.inl a0), some (.inl a1), some (.inl (0 : Int32))]) (st' := [.inl (0 : Int32)]) (M' := mem E mu2 la3) rfl ?_
      refine Ev.br (c := (0 : Int32) = 0) (s1 := (24, [some (.inr (.inr (some (1, c)))), some (.inl a0), some (.inl a1), some (.inl (0 : Int32))], [], mem E mu2 la3)) (s2 := (19, [some (.inr (.inr (some (1, c)))), some (.inl a0), some (.inl a1), some (.inl (0 : Int32))], [], mem E mu2 la3)) rfl rfl rfl rfl (fun hc => ?_) (fun hc => ?_)
      · have h := h.1 hc
        dsimp only
        refine Ev.steps 3 (ip' := 27) (ls' := [some (.inr (.inr (some (1, c)))), some (.inl a0), some (.inl a1), some (.inl (0 : Int32))]) (st' := [.inl a0, .inr (.inr (some (16, c)))]) (M' := mem E mu2 la3) rfl ?_
        refine Ev.ial rfl rfl (by decide) h.1 ?_
        have h := h.2
        exact Ev.ret rfl rfl ⟨_, _, _, rfl, rfl, h⟩
      · have h := h.2 hc
        dsimp only
        refine Ev.steps 3 (ip' := 22) (ls' := [some (.inr (.inr (some (1, c)))), some (.inl a0), some (.inl a1), some (.inl (0 : Int32))]) (st' := [.inl a0, .inr (.inr (some (17, c)))]) (M' := mem E mu2 la3) rfl ?_
        refine Ev.ial rfl rfl (by decide) h.1 ?_
        have h := h.2
        refine Ev.steps 1 (ip' := 28) (ls' := [some (.inr (.inr (some (1, c)))), some (.inl a0), some (.inl a1), some (.inl (0 : Int32))]) (st' := [.inl (mu2 17 c a0.toNatClampNeg)]) (M' := mem E mu2 la3) rfl ?_
        exact Ev.ret rfl rfl ⟨_, _, _, rfl, rfl, h⟩
    · have h := h.2 hc
      dsimp only
      refine Ev.steps 4 (ip' := 18) (ls' := [some (.inr (.inr (some (1, c)))), some (.inl a0), some (.inl a1), some (.inl (1 : Int32))]) (st' := [.inl (1 : Int32)]) (M' := mem E mu2 la3) rfl ?_
      refine Ev.br (c := (1 : Int32) = 0) (s1 := (24, [some (.inr (.inr (some (1, c)))), some (.inl a0), some (.inl a1), some (.inl (1 : Int32))], [], mem E mu2 la3)) (s2 := (19, [some (.inr (.inr (some (1, c)))), some (.inl a0), some (.inl a1), some (.inl (1 : Int32))], [], mem E mu2 la3)) rfl rfl rfl rfl (fun hc => ?_) (fun hc => ?_)
      · have h := h.1 hc
        dsimp only
        refine Ev.steps 3 (ip' := 27) (ls' := [some (.inr (.inr (some (1, c)))), some (.inl a0), some (.inl a1), some (.inl (1 : Int32))]) (st' := [.inl a0, .inr (.inr (some (16, c)))]) (M' := mem E mu2 la3) rfl ?_
        refine Ev.ial rfl rfl (by decide) h.1 ?_
        have h := h.2
        exact Ev.ret rfl rfl ⟨_, _, _, rfl, rfl, h⟩
      · have h := h.2 hc
        dsimp only
        refine Ev.steps 3 (ip' := 22) (ls' := [some (.inr (.inr (some (1, c)))), some (.inl a0), some (.inl a1), some (.inl (1 : Int32))]) (st' := [.inl a0, .inr (.inr (some (17, c)))]) (M' := mem E mu2 la3) rfl ?_
        refine Ev.ial rfl rfl (by decide) h.1 ?_
        have h := h.2
        refine Ev.steps 1 (ip' := 28) (ls' := [some (.inr (.inr (some (1, c)))), some (.inl a0), some (.inl a1), some (.inl (1 : Int32))]) (st' := [.inl (mu2 17 c a0.toNatClampNeg)]) (M' := mem E mu2 la3) rfl ?_
        exact Ev.ret rfl rfl ⟨_, _, _, rfl, rfl, h⟩
set_option maxRecDepth 100000 in
/-- AnnCups.Cups.taker(II)I -/
theorem vc_X1_taker {E : mEv} {d : Nat} {c : Nat} (a0 : Int32) (a1 : Int32) {mu : fMu} {la : fLa} {Q : Int32 → fMu → fLa → Prop} (h : vp_in a0 6 ∧ (FnI E d mi_103 [.inl ((mu 15 c a0.toNatClampNeg) &&& (a1 ^^^ (-1 : Int32)))] mu la (fun x1 mu2 la3 => Q x1 mu2 la3))) : FnI E (d + 1) mi_18 [.inr (.inr (some (1, c))), .inl a0, .inl a1] mu la Q := by
  unfold FnI
  show Ev E (d + 1) mi_18 0 [some (.inr (.inr (some (1, c)))), some (.inl a0), some (.inl a1)] [] (mem E mu la) (qI E Q)
  refine Ev.steps 3 (ip' := 3) (ls' := [some (.inr (.inr (some (1, c)))), some (.inl a0), some (.inl a1)]) (st' := [.inl a0, .inr (.inr (some (15, c)))]) (M' := mem E mu la) rfl ?_
  refine Ev.ial rfl rfl (by decide) h.1 ?_
  have h := h.2
  refine Ev.steps 4 (ip' := 8) (ls' := [some (.inr (.inr (some (1, c)))), some (.inl a0), some (.inl a1)]) (st' := [.inl ((mu 15 c a0.toNatClampNeg) &&& (a1 ^^^ (-1 : Int32)))]) (M' := mem E mu la) rfl ?_
  refine Ev.ci (J := mi_103) (as := [.inl ((mu 15 c a0.toNatClampNeg) &&& (a1 ^^^ (-1 : Int32)))]) (rest := []) rfl rfl rfl (Nat.le_of_ble_eq_true rfl) h (fun x1 mu2 la3 h => ?_)
  exact Ev.ret rfl rfl ⟨_, _, _, rfl, rfl, h⟩
set_option maxRecDepth 100000 in
/-- AnnCups.Cups.whoHears(II)I -/
theorem vc_X1_whoHears {E : mEv} {d : Nat} {c : Nat} (a0 : Int32) (a1 : Int32) {mu : fMu} {la : fLa} {Q : Int32 → fMu → fLa → Prop} (h : Ev E (d + 1) mi_19 4 [some (.inr (.inr (some (1, c)))), some (.inl a0), some (.inl a1), some (.inl (0 : Int32)), some (.inl (0 : Int32))] [] (mem E mu la) (qI E Q)) : FnI E (d + 1) mi_19 [.inr (.inr (some (1, c))), .inl a0, .inl a1] mu la Q := by
  unfold FnI
  show Ev E (d + 1) mi_19 0 [some (.inr (.inr (some (1, c)))), some (.inl a0), some (.inl a1), none, none] [] (mem E mu la) (qI E Q)
  refine Ev.steps 4 (ip' := 4) (ls' := [some (.inr (.inr (some (1, c)))), some (.inl a0), some (.inl a1), some (.inl (0 : Int32)), some (.inl (0 : Int32))]) (st' := []) (M' := mem E mu la) rfl ?_
  exact h
set_option maxRecDepth 100000 in
theorem vc_X1_whoHears_4 {E : mEv} {d : Nat}  (v0 : Nat) (v1 : Int32) (v2 : Int32) (v3 : Int32) (v4 : Int32) {mu : fMu} {la : fLa} {Q : Int32 → fMu → fLa → Prop} (h : ((mu 1 v0 0) ≤ v4 → (Q v3 mu la)) ∧ (¬ ((mu 1 v0 0) ≤ v4) → (FnI E d mi_15 [.inr (.inr (some (1, v0))), .inl v4] mu la (fun x1 mu2 la3 => (x1 = 0 → (Ev E (d + 1) mi_19 4 [some (.inr (.inr (some (1, v0)))), some (.inl v1), some (.inl v2), some (.inl v3), some (.inl (v4 + (1 : Int32)))] [] (mem E mu2 la3) (qI E Q))) ∧ (¬ (x1 = 0) → (vp_in v4 6 ∧ (FnI E d mi_102 [.inl (mu2 13 v0 v4.toNatClampNeg), .inl v1, .inl v2] mu2 la3 (fun x4 mu5 la6 => (x4 = 0 → (Ev E (d + 1) mi_19 4 [some (.inr (.inr (some (1, v0)))), some (.inl v1), some (.inl v2), some (.inl v3), some (.inl (v4 + (1 : Int32)))] [] (mem E mu5 la6) (qI E Q))) ∧ (¬ (x4 = 0) → (Ev E (d + 1) mi_19 4 [some (.inr (.inr (some (1, v0)))), some (.inl v1), some (.inl v2), some (.inl (v3 ||| ((1 : Int32) <<< (v4 &&& 31)))), some (.inl (v4 + (1 : Int32)))] [] (mem E mu5 la6) (qI E Q))))))))))) : Ev E (d + 1) mi_19 4 [some (.inr (.inr (some (1, v0)))), some (.inl v1), some (.inl v2), some (.inl v3), some (.inl v4)] [] (mem E mu la) (qI E Q) := by
  refine Ev.steps 3 (ip' := 7) (ls' := [some (.inr (.inr (some (1, v0)))), some (.inl v1), some (.inl v2), some (.inl v3), some (.inl v4)]) (st' := [.inl (mu 1 v0 0), .inl v4]) (M' := mem E mu la) rfl ?_
  refine Ev.br (c := (mu 1 v0 0) ≤ v4) (s1 := (28, [some (.inr (.inr (some (1, v0)))), some (.inl v1), some (.inl v2), some (.inl v3), some (.inl v4)], [], mem E mu la)) (s2 := (8, [some (.inr (.inr (some (1, v0)))), some (.inl v1), some (.inl v2), some (.inl v3), some (.inl v4)], [], mem E mu la)) rfl rfl rfl rfl (fun hc => ?_) (fun hc => ?_)
  · have h := h.1 hc
    dsimp only
    refine Ev.steps 1 (ip' := 29) (ls' := [some (.inr (.inr (some (1, v0)))), some (.inl v1), some (.inl v2), some (.inl v3), some (.inl v4)]) (st' := [.inl v3]) (M' := mem E mu la) rfl ?_
    exact Ev.ret rfl rfl ⟨_, _, _, rfl, rfl, h⟩
  · have h := h.2 hc
    dsimp only
    refine Ev.steps 2 (ip' := 10) (ls' := [some (.inr (.inr (some (1, v0)))), some (.inl v1), some (.inl v2), some (.inl v3), some (.inl v4)]) (st' := [.inl v4, .inr (.inr (some (1, v0)))]) (M' := mem E mu la) rfl ?_
    refine Ev.ci (J := mi_15) (as := [.inr (.inr (some (1, v0))), .inl v4]) (rest := []) rfl rfl rfl (Nat.le_of_ble_eq_true rfl) h (fun x1 mu2 la3 h => ?_)
    refine Ev.br (c := x1 = 0) (s1 := (26, [some (.inr (.inr (some (1, v0)))), some (.inl v1), some (.inl v2), some (.inl v3), some (.inl v4)], [], mem E mu2 la3)) (s2 := (12, [some (.inr (.inr (some (1, v0)))), some (.inl v1), some (.inl v2), some (.inl v3), some (.inl v4)], [], mem E mu2 la3)) rfl rfl rfl rfl (fun hc => ?_) (fun hc => ?_)
    · have h := h.1 hc
      dsimp only
      refine Ev.steps 2 (ip' := 4) (ls' := [some (.inr (.inr (some (1, v0)))), some (.inl v1), some (.inl v2), some (.inl v3), some (.inl (v4 + (1 : Int32)))]) (st' := []) (M' := mem E mu2 la3) rfl ?_
      exact h
    · have h := h.2 hc
      dsimp only
      refine Ev.steps 3 (ip' := 15) (ls' := [some (.inr (.inr (some (1, v0)))), some (.inl v1), some (.inl v2), some (.inl v3), some (.inl v4)]) (st' := [.inl v4, .inr (.inr (some (13, v0)))]) (M' := mem E mu2 la3) rfl ?_
      refine Ev.ial rfl rfl (by decide) h.1 ?_
      have h := h.2
      refine Ev.steps 2 (ip' := 18) (ls' := [some (.inr (.inr (some (1, v0)))), some (.inl v1), some (.inl v2), some (.inl v3), some (.inl v4)]) (st' := [.inl v2, .inl v1, .inl (mu2 13 v0 v4.toNatClampNeg)]) (M' := mem E mu2 la3) rfl ?_
      refine Ev.ci (J := mi_102) (as := [.inl (mu2 13 v0 v4.toNatClampNeg), .inl v1, .inl v2]) (rest := []) rfl rfl rfl (Nat.le_of_ble_eq_true rfl) h (fun x4 mu5 la6 h => ?_)
      refine Ev.br (c := x4 = 0) (s1 := (26, [some (.inr (.inr (some (1, v0)))), some (.inl v1), some (.inl v2), some (.inl v3), some (.inl v4)], [], mem E mu5 la6)) (s2 := (20, [some (.inr (.inr (some (1, v0)))), some (.inl v1), some (.inl v2), some (.inl v3), some (.inl v4)], [], mem E mu5 la6)) rfl rfl rfl rfl (fun hc => ?_) (fun hc => ?_)
      · have h := h.1 hc
        dsimp only
        refine Ev.steps 2 (ip' := 4) (ls' := [some (.inr (.inr (some (1, v0)))), some (.inl v1), some (.inl v2), some (.inl v3), some (.inl (v4 + (1 : Int32)))]) (st' := []) (M' := mem E mu5 la6) rfl ?_
        exact h
      · have h := h.2 hc
        dsimp only
        refine Ev.steps 8 (ip' := 4) (ls' := [some (.inr (.inr (some (1, v0)))), some (.inl v1), some (.inl v2), some (.inl (v3 ||| ((1 : Int32) <<< (v4 &&& 31)))), some (.inl (v4 + (1 : Int32)))]) (st' := []) (M' := mem E mu5 la6) rfl ?_
        exact h
set_option maxRecDepth 100000 in
/-- AnnCups.Cups.howManyOf(I)I -/
theorem vc_X1_howManyOf {E : mEv} {d : Nat} {c : Nat} (a0 : Int32) {mu : fMu} {la : fLa} {Q : Int32 → fMu → fLa → Prop} (h : Ev E (d + 1) mi_20 4 [some (.inr (.inr (some (1, c)))), some (.inl a0), some (.inl (0 : Int32)), some (.inl (0 : Int32))] [] (mem E mu la) (qI E Q)) : FnI E (d + 1) mi_20 [.inr (.inr (some (1, c))), .inl a0] mu la Q := by
  unfold FnI
  show Ev E (d + 1) mi_20 0 [some (.inr (.inr (some (1, c)))), some (.inl a0), none, none] [] (mem E mu la) (qI E Q)
  refine Ev.steps 4 (ip' := 4) (ls' := [some (.inr (.inr (some (1, c)))), some (.inl a0), some (.inl (0 : Int32)), some (.inl (0 : Int32))]) (st' := []) (M' := mem E mu la) rfl ?_
  exact h
set_option maxRecDepth 100000 in
theorem vc_X1_howManyOf_4 {E : mEv} {d : Nat}  (v0 : Nat) (v1 : Int32) (v2 : Int32) (v3 : Int32) {mu : fMu} {la : fLa} {Q : Int32 → fMu → fLa → Prop} (h : ((mu 1 v0 0) ≤ v3 → (Q v2 mu la)) ∧ (¬ ((mu 1 v0 0) ≤ v3) → (vp_in v3 6 ∧ (FnI E d mi_105 [.inl (mu 10 v0 v3.toNatClampNeg), .inl v1] mu la (fun x1 mu2 la3 => (x1 = 0 → (Ev E (d + 1) mi_20 4 [some (.inr (.inr (some (1, v0)))), some (.inl v1), some (.inl (v2 + (0 : Int32))), some (.inl (v3 + (1 : Int32)))] [] (mem E mu2 la3) (qI E Q))) ∧ (¬ (x1 = 0) → (Ev E (d + 1) mi_20 4 [some (.inr (.inr (some (1, v0)))), some (.inl v1), some (.inl (v2 + (1 : Int32))), some (.inl (v3 + (1 : Int32)))] [] (mem E mu2 la3) (qI E Q)))))))) : Ev E (d + 1) mi_20 4 [some (.inr (.inr (some (1, v0)))), some (.inl v1), some (.inl v2), some (.inl v3)] [] (mem E mu la) (qI E Q) := by
  refine Ev.steps 3 (ip' := 7) (ls' := [some (.inr (.inr (some (1, v0)))), some (.inl v1), some (.inl v2), some (.inl v3)]) (st' := [.inl (mu 1 v0 0), .inl v3]) (M' := mem E mu la) rfl ?_
  refine Ev.br (c := (mu 1 v0 0) ≤ v3) (s1 := (23, [some (.inr (.inr (some (1, v0)))), some (.inl v1), some (.inl v2), some (.inl v3)], [], mem E mu la)) (s2 := (8, [some (.inr (.inr (some (1, v0)))), some (.inl v1), some (.inl v2), some (.inl v3)], [], mem E mu la)) rfl rfl rfl rfl (fun hc => ?_) (fun hc => ?_)
  · have h := h.1 hc
    dsimp only
    refine Ev.steps 1 (ip' := 24) (ls' := [some (.inr (.inr (some (1, v0)))), some (.inl v1), some (.inl v2), some (.inl v3)]) (st' := [.inl v2]) (M' := mem E mu la) rfl ?_
    exact Ev.ret rfl rfl ⟨_, _, _, rfl, rfl, h⟩
  · have h := h.2 hc
    dsimp only
    refine Ev.steps 4 (ip' := 12) (ls' := [some (.inr (.inr (some (1, v0)))), some (.inl v1), some (.inl v2), some (.inl v3)]) (st' := [.inl v3, .inr (.inr (some (10, v0))), .inl v2]) (M' := mem E mu la) rfl ?_
    refine Ev.ial rfl rfl (by decide) h.1 ?_
    have h := h.2
    refine Ev.steps 1 (ip' := 14) (ls' := [some (.inr (.inr (some (1, v0)))), some (.inl v1), some (.inl v2), some (.inl v3)]) (st' := [.inl v1, .inl (mu 10 v0 v3.toNatClampNeg), .inl v2]) (M' := mem E mu la) rfl ?_
    refine Ev.ci (J := mi_105) (as := [.inl (mu 10 v0 v3.toNatClampNeg), .inl v1]) (rest := [.inl v2]) rfl rfl rfl (Nat.le_of_ble_eq_true rfl) h (fun x1 mu2 la3 h => ?_)
    refine Ev.br (c := x1 = 0) (s1 := (18, [some (.inr (.inr (some (1, v0)))), some (.inl v1), some (.inl v2), some (.inl v3)], [.inl v2], mem E mu2 la3)) (s2 := (16, [some (.inr (.inr (some (1, v0)))), some (.inl v1), some (.inl v2), some (.inl v3)], [.inl v2], mem E mu2 la3)) rfl rfl rfl rfl (fun hc => ?_) (fun hc => ?_)
    · have h := h.1 hc
      dsimp only
      refine Ev.steps 5 (ip' := 4) (ls' := [some (.inr (.inr (some (1, v0)))), some (.inl v1), some (.inl (v2 + (0 : Int32))), some (.inl (v3 + (1 : Int32)))]) (st' := []) (M' := mem E mu2 la3) rfl ?_
      exact h
    · have h := h.2 hc
      dsimp only
      refine Ev.steps 6 (ip' := 4) (ls' := [some (.inr (.inr (some (1, v0)))), some (.inl v1), some (.inl (v2 + (1 : Int32))), some (.inl (v3 + (1 : Int32)))]) (st' := []) (M' := mem E mu2 la3) rfl ?_
      exact h
set_option maxRecDepth 100000 in
/-- AnnCups.Cups.settle()V -/
theorem vc_X1_settle {E : mEv} {d : Nat} {c : Nat} {mu : fMu} {la : fLa} {Q : fMu → fLa → Prop} (h : ∀ mu1 : fMu, mu1 = up3 mu 1 c 2 (0 : Int32) → (Ev E (d + 1) mi_21 5 [some (.inr (.inr (some (1, c)))), some (.inl (0 : Int32))] [] (mem E mu1 la) (qV E Q))) : FnV E (d + 1) mi_21 [.inr (.inr (some (1, c)))] mu la Q := by
  unfold FnV
  show Ev E (d + 1) mi_21 0 [some (.inr (.inr (some (1, c)))), none] [] (mem E mu la) (qV E Q)
  refine Ev.steps 3 (ip' := 3) (ls' := [some (.inr (.inr (some (1, c)))), none]) (st' := []) (M' := mem E (up3 mu 1 c 2 (0 : Int32)) la) rfl ?_
  generalize hgmu1 : up3 mu 1 c 2 (0 : Int32) = mu1
  have h := h mu1 hgmu1.symm
  refine Ev.steps 2 (ip' := 5) (ls' := [some (.inr (.inr (some (1, c)))), some (.inl (0 : Int32))]) (st' := []) (M' := mem E mu1 la) rfl ?_
  exact h
set_option maxRecDepth 100000 in
theorem vc_X1_settle_5 {E : mEv} {d : Nat}  (v0 : Nat) (v1 : Int32) {mu : fMu} {la : fLa} {Q : fMu → fLa → Prop} (h : ((mu 1 v0 0) ≤ v1 → (Ev E (d + 1) mi_21 29 [some (.inr (.inr (some (1, v0)))), some (.inl (0 : Int32))] [] (mem E mu la) (qV E Q))) ∧ (¬ ((mu 1 v0 0) ≤ v1) → (vp_in v1 6 ∧ ((¬ (mu 10 v0 v1.toNatClampNeg) = (3 : Int32) → (∀ mu2 : fMu, mu2 = up3 mu 1 v0 2 ((mu 1 v0 2) ||| ((1 : Int32) <<< (v1 &&& 31))) → (Ev E (d + 1) mi_21 5 [some (.inr (.inr (some (1, v0)))), some (.inl (v1 + (1 : Int32)))] [] (mem E mu2 la) (qV E Q)))) ∧ (¬ (¬ (mu 10 v0 v1.toNatClampNeg) = (3 : Int32)) → (∀ mu3 : fMu, mu3 = up3 mu 1 v0 2 ((mu 1 v0 2) ||| (0 : Int32)) → (Ev E (d + 1) mi_21 5 [some (.inr (.inr (some (1, v0)))), some (.inl (v1 + (1 : Int32)))] [] (mem E mu3 la) (qV E Q)))))))) : Ev E (d + 1) mi_21 5 [some (.inr (.inr (some (1, v0)))), some (.inl v1)] [] (mem E mu la) (qV E Q) := by
  refine Ev.steps 3 (ip' := 8) (ls' := [some (.inr (.inr (some (1, v0)))), some (.inl v1)]) (st' := [.inl (mu 1 v0 0), .inl v1]) (M' := mem E mu la) rfl ?_
  refine Ev.br (c := (mu 1 v0 0) ≤ v1) (s1 := (27, [some (.inr (.inr (some (1, v0)))), some (.inl v1)], [], mem E mu la)) (s2 := (9, [some (.inr (.inr (some (1, v0)))), some (.inl v1)], [], mem E mu la)) rfl rfl rfl rfl (fun hc => ?_) (fun hc => ?_)
  · have h := h.1 hc
    dsimp only
    refine Ev.steps 2 (ip' := 29) (ls' := [some (.inr (.inr (some (1, v0)))), some (.inl (0 : Int32))]) (st' := []) (M' := mem E mu la) rfl ?_
    exact h
  · have h := h.2 hc
    dsimp only
    refine Ev.steps 6 (ip' := 15) (ls' := [some (.inr (.inr (some (1, v0)))), some (.inl v1)]) (st' := [.inl v1, .inr (.inr (some (10, v0))), .inl (mu 1 v0 2), .inr (.inr (some (1, v0)))]) (M' := mem E mu la) rfl ?_
    refine Ev.ial rfl rfl (by decide) h.1 ?_
    have h := h.2
    refine Ev.steps 1 (ip' := 17) (ls' := [some (.inr (.inr (some (1, v0)))), some (.inl v1)]) (st' := [.inl (3 : Int32), .inl (mu 10 v0 v1.toNatClampNeg), .inl (mu 1 v0 2), .inr (.inr (some (1, v0)))]) (M' := mem E mu la) rfl ?_
    refine Ev.br (c := ¬ (mu 10 v0 v1.toNatClampNeg) = (3 : Int32)) (s1 := (20, [some (.inr (.inr (some (1, v0)))), some (.inl v1)], [.inl (mu 1 v0 2), .inr (.inr (some (1, v0)))], mem E mu la)) (s2 := (18, [some (.inr (.inr (some (1, v0)))), some (.inl v1)], [.inl (mu 1 v0 2), .inr (.inr (some (1, v0)))], mem E mu la)) rfl rfl rfl rfl (fun hc => ?_) (fun hc => ?_)
    · have h := h.1 hc
      dsimp only
      refine Ev.steps 5 (ip' := 25) (ls' := [some (.inr (.inr (some (1, v0)))), some (.inl v1)]) (st' := []) (M' := mem E (up3 mu 1 v0 2 ((mu 1 v0 2) ||| ((1 : Int32) <<< (v1 &&& 31)))) la) rfl ?_
      generalize hgmu2 : up3 mu 1 v0 2 ((mu 1 v0 2) ||| ((1 : Int32) <<< (v1 &&& 31))) = mu2
      have h := h mu2 hgmu2.symm
      refine Ev.steps 2 (ip' := 5) (ls' := [some (.inr (.inr (some (1, v0)))), some (.inl (v1 + (1 : Int32)))]) (st' := []) (M' := mem E mu2 la) rfl ?_
      exact h
    · have h := h.2 hc
      dsimp only
      refine Ev.steps 4 (ip' := 25) (ls' := [some (.inr (.inr (some (1, v0)))), some (.inl v1)]) (st' := []) (M' := mem E (up3 mu 1 v0 2 ((mu 1 v0 2) ||| (0 : Int32))) la) rfl ?_
      generalize hgmu3 : up3 mu 1 v0 2 ((mu 1 v0 2) ||| (0 : Int32)) = mu3
      have h := h mu3 hgmu3.symm
      refine Ev.steps 2 (ip' := 5) (ls' := [some (.inr (.inr (some (1, v0)))), some (.inl (v1 + (1 : Int32)))]) (st' := []) (M' := mem E mu3 la) rfl ?_
      exact h
set_option maxRecDepth 100000 in
theorem vc_X1_settle_29 {E : mEv} {d : Nat}  (v0 : Nat) (v1 : Int32) {mu : fMu} {la : fLa} {Q : fMu → fLa → Prop} (h : ((mu 1 v0 0) ≤ v1 → (Q mu la)) ∧ (¬ ((mu 1 v0 0) ≤ v1) → (vp_in v1 6 ∧ (FnI E d mi_19 [.inr (.inr (some (1, v0))), .inl (mu 14 v0 v1.toNatClampNeg), .inl (mu 1 v0 1)] mu la (fun x4 mu5 la6 => vp_in v1 6 ∧ ∀ mu7 : fMu, mu7 = up3 mu5 15 v0 v1.toNatClampNeg x4 → (vp_in v1 6 ∧ (vp_in v1 6 ∧ (FnI E d mi_106 [.inl (mu7 10 v0 v1.toNatClampNeg), .inl (mu7 11 v0 v1.toNatClampNeg), .inl (0 : Int32)] mu7 la6 (fun x8 mu9 la10 => vp_in v1 6 ∧ ∀ mu11 : fMu, mu11 = up3 mu9 16 v0 v1.toNatClampNeg x8 → (vp_in v1 6 ∧ (vp_in v1 6 ∧ (FnI E d mi_106 [.inl (mu11 10 v0 v1.toNatClampNeg), .inl (mu11 11 v0 v1.toNatClampNeg), .inl (1 : Int32)] mu11 la10 (fun x12 mu13 la14 => vp_in v1 6 ∧ ∀ mu15 : fMu, mu15 = up3 mu13 17 v0 v1.toNatClampNeg x12 → (Ev E (d + 1) mi_21 29 [some (.inr (.inr (some (1, v0)))), some (.inl (v1 + (1 : Int32)))] [] (mem E mu15 la14) (qV E Q))))))))))))))) : Ev E (d + 1) mi_21 29 [some (.inr (.inr (some (1, v0)))), some (.inl v1)] [] (mem E mu la) (qV E Q) := by
  refine Ev.steps 3 (ip' := 32) (ls' := [some (.inr (.inr (some (1, v0)))), some (.inl v1)]) (st' := [.inl (mu 1 v0 0), .inl v1]) (M' := mem E mu la) rfl ?_
  refine Ev.br (c := (mu 1 v0 0) ≤ v1) (s1 := (75, [some (.inr (.inr (some (1, v0)))), some (.inl v1)], [], mem E mu la)) (s2 := (33, [some (.inr (.inr (some (1, v0)))), some (.inl v1)], [], mem E mu la)) rfl rfl rfl rfl (fun hc => ?_) (fun hc => ?_)
  · have h := h.1 hc
    dsimp only
    exact Ev.ret rfl rfl ⟨_, _, rfl, rfl, h⟩
  · have h := h.2 hc
    dsimp only
    refine Ev.steps 7 (ip' := 40) (ls' := [some (.inr (.inr (some (1, v0)))), some (.inl v1)]) (st' := [.inl v1, .inr (.inr (some (14, v0))), .inr (.inr (some (1, v0))), .inl v1, .inr (.inr (some (15, v0)))]) (M' := mem E mu la) rfl ?_
    refine Ev.ial rfl rfl (by decide) h.1 ?_
    have h := h.2
    refine Ev.steps 2 (ip' := 43) (ls' := [some (.inr (.inr (some (1, v0)))), some (.inl v1)]) (st' := [.inl (mu 1 v0 1), .inl (mu 14 v0 v1.toNatClampNeg), .inr (.inr (some (1, v0))), .inl v1, .inr (.inr (some (15, v0)))]) (M' := mem E mu la) rfl ?_
    refine Ev.ci (J := mi_19) (as := [.inr (.inr (some (1, v0))), .inl (mu 14 v0 v1.toNatClampNeg), .inl (mu 1 v0 1)]) (rest := [.inl v1, .inr (.inr (some (15, v0)))]) rfl rfl rfl (Nat.le_of_ble_eq_true rfl) h (fun x4 mu5 la6 h => ?_)
    refine Ev.ias rfl rfl h.1 ?_
    have h := h.2
    generalize hgmu7 : up3 mu5 15 v0 v1.toNatClampNeg x4 = mu7
    have h := h mu7 hgmu7.symm
    refine Ev.steps 6 (ip' := 51) (ls' := [some (.inr (.inr (some (1, v0)))), some (.inl v1)]) (st' := [.inl v1, .inr (.inr (some (10, v0))), .inl v1, .inr (.inr (some (16, v0)))]) (M' := mem E mu7 la6) rfl ?_
    refine Ev.ial rfl rfl (by decide) h.1 ?_
    have h := h.2
    refine Ev.steps 3 (ip' := 55) (ls' := [some (.inr (.inr (some (1, v0)))), some (.inl v1)]) (st' := [.inl v1, .inr (.inr (some (11, v0))), .inl (mu7 10 v0 v1.toNatClampNeg), .inl v1, .inr (.inr (some (16, v0)))]) (M' := mem E mu7 la6) rfl ?_
    refine Ev.ial rfl rfl (by decide) h.1 ?_
    have h := h.2
    refine Ev.steps 1 (ip' := 57) (ls' := [some (.inr (.inr (some (1, v0)))), some (.inl v1)]) (st' := [.inl (0 : Int32), .inl (mu7 11 v0 v1.toNatClampNeg), .inl (mu7 10 v0 v1.toNatClampNeg), .inl v1, .inr (.inr (some (16, v0)))]) (M' := mem E mu7 la6) rfl ?_
    refine Ev.ci (J := mi_106) (as := [.inl (mu7 10 v0 v1.toNatClampNeg), .inl (mu7 11 v0 v1.toNatClampNeg), .inl (0 : Int32)]) (rest := [.inl v1, .inr (.inr (some (16, v0)))]) rfl rfl rfl (Nat.le_of_ble_eq_true rfl) h (fun x8 mu9 la10 h => ?_)
    refine Ev.ias rfl rfl h.1 ?_
    have h := h.2
    generalize hgmu11 : up3 mu9 16 v0 v1.toNatClampNeg x8 = mu11
    have h := h mu11 hgmu11.symm
    refine Ev.steps 6 (ip' := 65) (ls' := [some (.inr (.inr (some (1, v0)))), some (.inl v1)]) (st' := [.inl v1, .inr (.inr (some (10, v0))), .inl v1, .inr (.inr (some (17, v0)))]) (M' := mem E mu11 la10) rfl ?_
    refine Ev.ial rfl rfl (by decide) h.1 ?_
    have h := h.2
    refine Ev.steps 3 (ip' := 69) (ls' := [some (.inr (.inr (some (1, v0)))), some (.inl v1)]) (st' := [.inl v1, .inr (.inr (some (11, v0))), .inl (mu11 10 v0 v1.toNatClampNeg), .inl v1, .inr (.inr (some (17, v0)))]) (M' := mem E mu11 la10) rfl ?_
    refine Ev.ial rfl rfl (by decide) h.1 ?_
    have h := h.2
    refine Ev.steps 1 (ip' := 71) (ls' := [some (.inr (.inr (some (1, v0)))), some (.inl v1)]) (st' := [.inl (1 : Int32), .inl (mu11 11 v0 v1.toNatClampNeg), .inl (mu11 10 v0 v1.toNatClampNeg), .inl v1, .inr (.inr (some (17, v0)))]) (M' := mem E mu11 la10) rfl ?_
    refine Ev.ci (J := mi_106) (as := [.inl (mu11 10 v0 v1.toNatClampNeg), .inl (mu11 11 v0 v1.toNatClampNeg), .inl (1 : Int32)]) (rest := [.inl v1, .inr (.inr (some (17, v0)))]) rfl rfl rfl (Nat.le_of_ble_eq_true rfl) h (fun x12 mu13 la14 h => ?_)
    refine Ev.ias rfl rfl h.1 ?_
    have h := h.2
    generalize hgmu15 : up3 mu13 17 v0 v1.toNatClampNeg x12 = mu15
    have h := h mu15 hgmu15.symm
    refine Ev.steps 2 (ip' := 29) (ls' := [some (.inr (.inr (some (1, v0)))), some (.inl (v1 + (1 : Int32)))]) (st' := []) (M' := mem E mu15 la14) rfl ?_
    exact h
set_option maxRecDepth 100000 in
/-- AnnCups.Cups.become(LAnnCups$Cups;)V -/
theorem vc_X1_become {E : mEv} {d : Nat} {c : Nat} (a0 : Nat) {mu : fMu} {la : fLa} {Q : fMu → fLa → Prop} (h : ∀ mu1 : fMu, mu1 = up3 mu 1 c 0 (mu 1 a0 0) → (∀ mu2 : fMu, mu2 = up3 mu1 1 c 1 (mu1 1 a0 1) → (Ev E (d + 1) mi_22 10 [some (.inr (.inr (some (1, c)))), some (.inr (.inr (some (1, a0)))), some (.inl (0 : Int32))] [] (mem E mu2 la) (qV E Q)))) : FnV E (d + 1) mi_22 [.inr (.inr (some (1, c))), .inr (.inr (some (1, a0)))] mu la Q := by
  unfold FnV
  show Ev E (d + 1) mi_22 0 [some (.inr (.inr (some (1, c)))), some (.inr (.inr (some (1, a0)))), none] [] (mem E mu la) (qV E Q)
  refine Ev.steps 4 (ip' := 4) (ls' := [some (.inr (.inr (some (1, c)))), some (.inr (.inr (some (1, a0)))), none]) (st' := []) (M' := mem E (up3 mu 1 c 0 (mu 1 a0 0)) la) rfl ?_
  generalize hgmu1 : up3 mu 1 c 0 (mu 1 a0 0) = mu1
  have h := h mu1 hgmu1.symm
  refine Ev.steps 4 (ip' := 8) (ls' := [some (.inr (.inr (some (1, c)))), some (.inr (.inr (some (1, a0)))), none]) (st' := []) (M' := mem E (up3 mu1 1 c 1 (mu1 1 a0 1)) la) rfl ?_
  generalize hgmu2 : up3 mu1 1 c 1 (mu1 1 a0 1) = mu2
  have h := h mu2 hgmu2.symm
  refine Ev.steps 2 (ip' := 10) (ls' := [some (.inr (.inr (some (1, c)))), some (.inr (.inr (some (1, a0)))), some (.inl (0 : Int32))]) (st' := []) (M' := mem E mu2 la) rfl ?_
  exact h
set_option maxRecDepth 100000 in
theorem vc_X1_become_10 {E : mEv} {d : Nat}  (v0 : Nat) (v1 : Nat) (v2 : Int32) {mu : fMu} {la : fLa} {Q : fMu → fLa → Prop} (h : ((6 : Int32) ≤ v2 → (FnV E d mi_21 [.inr (.inr (some (1, v0)))] mu la (fun mu4 la5 => Q mu4 la5))) ∧ (¬ ((6 : Int32) ≤ v2) → (vp_in v2 6 ∧ (vp_in v2 6 ∧ ∀ mu6 : fMu, mu6 = up3 mu 10 v0 v2.toNatClampNeg (mu 10 v1 v2.toNatClampNeg) → (vp_in v2 6 ∧ (vp_in v2 6 ∧ ∀ mu7 : fMu, mu7 = up3 mu6 11 v0 v2.toNatClampNeg (mu6 11 v1 v2.toNatClampNeg) → (vp_in v2 6 ∧ (vp_in v2 6 ∧ ∀ mu8 : fMu, mu8 = up3 mu7 12 v0 v2.toNatClampNeg (mu7 12 v1 v2.toNatClampNeg) → (vp_in v2 6 ∧ (vp_in v2 6 ∧ ∀ mu9 : fMu, mu9 = up3 mu8 13 v0 v2.toNatClampNeg (mu8 13 v1 v2.toNatClampNeg) → (vp_in v2 6 ∧ (vp_in v2 6 ∧ ∀ mu10 : fMu, mu10 = up3 mu9 14 v0 v2.toNatClampNeg (mu9 14 v1 v2.toNatClampNeg) → (Ev E (d + 1) mi_22 10 [some (.inr (.inr (some (1, v0)))), some (.inr (.inr (some (1, v1)))), some (.inl (v2 + (1 : Int32)))] [] (mem E mu10 la) (qV E Q)))))))))))))) : Ev E (d + 1) mi_22 10 [some (.inr (.inr (some (1, v0)))), some (.inr (.inr (some (1, v1)))), some (.inl v2)] [] (mem E mu la) (qV E Q) := by
  refine Ev.steps 2 (ip' := 12) (ls' := [some (.inr (.inr (some (1, v0)))), some (.inr (.inr (some (1, v1)))), some (.inl v2)]) (st' := [.inl (6 : Int32), .inl v2]) (M' := mem E mu la) rfl ?_
  refine Ev.br (c := (6 : Int32) ≤ v2) (s1 := (55, [some (.inr (.inr (some (1, v0)))), some (.inr (.inr (some (1, v1)))), some (.inl v2)], [], mem E mu la)) (s2 := (13, [some (.inr (.inr (some (1, v0)))), some (.inr (.inr (some (1, v1)))), some (.inl v2)], [], mem E mu la)) rfl rfl rfl rfl (fun hc => ?_) (fun hc => ?_)
  · have h := h.1 hc
    dsimp only
    refine Ev.steps 1 (ip' := 56) (ls' := [some (.inr (.inr (some (1, v0)))), some (.inr (.inr (some (1, v1)))), some (.inl v2)]) (st' := [.inr (.inr (some (1, v0)))]) (M' := mem E mu la) rfl ?_
    refine Ev.cv (J := mi_21) (as := [.inr (.inr (some (1, v0)))]) (rest := []) rfl rfl rfl (Nat.le_of_ble_eq_true rfl) h (fun mu4 la5 h => ?_)
    exact Ev.ret rfl rfl ⟨_, _, rfl, rfl, h⟩
  · have h := h.2 hc
    dsimp only
    refine Ev.steps 6 (ip' := 19) (ls' := [some (.inr (.inr (some (1, v0)))), some (.inr (.inr (some (1, v1)))), some (.inl v2)]) (st' := [.inl v2, .inr (.inr (some (10, v1))), .inl v2, .inr (.inr (some (10, v0)))]) (M' := mem E mu la) rfl ?_
    refine Ev.ial rfl rfl (by decide) h.1 ?_
    have h := h.2
    refine Ev.ias rfl rfl h.1 ?_
    have h := h.2
    generalize hgmu6 : up3 mu 10 v0 v2.toNatClampNeg (mu 10 v1 v2.toNatClampNeg) = mu6
    have h := h mu6 hgmu6.symm
    refine Ev.steps 6 (ip' := 27) (ls' := [some (.inr (.inr (some (1, v0)))), some (.inr (.inr (some (1, v1)))), some (.inl v2)]) (st' := [.inl v2, .inr (.inr (some (11, v1))), .inl v2, .inr (.inr (some (11, v0)))]) (M' := mem E mu6 la) rfl ?_
    refine Ev.ial rfl rfl (by decide) h.1 ?_
    have h := h.2
    refine Ev.ias rfl rfl h.1 ?_
    have h := h.2
    generalize hgmu7 : up3 mu6 11 v0 v2.toNatClampNeg (mu6 11 v1 v2.toNatClampNeg) = mu7
    have h := h mu7 hgmu7.symm
    refine Ev.steps 6 (ip' := 35) (ls' := [some (.inr (.inr (some (1, v0)))), some (.inr (.inr (some (1, v1)))), some (.inl v2)]) (st' := [.inl v2, .inr (.inr (some (12, v1))), .inl v2, .inr (.inr (some (12, v0)))]) (M' := mem E mu7 la) rfl ?_
    refine Ev.ial rfl rfl (by decide) h.1 ?_
    have h := h.2
    refine Ev.ias rfl rfl h.1 ?_
    have h := h.2
    generalize hgmu8 : up3 mu7 12 v0 v2.toNatClampNeg (mu7 12 v1 v2.toNatClampNeg) = mu8
    have h := h mu8 hgmu8.symm
    refine Ev.steps 6 (ip' := 43) (ls' := [some (.inr (.inr (some (1, v0)))), some (.inr (.inr (some (1, v1)))), some (.inl v2)]) (st' := [.inl v2, .inr (.inr (some (13, v1))), .inl v2, .inr (.inr (some (13, v0)))]) (M' := mem E mu8 la) rfl ?_
    refine Ev.ial rfl rfl (by decide) h.1 ?_
    have h := h.2
    refine Ev.ias rfl rfl h.1 ?_
    have h := h.2
    generalize hgmu9 : up3 mu8 13 v0 v2.toNatClampNeg (mu8 13 v1 v2.toNatClampNeg) = mu9
    have h := h mu9 hgmu9.symm
    refine Ev.steps 6 (ip' := 51) (ls' := [some (.inr (.inr (some (1, v0)))), some (.inr (.inr (some (1, v1)))), some (.inl v2)]) (st' := [.inl v2, .inr (.inr (some (14, v1))), .inl v2, .inr (.inr (some (14, v0)))]) (M' := mem E mu9 la) rfl ?_
    refine Ev.ial rfl rfl (by decide) h.1 ?_
    have h := h.2
    refine Ev.ias rfl rfl h.1 ?_
    have h := h.2
    generalize hgmu10 : up3 mu9 14 v0 v2.toNatClampNeg (mu9 14 v1 v2.toNatClampNeg) = mu10
    have h := h mu10 hgmu10.symm
    refine Ev.steps 2 (ip' := 10) (ls' := [some (.inr (.inr (some (1, v0)))), some (.inr (.inr (some (1, v1)))), some (.inl (v2 + (1 : Int32)))]) (st' := []) (M' := mem E mu10 la) rfl ?_
    exact h
set_option maxRecDepth 100000 in
/-- AnnCups.Deeds.add(III)V -/
theorem vc_X2_add {E : mEv} {d : Nat} {c : Nat} (a0 : Int32) (a1 : Int32) (a2 : Int32) {mu : fMu} {la : fLa} {Q : fMu → fLa → Prop} (h : ((mu 2 c 0) < 0 → (Q mu la)) ∧ (¬ ((mu 2 c 0) < 0) → (((40 : Int32) ≤ (mu 2 c 0) → (Q mu la)) ∧ (¬ ((40 : Int32) ≤ (mu 2 c 0)) → (vp_in (mu 2 c 0) 40 ∧ ∀ mu1 : fMu, mu1 = up3 mu 18 c (mu 2 c 0).toNatClampNeg a0 → (vp_in (mu1 2 c 0) 40 ∧ ∀ mu2 : fMu, mu2 = up3 mu1 19 c (mu1 2 c 0).toNatClampNeg a1 → (vp_in (mu2 2 c 0) 40 ∧ ∀ mu3 : fMu, mu3 = up3 mu2 20 c (mu2 2 c 0).toNatClampNeg a2 → (∀ mu4 : fMu, mu4 = up3 mu3 2 c 0 ((mu3 2 c 0) + (1 : Int32)) → (Q mu4 la))))))))) : FnV E d mi_24 [.inr (.inr (some (2, c))), .inl a0, .inl a1, .inl a2] mu la Q := by
  unfold FnV
  show Ev E d mi_24 0 [some (.inr (.inr (some (2, c)))), some (.inl a0), some (.inl a1), some (.inl a2)] [] (mem E mu la) (qV E Q)
  refine Ev.steps 2 (ip' := 2) (ls' := [some (.inr (.inr (some (2, c)))), some (.inl a0), some (.inl a1), some (.inl a2)]) (st' := [.inl (mu 2 c 0)]) (M' := mem E mu la) rfl ?_
  refine Ev.br (c := (mu 2 c 0) < 0) (s1 := (31, [some (.inr (.inr (some (2, c)))), some (.inl a0), some (.inl a1), some (.inl a2)], [], mem E mu la)) (s2 := (3, [some (.inr (.inr (some (2, c)))), some (.inl a0), some (.inl a1), some (.inl a2)], [], mem E mu la)) rfl rfl rfl rfl (fun hc => ?_) (fun hc => ?_)
  · have h := h.1 hc
    dsimp only
    exact Ev.ret rfl rfl ⟨_, _, rfl, rfl, h⟩
  · have h := h.2 hc
    dsimp only
    refine Ev.steps 3 (ip' := 6) (ls' := [some (.inr (.inr (some (2, c)))), some (.inl a0), some (.inl a1), some (.inl a2)]) (st' := [.inl (40 : Int32), .inl (mu 2 c 0)]) (M' := mem E mu la) rfl ?_
    refine Ev.br (c := (40 : Int32) ≤ (mu 2 c 0)) (s1 := (31, [some (.inr (.inr (some (2, c)))), some (.inl a0), some (.inl a1), some (.inl a2)], [], mem E mu la)) (s2 := (7, [some (.inr (.inr (some (2, c)))), some (.inl a0), some (.inl a1), some (.inl a2)], [], mem E mu la)) rfl rfl rfl rfl (fun hc => ?_) (fun hc => ?_)
    · have h := h.1 hc
      dsimp only
      exact Ev.ret rfl rfl ⟨_, _, rfl, rfl, h⟩
    · have h := h.2 hc
      dsimp only
      refine Ev.steps 5 (ip' := 12) (ls' := [some (.inr (.inr (some (2, c)))), some (.inl a0), some (.inl a1), some (.inl a2)]) (st' := [.inl a0, .inl (mu 2 c 0), .inr (.inr (some (18, c)))]) (M' := mem E mu la) rfl ?_
      refine Ev.ias rfl rfl h.1 ?_
      have h := h.2
      generalize hgmu1 : up3 mu 18 c (mu 2 c 0).toNatClampNeg a0 = mu1
      have h := h mu1 hgmu1.symm
      refine Ev.steps 5 (ip' := 18) (ls' := [some (.inr (.inr (some (2, c)))), some (.inl a0), some (.inl a1), some (.inl a2)]) (st' := [.inl a1, .inl (mu1 2 c 0), .inr (.inr (some (19, c)))]) (M' := mem E mu1 la) rfl ?_
      refine Ev.ias rfl rfl h.1 ?_
      have h := h.2
      generalize hgmu2 : up3 mu1 19 c (mu1 2 c 0).toNatClampNeg a1 = mu2
      have h := h mu2 hgmu2.symm
      refine Ev.steps 5 (ip' := 24) (ls' := [some (.inr (.inr (some (2, c)))), some (.inl a0), some (.inl a1), some (.inl a2)]) (st' := [.inl a2, .inl (mu2 2 c 0), .inr (.inr (some (20, c)))]) (M' := mem E mu2 la) rfl ?_
      refine Ev.ias rfl rfl h.1 ?_
      have h := h.2
      generalize hgmu3 : up3 mu2 20 c (mu2 2 c 0).toNatClampNeg a2 = mu3
      have h := h mu3 hgmu3.symm
      refine Ev.steps 6 (ip' := 31) (ls' := [some (.inr (.inr (some (2, c)))), some (.inl a0), some (.inl a1), some (.inl a2)]) (st' := []) (M' := mem E (up3 mu3 2 c 0 ((mu3 2 c 0) + (1 : Int32))) la) rfl ?_
      generalize hgmu4 : up3 mu3 2 c 0 ((mu3 2 c 0) + (1 : Int32)) = mu4
      have h := h mu4 hgmu4.symm
      exact Ev.ret rfl rfl ⟨_, _, rfl, rfl, h⟩
set_option maxRecDepth 100000 in
/-- AnnCups.Deeds.become(LAnnCups$Deeds;)V -/
theorem vc_X2_become {E : mEv} {d : Nat} {c : Nat} (a0 : Nat) {mu : fMu} {la : fLa} {Q : fMu → fLa → Prop} (h : ∀ mu1 : fMu, mu1 = up3 mu 2 c 0 (mu 2 a0 0) → (Ev E d mi_25 6 [some (.inr (.inr (some (2, c)))), some (.inr (.inr (some (2, a0)))), some (.inl (0 : Int32))] [] (mem E mu1 la) (qV E Q))) : FnV E d mi_25 [.inr (.inr (some (2, c))), .inr (.inr (some (2, a0)))] mu la Q := by
  unfold FnV
  show Ev E d mi_25 0 [some (.inr (.inr (some (2, c)))), some (.inr (.inr (some (2, a0)))), none] [] (mem E mu la) (qV E Q)
  refine Ev.steps 4 (ip' := 4) (ls' := [some (.inr (.inr (some (2, c)))), some (.inr (.inr (some (2, a0)))), none]) (st' := []) (M' := mem E (up3 mu 2 c 0 (mu 2 a0 0)) la) rfl ?_
  generalize hgmu1 : up3 mu 2 c 0 (mu 2 a0 0) = mu1
  have h := h mu1 hgmu1.symm
  refine Ev.steps 2 (ip' := 6) (ls' := [some (.inr (.inr (some (2, c)))), some (.inr (.inr (some (2, a0)))), some (.inl (0 : Int32))]) (st' := []) (M' := mem E mu1 la) rfl ?_
  exact h
set_option maxRecDepth 100000 in
theorem vc_X2_become_6 {E : mEv} {d : Nat}  (v0 : Nat) (v1 : Nat) (v2 : Int32) {mu : fMu} {la : fLa} {Q : fMu → fLa → Prop} (h : ((mu 2 v0 0) ≤ v2 → (Q mu la)) ∧ (¬ ((mu 2 v0 0) ≤ v2) → (vp_in v2 40 ∧ (vp_in v2 40 ∧ ∀ mu2 : fMu, mu2 = up3 mu 18 v0 v2.toNatClampNeg (mu 18 v1 v2.toNatClampNeg) → (vp_in v2 40 ∧ (vp_in v2 40 ∧ ∀ mu3 : fMu, mu3 = up3 mu2 19 v0 v2.toNatClampNeg (mu2 19 v1 v2.toNatClampNeg) → (vp_in v2 40 ∧ (vp_in v2 40 ∧ ∀ mu4 : fMu, mu4 = up3 mu3 20 v0 v2.toNatClampNeg (mu3 20 v1 v2.toNatClampNeg) → (Ev E d mi_25 6 [some (.inr (.inr (some (2, v0)))), some (.inr (.inr (some (2, v1)))), some (.inl (v2 + (1 : Int32)))] [] (mem E mu4 la) (qV E Q)))))))))) : Ev E d mi_25 6 [some (.inr (.inr (some (2, v0)))), some (.inr (.inr (some (2, v1)))), some (.inl v2)] [] (mem E mu la) (qV E Q) := by
  refine Ev.steps 3 (ip' := 9) (ls' := [some (.inr (.inr (some (2, v0)))), some (.inr (.inr (some (2, v1)))), some (.inl v2)]) (st' := [.inl (mu 2 v0 0), .inl v2]) (M' := mem E mu la) rfl ?_
  refine Ev.br (c := (mu 2 v0 0) ≤ v2) (s1 := (36, [some (.inr (.inr (some (2, v0)))), some (.inr (.inr (some (2, v1)))), some (.inl v2)], [], mem E mu la)) (s2 := (10, [some (.inr (.inr (some (2, v0)))), some (.inr (.inr (some (2, v1)))), some (.inl v2)], [], mem E mu la)) rfl rfl rfl rfl (fun hc => ?_) (fun hc => ?_)
  · have h := h.1 hc
    dsimp only
    exact Ev.ret rfl rfl ⟨_, _, rfl, rfl, h⟩
  · have h := h.2 hc
    dsimp only
    refine Ev.steps 6 (ip' := 16) (ls' := [some (.inr (.inr (some (2, v0)))), some (.inr (.inr (some (2, v1)))), some (.inl v2)]) (st' := [.inl v2, .inr (.inr (some (18, v1))), .inl v2, .inr (.inr (some (18, v0)))]) (M' := mem E mu la) rfl ?_
    refine Ev.ial rfl rfl (by decide) h.1 ?_
    have h := h.2
    refine Ev.ias rfl rfl h.1 ?_
    have h := h.2
    generalize hgmu2 : up3 mu 18 v0 v2.toNatClampNeg (mu 18 v1 v2.toNatClampNeg) = mu2
    have h := h mu2 hgmu2.symm
    refine Ev.steps 6 (ip' := 24) (ls' := [some (.inr (.inr (some (2, v0)))), some (.inr (.inr (some (2, v1)))), some (.inl v2)]) (st' := [.inl v2, .inr (.inr (some (19, v1))), .inl v2, .inr (.inr (some (19, v0)))]) (M' := mem E mu2 la) rfl ?_
    refine Ev.ial rfl rfl (by decide) h.1 ?_
    have h := h.2
    refine Ev.ias rfl rfl h.1 ?_
    have h := h.2
    generalize hgmu3 : up3 mu2 19 v0 v2.toNatClampNeg (mu2 19 v1 v2.toNatClampNeg) = mu3
    have h := h mu3 hgmu3.symm
    refine Ev.steps 6 (ip' := 32) (ls' := [some (.inr (.inr (some (2, v0)))), some (.inr (.inr (some (2, v1)))), some (.inl v2)]) (st' := [.inl v2, .inr (.inr (some (20, v1))), .inl v2, .inr (.inr (some (20, v0)))]) (M' := mem E mu3 la) rfl ?_
    refine Ev.ial rfl rfl (by decide) h.1 ?_
    have h := h.2
    refine Ev.ias rfl rfl h.1 ?_
    have h := h.2
    generalize hgmu4 : up3 mu3 20 v0 v2.toNatClampNeg (mu3 20 v1 v2.toNatClampNeg) = mu4
    have h := h mu4 hgmu4.symm
    refine Ev.steps 2 (ip' := 6) (ls' := [some (.inr (.inr (some (2, v0)))), some (.inr (.inr (some (2, v1)))), some (.inl (v2 + (1 : Int32)))]) (st' := []) (M' := mem E mu4 la) rfl ?_
    exact h
