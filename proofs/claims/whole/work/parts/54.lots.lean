/-! deeds by lots -/
def lotD (B : tB) (T : tT) (i q : Nat) : Nat × Nat × Nat := if tH T i = -9 then (1, i, 0) else if tH T i = 6 then (3, i, 0) else if tH T i = 7 then (0, 0, 0) else if (tH T i).toNatClampNeg = q then (0, 0, 0) else if bK B q = 3 then (0, 0, 0) else (2, (tH T i).toNatClampNeg, q)
def lotX (x : Nat) : Nat := 48271 * x % 2147483647
def lotsD (B : tB) : Nat → Nat → (Nat → Nat × Nat × Nat) → Nat → Nat → Nat × Nat × Nat
  | 0, _, D, _ => D
  | z + 1, x, D, m => lotsD B z (lotX x) (upD D m (lotD B (rp B D m) (lotX x % bN B) (lotX x / 8 % bN B))) (m + 1)
section LOTS
variable {E : mEv} {d : Nat} {mu : fMu} {la : fLa} {B : tB} {T : tT} {D : Nat → Nat × Nat × Nat} {m : Nat}
theorem lot_ok (h : WT B T) {i q : Nat} (hi : i < bN B) (hq : q < bN B) : okDd B T (lotD B T i q) := by
  have hn := h.1
  unfold lotD
  by_cases c1 : tH T i = -9
  · rw [if_pos c1]; exact ⟨hi, c1, rfl⟩
  rw [if_neg c1]
  by_cases c2 : tH T i = 6
  · rw [if_pos c2]; exact ⟨hi, c2, rfl⟩
  rw [if_neg c2]
  by_cases c3 : tH T i = 7
  · rw [if_pos c3]; exact ⟨rfl, rfl⟩
  rw [if_neg c3]
  rcases h.2.1 i (by omega) with z | ⟨_, z | z | ⟨p, g1, g2, g3, g4⟩⟩
  · exact absurd z c1
  · exact absurd z c2
  · exact absurd z c3
  · rw [g2, b_cl (by omega)]
    by_cases c4 : p = q
    · rw [if_pos c4]; exact ⟨rfl, rfl⟩
    rw [if_neg c4]
    by_cases c5 : bK B q = 3
    · rw [if_pos c5]; exact ⟨rfl, rfl⟩
    rw [if_neg c5]
    exact ⟨g1, hq, c4, g3, c5⟩
theorem s_performLot {Q : fMu → fLa → Prop} (i q0 : Nat) (hB : wB B) (hw : wD B D m) (hm : m < 40) (hi : i < bN B) (hq : q0 < bN B) (h : XS B D m mu) (q : ∀ mu' : fMu, Fr cX mu mu' → XS B (upD D m (lotD B (rp B D m) i q0)) (m + 1) mu' → Q mu' la) : FnV E (d + 6) mi_120 [.inr (.inr (some (6, 0))), .inl (nI i), .inl (nI q0)] mu la Q := by
  have hn := hB.1
  have hT := wt_rp hB hw m (Nat.le_refl m)
  have hok := lot_ok hT hi hq
  refine vc_X6_performLot _ _ ⟨b_in rfl (by omega) (by decide), ?_⟩
  rw [b_cl (by omega), h.2.1.2.2.2.2.1 i (by omega)]
  unfold lotD at q hok
  by_cases c1 : tH (rp B D m) i = -9
  · rw [if_pos c1] at q hok
    exact noo (fun z => z c1) (s_perform (1, i, 0) hB hw hm hok h q)
  rw [if_neg c1] at q hok
  refine yes c1 ?_
  by_cases c2 : tH (rp B D m) i = 6
  · rw [if_pos c2] at q hok
    exact noo (fun z => z c2) (s_perform (3, i, 0) hB hw hm hok h q)
  rw [if_neg c2] at q hok
  refine yes c2 ?_
  by_cases c3 : tH (rp B D m) i = 7
  · rw [if_pos c3] at q hok
    refine s_cHas _ (by omega) h.1.1 (fun j hj e => ?_) (fun _ => yes rfl (s_perform (0, 0, 0) hB hw hm hok h q))
    exact absurd (e.symm.trans c3) (b_p9 j (by omega)).2.2
  rw [if_neg c3] at q hok
  rcases hT.2.1 i (by omega) with z | ⟨_, z | z | ⟨p, g1, g2, g3, g4⟩⟩
  · exact absurd z c1
  · exact absurd z c2
  · exact absurd z c3
  · rw [g2, b_cl (by omega)] at q hok
    rw [g2]
    refine s_cHas _ (by omega) h.1.1 (fun j hj e => noo b_x10 ?_) (fun hno => absurd rfl (hno p g1))
    refine pk_eq p q0 (fun c4 => ?_) (fun c4 => ?_)
    · rw [if_pos c4] at q hok
      exact s_perform (0, 0, 0) hB hw hm hok h q
    · rw [if_neg c4] at q hok
      refine s_cThere q0 hn hq h.1.2.2.1 (bzz (fun k0 => ?_) (fun k1 => ?_))
      · have c5 : bK B q0 = 3 := by simpa using k0
        rw [if_pos c5] at q hok
        exact s_perform (0, 0, 0) hB hw hm hok h q
      · have c5 : ¬ bK B q0 = 3 := of_decide_eq_true k1
        rw [if_neg c5] at q hok
        exact s_perform (2, p, q0) hB hw hm hok h q
theorem s_plays {Q : fMu → fLa → Prop} (i q0 : Nat) (hB : wB B) (hw : wD B D m) (hm : m < 40) (hi : i < bN B) (hq : q0 < bN B) (h : MS B D m mu) (q : ∀ mu' : fMu, Fr cM mu mu' → MS B (upD D m (lotD B (rp B D m) i q0)) (m + 1) mu' → Q mu' la) : FnV E (d + 3) mi_216 [.inr (.inr (some (7, 0))), .inl (nI i), .inl (nI q0)] mu la Q := by
  have hn := hB.1
  have hT := wt_rp hB hw m (Nat.le_refl m)
  refine vc_X7_plays _ _ (s_remember hw hm h (fun mu2 f2 g2 m2 c2 d2 => ?_))
  rw [Int32.zero_add]
  have h9 : vp_in (nI i) 9 := b_in rfl (by omega) (by decide)
  refine ⟨h9, ?_⟩
  rw [b_cl (by omega), c2.w (i := i) (by omega)]
  have fin0 : ∀ x, stT B (rp B D m) x = rp B D m → MS B (upD D m x) (m + 1) mu2 := fun x e => ⟨m2, by rw [rp_upD1, e]; exact c2, d2 x⟩
  unfold lotD at q
  by_cases c1 : tH (rp B D m) i = -9
  · rw [if_pos c1] at q
    refine noo (fun z => z c1) ?_
    rw [m2.2.1]
    refine s_makesOn (Or.inl rfl) i (bE B) hB hi hB.2.1 hT.d64 hT.2.2.2.2.2 m2 c2 (fun mu3 f3 c3 => q mu3 (f2.cm f3) ⟨m2.fr (f3.le (cK_MB (Or.inl rfl))), ?_, (d2 _).k38 f3⟩)
    rw [rp_upD1]
    exact c3
  rw [if_neg c1] at q
  refine yes c1 ?_
  by_cases c2' : tH (rp B D m) i = 6
  · rw [if_pos c2'] at q
    refine noo (fun z => z c2') ⟨h9, ?_⟩
    rintro mu3 rfl
    obtain ⟨c3, f3⟩ := s_mtoss i (by omega) c2
    refine q _ (f2.cm f3) ⟨m2.fr (f3.le (cK_MB (Or.inl rfl))), ?_, (d2 _).k38 f3⟩
    rw [rp_upD1]
    exact c3
  rw [if_neg c2'] at q
  refine yes c2' ?_
  by_cases c3 : tH (rp B D m) i = 7
  · rw [if_pos c3] at q
    exact yes c3 (q mu2 f2 (fin0 _ rfl))
  rw [if_neg c3] at q
  refine noo c3 ?_
  rcases hT.2.1 i (by omega) with z | ⟨_, z | z | ⟨p, g1, g2', g3, g4⟩⟩
  · exact absurd z c1
  · exact absurd z c2'
  · exact absurd z c3
  · rw [g2', b_cl (by omega)] at q
    rw [g2']
    refine pk_eq p q0 (fun c4 => ?_) (fun c4 => ?_)
    · rw [if_pos c4] at q
      exact q mu2 f2 (fin0 _ rfl)
    · rw [if_neg c4] at q
      refine s_mThere q0 hB hq m2 (bzz (fun k0 => ?_) (fun k1 => ?_))
      · have c5 : bK B q0 = 3 := by simpa using k0
        rw [if_pos c5] at q
        exact q mu2 f2 (fin0 _ rfl)
      · have c5 : ¬ bK B q0 = 3 := of_decide_eq_true k1
        rw [if_neg c5] at q
        refine s_changes (Or.inl rfl) p q0 hT g1 hq c4 m2.1 c2 (fun mu3 f3 c3 => q mu3 (f2.cm f3) ⟨m2.fr (f3.le (cK_MB (Or.inl rfl))), ?_, (d2 _).k38 f3⟩)
        rw [rp_upD1]
        exact c3
theorem lots_wD (hB : wB B) (h0 : 0 < bN B) : ∀ (z x : Nat) (D : Nat → Nat × Nat × Nat) (m : Nat), m + z ≤ 40 → wD B D m → wD B (lotsD B z x D m) (m + z) := by
  intro z
  induction z with
  | zero => intro x D m _ h; exact h
  | succ z ih =>
    intro x D m hm h
    unfold lotsD
    have h1 := ih (lotX x) (upD D m (lotD B (rp B D m) (lotX x % bN B) (lotX x / 8 % bN B))) (m + 1) (by omega) (wD_upD h (by omega) (lot_ok (wt_rp hB h m (Nat.le_refl m)) (Nat.mod_lt _ h0) (Nat.mod_lt _ h0)))
    rw [show m + (z + 1) = m + 1 + z by omega]
    exact h1
theorem lN_step {x : Nat} (hx : x < 2147483647) : lN x * (48271 : Int64) - lN x * (48271 : Int64) / (2147483647 : Int64) * (2147483647 : Int64) = lN (lotX x) ∧ (48271 : Int64) * lN x - (48271 : Int64) * lN x / (2147483647 : Int64) * (2147483647 : Int64) = lN (lotX x) := by
  rw [show (48271 : Int64) = lN 48271 from rfl, show (2147483647 : Int64) = lN 2147483647 from rfl, lN_mul, lN_mul, Nat.mul_comm x 48271, pk_lRem (by omega) (by decide) (by decide)]
  exact ⟨rfl, rfl⟩
theorem lotX_lt (x : Nat) : lotX x < 2147483647 := Nat.mod_lt _ (by decide)
theorem lN_ix {x n : Nat} (hx : x < 2147483647) (h0 : 0 < n) (hn : n ≤ 6) : (lN x - lN x / (nI n).toInt64 * (nI n).toInt64).toInt32 = nI (x % n) ∧ (lN x / (8 : Int64) - lN x / (8 : Int64) / (nI n).toInt64 * (nI n).toInt64).toInt32 = nI (x / 8 % n) := by
  rw [nI_l (by omega), show (8 : Int64) = lN 8 from rfl, pk_lDiv (a := x) (b := 8) (by omega) (by decide) (by decide), pk_lRem (by omega) h0 (by omega), pk_lRem (by omega) h0 (by omega), lN_i, lN_i]
  exact ⟨rfl, rfl⟩
theorem x_lots {Q : Int32 → fMu → fLa → Prop} (mu0 : fMu) (hB : wB B) (h0 : 0 < bN B) (n : Nat) (hn : n ≤ 20) : ∀ (z k x : Nat) (D : Nat → Nat × Nat × Nat) (m : Nat) (mu : fMu), k + z = n → m + z ≤ 40 → x < 2147483647 → wD B D m → XS B D m mu → Fr cX mu0 mu → (∀ mu' : fMu, Fr cX mu0 mu' → XS B (lotsD B z x D m) (m + z) mu' → Q (nI (pop (wrongT (rp B (lotsD B z x D m) (m + z)) (bN B)))) mu' la) → Ev E (d + 7) mi_87 36 [some (.inr (.inr (some (6, 0)))), some (.inl (nI n)), none, some (.inr (.inl (lN x))), none, some (.inl (nI k))] [] (mem E mu la) (qI E Q) := by
  intro z
  induction z with
  | zero =>
    intro k x D m mu hk hm hx hw hX f q
    refine vc_X6_lots_36 0 _ _ _ (yes (nI_le (by omega) (by omega)) ?_)
    exact s_howManyWrong (wt_rp hB hw m (Nat.le_refl m)) hX.1.1 hX.2.1 (q mu f hX)
  | succ z ih =>
    intro k x D m mu hk hm hx hw hX f q
    have h6 := hB.1
    have hl0 : ¬ (nI (bN B)).toInt64 = 0 := b_l0 (by omega) (by omega)
    refine vc_X6_lots_36 0 _ _ _ ?_
    rw [hX.1.1]
    refine noo (nI_ge (by omega) (by omega)) ⟨by decide, hl0, by decide, hl0, ?_⟩
    rw [(lN_step hx).1, (lN_ix (lotX_lt x) h0 h6).1, (lN_ix (lotX_lt x) h0 h6).2, ← nI_succ]
    have i1 : lotX x % bN B < bN B := Nat.mod_lt _ h0
    have i2 : lotX x / 8 % bN B < bN B := Nat.mod_lt _ h0
    refine s_performLot _ _ hB hw (by omega) i1 i2 hX (fun mu1 f1 x1 => ?_)
    refine ih (k + 1) (lotX x) _ (m + 1) mu1 (by omega) (by omega) (lotX_lt x) (wD_upD hw (by omega) (lot_ok (wt_rp hB hw m (Nat.le_refl m)) i1 i2)) x1 (f.tr f1) (fun mu' f' x' => ?_)
    rw [show m + 1 + z = m + (z + 1) by omega] at x' ⊢
    exact q mu' f' x'
theorem m_lots {Q : Int32 → fMu → fLa → Prop} (mu0 : fMu) (hB : wB B) (h0 : 0 < bN B) (n : Nat) (hn : n ≤ 20) : ∀ (z k x : Nat) (D : Nat → Nat × Nat × Nat) (m : Nat) (mu : fMu), k + z = n → m + z ≤ 40 → x < 2147483647 → wD B D m → MS B D m mu → Fr cM mu0 mu → (∀ mu' : fMu, Fr cM mu0 mu' → MS B (lotsD B z x D m) (m + z) mu' → Q (nI (pop (wrongT (rp B (lotsD B z x D m) (m + z)) (bN B)))) mu' la) → Ev E (d + 4) mi_217 32 [some (.inr (.inr (some (7, 0)))), some (.inl (nI n)), none, some (.inr (.inl (lN x))), none, some (.inl (nI k))] [] (mem E mu la) (qI E Q) := by
  intro z
  induction z with
  | zero =>
    intro k x D m mu hk hm hx hw hX f q
    refine vc_X7_lots_32 0 _ _ _ (yes (nI_le (by omega) (by omega)) ?_)
    exact s_wrongOf (T := rp B D m) hk38 (by decide) hB.1 hX.1.1 (fun j h => hX.2.1.w h) (s_bits _ (wrongT_lt _) (q mu f hX))
  | succ z ih =>
    intro k x D m mu hk hm hx hw hX f q
    have h6 := hB.1
    have hl0 : ¬ (nI (bN B)).toInt64 = 0 := b_l0 (by omega) (by omega)
    refine vc_X7_lots_32 0 _ _ _ ?_
    rw [hX.1.1]
    refine noo (nI_ge (by omega) (by omega)) ⟨by decide, hl0, by decide, hl0, ?_⟩
    rw [(lN_step hx).2, (lN_ix (lotX_lt x) h0 h6).1, (lN_ix (lotX_lt x) h0 h6).2, ← nI_succ]
    have i1 : lotX x % bN B < bN B := Nat.mod_lt _ h0
    have i2 : lotX x / 8 % bN B < bN B := Nat.mod_lt _ h0
    refine s_plays _ _ hB hw (by omega) i1 i2 hX (fun mu1 f1 x1 => ?_)
    refine ih (k + 1) (lotX x) _ (m + 1) mu1 (by omega) (by omega) (lotX_lt x) (wD_upD hw (by omega) (lot_ok (wt_rp hB hw m (Nat.le_refl m)) i1 i2)) x1 (f.tr f1) (fun mu' f' x' => ?_)
    rw [show m + 1 + z = m + (z + 1) by omega] at x' ⊢
    exact q mu' f' x'
theorem sz_c {n : Nat} {A C : Prop} (hn : n < 1000) (h1 : 0 < n → A) (h0 : n = 0 → C) : (¬ nI n = 0 → A) ∧ (¬ (¬ nI n = 0) → C) := by
  rcases Nat.eq_zero_or_pos n with z | z
  · exact noo (fun y => y (by rw [z]; rfl)) (h0 z)
  · exact yes (nI_ne0 z (by omega)) (h1 z)
theorem p_lots (h : Inv IB mu la) (a b : Int32) : Pair IB E (d + 7) mi_87 mi_217 [.inl a, .inl b] mu la := by
  have hi := h
  obtain ⟨-, -, -, B, D, m, hd⟩ := h
  have hB := hd.1
  have hn := hd.1.1
  have hm40 := hd.2.1.1
  have hM := hd.2.2.2.2.2.1
  have hdm : mu 7 0 13 = nI m := hd.2.2.2.2.2.2.2.1.1
  have hsz : mu 2 0 0 = nI m := hd.2.2.2.2.1.1
  have bad1 : (∀ j : Nat, 1 ≤ j → j ≤ 20 → a ≠ nI j) → FnI E (d + 7) mi_217 [.inr (.inr (some (7, 0))), .inl a, .inl b] mu la (fun r2 mu2 la2 => (-1 : Int32) = r2 ∧ Inv IB mu2 la2) := fun hno =>
    vc_X7_lots a b (s_inS a 1 20 (by decide) (by decide) (fun j h1 h2 e => absurd e (hno j h1 h2)) (fun _ => yes rfl ⟨rfl, hi⟩))
  refine vc_X6_lots a b (b_spanG a 1 20 (by decide) (by decide) (fun k hk1 hk2 e => ?_) bad1)
  subst e
  have bad2 : ¬ ((1 : Int64) ≤ b.toInt64 ∧ b.toInt64 ≤ 2147483646) → FnI E (d + 7) mi_217 [.inr (.inr (some (7, 0))), .inl (nI k), .inl b] mu la (fun r2 mu2 la2 => (-1 : Int32) = r2 ∧ Inv IB mu2 la2) := fun hno =>
    vc_X7_lots _ b (s_inS _ 1 20 (by decide) (by decide) (fun j h1 h2 e => noo b_x10 (s_in _ _ _ (fun hc => absurd hc hno) (fun _ => noo (fun z => z rfl) ⟨rfl, hi⟩))) (fun _ => yes rfl ⟨rfl, hi⟩))
  by_cases hb : b < 1
  · refine yes hb (bad2 (fun z => ?_))
    exact absurd ((b_w 1 b).mp z.1) (Int32.not_le.mpr hb)
  refine noo hb ?_
  obtain ⟨x, hx, rfl⟩ := nI_of (x := b) (fun z => hb (Int32.lt_trans z (by decide)))
  have hx1 : 1 ≤ x := by
    rcases Nat.eq_zero_or_pos x with z | z
    · rw [z] at hb; exact absurd (show nI 0 < 1 by decide) hb
    · exact z
  rw [lg_cmp_lt, nI_l hx, show (2147483647 : Int64) = lN 2147483647 from rfl, pk_lLT (by omega) (by decide)]
  have hbin : ((1 : Int64) ≤ (nI x).toInt64 ∧ (nI x).toInt64 ≤ 2147483646) ↔ x < 2147483647 := by
    rw [nI_l hx, show (2147483646 : Int64) = lN 2147483646 from rfl, show (1 : Int64) = lN 1 from rfl, pk_lLE (by decide) (by omega), pk_lLE (by omega) (by decide)]
    omega
  by_cases hxx : x < 2147483647
  · have go : ∀ (mu1 : fMu) (v : Int32), mu1 7 0 4 = nI (bN B) → mu1 7 0 13 = nI m → ((0 < bN B → ((m + k ≤ 40 → Ev E (d + 7) mi_217 32 [some (.inr (.inr (some (7, 0)))), some (.inl (nI k)), none, some (.inr (.inl (lN x))), none, some (.inl (0 : Int32))] [] (mem E mu1 la) (qI E (fun r2 mu2 la2 => v = r2 ∧ Inv IB mu2 la2))) ∧ (40 < m + k → v = -2 ∧ Inv IB mu1 la))) ∧ (bN B = 0 → v = -4 ∧ Inv IB mu1 la)) → FnI E (d + 7) mi_217 [.inr (.inr (some (7, 0))), .inl (nI k), .inl (nI x)] mu1 la (fun r2 mu2 la2 => v = r2 ∧ Inv IB mu2 la2) := by
      intro mu1 v e4 e13 hh
      refine vc_X7_lots _ _ (s_inS _ 1 20 (by decide) (by decide) (fun j h1 h2 e => noo b_x10 (s_in _ _ _ (fun _ => yes b_x10 ?_) (fun hc => absurd (hbin.mpr hxx) hc))) (fun hno => absurd rfl (hno k hk1 hk2)))
      rw [e4, e13, nI_add, nI_l hx]
      refine sz_c (by omega) (fun hz => ?_) hh.2
      exact pk_le (m + k) 40 (hh.1 hz).1 (hh.1 hz).2
    refine yes hxx ?_
    rw [hd.2.2.1.1, hsz, nI_add]
    refine sz_c (by omega) (fun hz => pk_le (m + k) 40 (fun hmk => ?_) (fun hmk => ?_)) (fun hz => ?_)
    · refine x_lots mu hB hz k hk2 k 0 x D m mu (Nat.zero_add k) hmk hxx hd.2.1 hd.xs Fr.rf (fun mu1 f1 x1 => ?_)
      have y1 := hd.ms.fr f1
      refine go mu1 _ y1.1.1 y1.2.2.1 ⟨fun _ => ⟨fun _ => ?_, fun z => by omega⟩, fun z => by omega⟩
      refine m_lots mu1 hB hz k hk2 k 0 x D m mu1 (Nat.zero_add k) hmk hxx hd.2.1 y1 Fr.rf (fun mu2 f2 y2 => ⟨rfl, ?_⟩)
      refine hi.both f1 f2 ⟨B, _, m + k, IBd.mk hB (lots_wD hB hz k x D m hmk hd.2.1) (x1.fr f2) y2 (fun kk hk => ((hd.2.2.2.2.2.2.2.2 kk hk).frx (f1.le cX_KX)).frx (f2.le cM_KX))⟩
    · exact go mu _ hM.1 hdm ⟨fun _ => ⟨fun z => by omega, fun _ => ⟨rfl, hi⟩⟩, fun z => by omega⟩
    · exact go mu _ hM.1 hdm ⟨fun z => by omega, fun _ => ⟨rfl, hi⟩⟩
  · exact noo hxx (bad2 (fun z => hxx (hbin.mp z)))
end LOTS
