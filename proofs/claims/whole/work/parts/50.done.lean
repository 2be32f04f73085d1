section DONE
variable {E : mEv} {d c : Nat} {mu : fMu} {la : fLa} {B : tB} {T : tT} {D : Nat → Nat × Nat × Nat} {m : Nat}
theorem make_at (B : tB) (T : tT) (i e : Nat) : tH (makesT B T i e) i = match who B (tD T) i e with | none => 6 | some p => nI p := if_pos rfl
/-- both sides have done a deed -/
theorem ib_deed {mu mu1 mu2 : fMu} {x : Nat × Nat × Nat} (hi : Inv IB mu la) (hd : IBd B D m mu) (hm : m < 40) (hx : okDd B (rp B D m) x) (f1 : Fr cX mu mu1) (x1 : XS B (upD D m x) (m + 1) mu1) (f2 : Fr cM mu1 mu2) (hM : MB B mu2) (hC : MC 38 0 (stT B (rp B D m) x) mu2) (hD : MD B (upD D m x) (m + 1) mu2) : Inv IB mu2 la ∧ IBd B (upD D m x) (m + 1) mu2 := by
  have h : IBd B (upD D m x) (m + 1) mu2 := IBd.mk hd.1 (wD_upD hd.2.1 hm hx) (x1.fr f2) ⟨hM, by rw [rp_upD1]; exact hC, hD⟩ (fun kk hk => ((hd.2.2.2.2.2.2.2.2 kk hk).frx (f1.le cX_KX)).frx (f2.le cM_KX))
  exact ⟨hi.both f1 f2 ⟨B, upD D m x, m + 1, h⟩, h⟩
theorem e_40 {m : Nat} (hm : m ≤ 40) : (¬ nI m = (40 : Int32)) ↔ m < 40 := by
  rw [show (40 : Int32) = nI 40 from rfl, nI_eq (by omega) (by omega)]
  omega
theorem p_make (h : Inv IB mu la) (a : Int32) : Pair IB E (d + 6) mi_63 mi_176 [.inl a] mu la := by
  have hi := h
  obtain ⟨-, -, -, B, D, m, hd⟩ := h
  have hn := hd.1.1
  have hb := hd.1
  have hwt := hd.wt
  have hX := hd.2.2.1
  have hC := hd.2.2.2.1
  have hM := hd.2.2.2.2.2.1
  have hT := hd.2.2.2.2.2.2.1
  have hm40 := hd.2.1.1
  have hdm : mu 7 0 13 = nI m := hd.2.2.2.2.2.2.2.1.1
  refine vc_X6_make a (s_cHas a (by omega) hX.1 (fun i hin e => yes b_x10 ?_) (fun hno => noo (fun z => z rfl) ?_))
  · subst e
    refine s_cMade (T := rp B D m) i hn hin hC.2.2.1 (bzz (fun h9 => ?_) (fun h9 => ?_))
    · have h9' : tH (rp B D m) i = -9 := by simpa using h9
      rw [hd.2.2.2.2.1.1]
      rcases Nat.lt_or_ge m 40 with hm | hm
      · refine yes (nI_lt (b := 40) hm (by decide)) ?_
        have hx : okDd B (rp B D m) (1, i, 0) := ⟨hin, h9', rfl⟩
        refine s_perform (1, i, 0) hb hd.2.1 hm hx hd.xs (fun mu1 f1 x1 => ⟨b_in rfl (by omega) (by decide), ?_⟩)
        have hst : stT B (rp B D m) (1, i, 0) = makesT B (rp B D m) i (bE B) := rfl
        have hp1 : mu1 8 0 i = match who B (tD (rp B D m)) i (bE B) with | none => 6 | some p => nI p := by
          rw [x1.2.1.2.2.2.2.1 i (by omega), rp_upD1, hst, make_at]
        have hd1 := hd.ms.fr f1
        have go : FnI E (d + 6) mi_176 [.inr (.inr (some (7, 0))), .inl (nI i)] mu1 la (fun r2 mu2 la2 => oI (who B (tD (rp B D m)) i (bE B)) = r2 ∧ Inv IB mu2 la2) := by
          refine vc_X7_make _ (s_isCup hn _ hd1.1.1 (fun _ _ _ => yes b_x10 (s_isMadeM hk38 (by decide) i (by omega) (hd1.2.1.w (by omega)) ?_)) (fun hno => absurd rfl (hno i hin)))
          refine bzz (fun _ => ?_) (fun z => by rw [z] at h9; cases h9)
          rw [hd1.2.2.1]
          refine yes ((e_40 hm40).mpr hm) (s_remember hd.2.1 hm hd1 (fun mu2 f2 g2 m2 c2 d2 => ?_))
          rw [m2.2.1]
          refine s_makesOn (Or.inl rfl) i (bE B) hb hin hb.2.1 hwt.d64 hwt.2.2.2.2.2 m2 c2 (fun mu3 f3 c3 => ?_)
          have fin := (ib_deed hi hd hm hx f1 x1 (f2.cm f3) (m2.fr (f3.le (cK_MB (Or.inl rfl)))) c3 ((d2 _).k38 f3)).1
          rw [Int32.zero_add, b_cl (by omega), c3.w (i := i) (by omega), make_at]
          refine ⟨b_in rfl (by omega) (by decide), ?_⟩
          cases hw : who B (tD (rp B D m)) i (bE B) with
          | none => exact noo (fun z => z rfl) ⟨rfl, fin⟩
          | some p =>
            have := (who_some hw).1
            exact yes (b_p9 p (by omega)).2.1 ⟨b_in rfl (by omega) (by decide), rfl, fin⟩
        rw [b_cl (by omega), hp1]
        cases hw : who B (tD (rp B D m)) i (bE B) with
        | none =>
          rw [hw] at go
          refine s_cHas _ (by omega) x1.1.1 (fun j hj e => ?_) (fun _ => yes rfl go)
          exact absurd e.symm (b_p9 j (by omega)).2.1
        | some p =>
          rw [hw] at go
          have := (who_some hw).1
          refine s_cHas _ (by omega) x1.1.1 (fun j hj e => noo b_x10 ⟨b_in rfl (by omega) (by decide), by rw [hp1, hw]; exact go⟩) (fun hno => absurd rfl (hno p this))
      · refine noo (nI_nlt (b := 40) hm (by omega)) (vc_X7_make _ (s_isCup hn _ hM.1 (fun _ _ _ => yes b_x10 (s_isMadeM hk38 (by decide) i (by omega) (hT.w (by omega)) ?_)) (fun hno => absurd rfl (hno i hin))))
        refine bzz (fun _ => ?_) (fun z => by rw [z] at h9; cases h9)
        rw [hdm]
        exact noo (fun z => by have := (e_40 hm40).mp z; omega) ⟨rfl, hi⟩
    · refine vc_X7_make _ (s_isCup hn _ hM.1 (fun _ _ _ => yes b_x10 (s_isMadeM hk38 (by decide) i (by omega) (hT.w (by omega)) ?_)) (fun hno => absurd rfl (hno i hin)))
      exact bzz (fun z => by rw [z] at h9; cases h9) (fun _ => ⟨rfl, hi⟩)
  · exact vc_X7_make _ (s_isCup hn _ hM.1 (fun j hj e => absurd e (hno j hj)) (fun _ => noo (fun z => z rfl) ⟨rfl, hi⟩))
theorem p_toss (h : Inv IB mu la) (a : Int32) : Pair IB E (d + 6) mi_65 mi_179 [.inl a] mu la := by
  have hi := h
  obtain ⟨-, -, -, B, D, m, hd⟩ := h
  have hn := hd.1.1
  have hb := hd.1
  have hwt := hd.wt
  have hX := hd.2.2.1
  have hC := hd.2.2.2.1
  have hM := hd.2.2.2.2.2.1
  have hT := hd.2.2.2.2.2.2.1
  have hm40 := hd.2.1.1
  have hdm : mu 7 0 13 = nI m := hd.2.2.2.2.2.2.2.1.1
  refine vc_X6_toss a (s_cHas a (by omega) hX.1 (fun i hin e => yes b_x10 ⟨b_in e (by omega) (by decide), ?_⟩) (fun hno => noo (fun z => z rfl) ?_))
  · subst e
    have h9 : vp_in (nI i) 9 := b_in rfl (by omega) (by decide)
    rw [b_cl (by omega), hC.2.2.2.2.1 i (by omega), hd.2.2.2.2.1.1]
    by_cases h6 : tH (rp B D m) i = 6
    · refine yes h6 ?_
      rcases Nat.lt_or_ge m 40 with hm | hm
      · refine yes (nI_lt (b := 40) hm (by decide)) ?_
        have hx : okDd B (rp B D m) (3, i, 0) := ⟨hin, h6, rfl⟩
        refine s_perform (3, i, 0) hb hd.2.1 hm hx hd.xs (fun mu1 f1 x1 => ?_)
        have hd1 := hd.ms.fr f1
        refine s_standingX hn x1.1.1 x1.2.1 (s_bitCount _ (bits64 _ hn) ?_)
        rw [rp_upD1]
        refine vc_X7_toss _ (s_isCup hn _ hd1.1.1 (fun _ _ _ => yes b_x10 ?_) (fun hno => absurd rfl (hno i hin)))
        rw [Int32.zero_add, b_cl (by omega), hd1.2.1.w (i := i) (by omega), hd1.2.2.1]
        refine ⟨h9, yes h6 (yes ((e_40 hm40).mpr hm) (s_remember hd.2.1 hm hd1 (fun mu2 f2 g2 m2 c2 d2 => ⟨h9, ?_⟩)))⟩
        rintro mu3 rfl
        obtain ⟨c3, f3⟩ := s_mtoss i (by omega) c2
        have m3 := m2.fr (f3.le (cK_MB (Or.inl rfl)))
        have fin := (ib_deed hi hd hm hx f1 x1 (f2.cm f3) m3 c3 ((d2 _).k38 f3)).1
        exact s_standingM (T := tsT (rp B D m) i) hn m3.1 (fun j h => c3.w h) (s_bits _ (bits64 _ hn) ⟨rfl, fin⟩)
      · refine noo (nI_nlt (b := 40) hm (by omega)) (vc_X7_toss _ (s_isCup hn _ hM.1 (fun _ _ _ => yes b_x10 ?_) (fun hno => absurd rfl (hno i hin))))
        rw [Int32.zero_add, b_cl (by omega), hT.w (i := i) (by omega), hdm]
        exact ⟨h9, yes h6 (noo (fun z => by have := (e_40 hm40).mp z; omega) ⟨rfl, hi⟩)⟩
    · refine noo h6 (vc_X7_toss _ (s_isCup hn _ hM.1 (fun _ _ _ => yes b_x10 ?_) (fun hno => absurd rfl (hno i hin))))
      rw [Int32.zero_add, b_cl (by omega), hT.w (i := i) (by omega)]
      exact ⟨h9, noo h6 ⟨rfl, hi⟩⟩
  · exact vc_X7_toss _ (s_isCup hn _ hM.1 (fun j hj e => absurd e (hno j hj)) (fun _ => noo (fun z => z rfl) ⟨rfl, hi⟩))
theorem e_n9 {r : Option Nat} (hr : ∀ j, r = some j → j < 6) : (¬ oI r = -9) ↔ r ≠ none := by
  cases r with
  | none => exact ⟨fun z => absurd rfl z, fun z => absurd rfl z⟩
  | some j => exact ⟨fun _ => by simp, fun _ => (b_p9 j (hr j rfl)).1⟩
theorem p_change (h : Inv IB mu la) (a b : Int32) : Pair IB E (d + 6) mi_64 mi_178 [.inl a, .inl b] mu la := by
  have hi := h
  obtain ⟨-, -, -, B, D, m, hd⟩ := h
  have hn := hd.1.1
  have hb := hd.1
  have hwt := hd.wt
  have hX := hd.2.2.1
  have hC := hd.2.2.2.1
  have hM := hd.2.2.2.2.2.1
  have hT := hd.2.2.2.2.2.2.1
  have hm40 := hd.2.1.1
  have hdm : mu 7 0 13 = nI m := hd.2.2.2.2.2.2.2.1.1
  refine vc_X6_change a b (s_cHas a (by omega) hX.1 (fun p hp e => noo b_x10 (s_cHas b (by omega) hX.1 (fun q hq e2 => noo b_x10 ?_) (fun hno => yes rfl ?_))) (fun hno => yes rfl ?_))
  · subst e
    subst e2
    have hp6 : p < 6 := by omega
    have hq6 : q < 6 := by omega
    have hlp : ∀ j, heldT (bN B) (rp B D m) (nI p) = some j → j < 6 := fun j e => ((hwt.held hp6).mp e).1
    have hlq : ∀ j, heldT (bN B) (rp B D m) (nI q) = some j → j < 6 := fun j e => ((hwt.held hq6).mp e).1
    refine pk_eq p q (fun e => ?_) (fun e => s_cThere p hn hp hX.2.2.1 (bzz (fun k1 => ?_) (fun k1 => s_cThere q hn hq hX.2.2.1 (bnz (fun k2 => ⟨b_in rfl hp6 (by decide), ?_⟩) (fun k2 => ?_)))))
    · exact vc_X7_change _ _ (s_isCup hn _ hM.1 (fun _ _ _ => noo b_x10 (s_isCup hn _ hM.1 (fun _ _ _ => noo b_x10 (yes (by rw [e]) ⟨rfl, hi⟩)) (fun _ => yes rfl ⟨rfl, hi⟩))) (fun _ => yes rfl ⟨rfl, hi⟩))
    · refine vc_X7_change _ _ (s_isCup hn _ hM.1 (fun _ _ _ => noo b_x10 (s_isCup hn _ hM.1 (fun _ _ _ => noo b_x10 ⟨fun _ => ⟨rfl, hi⟩, fun _ => s_mThere p hb hp hM ?_⟩) (fun _ => yes rfl ⟨rfl, hi⟩))) (fun _ => yes rfl ⟨rfl, hi⟩))
      rw [k1]
      exact yes rfl ⟨rfl, hi⟩
    · have t1 : bK B p ≠ 3 := of_decide_eq_true k1
      have t2 : bK B q ≠ 3 := of_decide_eq_true k2
      have ne : ¬ nI p = nI q := fun z => e ((nI_eq (by omega) (by omega)).mp z)
      rw [b_cl (by omega), b_cl (by omega), hC.2.2.2.2.2 p hp6, hC.2.2.2.2.2 q hq6, hd.2.2.2.2.1.1]
      have mh : ∀ (mu1 : fMu) (v : Int32), MS B D m mu1 → ((¬ oI (heldT (bN B) (rp B D m) (nI p)) = -9 ∨ ¬ oI (heldT (bN B) (rp B D m) (nI q)) = -9) → ((¬ mu1 7 0 13 = (40 : Int32) → (FnV E (d + 5) mi_175 [.inr (.inr (some (7, 0)))] mu1 la (fun mu17 la18 => FnV E (d + 5) mi_177 [.inr (.inr (some (7, 0))), .inr (.inr (some (38, 0))), .inl (nI p), .inl (nI q)] mu17 la18 (fun mu20 la21 => FnI E (d + 5) mi_163 [.inr (.inr (some (7, 0))), .inr (.inr (some (38, 0)))] mu20 la21 (fun x22 mu23 la24 => FnI E (d + 5) mi_131 [.inl x22] mu23 la24 (fun x25 mu26 la27 => v = x25 ∧ Inv IB mu26 la27)))))) ∧ (¬ (¬ mu1 7 0 13 = (40 : Int32)) → (v = -2 ∧ Inv IB mu1 la)))) → ((¬ (¬ oI (heldT (bN B) (rp B D m) (nI p)) = -9 ∨ ¬ oI (heldT (bN B) (rp B D m) (nI q)) = -9)) → (v = -4 ∧ Inv IB mu1 la)) → FnI E (d + 6) mi_178 [.inr (.inr (some (7, 0))), .inl (nI p), .inl (nI q)] mu1 la (fun r2 mu2 la2 => v = r2 ∧ Inv IB mu2 la2) := by
        intro mu1 v hm1 q1 q0
        refine vc_X7_change _ _ (s_isCup hn _ hm1.1.1 (fun _ _ _ => noo b_x10 (s_isCup hn _ hm1.1.1 (fun _ _ _ => noo b_x10 (noo ne (s_mThere p hb hp hm1.1 (bzz (fun z => by rw [k1] at z; cases z) (fun _ => s_mThere q hb hq hm1.1 (bnz (fun _ => s_heldBy hk38 (by decide) _ hn hm1.1.1 (fun i h => hm1.2.1.w h) ?_) (fun z => by rw [k2] at z; cases z))))))) (fun hno => absurd rfl (hno q hq)))) (fun hno => absurd rfl (hno p hp)))
        by_cases c1 : oI (heldT (bN B) (rp B D m) (nI p)) = -9
        · refine noo (fun z => z c1) (s_heldBy hk38 (by decide) _ hn hm1.1.1 (fun i h => hm1.2.1.w h) ?_)
          by_cases c2 : oI (heldT (bN B) (rp B D m) (nI q)) = -9
          · exact noo (fun z => z c2) (q0 (fun z => z.elim (fun w => w c1) (fun w => w c2)))
          · exact yes c2 (q1 (Or.inr c2))
        · exact yes c1 (q1 (Or.inl c1))
      have hx : okDd B (rp B D m) (2, p, q) := ⟨hp, hq, e, t1, t2⟩
      have both : (¬ oI (heldT (bN B) (rp B D m) (nI p)) = -9 ∨ ¬ oI (heldT (bN B) (rp B D m) (nI q)) = -9) → ((nI m < (40 : Int32) → (FnV E (d + 5) mi_119 [.inr (.inr (some (6, 0))), .inl (2 : Int32), .inl (nI p), .inl (nI q)] mu la (fun mu14 la15 => FnI E (d + 5) mi_12 [.inr (.inr (some (0, 0)))] mu14 la15 (fun x16 mu17 la18 => FnI E (d + 6) mi_178 [.inr (.inr (some (7, 0))), .inl (nI p), .inl (nI q)] mu17 la18 (fun r2 mu2 la2 => x16 = r2 ∧ Inv IB mu2 la2))))) ∧ (¬ (nI m < (40 : Int32)) → FnI E (d + 6) mi_178 [.inr (.inr (some (7, 0))), .inl (nI p), .inl (nI q)] mu la (fun r2 mu2 la2 => (-2 : Int32) = r2 ∧ Inv IB mu2 la2))) := by
        intro hc
        rcases Nat.lt_or_ge m 40 with hm | hm
        · refine yes (nI_lt (b := 40) hm (by decide)) (s_perform (2, p, q) hb hd.2.1 hm hx hd.xs (fun mu1 f1 x1 => ?_))
          have hd1 := hd.ms.fr f1
          have hw1 : WT B (rp B (upD D m (2, p, q)) (m + 1)) := by rw [rp_upD1]; exact wt_step hb hwt hx
          refine s_howManyWrong hw1 x1.1.1 x1.2.1 (mh mu1 _ hd1 (fun _ => ?_) (fun z => absurd hc z))
          rw [hd1.2.2.1, rp_upD1]
          refine yes ((e_40 hm40).mpr hm) (s_remember hd.2.1 hm hd1 (fun mu2 f2 g2 m2 c2 d2 => s_changes (Or.inl rfl) p q hwt hp hq e m2.1 c2 (fun mu3 f3 c3 => ?_)))
          have m3 := m2.fr (f3.le (cK_MB (Or.inl rfl)))
          have fin := (ib_deed hi hd hm hx f1 x1 (f2.cm f3) m3 c3 ((d2 _).k38 f3)).1
          exact s_wrongOf (T := chT (bN B) (rp B D m) p q) hk38 (by decide) hn m3.1 (fun j h => c3.w h) (s_bits _ (wrongT_lt _) ⟨rfl, fin⟩)
        · refine noo (nI_nlt (b := 40) hm (by omega)) (mh mu _ hd.ms (fun _ => ?_) (fun z => absurd hc z))
          rw [hdm]
          exact noo (fun z => by have := (e_40 hm40).mp z; omega) ⟨rfl, hi⟩
      by_cases c1 : oI (heldT (bN B) (rp B D m) (nI p)) = -9
      · refine noo (fun z => z c1) ⟨b_in rfl hq6 (by decide), ?_⟩
        by_cases c2 : oI (heldT (bN B) (rp B D m) (nI q)) = -9
        · exact noo (fun z => z c2) (mh mu _ hd.ms (fun z => absurd z (fun z => z.elim (fun w => w c1) (fun w => w c2))) (fun _ => ⟨rfl, hi⟩))
        · exact yes c2 (both (Or.inr c2))
      · exact yes c1 (both (Or.inl c1))
    · refine vc_X7_change _ _ (s_isCup hn _ hM.1 (fun _ _ _ => noo b_x10 (s_isCup hn _ hM.1 (fun _ _ _ => noo b_x10 ⟨fun _ => ⟨rfl, hi⟩, fun _ => s_mThere p hb hp hM (bzz (fun _ => ⟨rfl, hi⟩) (fun _ => s_mThere q hb hq hM ?_))⟩) (fun _ => yes rfl ⟨rfl, hi⟩))) (fun _ => yes rfl ⟨rfl, hi⟩))
      rw [k2]
      exact noo (fun z => z rfl) ⟨rfl, hi⟩
  · exact vc_X7_change _ _ (s_isCup hn _ hM.1 (fun _ _ _ => noo b_x10 (s_isCup hn _ hM.1 (fun j hj e => absurd e (hno j hj)) (fun _ => yes rfl ⟨rfl, hi⟩))) (fun _ => yes rfl ⟨rfl, hi⟩))
  · exact vc_X7_change _ _ (s_isCup hn _ hM.1 (fun j hj e => absurd e (hno j hj)) (fun _ => yes rfl ⟨rfl, hi⟩))
end DONE
