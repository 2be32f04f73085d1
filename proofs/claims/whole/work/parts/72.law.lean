/-! the law, call by call -/
theorem Pair.deep {J : fMu → Prop} {E : mEv} {d d' : Nat} {JX JM : mI} {as : List mV} {mu : fMu} {la : fLa} (h : Pair J E d JX JM as mu la) (hd : d ≤ d') : Pair J E d' JX JM as mu la := FnI.deep (FnI.mono h (fun _ _ _ hq => FnI.deep hq hd)) hd
theorem PairL.deep {J : fMu → Prop} {E : mEv} {d d' : Nat} {JX JM : mI} {as : List mV} {mu : fMu} {la : fLa} (h : PairL J E d JX JM as mu la) (hd : d ≤ d') : PairL J E d' JX JM as mu la := FnL.deep (FnL.mono h (fun _ _ _ hq => FnL.deep hq hd)) hd
set_option maxHeartbeats 4000000 in
theorem law_loop {E : mEv} (hL : E.1 ≤ 3072) : ∀ (z i : Nat) (mu : fMu) (la : fLa), E.1 < i + z → i ≤ E.1 + 6 → Inv IB mu la → Ev E (100 + 1) mi_230 10 [some (.inr (.inr (some (100, 0)))), some (.inr (.inr (some (6, 0)))), some (.inr (.inr (some (7, 0)))), some (.inl (nI i))] [] (mem E mu la) (qI E (fun x _ _ => x = 1)) := by
  have hsub : (Int32.ofNat E.1 - (6 : Int32)).toInt = (E.1 : Int) - 6 := pk_sub_toInt (a := E.1) (b := 6) (by omega) (by decide)
  intro z
  induction z with
  | zero =>
    intro i mu la hz hi h
    refine vc_L_law_10 0 0 _ ⟨fun _ => rfl, fun hc => ?_⟩
    refine absurd ?_ hc
    rw [Int32.lt_iff_toInt_lt, hsub, nI_toInt (by omega)]
    omega
  | succ z ih =>
    intro i mu la hz hi h
    refine vc_L_law_10 0 0 _ ⟨fun _ => rfl, fun hc => ?_⟩
    have hle : i + 6 ≤ E.1 := by
      rw [Int32.lt_iff_toInt_lt, hsub, nI_toInt (by omega)] at hc
      omega
    have h0 : vp_in (nI i) E.1 := b_in rfl (by omega) (by omega)
    have h1 : vp_in (nI i + (1 : Int32)) E.1 := b_in (nI_add i 1) (by omega) (by omega)
    have h2 : vp_in (nI i + (2 : Int32)) E.1 := b_in (nI_add i 2) (by omega) (by omega)
    have h3 : vp_in (nI i + (3 : Int32)) E.1 := b_in (nI_add i 3) (by omega) (by omega)
    have h4 : vp_in (nI i + (4 : Int32)) E.1 := b_in (nI_add i 4) (by omega) (by omega)
    have h5 : vp_in (nI i + (5 : Int32)) E.1 := b_in (nI_add i 5) (by omega) (by omega)
    have nx : ∀ (mu' : fMu) (la' : fLa), Inv IB mu' la' → Ev E (100 + 1) mi_230 10 [some (.inr (.inr (some (100, 0)))), some (.inr (.inr (some (6, 0)))), some (.inr (.inr (some (7, 0)))), some (.inl (nI i + (6 : Int32)))] [] (mem E mu' la') (qI E (fun x _ _ => x = 1)) := by
      intro mu' la' h'
      have h6 : nI i + (6 : Int32) = nI (i + 6) := nI_add i 6
      rw [h6]
      exact ih (i + 6) mu' la' (by omega) (by omega) h'
    have fI : ∀ {d0 : Nat} {JX JM : mI} {as : List mV}, Pair IB E d0 JX JM as mu la → d0 ≤ 100 → FnI E 100 JX (.inr (.inr (some (6, 0))) :: as) mu la (fun r1 mu1 la1 => FnI E 100 JM (.inr (.inr (some (7, 0))) :: as) mu1 la1 (fun r2 mu2 la2 => (r1 = r2 → Ev E (100 + 1) mi_230 10 [some (.inr (.inr (some (100, 0)))), some (.inr (.inr (some (6, 0)))), some (.inr (.inr (some (7, 0)))), some (.inl (nI i + (6 : Int32)))] [] (mem E mu2 la2) (qI E (fun x _ _ => x = 1))) ∧ (¬ (r1 = r2) → (0 : Int32) = 1))) := by
      intro d0 JX JM as hp hd
      exact FnI.mono (hp.deep hd) (fun _ _ _ hq => FnI.mono hq (fun _ _ _ hh => ⟨fun _ => nx _ _ hh.2, fun hn => absurd hh.1 hn⟩))
    have fL : ∀ {d0 : Nat} {JX JM : mI} {as : List mV}, PairL IB E d0 JX JM as mu la → d0 ≤ 100 → FnL E 100 JX (.inr (.inr (some (6, 0))) :: as) mu la (fun r1 mu1 la1 => FnL E 100 JM (.inr (.inr (some (7, 0))) :: as) mu1 la1 (fun r2 mu2 la2 => (lg_cmp r1 r2 = 0 → Ev E (100 + 1) mi_230 10 [some (.inr (.inr (some (100, 0)))), some (.inr (.inr (some (6, 0)))), some (.inr (.inr (some (7, 0)))), some (.inl (nI i + (6 : Int32)))] [] (mem E mu2 la2) (qI E (fun x _ _ => x = 1))) ∧ (¬ (lg_cmp r1 r2 = 0) → (0 : Int32) = 1))) := by
      intro d0 JX JM as hp hd
      exact FnL.mono (hp.deep hd) (fun _ _ _ hq => FnL.mono hq (fun _ _ _ hh => ⟨fun _ => nx _ _ hh.2, fun hn => absurd ((lg_cmp_eq _ _).mpr hh.1) hn⟩))
    refine ⟨h0, ?_⟩
    refine ⟨fun _ => ⟨h1, h2, FnI.mono (fI (p_row (d := 0) ibf h _ _) (by decide)) (fun _ _ _ hq => ⟨h1, h2, hq⟩)⟩, fun _ => ?_⟩
    refine ⟨fun _ => ⟨h1, h2, h3, FnI.mono (fI (p_lay (d := 0) ibf h _ _ _) (by decide)) (fun _ _ _ hq => ⟨h1, h2, h3, hq⟩)⟩, fun _ => ?_⟩
    refine ⟨fun _ => ⟨h1, h2, FnI.mono (fI (p_at (d := 0) ibf h _ _) (by decide)) (fun _ _ _ hq => ⟨h1, h2, hq⟩)⟩, fun _ => ?_⟩
    refine ⟨fun _ => ⟨h1, FnI.mono (fI (p_tear (d := 0) ibf h _) (by decide)) (fun _ _ _ hq => ⟨h1, hq⟩)⟩, fun _ => ?_⟩
    refine ⟨fun _ => ⟨h1, h2, h3, h4, h5, FnI.mono (fI (p_copy (d := 0) ibf h _ _ _ _ _) (by decide)) (fun _ _ _ hq => ⟨h1, h2, h3, h4, h5, hq⟩)⟩, fun _ => ?_⟩
    refine ⟨fun _ => ⟨h1, FnI.mono (fI (p_mean (d := 0) ibf h _) (by decide)) (fun _ _ _ hq => ⟨h1, hq⟩)⟩, fun _ => ?_⟩
    refine ⟨fun _ => ⟨h1, h2, FnI.mono (fI (p_text (d := 0) ibf h _ _) (by decide)) (fun _ _ _ hq => ⟨h1, h2, hq⟩)⟩, fun _ => ?_⟩
    refine ⟨fun _ => ⟨h1, h2, h3, FnI.mono (fI (p_put (d := 0) ibf h _ _ _) (by decide)) (fun _ _ _ hq => ⟨h1, h2, h3, hq⟩)⟩, fun _ => ?_⟩
    refine ⟨fun _ => ⟨h1, FnI.mono (fI (p_fault (d := 0) h _) (by decide)) (fun _ _ _ hq => ⟨h1, hq⟩)⟩, fun _ => ?_⟩
    refine ⟨fun _ => ⟨h1, FnI.mono (fI (p_bar (d := 0) h _) (by decide)) (fun _ _ _ hq => ⟨h1, hq⟩)⟩, fun _ => ?_⟩
    refine ⟨fun _ => ⟨h1, h2, FnI.mono (fI (p_cup (d := 0) h _ _) (by decide)) (fun _ _ _ hq => ⟨h1, h2, hq⟩)⟩, fun _ => ?_⟩
    refine ⟨fun _ => ⟨h1, h2, FnI.mono (fI (p_mark (d := 0) h _ _) (by decide)) (fun _ _ _ hq => ⟨h1, h2, hq⟩)⟩, fun _ => ?_⟩
    refine ⟨fun _ => ⟨h1, FnI.mono (fI (p_holds (d := 0) h _) (by decide)) (fun _ _ _ hq => ⟨h1, hq⟩)⟩, fun _ => ?_⟩
    refine ⟨fun _ => ⟨h1, FnI.mono (fI (p_make (d := 0) h _) (by decide)) (fun _ _ _ hq => ⟨h1, hq⟩)⟩, fun _ => ?_⟩
    refine ⟨fun _ => ⟨h1, h2, FnI.mono (fI (p_change (d := 0) h _ _) (by decide)) (fun _ _ _ hq => ⟨h1, h2, hq⟩)⟩, fun _ => ?_⟩
    refine ⟨fun _ => ⟨h1, FnI.mono (fI (p_toss (d := 0) h _) (by decide)) (fun _ _ _ hq => ⟨h1, hq⟩)⟩, fun _ => ?_⟩
    refine ⟨fun _ => ⟨h1, FnI.mono (fI (p_undo (d := 0) h _) (by decide)) (fun _ _ _ hq => ⟨h1, hq⟩)⟩, fun _ => ?_⟩
    refine ⟨fun _ => ⟨h1, FnI.mono (fI (p_keep (d := 0) h _) (by decide)) (fun _ _ _ hq => ⟨h1, hq⟩)⟩, fun _ => ?_⟩
    refine ⟨fun _ => ⟨h1, FnI.mono (fI (p_on (d := 0) h _) (by decide)) (fun _ _ _ hq => ⟨h1, hq⟩)⟩, fun _ => ?_⟩
    refine ⟨fun _ => ⟨h1, FnI.mono (fI (p_least (d := 0) h _) (by decide)) (fun _ _ _ hq => ⟨h1, hq⟩)⟩, fun _ => ?_⟩
    refine ⟨fun _ => ⟨h1, FnI.mono (fI (p_latest (d := 0) h _) (by decide)) (fun _ _ _ hq => ⟨h1, hq⟩)⟩, fun _ => ?_⟩
    refine ⟨fun _ => ⟨h1, FnI.mono (fI (p_fewest (d := 0) h _) (by decide)) (fun _ _ _ hq => ⟨h1, hq⟩)⟩, fun _ => ?_⟩
    refine ⟨fun _ => ⟨h1, FnI.mono (fI (p_orders (d := 0) h _) (by decide)) (fun _ _ _ hq => ⟨h1, hq⟩)⟩, fun _ => ?_⟩
    refine ⟨fun _ => ⟨h1, FnI.mono (fI (p_makes (d := 0) h _) (by decide)) (fun _ _ _ hq => ⟨h1, hq⟩)⟩, fun _ => ?_⟩
    refine ⟨fun _ => ⟨h1, h2, FnI.mono (fI (p_done (d := 0) h _ _) (by decide)) (fun _ _ _ hq => ⟨h1, h2, hq⟩)⟩, fun _ => ?_⟩
    refine ⟨fun _ => fI (p_wrong (d := 0) h) (by decide), fun _ => ?_⟩
    refine ⟨fun _ => fI (p_mends (d := 0) h) (by decide), fun _ => ?_⟩
    refine ⟨fun _ => ⟨h1, FnI.mono (fI (p_runs (d := 0) h _) (by decide)) (fun _ _ _ hq => ⟨h1, hq⟩)⟩, fun _ => ?_⟩
    refine ⟨fun _ => ⟨h1, FnI.mono (fI (p_whose (d := 0) h _) (by decide)) (fun _ _ _ hq => ⟨h1, hq⟩)⟩, fun _ => ?_⟩
    refine ⟨fun _ => fI (p_alike (d := 0) h) (by decide), fun _ => ?_⟩
    refine ⟨fun _ => fI (p_give (d := 0) h) (by decide), fun _ => ?_⟩
    refine ⟨fun _ => ⟨h1, FnI.mono (fI (p_reach (d := 0) h _) (by decide)) (fun _ _ _ hq => ⟨h1, hq⟩)⟩, fun _ => ?_⟩
    refine ⟨fun _ => ⟨h1, FnI.mono (fI (p_ears (d := 0) h _) (by decide)) (fun _ _ _ hq => ⟨h1, hq⟩)⟩, fun _ => ?_⟩
    refine ⟨fun _ => ⟨h1, h2, h3, FnI.mono (fI (p_kinds (d := 0) h _ _ _) (by decide)) (fun _ _ _ hq => ⟨h1, h2, h3, hq⟩)⟩, fun _ => ?_⟩
    refine ⟨fun _ => ⟨h1, FnI.mono (fI (p_wag (d := 0) h _) (by decide)) (fun _ _ _ hq => ⟨h1, hq⟩)⟩, fun _ => ?_⟩
    refine ⟨fun _ => ⟨h1, h2, FnI.mono (fI (p_odds (d := 0) h _ _) (by decide)) (fun _ _ _ hq => ⟨h1, h2, hq⟩)⟩, fun _ => ?_⟩
    refine ⟨fun _ => ⟨h1, FnI.mono (fI (p_mid (d := 0) h _) (by decide)) (fun _ _ _ hq => ⟨h1, hq⟩)⟩, fun _ => ?_⟩
    refine ⟨fun _ => ⟨h1, h2, FnI.mono (fI (p_lots (d := 0) h _ _) (by decide)) (fun _ _ _ hq => ⟨h1, h2, hq⟩)⟩, fun _ => ?_⟩
    refine ⟨fun _ => fI (p_asked (d := 0) h) (by decide), fun _ => ?_⟩
    refine ⟨fun _ => fL (p_upper (d := 0) h) (by decide), fun _ => ?_⟩
    refine ⟨fun _ => fL (p_lower (d := 0) h) (by decide), fun _ => ?_⟩
    refine ⟨fun _ => ⟨h1, FnI.mono (fI (p_count (d := 0) h _) (by decide)) (fun _ _ _ hq => ⟨h1, hq⟩)⟩, fun _ => ?_⟩
    refine ⟨fun _ => fI (p_finding (d := 0) h) (by decide), fun _ => ?_⟩
    refine ⟨fun _ => ⟨h1, FnI.mono (fI (p_findings (d := 0) h _) (by decide)) (fun _ _ _ hq => ⟨h1, hq⟩)⟩, fun _ => ?_⟩
    refine ⟨fun _ => fL (p_digest (d := 0) h) (by decide), fun _ => ?_⟩
    exact nx mu la h
