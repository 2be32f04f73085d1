theorem aG_iff {G : gS} {st : List mV} : aG G st ↔ ∀ v ∈ st, gV G v := by
  induction st with
  | nil => exact ⟨fun _ v hv => (nomatch hv), fun _ => trivial⟩
  | cons a l ih =>
    constructor
    · intro h v hv
      rcases List.mem_cons.mp hv with e | e
      · rw [e]; exact h.1
      · exact ih.mp h.2 v e
    · intro h
      exact ⟨h a List.mem_cons_self, ih.mpr (fun v hv => h v (List.mem_cons_of_mem _ hv))⟩
theorem gL_nil {G : gS} : gL G [] := fun k v e => by cases e
theorem gL_cons {G : gS} {o : Option mV} {l : List (Option mV)} (h1 : ∀ v, o = some v → gV G v) (h2 : gL G l) : gL G (o :: l) := by
  intro k v e
  cases k with
  | zero => exact h1 v (Option.some.inj e)
  | succ k => exact h2 k v e
theorem gL_tail {G : gS} {o : Option mV} {l : List (Option mV)} (h : gL G (o :: l)) : gL G l := fun k v e => h (k + 1) v e
theorem gL_ent {G : gS} {as : List mV} (h : aG G as) : gL G (mEnt as) := by
  induction as with
  | nil => exact gL_nil
  | cons a l ih =>
    rcases a with x | x | r
    · exact gL_cons (fun v e => by cases e; exact h.1) (ih h.2)
    · exact gL_cons (fun v e => by cases e; exact h.1) (gL_cons (fun v e => by cases e) (ih h.2))
    · exact gL_cons (fun v e => by cases e; exact h.1) (ih h.2)
theorem gL_pad {G : gS} (n : Nat) : ∀ {l : List (Option mV)}, gL G l → gL G (mPad n l) := by
  induction n with
  | zero => intro l h; exact h
  | succ n ih =>
    intro l h
    cases l with
    | nil => exact gL_cons (fun v e => by cases e) (ih gL_nil)
    | cons a l => exact gL_cons (fun v e => h 0 v (by rw [e]; rfl)) (ih (gL_tail h))
theorem mCall_ok {G : gS} {i : Instr} {st : List mV} {J : mI} {as rest : List mV} (h : mCall i st = some (J, as, rest)) : (∃ t, mG t = some J) ∧ (aG G st → aG G as ∧ aG G rest) := by
  have key : ∀ (n : Nat), aG G st → aG G (st.take n).reverse ∧ aG G (st.drop n) := by
    intro n hs
    rw [aG_iff] at hs
    exact ⟨aG_iff.mpr (fun v hv => hs v (List.mem_of_mem_take (List.mem_reverse.mp hv))), aG_iff.mpr (fun v hv => hs v (List.mem_of_mem_drop hv))⟩
  unfold mCall at h
  split at h
  · split at h
    · rename_i I hI
      split at h
      · cases h
        exact ⟨⟨_, hI⟩, key _⟩
      · cases h
    · cases h
  · split at h
    · rename_i I hI
      split at h
      · split at h
        · rename_i k i0 as0 he
          split at h
          · cases h
            refine ⟨⟨_, hI⟩, fun hs => ?_⟩
            have h1 := key J.2.2.2.2.2.1 hs
            rw [he] at h1
            exact h1
          · cases h
        · cases h
      · cases h
    · cases h
  · split at h
    · rename_i I hI
      split at h
      · split at h
        · rename_i k i0 as0 he
          split at h
          · cases h
            refine ⟨⟨_, hI⟩, fun hs => ?_⟩
            have h1 := key J.2.2.2.2.2.1 hs
            rw [he] at h1
            exact h1
          · cases h
        · cases h
      · cases h
    · cases h
  · cases h
theorem mRet_ok {G : gS} {rt : Option FieldType} {i : Instr} {st : List mV} {r : Option mV} (h : mRet rt i st = some r) (hs : aG G st) : ∀ v, r = some v → gV G v := by
  unfold mRet at h
  intro v hv
  subst hv
  repeat' (split at h)
  all_goals (first | (cases h; done) | (cases h; exact trivial) | (cases h; exact hs.1))
theorem ok_field {I : mI} (h : okM I = true) {ip : Nat} {o : mO} (ho : nth I.2.2.2.2.2.2.2.1 ip = some o) : ∀ ci j, (o.1 = .invokeinterface ci j ∨ o.1 = .multianewarray ci j) → ci < 8 ∧ j < mNf ci := by
  obtain ⟨pc, -, hb⟩ := ok_at h ho
  intro ci j hc
  rcases hc with e | e
  · rw [e] at hb
    unfold okB at hb
    rw [List.any_eq_true] at hb
    obtain ⟨q, hq, hb⟩ := hb
    simp only [Bool.and_eq_true, decide_eq_true_eq] at hb
    obtain ⟨⟨⟨-, h2⟩, h3⟩, -⟩ := hb
    have := tFT_ok q hq
    rw [h2, h3] at this
    exact ⟨this.1, this.2.1⟩
  · rw [e] at hb
    unfold okB at hb
    rw [List.any_eq_true] at hb
    obtain ⟨q, hq, hb⟩ := hb
    simp only [Bool.and_eq_true, decide_eq_true_eq] at hb
    obtain ⟨⟨⟨⟨-, h2⟩, h3⟩, -⟩, -⟩ := hb
    have := tFT_ok q hq
    rw [h2, h3] at this
    exact ⟨this.1, this.2.1⟩
theorem sim_run {L L' : Nat} {xs xs' : Nat → Int32} (n : Nat) : ∀ (d : Nat) (I : mI) (ip : Nat) (ls : List (Option mV)) (st : List mV) (cs : List (Nat × Nat)) (rc ra : fRh) (mu : fMu) (la : fLa) (r : Option mV) (M' : mM) (G : gS), okM I = true → ((L = L' ∧ xs = xs') ∨ (∀ i, ¬ G 100 i)) → G 101 0 → RelR G ra rc → (∀ c ∈ cs, G c.1 c.2) → gL G ls → aG G st → mrun L xs n d I ip ls st (cs, rc, mu, la) = some (r, M') → ∃ (G' : gS) (ra' : fRh) (cs' : List (Nat × Nat)) (rc' : fRh) (mu' : fMu) (la' : fLa), M' = (cs', rc', mu', la') ∧ mrun L' xs' n d I ip ls st (cs, ra, mu, la) = some (r, (cs', ra', mu', la')) ∧ (∀ k i, G k i → G' k i) ∧ ((∀ i, ¬ G 100 i) → ∀ i, ¬ G' 100 i) ∧ RelR G' ra' rc' ∧ (∀ c ∈ cs', G' c.1 c.2) ∧ ∀ v, r = some v → gV G' v := by
  induction n with
  | zero => intro d I ip ls st cs rc ra mu la r M' G _ _ _ _ _ _ _ h; cases h
  | succ n ih =>
    intro d I ip ls st cs rc ra mu la r M' G hI hL hG hR hM hl hs h
    unfold mrun at h
    cases ho : nth I.2.2.2.2.2.2.2.1 ip with
    | none => rw [ho] at h; cases h
    | some o =>
      obtain ⟨i, v⟩ := o
      rw [ho] at h
      dsimp only at h
      cases hr : mRet I.2.2.2.2.1 i st with
      | some r0 =>
        rw [hr] at h
        cases h
        refine ⟨G, ra, cs, rc, mu, la, rfl, ?_, fun _ _ h => h, fun h => h, hR, hM, mRet_ok hr hs⟩
        unfold mrun
        rw [ho]
        dsimp only
        rw [hr]
      | none =>
        rw [hr] at h
        dsimp only at h
        cases hc : mCall i st with
        | some c =>
          obtain ⟨J, as, rest⟩ := c
          rw [hc] at h
          dsimp only at h
          cases d with
          | zero => cases h
          | succ d =>
            dsimp only at h
            by_cases hlen : (mEnt as).length ≤ J.2.2.2.1
            · rw [if_pos hlen] at h
              obtain ⟨⟨t, ht⟩, hag⟩ := mCall_ok (G := G) hc
              obtain ⟨ha1, ha2⟩ := hag hs
              cases hz : mrun L xs n d J 0 (mPad J.2.2.2.1 (mEnt as)) [] (cs, rc, mu, la) with
              | none => rw [hz] at h; cases h
              | some z =>
                obtain ⟨r1, M1⟩ := z
                rw [hz] at h
                dsimp only at h
                obtain ⟨G1, ra1, cs1, rc1, mu1, la1, rfl, e1, g1, n1, R1, m1, v1⟩ := ih d J 0 _ [] cs rc ra mu la r1 M1 G (ok_all ht) hL hG hR hM (gL_pad _ (gL_ent ha1)) trivial hz
                have hs1 : aG G1 (r1.toList ++ rest) := by
                  rw [aG_iff]
                  intro w hw
                  rcases List.mem_append.mp hw with hw | hw
                  · refine v1 w ?_
                    cases r1 with
                    | none => cases hw
                    | some y =>
                      have : w = y := by simpa using hw
                      rw [this]
                  · exact gV.le g1 (aG_iff.mp ha2 w hw)
                have hL1 : (L = L' ∧ xs = xs') ∨ (∀ i, ¬ G1 100 i) := hL.imp_right n1
                obtain ⟨G2, ra2, cs2, rc2, mu2, la2, rfl, e2, g2, n2, R2, m2, v2⟩ := ih (d + 1) I (ip + 1) ls _ cs1 rc1 ra1 mu1 la1 r M' G1 hI hL1 (g1 _ _ hG) R1 m1 (hl.le g1) hs1 h
                refine ⟨G2, ra2, cs2, rc2, mu2, la2, rfl, ?_, fun k i h => g2 k i (g1 k i h), fun h => n2 (n1 h), R2, m2, v2⟩
                unfold mrun
                rw [ho]
                dsimp only
                rw [hr]
                dsimp only
                rw [hc]
                dsimp only
                rw [if_pos hlen, e1]
                exact e2
            · rw [if_neg hlen] at h
              cases h
        | none =>
          rw [hc] at h
          dsimp only at h
          cases hz : mstep L xs i v ip ls st (cs, rc, mu, la) with
          | none => rw [hz] at h; cases h
          | some z =>
            obtain ⟨ip1, ls1, st1, M1⟩ := z
            rw [hz] at h
            dsimp only at h
            obtain ⟨G1, ra1, cs1, rc1, mu1, la1, rfl, e1, g1, n1, R1, m1, l1, s1⟩ := sim_step hL hG (ok_field hI ho) hR hM hl hs hz
            obtain ⟨G2, ra2, cs2, rc2, mu2, la2, rfl, e2, g2, n2, R2, m2, v2⟩ := ih d I ip1 ls1 st1 cs1 rc1 ra1 mu1 la1 r M' G1 hI (hL.imp_right n1) (g1 _ _ hG) R1 m1 l1 s1 h
            refine ⟨G2, ra2, cs2, rc2, mu2, la2, rfl, ?_, fun k i h => g2 k i (g1 k i h), fun h => n2 (n1 h), R2, m2, v2⟩
            unfold mrun
            rw [ho]
            dsimp only
            rw [hr]
            dsimp only
            rw [hc]
            dsimp only
            rw [e1]
            exact e2
/-! both objects made -/
def mNew (k : Nat) (M : mM) : mM := (M.1 ++ [(k, mCnt M.1 k)], up2 M.2.1 k (mCnt M.1 k) (fun _ => none), up2 M.2.2.1 k (mCnt M.1 k) (fun _ => 0), up2 M.2.2.2 k (mCnt M.1 k) (fun _ => 0))
def chI (mu : fMu) (la : fLa) : Bool :=
  (List.range 6).all (fun r => decide (mu 29 0 r = -1) && decide (mu 3 r 0 = -1)) && (List.range 4).all (fun r => decide (mu 31 0 r = -1) && decide (mu 5 r 0 = -1)) &&
  (decide (mu 6 0 11 = mu 7 0 17) && decide (mu 6 0 10 = mu 7 0 20) && (List.range 6).all (fun w => decide (mu 28 0 w = mu 43 0 w)) && decide (la 6 0 12 = la 7 0 18) && decide (la 6 0 13 = la 7 0 19)) &&
  (decide (mu 1 0 0 = 0) && decide (mu 1 0 1 = 0) && decide (mu 1 0 2 = 0)) &&
  (decide (mu 0 0 1 = 0) && decide (mu 0 0 2 = -9) && decide (mu 0 0 3 = 0) && decide (mu 0 0 4 = 0) && (List.range 6).all (fun i => decide (mu 8 0 i = -9) && decide (mu 9 0 i = -9))) &&
  (decide (mu 2 0 0 = 0) && decide (mu 7 0 4 = 0) && decide (mu 7 0 5 = 0) && decide (mu 7 0 13 = 0)) &&
  ((List.range 6).all (fun i => decide (mu 38 0 i = -9)) && decide (mu 38 0 6 = 0) && decide (mu 38 0 7 = 0) && decide (mu 38 0 8 = -9)) &&
  (List.range 3).all (fun kk => decide (mu 2 (kk + 1) 0 = -1) && decide (mu 42 0 kk = 0))
def chR (M : mM) : Bool := M.1.all (fun c => (List.range (bnd c.1)).all (fun j => decide (M.2.1 c.1 c.2 j = rhF c.1 c.2 j) && (match rhF c.1 c.2 j with
  | none => true
  | some r => M.1.any (fun c' => Nat.beq c'.1 r.1 && Nat.beq c'.2 r.2))))
def chK (M : mM) : Bool := M.1.any (fun c => Nat.beq c.1 6 && Nat.beq c.2 0) && M.1.any (fun c => Nat.beq c.1 7 && Nat.beq c.2 0)
set_option maxRecDepth 1000000 in
theorem ctor_ok : (match mrun 0 (fun _ => 0) 3000 30 mi_49 0 (mPad 2 (mEnt [vR 6 0])) [] (mNew 6 m00) with
  | some (none, M1) => Nat.beq (mCnt M1.1 7) 0 && !(mHas M1.1 7 0) && (match mrun 0 (fun _ => 0) 3000 30 mi_128 0 (mPad 2 (mEnt [vR 7 0])) [] (mNew 7 M1) with
    | some (none, M2) => chR M2 && chI M2.2.2.1 M2.2.2.2 && chK M2 && Nat.ble M2.1.length 600000 && Nat.ble (mSl M2.1) 7302250
    | _ => false)
  | _ => false) = true := by decide +kernel
