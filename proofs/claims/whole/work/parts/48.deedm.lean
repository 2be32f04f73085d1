theorem cK_MB {k0 : Nat} (h : k0 = 38 ∨ k0 = 39) : ∀ k i j, sMB k i j = true → cK k0 k i j = true := by
  intro k i j hs
  rcases h with rfl | rfl
  · unfold sMB at hs; split at hs <;> first | rfl | cases hs
  · unfold sMB at hs; split at hs <;> first | rfl | cases hs
theorem hkk {k0 : Nat} (h : k0 = 38 ∨ k0 = 39) : nth mKs k0 = some (.inr (.int, 9)) := by
  rcases h with rfl | rfl <;> rfl
/-- numbers copied from one row to another -/
def cpR (mu : fMu) (k0 o1 k2 o2 n : Nat) : fMu := up2 mu k2 0 (fun j => if o2 ≤ j ∧ j < o2 + n then mu k0 0 (o1 + (j - o2)) else mu k2 0 j)
theorem cpR_in (mu : fMu) {k0 o1 k2 o2 n j : Nat} (hj : j < n) : cpR mu k0 o1 k2 o2 n k2 0 (o2 + j) = mu k0 0 (o1 + j) := by
  unfold cpR up2
  rw [if_pos ⟨rfl, rfl⟩]
  dsimp only
  rw [if_pos (by omega), Nat.add_sub_cancel_left]
theorem cpR_out (mu : fMu) {k0 o1 k2 o2 n j : Nat} (hj : j < o2 ∨ o2 + n ≤ j) : cpR mu k0 o1 k2 o2 n k2 0 j = mu k2 0 j := by
  unfold cpR up2
  rw [if_pos ⟨rfl, rfl⟩]
  dsimp only
  rw [if_neg (by omega)]
theorem cpR_fr {S : Nat → Nat → Nat → Bool} {a mu : fMu} {k0 o1 k2 o2 n : Nat} (h : Fr S a mu) (hs : ∀ j, S k2 0 j = false) : Fr S a (cpR mu k0 o1 k2 o2 n) := h.u2 hs
theorem MC.cp {T : tT} {mu : fMu} {k0 o1 k2 o2 n x : Nat} (h : MC k0 (o1 + x) T mu) (hx : x + 9 ≤ n) : MC k2 (o2 + x) T (cpR mu k0 o1 k2 o2 n) := by
  obtain ⟨h1, h2, h3, h4⟩ := h
  refine ⟨fun i hi => ?_, ?_, ?_, ?_⟩
  · rw [Nat.add_assoc, cpR_in mu (by omega), ← Nat.add_assoc]; exact h1 i hi
  · rw [Nat.add_assoc, cpR_in mu (by omega), ← Nat.add_assoc]; exact h2
  · rw [Nat.add_assoc, cpR_in mu (by omega), ← Nat.add_assoc]; exact h3
  · rw [Nat.add_assoc, cpR_in mu (by omega), ← Nat.add_assoc]; exact h4
theorem MC.cpo {T : tT} {mu : fMu} {k0 o1 k2 o2 n y : Nat} (h : MC k2 y T mu) (hx : y + 9 ≤ o2 ∨ o2 + n ≤ y) : MC k2 y T (cpR mu k0 o1 k2 o2 n) := by
  obtain ⟨h1, h2, h3, h4⟩ := h
  refine ⟨fun i hi => ?_, ?_, ?_, ?_⟩
  · rw [cpR_out mu (by omega)]; exact h1 i hi
  · rw [cpR_out mu (by omega)]; exact h2
  · rw [cpR_out mu (by omega)]; exact h3
  · rw [cpR_out mu (by omega)]; exact h4
section DEEDM
variable {E : mEv} {d c : Nat} {mu : fMu} {la : fLa} {Q : fMu → fLa → Prop} {B : tB} {T : tT}
theorem s_copies (k0 n0 o1 k2 n2 o2 n : Nat) (hk0 : nth mKs k0 = some (.inr (.int, n0))) (hz0 : k0 ≠ 100) (hk2 : nth mKs k2 = some (.inr (.int, n2))) (hz2 : k2 ≠ 100) (hne : k0 ≠ k2) (h1 : o1 + n ≤ n0) (h2 : o2 + n ≤ n2) (hn0 : n0 < 100000) (hn2 : n2 < 100000) (q : Q (cpR mu k0 o1 k2 o2 n) la) : FnV E d mi_174 [.inr (.inr (some (k0, 0))), .inl (nI o1), .inr (.inr (some (k2, 0))), .inl (nI o2), .inl (nI n)] mu la Q := by
  refine vc_X7_copies k0 n0 0 hk0 hz0 _ k2 n2 0 hk2 hz2 _ _ ?_
  have h0 := lpU (P := fun i => Ev E d mi_174 2 [some (.inr (.inr (some (k0, 0)))), some (.inl (nI o1)), some (.inr (.inr (some (k2, 0)))), some (.inl (nI o2)), some (.inl (nI n)), some (.inl (nI i))] [] (mem E (cpR mu k0 o1 k2 o2 i) la) (qV E Q)) (n := n) ?_ ?_ 0 (Nat.zero_le _)
  · have e : cpR mu k0 o1 k2 o2 0 = mu := up2_id mu k2 0 _ (fun j => if_neg (by omega))
    rw [e] at h0
    exact h0
  · exact vc_X7_copies_2 k0 n0 0 hk0 hz0 k2 n2 0 hk2 hz2 _ _ _ _ (yes (nI_le (Nat.le_refl _) (by omega)) q)
  · intro i hi ih
    refine vc_X7_copies_2 k0 n0 0 hk0 hz0 k2 n2 0 hk2 hz2 _ _ _ _ (noo (nI_ge hi (by omega)) ?_)
    rw [nI_add, nI_add, b_cl (by omega), b_cl (by omega), nI_1]
    refine ⟨b_in rfl (by omega) (by omega), b_in rfl (by omega) (by omega), ?_⟩
    rintro mu1 rfl
    have e1 : cpR mu k0 o1 k2 o2 i k0 0 (o1 + i) = mu k0 0 (o1 + i) := by
      unfold cpR up2
      exact if_neg (fun z => hne z.1)
    rw [e1]
    have e2 : up3 (cpR mu k0 o1 k2 o2 i) k2 0 (o2 + i) (mu k0 0 (o1 + i)) = cpR mu k0 o1 k2 o2 (i + 1) := by
      unfold cpR
      rw [up3_up2]
      refine up2_congr _ _ _ (fun j => ?_)
      by_cases ej : j = o2 + i
      · rw [if_pos ej, if_pos (by omega), ej, Nat.add_sub_cancel_left]
      · rw [if_neg ej]
        by_cases el : o2 ≤ j ∧ j < o2 + i
        · rw [if_pos el, if_pos (by omega)]
        · rw [if_neg el, if_neg (by omega)]
    rw [e2]
    exact ih
theorem s_makesOn {k0 : Nat} (hk : k0 = 38 ∨ k0 = 39) (i e : Nat) (hB : wB B) (hi : i < bN B) (he : e ≤ 9) (hh : tD T < 64) (hL : tL T = -9 ∨ ∃ j : Nat, j < bN B ∧ tL T = nI j) (hM : MB B mu) (hC : MC k0 0 T mu) (q : ∀ mu' : fMu, Fr (cK k0) mu mu' → MC k0 0 (makesT B T i e) mu' → Q mu' la) : FnV E (d + 2) mi_161 [.inr (.inr (some (7, 0))), .inr (.inr (some (k0, 0))), .inl (nI i), .inl (nI e)] mu la Q := by
  have hn := hB.1
  have hz0 : k0 ≠ 100 := by omega
  have es : ∀ i j, cK k0 k0 i j = false := fun i j => by unfold cK; rw [beq_self_eq_true]; rfl
  have h6 : vp_in (6 : Int32) 9 := b_in (j := 6) rfl (by decide) (by decide)
  have h7 : vp_in (7 : Int32) 9 := b_in (j := 7) rfl (by decide) (by decide)
  have h8 : vp_in (8 : Int32) 9 := b_in (j := 8) rfl (by decide) (by decide)
  have hC0 := hC
  obtain ⟨c1, c2, c3, c4⟩ := hC
  refine vc_X7_makesOn k0 9 0 (hkk hk) hz0 _ _ ⟨h6, s_takesOf (hkk hk) hz0 i hB hi hM hL c4 ⟨h6, ?_⟩⟩
  rintro mu1 rfl
  rw [show (6 : Int32).toNatClampNeg = 6 from rfl, show (7 : Int32).toNatClampNeg = 7 from rfl, show (8 : Int32).toNatClampNeg = 8 from rfl, Int32.zero_add]
  refine ⟨h8, ?_⟩
  rintro mu1 rfl
  rw [show mu k0 0 6 = nI (tI T) from c2, nI_add]
  have hF : ∀ v w, Fr (cK k0) mu (up3 (up3 mu k0 0 6 v) k0 0 8 w) := fun v w => (Fr.rf.u3 (es _ _)).u3 (es _ _)
  refine s_whoTakes (hkk hk) hz0 i e (tD T) hB hi he hh (hM.fr ((hF _ _).le (cK_MB hk))) ?_ ?_
  · rw [← show mu k0 0 7 = nI (tD T) from c3]; unfold up3; simp
  have hin : vp_in (nI i) 9 := b_in rfl (by omega) (by decide)
  rw [b_cl (by omega)]
  cases hw : who B (tD T) i e with
  | none =>
    refine noo (fun z => z rfl) ⟨hin, ?_⟩
    rintro mu1 rfl
    refine ⟨h7, noo (fun z => z rfl) ⟨h7, ?_⟩⟩
    rintro mu1 rfl
    refine q _ (((hF _ _).u3 (es _ _)).u3 (es _ _)) (MC.of (fun j hj => ?_) ?_ ?_ ?_)
    · show _ = if j = i then (match who B (tD T) i e with | none => 6 | some p => nI p) else tH T j
      rw [hw, ← hC0.w hj]
      have n6 : ¬ j = 6 := by omega
      have n7 : ¬ j = 7 := by omega
      have n8 : ¬ j = 8 := by omega
      by_cases ej : j = i
      · subst ej; unfold up3; simp [n7]
      · unfold up3; simp [ej, n6, n7, n8]
    · have : ¬ 6 = i := by omega
      unfold up3; simp [this]; rfl
    · show _ = nI (match who B (tD T) i e with | none => tD T | some p => tD T ||| 2 ^ p)
      rw [hw, up3_self, b_or0, ← show mu k0 0 7 = nI (tD T) from c3]
      have : ¬ 7 = i := by omega
      unfold up3; simp [this]
    · have : ¬ 8 = i := by omega
      unfold up3; simp [this]; rfl
  | some p =>
    have hp := (who_some hw).1
    have hp9 := (b_p9 p (by omega)).1
    refine yes hp9 ⟨hin, ?_⟩
    rintro mu1 rfl
    refine ⟨h7, yes hp9 ⟨h7, ?_⟩⟩
    rintro mu1 rfl
    refine q _ (((hF _ _).u3 (es _ _)).u3 (es _ _)) (MC.of (fun j hj => ?_) ?_ ?_ ?_)
    · show _ = if j = i then (match who B (tD T) i e with | none => 6 | some p => nI p) else tH T j
      rw [hw, ← hC0.w hj]
      have n6 : ¬ j = 6 := by omega
      have n7 : ¬ j = 7 := by omega
      have n8 : ¬ j = 8 := by omega
      by_cases ej : j = i
      · subst ej; unfold up3; simp [n7]; rfl
      · unfold up3; simp [ej, n6, n7, n8]
    · have : ¬ 6 = i := by omega
      unfold up3; simp [this]; rfl
    · show _ = nI (match who B (tD T) i e with | none => tD T | some p => tD T ||| 2 ^ p)
      rw [hw, up3_self, show oI (some p) = nI p from rfl, b_sh p (by omega)]
      dsimp only
      rw [← b_or, ← show mu k0 0 7 = nI (tD T) from c3]
      have : ¬ 7 = i := by omega
      unfold up3; simp [this]
    · have : ¬ 8 = i := by omega
      unfold up3; simp [this]; rfl
theorem s_changes {k0 : Nat} (hk : k0 = 38 ∨ k0 = 39) (p q0 : Nat) (hT : WT B T) (hp : p < bN B) (hq : q0 < bN B) (hpq : p ≠ q0) (hM : mu 7 0 4 = nI (bN B)) (hC : MC k0 0 T mu) (q : ∀ mu' : fMu, Fr (cK k0) mu mu' → MC k0 0 (chT (bN B) T p q0) mu' → Q mu' la) : FnV E (d + 1) mi_177 [.inr (.inr (some (7, 0))), .inr (.inr (some (k0, 0))), .inl (nI p), .inl (nI q0)] mu la Q := by
  have hn := hT.1
  have hz0 : k0 ≠ 100 := by omega
  have es : ∀ i j, cK k0 k0 i j = false := fun i j => by unfold cK; rw [beq_self_eq_true]; rfl
  have h7 : vp_in (7 : Int32) 9 := b_in (j := 7) rfl (by decide) (by decide)
  have hC0 := hC
  obtain ⟨c1, c2, c3, c4⟩ := hC
  have e7 : mu k0 0 7 = nI (tD T) := c3
  have hne : ∀ a b, heldT (bN B) T (nI p) = some a → heldT (bN B) T (nI q0) = some b → a ≠ b := by
    intro a b h1 h2 hab
    subst hab
    exact hpq ((nI_eq (by omega) (by omega)).mp (((hT.held (by omega)).mp h1).2.symm.trans ((hT.held (by omega)).mp h2).2))
  have hlt : ∀ x a, x < 6 → heldT (bN B) T (nI x) = some a → a < 6 := fun x a hx h => ((hT.held hx).mp h).1
  have hH : ∀ j, tH (chT (bN B) T p q0) j = if heldT (bN B) T (nI p) = some j then nI q0 else if heldT (bN B) T (nI q0) = some j then nI p else tH T j := fun j => rfl
  have hD : tD (chT (bN B) T p q0) = (tD T ||| (if (heldT (bN B) T (nI p)).isSome then 2 ^ q0 else 0)) ||| (if (heldT (bN B) T (nI q0)).isSome then 2 ^ p else 0) := rfl
  refine vc_X7_changes k0 9 0 (hkk hk) hz0 _ _ (s_heldBy (hkk hk) hz0 _ hn hM (fun i h => hC0.w h) (s_heldBy (hkk hk) hz0 _ hn hM (fun i h => hC0.w h) ?_))
  rw [show (7 : Int32).toNatClampNeg = 7 from rfl, Int32.zero_add, Int32.zero_add, b_sh p (by omega), b_sh q0 (by omega)]
  cases ha : heldT (bN B) T (nI p) with
  | none =>
    cases hb : heldT (bN B) T (nI q0) with
    | none =>
      refine yes rfl (yes rfl (q mu Fr.rf (MC.of (fun j hj => ?_) c2 ?_ c4)))
      · rw [hH, ha, hb]; simp [hC0.w hj]
      · rw [hD, ha, hb]; simp [e7]
    | some b =>
      have hb6 := hlt q0 b (by omega) hb
      refine yes rfl (noo (b_p9 b hb6).1 ⟨b_in rfl (by omega) (by decide), ?_⟩)
      rintro mu1 rfl
      refine ⟨h7, h7, ?_⟩
      rintro mu1 rfl
      rw [show oI (some b) = nI b from rfl, b_cl (by omega)]
      refine q _ ((Fr.rf.u3 (es _ _)).u3 (es _ _)) (MC.of (fun j hj => ?_) ?_ ?_ ?_)
      · rw [hH, ha, hb, ← hC0.w hj]
        have n7 : ¬ j = 7 := by omega
        by_cases ej : j = b
        · subst ej; unfold up3; simp [n7]
        · have : ¬ b = j := fun z => ej z.symm
          unfold up3; simp [ej, this, n7]
      · have : ¬ 6 = b := by omega
        rw [show nI (tI (chT (bN B) T p q0)) = nI (tI T) from rfl, ← show mu k0 0 6 = nI (tI T) from c2]
        unfold up3; simp [this]
      · have : ¬ 7 = b := by omega
        rw [hD, ha, hb]; unfold up3; simp [this, e7, b_or]
      · have : ¬ 8 = b := by omega
        rw [show tL (chT (bN B) T p q0) = tL T from rfl, ← show mu k0 0 8 = tL T from c4]
        unfold up3; simp [this]
  | some a =>
    have ha6 := hlt p a (by omega) ha
    refine noo (b_p9 a ha6).1 ⟨b_in rfl (by omega) (by decide), ?_⟩
    rintro mu1 rfl
    refine ⟨h7, h7, ?_⟩
    rintro mu1 rfl
    rw [show oI (some a) = nI a from rfl, b_cl (by omega)]
    cases hb : heldT (bN B) T (nI q0) with
    | none =>
      refine yes rfl (q _ ((Fr.rf.u3 (es _ _)).u3 (es _ _)) (MC.of (fun j hj => ?_) ?_ ?_ ?_))
      · rw [hH, ha, hb, ← hC0.w hj]
        have n7 : ¬ j = 7 := by omega
        by_cases ej : j = a
        · subst ej; unfold up3; simp [n7]
        · have : ¬ a = j := fun z => ej z.symm
          unfold up3; simp [ej, this, n7]
      · have : ¬ 6 = a := by omega
        rw [show nI (tI (chT (bN B) T p q0)) = nI (tI T) from rfl, ← show mu k0 0 6 = nI (tI T) from c2]
        unfold up3; simp [this]
      · have : ¬ 7 = a := by omega
        rw [hD, ha, hb]; unfold up3; simp [this, e7, b_or]
      · have : ¬ 8 = a := by omega
        rw [show tL (chT (bN B) T p q0) = tL T from rfl, ← show mu k0 0 8 = tL T from c4]
        unfold up3; simp [this]
    | some b =>
      have hb6 := hlt q0 b (by omega) hb
      have hab := hne a b ha hb
      refine noo (b_p9 b hb6).1 ⟨b_in rfl (by omega) (by decide), ?_⟩
      rintro mu1 rfl
      refine ⟨h7, h7, ?_⟩
      rintro mu1 rfl
      rw [show oI (some b) = nI b from rfl, b_cl (by omega)]
      refine q _ ((((Fr.rf.u3 (es _ _)).u3 (es _ _)).u3 (es _ _)).u3 (es _ _)) (MC.of (fun j hj => ?_) ?_ ?_ ?_)
      · rw [hH, ha, hb, ← hC0.w hj]
        have n7 : ¬ j = 7 := by omega
        by_cases ej : j = a
        · subst ej; unfold up3; simp [n7, hab]
        · have ej2 : ¬ a = j := fun z => ej z.symm
          by_cases ek : j = b
          · subst ek; unfold up3; simp [n7, ej2]
          · have ek2 : ¬ b = j := fun z => ek z.symm
            unfold up3; simp [ej, ej2, ek, ek2, n7]
      · have n1 : ¬ 6 = a := by omega
        have n2 : ¬ 6 = b := by omega
        rw [show nI (tI (chT (bN B) T p q0)) = nI (tI T) from rfl, ← show mu k0 0 6 = nI (tI T) from c2]
        unfold up3; simp [n1, n2]
      · have n1 : ¬ 7 = a := by omega
        have n2 : ¬ 7 = b := by omega
        rw [hD, ha, hb]; unfold up3; simp [n1, n2, e7, b_or]
      · have n1 : ¬ 8 = a := by omega
        have n2 : ¬ 8 = b := by omega
        rw [show tL (chT (bN B) T p q0) = tL T from rfl, ← show mu k0 0 8 = tL T from c4]
        unfold up3; simp [n1, n2]
end DEEDM
