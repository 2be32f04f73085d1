/-! the model's turns -/
def cV (k _ _ : Nat) : Bool := !(k == 39 || k == 49 || k == 50 || k == 51)
theorem cV_I : ∀ k i j, sI k i j = true → cV k i j = true := by
  refine sI_or ?_ ?_ ?_ ?_
  · intro k i j h
    unfold sR at h
    split at h <;> first | rfl | cases h
  · intro k i j h
    unfold sT at h
    split at h <;> first | rfl | cases h
  · intro k i j h
    unfold sS at h
    split at h <;> first | rfl | cases h
  · intro k i j h
    unfold sB at h
    split at h <;> first | rfl | cases h
theorem cV_MB : ∀ k i j, sMB k i j = true → cV k i j = true := fun k i j h => cV_I k i j (sI_B k i j (sB_MB k i j h))
theorem cV_39 : ∀ k i j, cV k i j = true → cK 39 k i j = true := by
  intro k i j h
  unfold cV at h
  unfold cK
  cases hk : k == 39 with
  | false => rfl
  | true => rw [hk] at h; simp at h
section WAG
variable {E : mEv} {d : Nat} {mu : fMu} {la : fLa} {B : tB} {T : tT} {D : Nat → Nat × Nat × Nat} {m : Nat}
theorem s_barGoes {Q : Int32 → fMu → fLa → Prop} (mv : Nat) (hmv : mv ≤ 36) (hB : wB B) (hT : WT B T) (hM : MB B mu) (hC : MC 39 0 T mu) (q0 : mvT B false T mv = none → Q 0 mu la) (q1 : ∀ T', mvT B false T mv = some T' → ∀ mu' : fMu, Fr (cK 39) mu mu' → MC 39 0 T' mu' → Q 1 mu' la) : FnI E (d + 3) mi_208 [.inr (.inr (some (7, 0))), .inl (nI mv)] mu la Q := by
  have hn := hB.1
  have h2 := Nat.two_pow_pos (bN B)
  have h64 : 2 ^ bN B ≤ 64 := Nat.pow_le_pow_right (n := 2) (by decide) hn
  have hm64 : madeT (bN B) T < 64 := bits64 _ hn
  have e0 : mvT B false T mv = (if mv = 6 then (if madeT (bN B) T = 2 ^ bN B - 1 then some T else none) else if mv < bN B ∧ tH T mv = -9 then some (makesT B T mv (bE B)) else none) := rfl
  rw [e0] at q0 q1
  have mid : ¬ mv = 6 → ((6 : Int32) < nI mv → Q 0 mu la) ∧ (¬ ((6 : Int32) < nI mv) → FnI E (d + 2) mi_155 [.inr (.inr (some (7, 0))), .inl (nI mv)] mu la (fun x4 mu5 la6 => (x4 = 0 → (Q 0 mu5 la6)) ∧ (¬ (x4 = 0) → (FnI E (d + 2) mi_162 [.inr (.inr (some (39, 0))), .inl (nI mv)] mu5 la6 (fun x7 mu8 la9 => (x7 = 0 → (FnV E (d + 2) mi_161 [.inr (.inr (some (7, 0))), .inr (.inr (some (39, 0))), .inl (nI mv), .inl (mu8 7 0 5)] mu8 la9 (fun mu11 la12 => Q 1 mu11 la12))) ∧ (¬ (x7 = 0) → (Q 0 mu8 la9))))))) := by
    intro h6
    rw [if_neg h6] at q0 q1
    refine pk_lt 6 mv (fun hlt => q0 (if_neg (fun z => by omega))) (fun hle => ?_)
    refine s_isCup hn _ hM.1 (fun j hj e => noo b_x10 ?_) (fun hno => yes rfl (q0 (if_neg (fun z => hno mv z.1 rfl))))
    have hj2 : mv = j := (nI_eq (by omega) (by omega)).mp e
    subst hj2
    refine s_isMadeM hk39 (by decide) mv (by omega) (hC.w (by omega)) (bzz (fun h9 => ?_) (fun h9 => q0 (if_neg (fun z => of_decide_eq_true h9 z.2))))
    have h9' : tH T mv = -9 := by simpa using h9
    rw [hM.2.1]
    exact s_makesOn (Or.inr rfl) mv (bE B) hB hj hB.2.1 hT.d64 hT.2.2.2.2.2 hM hC (fun mu1 f1 c1 => q1 _ (if_pos ⟨hj, h9'⟩) mu1 f1 c1)
  refine vc_X7_barGoes _ (s_madeOf (T := T) hk39 (by decide) hn hM.1 (fun j h => hC.w h) ?_)
  rw [hM.1, b_sh _ (by omega), show 2 ^ bN B = (2 ^ bN B - 1) + 1 by omega, nI_pred]
  by_cases hf : madeT (bN B) T = 2 ^ bN B - 1
  · refine noo (fun z => z (by rw [hf])) ?_
    by_cases h6 : mv = 6
    · rw [if_pos h6, if_pos hf] at q1
      exact noo (fun z => z (by rw [h6]; rfl)) (q1 T rfl mu Fr.rf hC)
    · exact yes (fun z => h6 ((nI_eq (b := 6) (by omega) (by decide)).mp z)) (mid h6)
  · refine yes (fun z => hf ((nI_eq (by omega) (by omega)).mp z)) ?_
    by_cases h6 : mv = 6
    · rw [if_pos h6, if_neg hf] at q0
      exact noo (fun z => z (by rw [h6]; rfl)) (q0 rfl)
    · exact yes (fun z => h6 ((nI_eq (b := 6) (by omega) (by decide)).mp z)) (mid h6)
theorem s_wagGoes {Q : Int32 → fMu → fLa → Prop} (mv : Nat) (hmv : mv ≤ 36) (hB : wB B) (hT : WT B T) (hM : MB B mu) (hC : MC 39 0 T mu) (q0 : mvT B true T mv = none → Q 0 mu la) (q1 : ∀ T', mvT B true T mv = some T' → ∀ mu' : fMu, Fr (cK 39) mu mu' → MC 39 0 T' mu' → Q 1 mu' la) : FnI E (d + 3) mi_209 [.inr (.inr (some (7, 0))), .inl (nI mv)] mu la Q := by
  have hn := hB.1
  have e0 : mvT B true T mv = (if mv = 36 then some T else if mv / 6 < mv % 6 ∧ mv % 6 < bN B ∧ (heldT (bN B) T (nI (mv / 6))).isSome = true ∧ (heldT (bN B) T (nI (mv % 6))).isSome = true then some (chT (bN B) T (mv / 6) (mv % 6)) else none) := rfl
  rw [e0] at q0 q1
  have h66 : nI mv / 6 = nI (mv / 6) := by
    rw [show (6 : Int32) = nI 6 from rfl]
    exact pk_div (by omega) (by decide) (by decide)
  have h6r : nI mv - nI (mv / 6) * 6 = nI (mv % 6) := by
    rw [← h66, show (6 : Int32) = nI 6 from rfl]
    exact pk_rem (by omega) (by decide) (by decide)
  have h60 : ¬ (6 : Int32) = 0 := by decide
  refine vc_X7_wagGoes _ ?_
  rw [h66, h6r]
  by_cases h36 : mv = 36
  · rw [if_pos h36] at q1
    exact noo (fun z => z (by rw [h36]; rfl)) (q1 T rfl mu Fr.rf hC)
  · rw [if_neg h36] at q0 q1
    refine yes (fun z => h36 ((nI_eq (b := 36) (by omega) (by decide)).mp z)) ⟨h60, h60, pk_le (mv % 6) (mv / 6) (fun hle => q0 (if_neg (fun z => by omega))) (fun hlt => ?_)⟩
    refine s_isCup hn _ hM.1 (fun j hj e => noo b_x10 ?_) (fun hno => yes rfl (q0 (if_neg (fun z => hno _ z.2.1 rfl))))
    have hj2 : mv % 6 = j := (nI_eq (by omega) (by omega)).mp e
    subst hj2
    have hp6 : mv / 6 < bN B := by omega
    refine s_heldBy hk39 (by decide) _ hn hM.1 (fun j h => hC.w h) ?_
    cases h1 : heldT (bN B) T (nI (mv / 6)) with
    | none =>
      refine yes rfl (q0 (if_neg (fun z => ?_)))
      have := z.2.2.1
      rw [h1] at this
      cases this
    | some a1 =>
      have ha1 := ((hT.held (show mv / 6 < 6 by omega)).mp h1).1
      refine noo (b_p9 a1 ha1).1 (s_heldBy hk39 (by decide) _ hn hM.1 (fun j h => hC.w h) ?_)
      cases h2 : heldT (bN B) T (nI (mv % 6)) with
      | none =>
        refine noo (fun z => z rfl) (q0 (if_neg (fun z => ?_)))
        have := z.2.2.2
        rw [h2] at this
        cases this
      | some b1 =>
        have hb1 := ((hT.held (show mv % 6 < 6 by omega)).mp h2).1
        refine yes (b_p9 b1 hb1).1 (s_changes (Or.inr rfl) (mv / 6) (mv % 6) hT hp6 hj (by omega) hM.1 hC (fun mu1 f1 c1 => q1 _ (if_pos ⟨hlt, hj, by rw [h1]; rfl, by rw [h2]; rfl⟩) mu1 f1 c1))
theorem s_weighs {Q : fMu → fLa → Prop} (dd : Nat) (e : Bool) (a : Option Nat) (v : Nat) (hdd : dd < 5) (he : (dd % 2 = 0 ∧ e = false) ∨ (dd % 2 = 1 ∧ e = true)) (ha : ∀ b, a = some b → b ≤ 6) (hv : v ≤ 6) (e51 : mu 51 0 dd = oI a) (q : Q (up3 mu 51 0 dd (oI (wei e a v))) la) : FnV E d mi_207 [.inr (.inr (some (7, 0))), .inl (nI dd), .inl (nI v)] mu la Q := by
  have hin : vp_in (nI dd) 5 := b_in rfl hdd (by decide)
  refine vc_X7_weighs _ _ ⟨hin, ?_⟩
  rw [b_cl (by omega), e51, b_rem2 (by omega)]
  cases a with
  | none =>
    refine yes rfl (noo b_x10 ⟨hin, ?_⟩)
    rintro mu1 rfl
    exact q
  | some b =>
    have hb := ha b rfl
    have e51' : oI (some b) = nI b := rfl
    rw [e51']
    have h9 : ¬ nI b = -9 := by
      have : ∀ b : Nat, b < 7 → ¬ nI b = -9 := by decide +kernel
      exact this b (by omega)
    refine noo h9 ⟨b_x20, ?_⟩
    rcases he with ⟨hp, rfl⟩ | ⟨hp, rfl⟩
    · rw [hp]
      refine noo (fun z => z rfl) ⟨hin, pk_le b v (fun hle => ?_) (fun hlt => ?_)⟩
      · refine yes rfl ⟨hin, hin, ?_⟩
        rintro mu1 rfl
        have : wei false (some b) v = some b := by
          show (if v < b then some v else some b) = some b
          rw [if_neg (by omega)]
        rw [this] at q
        exact q
      · refine noo b_x10 ⟨hin, ?_⟩
        rintro mu1 rfl
        have : wei false (some b) v = some v := by
          show (if v < b then some v else some b) = some v
          rw [if_pos hlt]
        rw [this] at q
        exact q
    · rw [hp]
      refine yes (by decide) ⟨hin, pk_le v b (fun hle => ?_) (fun hlt => ?_)⟩
      · refine yes rfl ⟨hin, hin, ?_⟩
        rintro mu1 rfl
        have : wei true (some b) v = some b := by
          show (if b < v then some v else some b) = some b
          rw [if_neg (by omega)]
        rw [this] at q
        exact q
      · refine noo b_x10 ⟨hin, ?_⟩
        rintro mu1 rfl
        have : wei true (some b) v = some v := by
          show (if b < v then some v else some b) = some v
          rw [if_pos hlt]
        rw [this] at q
        exact q
theorem s_beginsStep {Q : fMu → fLa → Prop} (dd : Nat) (hdd : dd < 5) (q : Q (up3 (up3 mu 50 0 dd (-1)) 51 0 dd (-9)) la) : FnV E d mi_206 [.inr (.inr (some (7, 0))), .inl (nI dd)] mu la Q := by
  have hin : vp_in (nI dd) 5 := b_in rfl hdd (by decide)
  refine vc_X7_beginsStep _ ⟨hin, ?_⟩
  rw [b_cl (by omega)]
  rintro mu1 rfl
  refine ⟨hin, ?_⟩
  rintro mu2 rfl
  exact q
/-- what is left to do when a depth is through -/
def exW (E : mEv) (d : Nat) (la : fLa) (Q : Int32 → fMu → fLa → Prop) (nn dd : Nat) (mu : fMu) : Prop := (kI dd < 0 → Ev E (d + 4) mi_210 34 [some (.inr (.inr (some (7, 0)))), some (.inl (nI nn)), some (.inl (kI dd))] [] (mem E mu la) (qI E Q)) ∧ (¬ (kI dd < 0) → (vp_in (kI dd + 1) 5 ∧ FnV E (d + 3) mi_207 [.inr (.inr (some (7, 0))), .inl (kI dd), .inl (mu 51 0 (kI dd + 1).toNatClampNeg)] mu la (fun mu58 la59 => Ev E (d + 4) mi_210 34 [some (.inr (.inr (some (7, 0)))), some (.inl (nI nn)), some (.inl (kI dd))] [] (mem E mu58 la59) (qI E Q))))
theorem m_wag {Q : Int32 → fMu → fLa → Prop} (nn : Nat) (hnn : nn ≤ 2) (mu0 : fMu) (hB : wB B) (hM : MB B mu0) : ∀ (k dd : Nat) (e : Bool) (T : tT), dd + (k + 1) = 2 * nn → ((dd % 2 = 0 ∧ e = false) ∨ (dd % 2 = 1 ∧ e = true)) → WT B T → ∀ (w mv : Nat) (a : Option Nat) (mu : fMu), mv + w = 37 → Fr cV mu0 mu → MC 49 (9 * dd) T mu → mu 50 0 dd = kI mv → mu 51 0 dd = oI a → (∀ b, a = some b → b ≤ 6) → (∀ mu' : fMu, Fr cV mu0 mu' → (∀ j : Nat, j < 9 * dd + 9 → mu' 49 0 j = mu 49 0 j) → (∀ j : Nat, j < dd → mu' 50 0 j = mu 50 0 j) → (∀ j : Nat, j < dd → mu' 51 0 j = mu 51 0 j) → mu' 51 0 dd = oI (wgL e (wgV B k (!e)) (mvT B e T) mv w a) → exW E d la Q nn dd mu') → Ev E (d + 4) mi_210 34 [some (.inr (.inr (some (7, 0)))), some (.inl (nI nn)), some (.inl (nI dd))] [] (mem E mu la) (qI E Q) := by
  have hn := hB.1
  intro k
  induction k with
  | zero =>
    intro dd e T hdk he hT w
    induction w with
    | zero =>
      intro mv a mu hmv f hC h50 h51 ha q
      have : mv = 37 := by omega
      subst this
      have hin : vp_in (nI dd) 5 := b_in rfl (by omega) (by decide)
      refine vc_X7_wag_34 0 _ _ (noo (nI_pos (by omega)) ⟨hin, hin, ?_⟩)
      rw [b_cl (by omega), h50, kI_1]
      rintro mu1 rfl
      rw [show (9 : Int32) * nI dd = nI (9 * dd) from by rw [show (9 : Int32) = nI 9 from rfl, pk_mul]]
      refine s_copies 49 45 (9 * dd) 39 9 0 9 rfl (by decide) rfl (by decide) (by decide) (by omega) (by decide) (by decide) (by decide) ⟨hin, ?_⟩
      have fk : Fr (cK 39) (up3 mu 50 0 dd (nI 37)) (cpR (up3 mu 50 0 dd (nI 37)) 49 (9 * dd) 39 0 9) := cpR_fr Fr.rf (fun _ => rfl)
      rw [fk 50 0 dd rfl, up3_self]
      refine noo (nI_ge (a := 36) (b := 37) (by decide) (by decide)) ?_
      rw [kI_m]
      rintro w56 rfl
      refine q _ (cpR_fr (f.u3 rfl) (fun _ => rfl)) (fun j hj => ?_) (fun j hj => ?_) (fun j hj => ?_) ?_
      · rw [fk 49 0 j rfl]; unfold up3; simp
      · rw [fk 50 0 j rfl]; unfold up3; rw [if_neg (fun z => by omega)]
      · rw [fk 51 0 j rfl]; unfold up3; simp
      · rw [fk 51 0 dd rfl]
        show _ = oI a
        rw [← h51]; unfold up3; simp
    | succ w ihw =>
      intro mv a mu hmv f hC h50 h51 ha q
      have hin : vp_in (nI dd) 5 := b_in rfl (by omega) (by decide)
      refine vc_X7_wag_34 0 _ _ (noo (nI_pos (by omega)) ⟨hin, hin, ?_⟩)
      rw [b_cl (by omega), h50, kI_1]
      rintro mu1 rfl
      rw [show (9 : Int32) * nI dd = nI (9 * dd) from by rw [show (9 : Int32) = nI 9 from rfl, pk_mul], b_rem2 (by omega), nI_1]
      refine s_copies 49 45 (9 * dd) 39 9 0 9 rfl (by decide) rfl (by decide) (by decide) (by omega) (by decide) (by decide) (by decide) ⟨hin, ?_⟩
      have fk : Fr (cK 39) (up3 mu 50 0 dd (nI mv)) (cpR (up3 mu 50 0 dd (nI mv)) 49 (9 * dd) 39 0 9) := cpR_fr Fr.rf (fun _ => rfl)
      have hC1 : MC 49 (9 * dd) T (up3 mu 50 0 dd (nI mv)) := hC.fr (Fr.rf.u3 rfl)
      have c2 : MC 39 (0 + 0) T (cpR (up3 mu 50 0 dd (nI mv)) 49 (9 * dd) 39 0 9) := MC.cp (x := 0) hC1 (by decide)
      have f2 : Fr cV mu0 (cpR (up3 mu 50 0 dd (nI mv)) 49 (9 * dd) 39 0 9) := cpR_fr (f.u3 rfl) (fun _ => rfl)
      have hM2 := hM.fr (f2.le cV_MB)
      rw [fk 50 0 dd rfl, up3_self]
      have nxt : ∀ (a' : Option Nat) (mu3 : fMu), (∀ b, a' = some b → b ≤ 6) → Fr (cK 39) (cpR (up3 mu 50 0 dd (nI mv)) 49 (9 * dd) 39 0 9) mu3 → a' = (match mvT B e T mv with | none => a | some T' => wei e a (wgV B 0 (!e) T')) → Ev E (d + 4) mi_210 34 [some (.inr (.inr (some (7, 0)))), some (.inl (nI nn)), some (.inl (nI dd))] [] (mem E (up3 mu3 51 0 dd (oI a')) la) (qI E Q) := by
        rintro a' mu3 ha' f3 rfl
        have f3' := fk.tr f3
        refine ihw (mv + 1) _ (up3 mu3 51 0 dd _) (by omega) ((f2.tr (f3.le cV_39)).u3 rfl) ?_ ?_ (up3_self _ _ _ _ _) ha' (fun mu' f' g49 g50 g51 g => q mu' f' (fun j hj => ?_) (fun j hj => ?_) (fun j hj => ?_) g)
        · exact (hC1.fr (f3'.le (cK_K rfl))).fr (Fr.rf.u3 rfl)
        · rw [kI_s, show up3 mu3 51 0 dd _ 50 0 dd = mu3 50 0 dd from by unfold up3; simp, f3' 50 0 dd rfl, up3_self]
        · rw [g49 j hj, show up3 mu3 51 0 dd _ 49 0 j = mu3 49 0 j from by unfold up3; simp, f3' 49 0 j rfl]; unfold up3; simp
        · rw [g50 j hj, show up3 mu3 51 0 dd _ 50 0 j = mu3 50 0 j from by unfold up3; simp, f3' 50 0 j rfl]; unfold up3; rw [if_neg (fun z => by omega)]
        · rw [g51 j hj, show up3 mu3 51 0 dd _ 51 0 j = mu3 51 0 j from by unfold up3; rw [if_neg (fun z => by omega)], f3' 51 0 j rfl]; unfold up3; simp
      have keep : mvT B e T mv = none → Ev E (d + 4) mi_210 34 [some (.inr (.inr (some (7, 0)))), some (.inl (nI nn)), some (.inl (nI dd))] [] (mem E (cpR (up3 mu 50 0 dd (nI mv)) 49 (9 * dd) 39 0 9) la) (qI E Q) := by
        intro hno
        have h1 := nxt a _ ha Fr.rf (by rw [hno])
        have h2 : up3 (cpR (up3 mu 50 0 dd (nI mv)) 49 (9 * dd) 39 0 9) 51 0 dd (oI a) = cpR (up3 mu 50 0 dd (nI mv)) 49 (9 * dd) 39 0 9 := by
          have h3 : cpR (up3 mu 50 0 dd (nI mv)) 49 (9 * dd) 39 0 9 51 0 dd = oI a := by rw [fk 51 0 dd rfl, ← h51]; unfold up3; simp
          funext k' i' j'
          show (if _ then _ else _) = _
          split
          · rename_i hc
            obtain ⟨rfl, rfl, rfl⟩ := hc
            exact h3.symm
          · rfl
        rw [h2] at h1
        exact h1
      have take : ∀ T', mvT B e T mv = some T' → ∀ mu3 : fMu, Fr (cK 39) (cpR (up3 mu 50 0 dd (nI mv)) 49 (9 * dd) 39 0 9) mu3 → MC 39 0 T' mu3 → ((¬ nI (dd + 1) = (2 : Int32) * nI nn → (FnV E (d + 3) mi_174 [.inr (.inr (some (39, 0))), .inl (0 : Int32), .inr (.inr (some (49, 0))), .inl ((9 : Int32) * nI (dd + 1)), .inl (9 : Int32)] mu3 la (fun mu24 la25 => FnV E (d + 3) mi_206 [.inr (.inr (some (7, 0))), .inl (nI (dd + 1))] mu24 la25 (fun mu27 la28 => Ev E (d + 4) mi_210 34 [some (.inr (.inr (some (7, 0)))), some (.inl (nI nn)), some (.inl (nI (dd + 1)))] [] (mem E mu27 la28) (qI E Q))))) ∧ (¬ (¬ nI (dd + 1) = (2 : Int32) * nI nn) → (FnI E (d + 3) mi_163 [.inr (.inr (some (7, 0))), .inr (.inr (some (39, 0)))] mu3 la (fun x29 mu30 la31 => FnI E (d + 3) mi_131 [.inl x29] mu30 la31 (fun x32 mu33 la34 => FnV E (d + 3) mi_207 [.inr (.inr (some (7, 0))), .inl (nI dd), .inl x32] mu33 la34 (fun mu36 la37 => Ev E (d + 4) mi_210 34 [some (.inr (.inr (some (7, 0)))), some (.inl (nI nn)), some (.inl (nI dd))] [] (mem E mu36 la37) (qI E Q))))))) := by
        intro T' hT'e mu3 f3 c3
        have hM3 := hM2.fr (f3.le (cK_MB (Or.inr rfl)))
        refine noo (fun z => z (by rw [show (2 : Int32) = nI 2 from rfl, pk_mul, show dd + 1 = 2 * nn by omega])) ?_
        refine s_wrongOf (T := T') hk39 (by decide) hn hM3.1 (fun j h => c3.w h) (s_bits _ (wrongT_lt _) ?_)
        have hp6 := pop_le (wrongT T' (bN B)) (wrongT_lt _)
        refine s_weighs dd e a _ (by omega) he ha hp6 ?_ (nxt _ mu3 (fun b hb => ?_) f3 (by rw [hT'e]; rfl))
        · rw [f3 51 0 dd rfl, fk 51 0 dd rfl, ← h51]; unfold up3; simp
        · obtain ⟨y, hy, -, -, y3⟩ := wei_spec e a (pop (wrongT T' (bN B)))
          rw [hy] at hb
          cases hb
          rcases y3 with y3 | y3
          · omega
          · exact ha _ y3
      refine yes (nI_le (b := 36) (by omega) (by decide)) ⟨b_x20, ?_⟩
      rcases he with ⟨hp, rfl⟩ | ⟨hp, rfl⟩
      · rw [hp]
        refine noo (fun z => z rfl) ⟨hin, s_barGoes mv (by omega) hB hT hM2 c2 (fun hno => yes rfl (keep hno)) (fun T' hT' mu3 f3 c3 => noo b_x10 (take T' hT' mu3 f3 c3))⟩
      · rw [hp]
        refine yes (by decide) ⟨hin, s_wagGoes mv (by omega) hB hT hM2 c2 (fun hno => yes rfl (keep hno)) (fun T' hT' mu3 f3 c3 => noo b_x10 (take T' hT' mu3 f3 c3))⟩
  | succ k ih =>
    intro dd e T hdk he hT w
    induction w with
    | zero =>
      intro mv a mu hmv f hC h50 h51 ha q
      have : mv = 37 := by omega
      subst this
      have hin : vp_in (nI dd) 5 := b_in rfl (by omega) (by decide)
      refine vc_X7_wag_34 0 _ _ (noo (nI_pos (by omega)) ⟨hin, hin, ?_⟩)
      rw [b_cl (by omega), h50, kI_1]
      rintro mu1 rfl
      rw [show (9 : Int32) * nI dd = nI (9 * dd) from by rw [show (9 : Int32) = nI 9 from rfl, pk_mul]]
      refine s_copies 49 45 (9 * dd) 39 9 0 9 rfl (by decide) rfl (by decide) (by decide) (by omega) (by decide) (by decide) (by decide) ⟨hin, ?_⟩
      have fk : Fr (cK 39) (up3 mu 50 0 dd (nI 37)) (cpR (up3 mu 50 0 dd (nI 37)) 49 (9 * dd) 39 0 9) := cpR_fr Fr.rf (fun _ => rfl)
      rw [fk 50 0 dd rfl, up3_self]
      refine noo (nI_ge (a := 36) (b := 37) (by decide) (by decide)) ?_
      rw [kI_m]
      rintro w56 rfl
      refine q _ (cpR_fr (f.u3 rfl) (fun _ => rfl)) (fun j hj => ?_) (fun j hj => ?_) (fun j hj => ?_) ?_
      · rw [fk 49 0 j rfl]; unfold up3; simp
      · rw [fk 50 0 j rfl]; unfold up3; rw [if_neg (fun z => by omega)]
      · rw [fk 51 0 j rfl]; unfold up3; simp
      · rw [fk 51 0 dd rfl]
        show _ = oI a
        rw [← h51]; unfold up3; simp
    | succ w ihw =>
      intro mv a mu hmv f hC h50 h51 ha q
      have hin : vp_in (nI dd) 5 := b_in rfl (by omega) (by decide)
      refine vc_X7_wag_34 0 _ _ (noo (nI_pos (by omega)) ⟨hin, hin, ?_⟩)
      rw [b_cl (by omega), h50, kI_1]
      rintro mu1 rfl
      rw [show (9 : Int32) * nI dd = nI (9 * dd) from by rw [show (9 : Int32) = nI 9 from rfl, pk_mul], b_rem2 (by omega), nI_1]
      refine s_copies 49 45 (9 * dd) 39 9 0 9 rfl (by decide) rfl (by decide) (by decide) (by omega) (by decide) (by decide) (by decide) ⟨hin, ?_⟩
      have fk : Fr (cK 39) (up3 mu 50 0 dd (nI mv)) (cpR (up3 mu 50 0 dd (nI mv)) 49 (9 * dd) 39 0 9) := cpR_fr Fr.rf (fun _ => rfl)
      have hC1 : MC 49 (9 * dd) T (up3 mu 50 0 dd (nI mv)) := hC.fr (Fr.rf.u3 rfl)
      have c2 : MC 39 (0 + 0) T (cpR (up3 mu 50 0 dd (nI mv)) 49 (9 * dd) 39 0 9) := MC.cp (x := 0) hC1 (by decide)
      have f2 : Fr cV mu0 (cpR (up3 mu 50 0 dd (nI mv)) 49 (9 * dd) 39 0 9) := cpR_fr (f.u3 rfl) (fun _ => rfl)
      have hM2 := hM.fr (f2.le cV_MB)
      rw [fk 50 0 dd rfl, up3_self]
      have nxt : ∀ (a' : Option Nat) (mu3 : fMu), (∀ b, a' = some b → b ≤ 6) → Fr cV mu0 mu3 → (∀ j : Nat, j < 9 * dd + 9 → mu3 49 0 j = mu 49 0 j) → mu3 50 0 dd = nI mv → (∀ j : Nat, j < dd → mu3 50 0 j = mu 50 0 j) → (∀ j : Nat, j < dd → mu3 51 0 j = mu 51 0 j) → a' = (match mvT B e T mv with | none => a | some T' => wei e a (wgV B (k + 1) (!e) T')) → Ev E (d + 4) mi_210 34 [some (.inr (.inr (some (7, 0)))), some (.inl (nI nn)), some (.inl (nI dd))] [] (mem E (up3 mu3 51 0 dd (oI a')) la) (qI E Q) := by
        rintro a' mu3 ha' f3 u49 v50 u50 u51 rfl
        have w49 : ∀ (v : Int32) (j : Nat), up3 mu3 51 0 dd v 49 0 j = mu3 49 0 j := fun v j => by unfold up3; simp
        refine ihw (mv + 1) _ (up3 mu3 51 0 dd _) (by omega) (f3.u3 rfl) ?_ ?_ (up3_self _ _ _ _ _) ha' (fun mu' f' g49 g50 g51 g => q mu' f' (fun j hj => ?_) (fun j hj => ?_) (fun j hj => ?_) g)
        · exact ⟨fun j hj => (w49 _ _).trans ((u49 _ (by omega)).trans (hC.1 j hj)), (w49 _ _).trans ((u49 _ (by omega)).trans hC.2.1), (w49 _ _).trans ((u49 _ (by omega)).trans hC.2.2.1), (w49 _ _).trans ((u49 _ (by omega)).trans hC.2.2.2)⟩
        · rw [kI_s, show up3 mu3 51 0 dd _ 50 0 dd = mu3 50 0 dd from by unfold up3; simp, v50]
        · rw [g49 j hj, w49, u49 j hj]
        · rw [g50 j hj, show up3 mu3 51 0 dd _ 50 0 j = mu3 50 0 j from by unfold up3; simp, u50 j hj]
        · rw [g51 j hj, show up3 mu3 51 0 dd _ 51 0 j = mu3 51 0 j from by unfold up3; rw [if_neg (fun z => by omega)], u51 j hj]
      have u49 : ∀ j : Nat, cpR (up3 mu 50 0 dd (nI mv)) 49 (9 * dd) 39 0 9 49 0 j = mu 49 0 j := fun j => by rw [fk 49 0 j rfl]; unfold up3; simp
      have v50 : cpR (up3 mu 50 0 dd (nI mv)) 49 (9 * dd) 39 0 9 50 0 dd = nI mv := by rw [fk 50 0 dd rfl, up3_self]
      have u50 : ∀ j : Nat, j < dd → cpR (up3 mu 50 0 dd (nI mv)) 49 (9 * dd) 39 0 9 50 0 j = mu 50 0 j := fun j hj => by rw [fk 50 0 j rfl]; unfold up3; rw [if_neg (fun z => by omega)]
      have u51 : ∀ j : Nat, cpR (up3 mu 50 0 dd (nI mv)) 49 (9 * dd) 39 0 9 51 0 j = mu 51 0 j := fun j => by rw [fk 51 0 j rfl]; unfold up3; simp
      have keep : mvT B e T mv = none → Ev E (d + 4) mi_210 34 [some (.inr (.inr (some (7, 0)))), some (.inl (nI nn)), some (.inl (nI dd))] [] (mem E (cpR (up3 mu 50 0 dd (nI mv)) 49 (9 * dd) 39 0 9) la) (qI E Q) := by
        intro hno
        have h1 := nxt a _ ha f2 (fun j _ => u49 j) v50 u50 (fun j _ => u51 j) (by rw [hno])
        have h2 : up3 (cpR (up3 mu 50 0 dd (nI mv)) 49 (9 * dd) 39 0 9) 51 0 dd (oI a) = cpR (up3 mu 50 0 dd (nI mv)) 49 (9 * dd) 39 0 9 := by
          have h3 : cpR (up3 mu 50 0 dd (nI mv)) 49 (9 * dd) 39 0 9 51 0 dd = oI a := by rw [u51, h51]
          funext k' i' j'
          show (if _ then _ else _) = _
          split
          · rename_i hc
            obtain ⟨rfl, rfl, rfl⟩ := hc
            exact h3.symm
          · rfl
        rw [h2] at h1
        exact h1
      have take : ∀ T', mvT B e T mv = some T' → ∀ mu3 : fMu, Fr (cK 39) (cpR (up3 mu 50 0 dd (nI mv)) 49 (9 * dd) 39 0 9) mu3 → MC 39 0 T' mu3 → ((¬ nI (dd + 1) = (2 : Int32) * nI nn → (FnV E (d + 3) mi_174 [.inr (.inr (some (39, 0))), .inl (0 : Int32), .inr (.inr (some (49, 0))), .inl ((9 : Int32) * nI (dd + 1)), .inl (9 : Int32)] mu3 la (fun mu24 la25 => FnV E (d + 3) mi_206 [.inr (.inr (some (7, 0))), .inl (nI (dd + 1))] mu24 la25 (fun mu27 la28 => Ev E (d + 4) mi_210 34 [some (.inr (.inr (some (7, 0)))), some (.inl (nI nn)), some (.inl (nI (dd + 1)))] [] (mem E mu27 la28) (qI E Q))))) ∧ (¬ (¬ nI (dd + 1) = (2 : Int32) * nI nn) → (FnI E (d + 3) mi_163 [.inr (.inr (some (7, 0))), .inr (.inr (some (39, 0)))] mu3 la (fun x29 mu30 la31 => FnI E (d + 3) mi_131 [.inl x29] mu30 la31 (fun x32 mu33 la34 => FnV E (d + 3) mi_207 [.inr (.inr (some (7, 0))), .inl (nI dd), .inl x32] mu33 la34 (fun mu36 la37 => Ev E (d + 4) mi_210 34 [some (.inr (.inr (some (7, 0)))), some (.inl (nI nn)), some (.inl (nI dd))] [] (mem E mu36 la37) (qI E Q))))))) := by
        intro T' hT'e mu3 f3 c3
        have hT' := wt_mv hB hT hT'e (by omega)
        refine yes (fun z => ?_) ?_
        · rw [show (2 : Int32) = nI 2 from rfl, pk_mul, nI_eq (by omega) (by omega)] at z
          omega
        rw [show (9 : Int32) * nI (dd + 1) = nI (9 * (dd + 1)) from by rw [show (9 : Int32) = nI 9 from rfl, pk_mul]]
        refine s_copies 39 9 0 49 45 (9 * (dd + 1)) 9 rfl (by decide) rfl (by decide) (by decide) (by decide) (by omega) (by decide) (by decide) (s_beginsStep (dd + 1) (by omega) ?_)
        have c4 : MC 49 (9 * (dd + 1) + 0) T' (cpR mu3 39 0 49 (9 * (dd + 1)) 9) := MC.cp (o1 := 0) (x := 0) c3 (by decide)
        have k4 : Fr (cK 49) mu3 (cpR mu3 39 0 49 (9 * (dd + 1)) 9) := cpR_fr Fr.rf (fun _ => rfl)
        have f4 : Fr cV mu0 (up3 (up3 (cpR mu3 39 0 49 (9 * (dd + 1)) 9) 50 0 (dd + 1) (-1)) 51 0 (dd + 1) (-9)) := ((cpR_fr (f2.tr (f3.le cV_39)) (fun _ => rfl)).u3 rfl).u3 rfl
        have p49 : ∀ j : Nat, up3 (up3 (cpR mu3 39 0 49 (9 * (dd + 1)) 9) 50 0 (dd + 1) (-1)) 51 0 (dd + 1) (-9) 49 0 j = cpR mu3 39 0 49 (9 * (dd + 1)) 9 49 0 j := fun j => by unfold up3; simp
        have he' : ((dd + 1) % 2 = 0 ∧ (!e) = false) ∨ ((dd + 1) % 2 = 1 ∧ (!e) = true) := by
          rcases he with ⟨hp, rfl⟩ | ⟨hp, rfl⟩
          · exact Or.inr ⟨by omega, rfl⟩
          · exact Or.inl ⟨by omega, rfl⟩
        refine ih (dd + 1) (!e) T' (by omega) he' hT' 37 0 none _ rfl f4 ?_ ?_ ?_ (fun b hb => by cases hb) (fun mu' f' g49 g50 g51 g => ?_)
        · exact ⟨fun j hj => (p49 _).trans (c4.1 j hj), (p49 _).trans c4.2.1, (p49 _).trans c4.2.2.1, (p49 _).trans c4.2.2.2⟩
        · show (if _ then _ else _) = _
          rw [if_neg (fun z => by omega), up3_self]
          rfl
        · rw [up3_self]
          rfl
        · obtain ⟨v, hv⟩ := wg_some (B := B) hn (!e) T' (wgV B k (!(!e)))
          have hvv : wgV B (k + 1) (!e) T' = v := by
            show (wgL (!e) (wgV B k (!(!e))) (mvT B (!e) T') 0 37 none).getD 0 = v
            rw [hv]
            rfl
          have hv6 : v ≤ 6 := by rw [← hvv]; exact wgV_le B _ _ _
          rw [hv] at g
          have r51 : ∀ j : Nat, j < dd + 1 → mu' 51 0 j = mu 51 0 j := by
            intro j hj
            rw [g51 j hj]
            show (if _ then _ else _) = _
            rw [if_neg (fun z => by omega)]
            show up3 (cpR mu3 39 0 49 (9 * (dd + 1)) 9) 50 0 (dd + 1) (-1) 51 0 j = _
            rw [show up3 (cpR mu3 39 0 49 (9 * (dd + 1)) 9) 50 0 (dd + 1) (-1) 51 0 j = cpR mu3 39 0 49 (9 * (dd + 1)) 9 51 0 j from by unfold up3; simp, k4 51 0 j rfl, f3 51 0 j rfl, u51]
          have r50 : ∀ j : Nat, j < dd + 1 → mu' 50 0 j = cpR (up3 mu 50 0 dd (nI mv)) 49 (9 * dd) 39 0 9 50 0 j := by
            intro j hj
            rw [g50 j hj]
            show up3 (up3 (cpR mu3 39 0 49 (9 * (dd + 1)) 9) 50 0 (dd + 1) (-1)) 51 0 (dd + 1) (-9) 50 0 j = _
            rw [show up3 (up3 (cpR mu3 39 0 49 (9 * (dd + 1)) 9) 50 0 (dd + 1) (-1)) 51 0 (dd + 1) (-9) 50 0 j = cpR mu3 39 0 49 (9 * (dd + 1)) 9 50 0 j from by unfold up3; simp; omega, k4 50 0 j rfl, f3 50 0 j rfl]
          unfold exW
          rw [kI_s]
          refine noo (nI_pos (by omega)) ⟨b_in (nI_1 dd) (by omega) (by decide), ?_⟩
          rw [nI_1, b_cl (by omega), g]
          refine s_weighs dd e a v (by omega) he ha hv6 (by rw [r51 dd (by omega), h51]) (nxt _ mu' (fun b hb => ?_) f' (fun j hj => ?_) ?_ (fun j hj => ?_) (fun j hj => r51 j (by omega)) (by rw [hT'e, ← hvv]))
          · obtain ⟨y, hy, -, -, y3⟩ := wei_spec e a v
            rw [hy] at hb
            cases hb
            rcases y3 with y3 | y3
            · omega
            · exact ha _ y3
          · rw [g49 j (by omega), p49, cpR_out mu3 (Or.inl (by omega)), f3 49 0 j rfl, u49]
          · rw [r50 dd (by omega), v50]
          · rw [r50 j (by omega), u50 j hj]
      refine yes (nI_le (b := 36) (by omega) (by decide)) ⟨b_x20, ?_⟩
      rcases he with ⟨hp, rfl⟩ | ⟨hp, rfl⟩
      · rw [hp]
        refine noo (fun z => z rfl) ⟨hin, s_barGoes mv (by omega) hB hT hM2 c2 (fun hno => yes rfl (keep hno)) (fun T' hT' mu3 f3 c3 => noo b_x10 (take T' hT' mu3 f3 c3))⟩
      · rw [hp]
        refine yes (by decide) ⟨hin, s_wagGoes mv (by omega) hB hT hM2 c2 (fun hno => yes rfl (keep hno)) (fun T' hT' mu3 f3 c3 => noo b_x10 (take T' hT' mu3 f3 c3))⟩
theorem p_wag (h : Inv IB mu la) (a : Int32) : Pair IB E (d + 10) mi_84 mi_210 [.inl a] mu la := by
  have hi := h
  obtain ⟨-, -, -, B, D, m, hd⟩ := h
  have hB := hd.1
  have hn := hd.1.1
  have hwt := hd.wt
  have hX := hd.2.2.1
  have hC := hd.2.2.2.1
  have hM := hd.2.2.2.2.2.1
  have hT := hd.2.2.2.2.2.2.1
  refine vc_X6_wag a (b_span a 0 2 (by decide) (by decide) (fun t _ ht e => ?_) (fun hno => vc_X7_wag _ (s_inS _ 0 2 (by decide) (by decide) (fun j h1 h2 e => absurd e (hno j h1 h2)) (fun _ => noo (fun z => z rfl) ⟨rfl, hi⟩))))
  subst e
  rw [hX.1]
  refine sz_c (by omega) (fun hz => ?_) (fun hz => ?_)
  · refine s_becomeT hC (fun mu1 f1 c1 => ?_)
    have hlv : lvB d t ≤ d + 9 := by
      have hc : t = 0 ∨ t = 1 ∨ t = 2 := by omega
      rcases hc with rfl | rfl | rfl
      · show d + 5 ≤ d + 9; omega
      · show d + 5 + 2 ≤ d + 9; omega
      · exact Nat.le_refl _
    refine FnI.deep (x_bar (d := d) hB t (by omega) (rp B D m) mu1 _ hwt (hX.fr (f1.le ctr_CB)) c1 (fun mu2 f2 c2 => ?_)) hlv
    have f12 := f1.tr f2
    have hi2 : Inv IB mu2 la := hi.frI (f12.le ctr1_I)
    have hM2 : MB B mu2 := hM.fr (f12.le ctr_MB)
    have hT2 : MC 38 0 (rp B D m) mu2 := hT.fr (f12.le (ctr_K rfl))
    refine vc_X7_wag _ (s_inS _ 0 2 (by decide) (by decide) (fun j _ _ _ => yes b_x10 ?_) (fun hno => absurd rfl (hno t (Nat.zero_le t) ht)))
    rw [hM2.1]
    refine sz_c (by omega) (fun _ => ?_) (fun z => by omega)
    rw [cl_eq hB t _ hwt]
    cases t with
    | zero => exact noo (fun z => z rfl) (s_wrongOf (T := rp B D m) hk38 (by decide) hn hM2.1 (fun j h => hT2.w h) (s_bits _ (wrongT_lt _) ⟨rfl, hi2⟩))
    | succ t =>
      refine yes (nI_ne0 (by omega) (by omega)) ?_
      refine s_copies 38 9 0 49 45 0 9 rfl (by decide) rfl (by decide) (by decide) (by decide) (by decide) (by decide) (by decide) (s_beginsStep 0 (by decide) ?_)
      have c4 : MC 49 (0 + 0) (rp B D m) (cpR mu2 38 0 49 0 9) := MC.cp (o1 := 0) (x := 0) hT2 (by decide)
      have f4 : Fr cV mu2 (up3 (up3 (cpR mu2 38 0 49 0 9) 50 0 0 (-1)) 51 0 0 (-9)) := ((cpR_fr Fr.rf (fun _ => rfl)).u3 rfl).u3 rfl
      refine m_wag (d := d + 6) (t + 1) ht mu2 hB hM2 (2 * t + 1) 0 false (rp B D m) (by omega) (Or.inl ⟨rfl, rfl⟩) hwt 37 0 none _ rfl f4 ((c4.fr (Fr.rf.u3 rfl)).fr (Fr.rf.u3 rfl)) ?_ (up3_self _ _ _ _ _) (fun b hb => by cases hb) (fun mu5 f5 _ _ _ g => ?_)
      · show (if _ then _ else _) = _
        rw [if_neg (fun z => by omega), up3_self]
        rfl
      · obtain ⟨v, hv⟩ := wg_some (B := B) hn false (rp B D m) (wgV B (2 * t + 1) (!false))
        have hvv : wgV B (2 * (t + 1)) false (rp B D m) = v := by
          show (wgL false (wgV B (2 * t + 1) (!false)) (mvT B false (rp B D m)) 0 37 none).getD 0 = v
          rw [hv]
          rfl
        rw [hv] at g
        refine yes (by decide) (vc_X7_wag_34 0 _ _ (yes (by decide) ⟨b_in (j := 0) rfl (by decide) (by decide), ?_⟩))
        rw [show (0 : Int32).toNatClampNeg = 0 from rfl, g, hvv]
        exact ⟨rfl, hi2.frI (f5.le cV_I)⟩
  · refine vc_X7_wag _ (s_inS _ 0 2 (by decide) (by decide) (fun j _ _ _ => yes b_x10 ?_) (fun hno => absurd rfl (hno t (Nat.zero_le t) ht)))
    rw [hM.1]
    exact sz_c (by omega) (fun z => by omega) (fun _ => ⟨rfl, hi⟩)
end WAG
