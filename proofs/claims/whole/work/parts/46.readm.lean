section READM
variable {E : mEv} {d t : Nat} {mu : fMu} {la : fLa} {Q : Int32 → fMu → fLa → Prop} {f : Nat → Int32} {s : Nat}
theorem s_byteAt (a : Nat) (ha : a < 1000) (ht : t < 4) (hs : s ≤ 60) (h : TM t f s mu) (e0 : mu 7 0 22 = nI a) (q : Q (sgM f s a) mu la) : FnI E d mi_145 [.inr (.inr (some (7, 0))), .inl (nI t)] mu la Q := by
  refine vc_X7_byteAt _ ⟨b_in rfl ht (by decide), ?_⟩
  rw [b_cl (by omega), h.1, e0, b_60]
  unfold sgM at q
  refine pk_le s a (fun hl => ?_) (fun hl => ⟨b_in rfl (by omega) (by decide), ?_⟩)
  · rw [if_neg (by omega)] at q
    exact q
  · rw [if_pos hl] at q
    rw [b_cl (by omega), h.2 a hl]
    exact q
theorem s_blanks {Q : fMu → fLa → Prop} (ht : t < 4) (hs : s ≤ 60) (h : TM t f s mu) (a : Nat) (ha : a ≤ s) (e0 : mu 7 0 22 = nI a) (q : Q (up3 mu 7 0 22 (nI (sk f s a))) la) : FnV E (d + 1) mi_146 [.inr (.inr (some (7, 0))), .inl (nI t)] mu la Q := by
  have key : ∀ z a : Nat, a + z = s → Q (up3 mu 7 0 22 (nI (skp f s z a))) la → Ev E (d + 1) mi_146 0 [some (.inr (.inr (some (7, 0)))), some (.inl (nI t))] [] (mem E (up3 mu 7 0 22 (nI a)) la) (qV E Q) := by
    intro z
    induction z with
    | zero =>
      intro a hz q
      refine vc_X7_blanks_0 0 _ (s_byteAt a (by omega) ht hs (h.fr (Fr.rf.u3 rfl)) (up3_self _ _ _ _ _) ?_)
      unfold sgM
      rw [if_neg (by omega)]
      exact yes (by decide) q
    | succ z ih =>
      intro a hz q
      refine vc_X7_blanks_0 0 _ (s_byteAt a (by omega) ht hs (h.fr (Fr.rf.u3 rfl)) (up3_self _ _ _ _ _) ?_)
      unfold sgM
      unfold skp at q
      rw [if_pos (by omega)]
      by_cases e : f a = 32
      · rw [if_pos ⟨by omega, e⟩] at q
        refine noo (fun z => z e) ?_
        rintro mu1 rfl
        rw [up3_self, up3_up3, nI_1]
        exact ih (a + 1) (by omega) q
      · rw [if_neg (fun z => e z.2)] at q
        exact yes e q
  refine vc_X7_blanks _ ?_
  have h1 := key (s - a) a (by omega) q
  have e1 : up3 mu 7 0 22 (nI a) = mu := by
    funext k i j
    unfold up3
    split
    · rename_i hc
      rw [hc.1, hc.2.1, hc.2.2, e0]
    · rfl
  rw [e1] at h1
  exact h1
theorem s_takesM (a lo hi : Nat) (ha : a < 1000) (ht : t < 4) (hs : s ≤ 60) (hl : lo < 1000) (hh : hi < 1000) (h : TM t f s mu) (e0 : mu 7 0 22 = nI a) (h1 : ∀ v, figO (sg f s a) lo hi = some v → Q 1 (up3 (up3 mu 7 0 26 (nI v)) 7 0 22 (nI (a + 1))) la) (h0 : figO (sg f s a) lo hi = none → ∀ x, Q 0 (up3 mu 7 0 26 x) la) : FnI E (d + 1) mi_148 [.inr (.inr (some (7, 0))), .inl (nI t), .inl (nI lo), .inl (nI hi)] mu la Q := by
  refine vc_X7_takes _ _ _ (s_byteAt a ha ht hs h e0 ?_)
  rintro mu1 rfl
  rw [up3_self, ← sgM_fig f s a lo hi hl] at *
  refine s_inS _ lo hi hl hh (fun v v1 v2 ev => yes b_x10 ?_) (fun hno => noo (fun z => z rfl) (h0 ?_ _))
  · rintro mu1 rfl
    have e2 : up3 mu 7 0 26 (sgM f s a - 48) 7 0 22 = nI a := by
      rw [← e0]; unfold up3; simp
    rw [e2, nI_1, ev]
    refine h1 v ?_
    unfold figO
    rw [ev, if_pos ⟨nI_le v1 (by omega), nI_le v2 (by omega)⟩, b_cl (by omega)]
  · unfold figO
    refine if_neg (fun z => ?_)
    rcases b_ix (sgM f s a - 48) (hi + 1) (by omega) with ⟨j, hj, ej⟩ | ⟨w | w, -⟩
    · refine hno j ?_ (by omega) ej
      have := z.1
      rw [ej, nI_leI (by omega) (by omega)] at this
      exact this
    · exact absurd (Int32.le_trans (b_np lo (by omega)) z.1) (Int32.not_le.mpr w)
    · have z2 := Int32.le_trans w z.2
      rw [nI_leI (by omega) (by omega)] at z2
      omega
theorem s_kindOf (x : Int32) (q : Q (fO (kdO x)) mu la) : FnI E d mi_147 [.inl x] mu la Q := by
  refine vc_X7_kindOf x ?_
  unfold kdO at q
  by_cases c0 : x = 99
  · rw [if_pos c0] at q; exact noo (fun z => z c0) q
  rw [if_neg c0] at q
  refine yes c0 ?_
  by_cases c1 : x = 106
  · rw [if_pos c1] at q; exact noo (fun z => z c1) q
  rw [if_neg c1] at q
  refine yes c1 ?_
  by_cases c2 : x = 116
  · rw [if_pos c2] at q; exact noo (fun z => z c2) q
  rw [if_neg c2] at q
  refine yes c2 ?_
  by_cases c3 : x = 103
  · rw [if_pos c3] at q; exact noo (fun z => z c3) q
  rw [if_neg c3] at q
  refine yes c3 ?_
  by_cases c4 : x = 102
  · rw [if_pos c4] at q; exact noo (fun z => z c4) q
  rw [if_neg c4] at q
  refine yes c4 ?_
  by_cases c5 : x = 100
  · rw [if_pos c5] at q; exact noo (fun z => z c5) q
  rw [if_neg c5] at q
  exact yes c5 q
/-- a cup half read -/
def CS (mu0 : fMu) (a i k : Nat) (vs : Nat → Nat) (mu : fMu) : Prop := Fr nM mu0 mu ∧ mu 7 0 22 = nI (a + k) ∧ mu 7 0 24 = nI i ∧ mu 7 0 23 = mu0 7 0 23 ∧ (∀ j : Nat, j < 5 * i → mu 44 0 j = mu0 44 0 j) ∧ ∀ r : Nat, r < k → mu 44 0 (5 * i + r) = nI (vs r)
theorem CS.next {mu0 : fMu} {a i k : Nat} {vs : Nat → Nat} {v : Nat} (h : CS mu0 a i k vs mu) : CS mu0 a i (k + 1) (upN vs k v) (up3 (up3 (up3 mu 7 0 26 (nI v)) 7 0 22 (nI (a + k + 1))) 44 0 (5 * i + k) (nI v)) := by
  obtain ⟨h1, h2, h3, h4, h5, h6⟩ := h
  refine ⟨((h1.u3 rfl).u3 rfl).u3 rfl, ?_, ?_, ?_, fun j hj => ?_, fun r hr => ?_⟩
  · unfold up3; simp; rfl
  · unfold up3; simpa using h3
  · unfold up3; simpa using h4
  · rw [← h5 j hj]
    unfold up3
    simp
    omega
  · unfold upN
    by_cases e : r = k
    · subst e
      unfold up3; simp
    · rw [if_neg e, ← h6 r (by omega)]
      unfold up3; simp [e]
theorem s_readsCup (a i : Nat) (ha : a ≤ s) (ht : t < 4) (hs : s ≤ 60) (hi : i ≤ 6) (h : TM t f s mu) (e0 : mu 7 0 22 = nI a) (e1 : mu 7 0 24 = nI i) (hb : (i = 6 → ∀ mu' : fMu, Fr nM mu mu' → mu' 7 0 22 = nI a → Q 0 mu' la)) (hf : i < 6 → (cupA f s a).1 < 5 → ∀ mu' : fMu, Fr nM mu mu' → mu' 7 0 22 = nI (a + (cupA f s a).1) → Q 0 mu' la) (ho : i < 6 → (cupA f s a).1 = 5 → ∀ (mu' : fMu) (vs : Nat → Nat), Fr nM mu mu' → mu' 7 0 22 = nI (a + 5) → mu' 7 0 24 = nI (i + 1) → mu' 7 0 23 = mu 7 0 23 → (∀ j : Nat, j < 5 * i → mu' 44 0 j = mu 44 0 j) → (∀ r : Nat, r < 5 → mu' 44 0 (5 * i + r) = nI (vs r)) → (cupA f s a).2 = (vs 0, vs 1, vs 2, vs 3, vs 4) → Q 1 mu' la) : FnI E (d + 2) mi_150 [.inr (.inr (some (7, 0))), .inl (nI t)] mu la Q := by
  refine vc_X7_readsCup _ (s_byteAt a (by omega) ht hs h e0 (s_kindOf _ ?_))
  rw [sgM_kd]
  unfold cupA at hf ho
  cases hk : kdO (sg f s a) with
  | none =>
    rw [hk] at hf
    refine yes (by decide) ?_
    rcases Nat.lt_or_ge i 6 with z | z
    · exact hf z (show (0 : Nat) < 5 by decide) mu Fr.rf e0
    · exact hb (by omega) mu Fr.rf e0
  | some k =>
    rw [hk] at hf ho
    dsimp only at hf ho
    have hk5 := kdO_lt hk
    refine noo (nI_pos (by omega)) ?_
    rw [e1]
    rcases Nat.lt_or_ge i 6 with hi6 | hi6
    · refine yes (fun z => ?_) ?_
      · have := (nI_eq (b := 6) (by omega) (by decide)).mp z
        omega
      rintro mu1 rfl
      have e2 : up3 mu 7 0 22 (mu 7 0 22 + 1) 7 0 24 = nI i := by rw [← e1]; unfold up3; simp
      rw [e2, e0, nI_1, show (5 : Int32) = nI 5 from rfl, pk_mul, b_cl (by omega)]
      refine ⟨b_in rfl (by omega) (by decide), ?_⟩
      rintro mu1 rfl
      have hc1 : CS mu a i 1 (fun _ => k) (up3 (up3 mu 7 0 22 (nI (a + 1))) 44 0 (5 * i) (nI k)) := by
        refine ⟨(Fr.rf.u3 rfl).u3 rfl, ?_, ?_, ?_, fun j hj => ?_, fun r hr => ?_⟩
        · unfold up3; simp
        · unfold up3; simpa using e1
        · unfold up3; simp
        · unfold up3; simp; omega
        · rw [show r = 0 by omega]; unfold up3; simp
      have stp : ∀ (kk lo hi : Nat) (vs : Nat → Nat) (mu1 : fMu), 1 ≤ kk → kk < 5 → lo < 1000 → hi < 1000 → CS mu a i kk vs mu1 → (figO (sg f s (a + kk)) lo hi = none → ∀ mu' : fMu, Fr nM mu mu' → mu' 7 0 22 = nI (a + kk) → Q 0 mu' la) → (∀ v, figO (sg f s (a + kk)) lo hi = some v → ∀ mu' : fMu, CS mu a i (kk + 1) (upN vs kk v) mu' → Ev E (d + 2) mi_150 31 [some (.inr (.inr (some (7, 0)))), some (.inl (nI t)), none, some (.inl (nI (5 * i))), some (.inl (nI (kk + 1)))] [] (mem E mu' la) (qI E Q)) → FnI E (d + 1) mi_148 [.inr (.inr (some (7, 0))), .inl (nI t), .inl (nI lo), .inl (nI hi)] mu1 la (fun x10 mu11 la12 => (¬ x10 = 0 → (vp_in (nI (5 * i) + nI kk) 30 ∧ ∀ mu13 : fMu, mu13 = up3 mu11 44 0 (nI (5 * i) + nI kk).toNatClampNeg (mu11 7 0 26) → (Ev E (d + 2) mi_150 31 [some (.inr (.inr (some (7, 0)))), some (.inl (nI t)), none, some (.inl (nI (5 * i))), some (.inl (nI kk + (1 : Int32)))] [] (mem E mu13 la12) (qI E Q)))) ∧ (¬ (¬ x10 = 0) → (Q (0 : Int32) mu11 la12))) := by
        intro kk lo hi vs mu1 k1 k5 hl hh hc q0 q1
        refine s_takesM (a + kk) lo hi (by omega) ht hs hl hh (h.fr hc.1) hc.2.1 (fun v ev => yes b_x10 ?_) (fun en x => noo (fun z => z rfl) (q0 en _ (hc.1.u3 rfl) ?_))
        · rw [nI_add, b_cl (by omega), nI_1]
          refine ⟨b_in rfl (by omega) (by decide), ?_⟩
          rintro mu1 rfl
          have e3 : ∀ x : fMu, up3 (up3 x 7 0 26 (nI v)) 7 0 22 (nI (a + kk + 1)) 7 0 26 = nI v := by
            intro x; unfold up3; simp
          rw [e3]
          exact q1 v ev _ hc.next
        · rw [← hc.2.1]; unfold up3; simp
      refine vc_X7_readsCup_31 0 _ _ _ (noo (by decide) (noo (fun z => z rfl) (yes (by decide) ?_)))
      refine stp 1 1 9 _ _ (by decide) (by decide) (by decide) (by decide) hc1 (fun en mu' g1 g2 => ?_) (fun x ex mu1 hc2 => ?_)
      · rw [en] at hf; exact hf hi6 (show (1 : Nat) < 5 by decide) mu' g1 g2
      rw [ex] at hf ho
      dsimp only at hf ho
      refine vc_X7_readsCup_31 0 _ _ _ (noo (by decide) (yes (by decide) (noo (fun z => z rfl) ?_)))
      refine stp 2 0 3 _ _ (by decide) (by decide) (by decide) (by decide) hc2 (fun en mu' g1 g2 => ?_) (fun y ey mu1 hc3 => ?_)
      · rw [en] at hf; exact hf hi6 (show (2 : Nat) < 5 by decide) mu' g1 g2
      rw [ey] at hf ho
      dsimp only at hf ho
      refine vc_X7_readsCup_31 0 _ _ _ (noo (by decide) (yes (by decide) (yes (by decide) ?_)))
      refine stp 3 0 9 _ _ (by decide) (by decide) (by decide) (by decide) hc3 (fun en mu' g1 g2 => ?_) (fun u eu mu1 hc4 => ?_)
      · rw [en] at hf; exact hf hi6 (show (3 : Nat) < 5 by decide) mu' g1 g2
      rw [eu] at hf ho
      dsimp only at hf ho
      refine vc_X7_readsCup_31 0 _ _ _ (noo (by decide) (yes (by decide) (yes (by decide) ?_)))
      refine stp 4 0 9 _ _ (by decide) (by decide) (by decide) (by decide) hc4 (fun en mu' g1 g2 => ?_) (fun w ew mu1 hc5 => ?_)
      · rw [en] at hf; exact hf hi6 (show (4 : Nat) < 5 by decide) mu' g1 g2
      rw [ew] at ho
      refine vc_X7_readsCup_31 0 _ _ _ (yes (by decide) ?_)
      rintro mu1 rfl
      obtain ⟨g1, g2, g3, g4, g5, g6⟩ := hc5
      refine ho hi6 rfl _ (upN (upN (upN (upN (fun _ => k) 1 x) 2 y) 3 u) 4 w) (g1.u3 rfl) ?_ ?_ ?_ (fun j hj => ?_) (fun r hr => ?_) rfl
      · rw [← g2]; unfold up3; simp
      · rw [up3_self, g3, nI_1]
      · rw [← g4]; unfold up3; simp
      · rw [← g5 j hj]; unfold up3; simp
      · rw [← g6 r hr]; unfold up3; simp
    · refine noo (fun z => z (by rw [show i = 6 by omega]; rfl)) (hb (by omega) mu Fr.rf e0)
theorem m_readLoop (mu0 : fMu) (ht : t < 4) (hs : s ≤ 60) (h0 : TM t f s mu0) : ∀ (z i a : Nat) (B : tB) (mu : fMu), i + z = 6 → a ≤ s → bN B = i → Fr nM mu0 mu → mu 7 0 22 = nI a → RM B mu → (∀ mu' : fMu, Fr nM mu0 mu' → (rdC f s z i a B).1 = none → RM (rdC f s z i a B).2 mu' → Q (-9) mu' la) → (∀ (mu' : fMu) (x : Nat), Fr nM mu0 mu' → (rdC f s z i a B).1 = some x → Q (nI x) mu' la) → Ev E (d + 3) mi_151 13 [some (.inr (.inr (some (7, 0)))), some (.inl (nI t)), some (.inl (1 : Int32))] [] (mem E mu la) (qI E Q) := by
  intro z
  induction z with
  | zero =>
    intro i a B mu hz ha hB hF e0 hD q1 q2
    have h := h0.fr hF
    have hk := sk_le f s a ha
    unfold rdC at q1 q2
    refine vc_X7_faultOf_13 0 _ _ (noo b_x10 (s_blanks ht hs h a ha e0 ⟨b_in rfl ht (by decide), ?_⟩))
    have hF2 : Fr nM mu0 (up3 mu 7 0 22 (nI (sk f s a))) := hF.u3 rfl
    have h2 := h0.fr hF2
    have hD2 : RM B (up3 mu 7 0 22 (nI (sk f s a))) := by
      obtain ⟨d1, d2, d3⟩ := hD
      refine ⟨?_, ?_, fun j hj => ?_⟩
      · rw [← d1]; unfold up3; simp
      · rw [← d2]; unfold up3; simp
      · obtain ⟨x1, x2, x3, x4, x5⟩ := d3 j hj
        rw [← x1, ← x2, ← x3, ← x4, ← x5]; unfold up3; simp
    rw [up3_self, b_cl (by omega), h2.1]
    by_cases e : sk f s a = s
    · refine noo (fun z => z (by rw [e])) (noo ?_ (q1 _ hF2 (if_neg (by omega)) hD2))
      rw [hD2.1]
      exact nI_nle (by omega) (by omega)
    · refine yes (fun z => e ((nI_eq (by omega) (by omega)).mp z)) ?_
      refine s_readsCup (sk f s a) i (by omega) ht hs (by omega) h2 (up3_self _ _ _ _ _) (by rw [hD2.1, hB]) (fun _ mu' g1 g2 => ?_) (fun z => by omega) (fun z => by omega)
      refine vc_X7_faultOf_13 0 _ _ (yes rfl ?_)
      rw [g2]
      exact q2 mu' _ (hF2.tr g1) (if_pos (by omega))
  | succ z ih =>
    intro i a B mu hz ha hB hF e0 hD q1 q2
    have h := h0.fr hF
    have hk := sk_le f s a ha
    unfold rdC at q1 q2
    refine vc_X7_faultOf_13 0 _ _ (noo b_x10 (s_blanks ht hs h a ha e0 ⟨b_in rfl ht (by decide), ?_⟩))
    have hF2 : Fr nM mu0 (up3 mu 7 0 22 (nI (sk f s a))) := hF.u3 rfl
    have h2 := h0.fr hF2
    have hD2 : RM B (up3 mu 7 0 22 (nI (sk f s a))) := by
      obtain ⟨d1, d2, d3⟩ := hD
      refine ⟨?_, ?_, fun j hj => ?_⟩
      · rw [← d1]; unfold up3; simp
      · rw [← d2]; unfold up3; simp
      · obtain ⟨x1, x2, x3, x4, x5⟩ := d3 j hj
        rw [← x1, ← x2, ← x3, ← x4, ← x5]; unfold up3; simp
    have hcup : ¬ (0 < i ∧ s ≤ sk f s a) → FnI E (d + 2) mi_150 [.inr (.inr (some (7, 0))), .inl (nI t)] (up3 mu 7 0 22 (nI (sk f s a))) la (fun x12 mu13 la14 => Ev E (d + 3) mi_151 13 [some (.inr (.inr (some (7, 0)))), some (.inl (nI t)), some (.inl x12)] [] (mem E mu13 la14) (qI E Q)) := by
      intro hc
      rw [if_neg hc] at q1 q2
      refine s_readsCup (sk f s a) i (by omega) ht hs (by omega) h2 (up3_self _ _ _ _ _) (by rw [hD2.1, hB]) (fun z => by omega) (fun _ h5 mu' g1 g2 => ?_) (fun _ h5 mu' vs g1 g2 g3 g4 g5 g6 g7 => ?_)
      · rw [if_pos h5] at q2
        refine vc_X7_faultOf_13 0 _ _ (yes rfl ?_)
        rw [g2]
        exact q2 mu' _ (hF2.tr g1) rfl
      · rw [if_neg (by omega)] at q1 q2
        obtain ⟨g0, -⟩ := cupA_5 f s (sk f s a) h5
        refine ih (i + 1) (sk f s a + 5) (setC B i (cupA f s (sk f s a)).2) mu' (by omega) (by omega) rfl (hF2.tr g1) g2 ⟨g3, ?_, fun j hj => ?_⟩ q1 q2
        · rw [g4]
          exact hD2.2.1
        · have hj : j < i + 1 := hj
          show mu' 44 0 (5 * j) = nI (upN (bK B) i _ j) ∧ mu' 44 0 (5 * j + 1) = nI (upN (bS B) i _ j) ∧ mu' 44 0 (5 * j + 2) = nI (upN (bM B) i _ j) ∧ mu' 44 0 (5 * j + 3) = nI (upN (bA B) i _ j) ∧ mu' 44 0 (5 * j + 4) = nI (upN (bW B) i _ j)
          rw [g7]
          unfold upN
          by_cases e : j = i
          · subst e
            simp only [if_true]
            exact ⟨g6 0 (by decide), g6 1 (by decide), g6 2 (by decide), g6 3 (by decide), g6 4 (by decide)⟩
          · simp only [e, if_false]
            rw [g5 _ (by omega), g5 _ (by omega), g5 _ (by omega), g5 _ (by omega), g5 _ (by omega)]
            exact hD2.2.2 j (by omega)
    rw [up3_self, b_cl (by omega), h2.1]
    by_cases e : sk f s a = s
    · refine noo (fun z => z (by rw [e])) ?_
      rw [hD2.1, show (0 : Int32) = nI 0 from rfl]
      refine pk_le (bN B) 0 (fun hl => hcup (fun z => by omega)) (fun hl => ?_)
      rw [if_pos ⟨by omega, by omega⟩] at q1
      exact q1 _ hF2 rfl hD2
    · exact yes (fun z => e ((nI_eq (by omega) (by omega)).mp z)) (hcup (fun z => by omega))
theorem m_faultOf (ht : t < 4) (hs : s ≤ 60) (h : TM t f s mu) (q1 : ∀ mu' : fMu, Fr nM mu mu' → (prs f s).1 = none → RM (prs f s).2 mu' → Q (-9) mu' la) (q2 : ∀ (mu' : fMu) (x : Nat), Fr nM mu mu' → (prs f s).1 = some x → Q (nI x) mu' la) : FnI E (d + 3) mi_151 [.inr (.inr (some (7, 0))), .inl (nI t)] mu la Q := by
  refine vc_X7_faultOf _ ?_
  rintro mu1 rfl
  rintro mu1 rfl
  have hF : Fr nM mu (up3 (up3 mu 7 0 22 0) 7 0 24 0) := (Fr.rf.u3 rfl).u3 rfl
  have h1 := h.fr hF
  have hk := sk_le f s 0 (Nat.zero_le _)
  refine s_blanks ht hs h1 0 (Nat.zero_le _) (by unfold up3; simp; rfl) ?_
  have hF2 : Fr nM mu (up3 (up3 (up3 mu 7 0 22 0) 7 0 24 0) 7 0 22 (nI (sk f s 0))) := hF.u3 rfl
  have h2 := h.fr hF2
  refine vc_X7_readsEars _ (s_byteAt (sk f s 0) (by omega) ht hs h2 (up3_self _ _ _ _ _) ?_)
  have e101 := sgM_eq f s (sk f s 0) 101 (by decide) (by decide)
  unfold prs at q1 q2
  by_cases e : sg f s (sk f s 0) = 101
  · rw [if_pos e] at q1 q2
    refine yes (e101.mpr e) ?_
    rintro mu1 rfl
    rw [up3_self, nI_1, up3_up3]
    have hF3 : Fr nM mu (up3 (up3 (up3 mu 7 0 22 0) 7 0 24 0) 7 0 22 (nI (sk f s 0 + 1))) := hF.u3 rfl
    refine s_takesM (sk f s 0 + 1) 0 9 (by omega) ht hs (by decide) (by decide) (h.fr hF3) (up3_self _ _ _ _ _) (fun v ev => yes b_x10 ?_) (fun ev x => noo (fun z => z rfl) ?_)
    · rintro mu1 rfl
      rw [ev] at q1 q2
      have hv := sg_fig (by decide) ev
      refine m_readLoop mu ht hs h 6 0 _ (bZ v) _ rfl (by omega) rfl (((hF3.u3 rfl).u3 rfl).u3 rfl) ?_ ⟨?_, ?_, fun i hi => absurd hi (Nat.not_lt_zero i)⟩ q1 q2
      · unfold up3; simp
      · unfold up3; simp; rfl
      · rw [up3_self]; unfold up3; simp; rfl
    · rw [ev] at q2
      refine vc_X7_faultOf_13 0 _ _ (yes rfl ?_)
      have e3 : up3 (up3 (up3 (up3 mu 7 0 22 0) 7 0 24 0) 7 0 22 (nI (sk f s 0 + 1))) 7 0 26 x 7 0 22 = nI (sk f s 0 + 1) := by unfold up3; simp
      rw [e3]
      exact q2 _ _ (hF3.u3 rfl) rfl
  · rw [if_neg e] at q2
    refine noo (fun z => e (e101.mp z)) (vc_X7_faultOf_13 0 _ _ (yes rfl ?_))
    rw [up3_self]
    exact q2 _ _ hF2 rfl
end READM
