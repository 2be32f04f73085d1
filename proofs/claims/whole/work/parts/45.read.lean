/-! a bar's small language, as a plain function of the bytes -/
def sg (f : Nat → Int32) (s i : Nat) : Int32 := if i < s then f i else -1
def figO (x : Int32) (lo hi : Nat) : Option Nat := if nI lo ≤ x - 48 ∧ x - 48 ≤ nI hi then some (x - 48).toNatClampNeg else none
def kdO (x : Int32) : Option Nat := if x = 99 then some 0 else if x = 106 then some 1 else if x = 116 then some 2 else if x = 103 then some 3 else if x = 102 then some 4 else if x = 100 then some 5 else none
def fO (r : Option Nat) : Int32 := match r with
  | none => -1
  | some v => nI v
def skp (f : Nat → Int32) (s : Nat) : Nat → Nat → Nat
  | 0, a => a
  | z + 1, a => if a < s ∧ f a = 32 then skp f s z (a + 1) else a
def sk (f : Nat → Int32) (s a : Nat) : Nat := skp f s (s - a) a
def cupA (f : Nat → Int32) (s a : Nat) : Nat × Nat × Nat × Nat × Nat × Nat :=
  match kdO (sg f s a) with
  | none => (0, 0, 0, 0, 0, 0)
  | some k => match figO (sg f s (a + 1)) 1 9 with
    | none => (1, 0, 0, 0, 0, 0)
    | some x => match figO (sg f s (a + 2)) 0 3 with
      | none => (2, 0, 0, 0, 0, 0)
      | some y => match figO (sg f s (a + 3)) 0 9 with
        | none => (3, 0, 0, 0, 0, 0)
        | some u => match figO (sg f s (a + 4)) 0 9 with
          | none => (4, 0, 0, 0, 0, 0)
          | some w => (5, k, x, y, u, w)
def upN (f : Nat → Nat) (i v : Nat) : Nat → Nat := fun j => if j = i then v else f j
def setC (B : tB) (i : Nat) (v : Nat × Nat × Nat × Nat × Nat) : tB := (i + 1, bE B, upN (bK B) i v.1, upN (bS B) i v.2.1, upN (bM B) i v.2.2.1, upN (bA B) i v.2.2.2.1, upN (bW B) i v.2.2.2.2)
def rdC (f : Nat → Int32) (s : Nat) : Nat → Nat → Nat → tB → Option Nat × tB
  | 0, _, a, B => (if sk f s a < s then some (sk f s a) else none, B)
  | z + 1, i, a, B => if 0 < i ∧ s ≤ sk f s a then (none, B) else if (cupA f s (sk f s a)).1 < 5 then (some (sk f s a + (cupA f s (sk f s a)).1), B) else rdC f s z (i + 1) (sk f s a + 5) (setC B i (cupA f s (sk f s a)).2)
def bZ (e : Nat) : tB := (0, e, fun _ => 0, fun _ => 0, fun _ => 0, fun _ => 0, fun _ => 0)
def prs (f : Nat → Int32) (s : Nat) : Option Nat × tB := if sg f s (sk f s 0) = 101 then (match figO (sg f s (sk f s 0 + 1)) 0 9 with
    | none => (some (sk f s 0 + 1), bZ 0)
    | some e => rdC f s 6 0 (sk f s 0 + 2) (bZ e)) else (some (sk f s 0), bZ 0)
theorem figO_some {x : Int32} {lo hi v : Nat} (hh : hi < 1000) (h : figO x lo hi = some v) (hl : lo < 1000) : lo ≤ v ∧ v ≤ hi ∧ x - 48 = nI v := by
  unfold figO at h
  split at h
  · rename_i hc
    have e := Option.some.inj h
    rcases b_ix (x - 48) (hi + 1) (by omega) with ⟨j, hj, ej⟩ | ⟨z | z, -⟩
    · rw [ej, b_cl (by omega)] at e
      subst e
      refine ⟨?_, by omega, ej⟩
      have := hc.1
      rw [ej, nI_leI (by omega) (by omega)] at this
      exact this
    · exact absurd (Int32.le_trans (b_np lo (by omega)) hc.1) (Int32.not_le.mpr z)
    · have z2 := Int32.le_trans z hc.2
      rw [nI_leI (by omega) (by omega)] at z2
      omega
  · cases h
theorem figO_end (lo hi : Nat) (hl : lo < 1000) : figO (-1) lo hi = none ∧ figO (-1000) lo hi = none := by
  unfold figO
  refine ⟨if_neg (fun z => ?_), if_neg (fun z => ?_)⟩
  · exact absurd (Int32.le_trans (b_np lo (by omega)) z.1) (by decide)
  · exact absurd (Int32.le_trans (b_np lo (by omega)) z.1) (by decide)
def sgM (f : Nat → Int32) (s i : Nat) : Int32 := if i < s then f i else -1000
theorem sgM_fig (f : Nat → Int32) (s i lo hi : Nat) (hl : lo < 1000) : figO (sgM f s i) lo hi = figO (sg f s i) lo hi := by
  unfold sgM sg
  split
  · rfl
  · rw [(figO_end lo hi hl).1, (figO_end lo hi hl).2]
theorem sgM_kd (f : Nat → Int32) (s i : Nat) : kdO (sgM f s i) = kdO (sg f s i) := by
  unfold sgM sg
  split
  · rfl
  · decide
theorem sgM_eq (f : Nat → Int32) (s i : Nat) (v : Int32) (h1 : v ≠ -1) (h2 : v ≠ -1000) : sgM f s i = v ↔ sg f s i = v := by
  unfold sgM sg
  split
  · exact Iff.rfl
  · exact ⟨fun z => absurd z.symm h2, fun z => absurd z.symm h1⟩
theorem sg_fig {f : Nat → Int32} {s a lo hi v : Nat} (hl : lo < 1000) (h : figO (sg f s a) lo hi = some v) : a < s := by
  rcases Nat.lt_or_ge a s with z | z
  · exact z
  · unfold sg at h
    rw [if_neg (by omega), (figO_end lo hi hl).1] at h
    cases h
theorem kdO_lt {x : Int32} {k : Nat} (h : kdO x = some k) : k ≤ 5 := by
  unfold kdO at h
  repeat' split at h
  all_goals first | (cases h; decide) | cases h
theorem cupA_le (f : Nat → Int32) (s a : Nat) : (cupA f s a).1 ≤ 5 := by
  unfold cupA
  repeat' split
  all_goals first | decide | exact Nat.le_refl 5
theorem cupA_5 (f : Nat → Int32) (s a : Nat) (h : (cupA f s a).1 = 5) : a + 5 ≤ s ∧ (cupA f s a).2.1 ≤ 5 ∧ 1 ≤ (cupA f s a).2.2.1 ∧ (cupA f s a).2.2.1 ≤ 9 ∧ (cupA f s a).2.2.2.1 ≤ 3 ∧ (cupA f s a).2.2.2.2.1 ≤ 9 ∧ (cupA f s a).2.2.2.2.2 ≤ 9 := by
  unfold cupA at h ⊢
  cases h0 : kdO (sg f s a) with
  | none => rw [h0] at h; cases h
  | some k =>
    rw [h0] at h
    dsimp only at h ⊢
    cases h1 : figO (sg f s (a + 1)) 1 9 with
    | none => rw [h1] at h; cases h
    | some x =>
      rw [h1] at h
      dsimp only at h ⊢
      cases h2 : figO (sg f s (a + 2)) 0 3 with
      | none => rw [h2] at h; cases h
      | some y =>
        rw [h2] at h
        dsimp only at h ⊢
        cases h3 : figO (sg f s (a + 3)) 0 9 with
        | none => rw [h3] at h; cases h
        | some u =>
          rw [h3] at h
          dsimp only at h ⊢
          cases h4 : figO (sg f s (a + 4)) 0 9 with
          | none => rw [h4] at h; cases h
          | some w =>
            dsimp only
            have g := sg_fig (by decide) h4
            exact ⟨by omega, kdO_lt h0, (figO_some (by decide) h1 (by decide)).1, (figO_some (by decide) h1 (by decide)).2.1, (figO_some (by decide) h2 (by decide)).2.1, (figO_some (by decide) h3 (by decide)).2.1, (figO_some (by decide) h4 (by decide)).2.1⟩
theorem skp_le (f : Nat → Int32) (s z : Nat) : ∀ a, a ≤ skp f s z a ∧ skp f s z a ≤ a + z := by
  induction z with
  | zero => intro a; exact ⟨Nat.le_refl a, Nat.le_refl a⟩
  | succ z ih =>
    intro a
    unfold skp
    split
    · have := ih (a + 1); omega
    · omega
theorem sk_le (f : Nat → Int32) (s a : Nat) (h : a ≤ s) : a ≤ sk f s a ∧ sk f s a ≤ s := by
  have := skp_le f s (s - a) a
  unfold sk
  omega
theorem sk_end (f : Nat → Int32) (s a : Nat) (h : s ≤ a) : sk f s a = a := by
  unfold sk
  rw [show s - a = 0 by omega]
  rfl
theorem rdC_w (f : Nat → Int32) (s : Nat) (hs : s ≤ 60) : ∀ (z i a : Nat) (B : tB), wB B → bN B = i → i + z = 6 → wB (rdC f s z i a B).2 := by
  intro z
  induction z with
  | zero => intro i a B h _ _; exact h
  | succ z ih =>
    intro i a B h hi hz
    unfold rdC
    split
    · exact h
    · split
      · exact h
      · rename_i h5
        have h6 := cupA_le f s (sk f s a)
        obtain ⟨g0, g1, g2, g3, g4, g5, g6⟩ := cupA_5 f s (sk f s a) (by omega)
        refine ih (i + 1) _ _ ⟨by show i + 1 ≤ 6; omega, h.2.1, fun j hj => ?_⟩ rfl (by omega)
        have hj : j < i + 1 := hj
        show upN (bK B) i _ j ≤ 5 ∧ 1 ≤ upN (bS B) i _ j ∧ upN (bS B) i _ j ≤ 9 ∧ upN (bM B) i _ j ≤ 3 ∧ upN (bA B) i _ j ≤ 9 ∧ upN (bW B) i _ j ≤ 9
        unfold upN
        by_cases e : j = i
        · simp only [e, if_true]
          exact ⟨g1, g2, g3, g4, g5, g6⟩
        · simp only [e, if_false]
          exact h.2.2 j (by omega)
theorem prs_w (f : Nat → Int32) (s : Nat) (hs : s ≤ 60) : wB (prs f s).2 := by
  have h0 : ∀ e, e ≤ 9 → wB (bZ e) := fun e he => ⟨Nat.zero_le _, he, fun i hi => absurd hi (Nat.not_lt_zero i)⟩
  unfold prs
  split
  · cases h : figO (sg f s (sk f s 0 + 1)) 0 9 with
    | none => exact h0 0 (by decide)
    | some e => exact rdC_w f s hs 6 0 _ _ (h0 e (figO_some (by decide) h (by decide)).2.1) rfl (by decide)
  · exact h0 0 (by decide)
/-- a text on either side; the draft; what the model has read -/
def TC (t : Nat) (f : Nat → Int32) (s : Nat) (mu : fMu) : Prop := mu 5 t 0 = nI s ∧ ∀ j : Nat, j < s → mu 24 t j = f j
def TM (t : Nat) (f : Nat → Int32) (s : Nat) (mu : fMu) : Prop := mu 31 0 t = nI s ∧ ∀ j : Nat, j < s → mu 32 0 (60 * t + j) = f j
def nX (k i _ : Nat) : Bool := !((k == 1 || k == 10 || k == 11 || k == 12 || k == 13 || k == 14) && i == 1)
def nM (k _ j : Nat) : Bool := !((k == 7 && (j == 22 || j == 23 || j == 24 || j == 26)) || k == 44)
def DR (B : tB) (mu : fMu) : Prop := mu 1 1 0 = nI (bN B) ∧ mu 1 1 1 = nI (bE B) ∧ ∀ i : Nat, i < bN B → mu 10 1 i = nI (bK B i) ∧ mu 11 1 i = nI (bS B i) ∧ mu 12 1 i = nI (bM B i) ∧ mu 13 1 i = nI (bA B i) ∧ mu 14 1 i = nI (bW B i)
def RM (B : tB) (mu : fMu) : Prop := mu 7 0 24 = nI (bN B) ∧ mu 7 0 23 = nI (bE B) ∧ ∀ i : Nat, i < bN B → mu 44 0 (5 * i) = nI (bK B i) ∧ mu 44 0 (5 * i + 1) = nI (bS B i) ∧ mu 44 0 (5 * i + 2) = nI (bM B i) ∧ mu 44 0 (5 * i + 3) = nI (bA B i) ∧ mu 44 0 (5 * i + 4) = nI (bW B i)
section READ
variable {E : mEv} {d t : Nat} {mu : fMu} {la : fLa} {Q : Int32 → fMu → fLa → Prop} {f : Nat → Int32} {s : Nat}
theorem fO_c {A C : Prop} (r : Option Nat) (hr : ∀ v, r = some v → v < 1000) (h1 : ∀ v, r = some v → A) (h0 : r = none → C) : (0 ≤ fO r → A) ∧ (¬ (0 ≤ fO r) → C) := by
  cases r with
  | none => exact noo (by decide) (h0 rfl)
  | some v => exact yes (b_np v (by have := hr v rfl; omega)) (h1 v rfl)
theorem TC.fr {mu' : fMu} (h : TC t f s mu) (g : Fr nX mu mu') : TC t f s mu' := ⟨(g 5 t 0 rfl).trans h.1, fun j hj => (g 24 t j rfl).trans (h.2 j hj)⟩
theorem TM.fr {mu' : fMu} (h : TM t f s mu) (g : Fr nM mu mu') : TM t f s mu' := ⟨(g 31 0 t rfl).trans h.1, fun j hj => (g 32 0 _ rfl).trans (h.2 j hj)⟩
theorem s_signAt (a : Nat) (ha : a < 1000) (hs : s ≤ 60) (h : TC t f s mu) (q : Q (sg f s a) mu la) : FnI E (d + 1) mi_45 [.inr (.inr (some (5, t))), .inl (nI a)] mu la Q := by
  refine vc_X5_signAt _ (s_hasByte (nI a) s (by omega) h.1 (fun j hj e => noo b_x10 ⟨b_in e (by omega) (by decide), ?_⟩) (fun hno => yes rfl ?_))
  · have : a = j := (nI_eq (by omega) (by omega)).mp e
    subst this
    unfold sg at q
    rw [if_pos hj] at q
    rw [b_cl (by omega), h.2 a hj]
    exact q
  · have : ¬ a < s := fun z => hno a z rfl
    unfold sg at q
    rw [if_neg this] at q
    exact q
theorem s_figureAt (a lo hi : Nat) (ha : a < 1000) (hs : s ≤ 60) (hl : lo < 1000) (hh : hi < 1000) (h : TC t f s mu) (q : Q (fO (figO (sg f s a) lo hi)) mu la) : FnI E (d + 2) mi_46 [.inr (.inr (some (5, t))), .inl (nI a), .inl (nI lo), .inl (nI hi)] mu la Q := by
  refine vc_X5_figureAt _ _ _ (s_signAt a ha hs h ?_)
  cases hc : figO (sg f s a) lo hi with
  | none =>
    rw [hc] at q
    refine ⟨fun _ => q, fun h1 => ⟨fun h2 => ?_, fun _ => q⟩⟩
    unfold figO at hc
    rw [if_pos ⟨Int32.not_lt.mp h1, h2⟩] at hc
    cases hc
  | some v =>
    obtain ⟨g1, g2, g3⟩ := figO_some hh hc hl
    rw [hc] at q
    rw [g3]
    exact noo (nI_nlt g1 (by omega)) (yes (nI_le g2 (by omega)) q)
theorem s_kindAt (a : Nat) (ha : a < 1000) (hs : s ≤ 60) (h : TC t f s mu) (q : Q (fO (kdO (sg f s a))) mu la) : FnI E (d + 2) mi_47 [.inr (.inr (some (5, t))), .inl (nI a)] mu la Q := by
  refine vc_X5_kindAt _ (s_signAt a ha hs h ?_)
  generalize hx : sg f s a = x
  rw [hx] at q
  unfold kdO at q
  have go : ∀ (k : Nat), k < 6 → (lett k = x → Q (nI k) mu la) → (lett k ≠ x → Ev E (d + 1 + 1) mi_47 6 [none, none, some (.inl x), some (.inl (nI (k + 1)))] [] (mem E mu la) (qI E Q)) → Ev E (d + 1 + 1) mi_47 6 [none, none, some (.inl x), some (.inl (nI k))] [] (mem E mu la) (qI E Q) := by
    intro k hk h1 h2
    refine vc_X5_kindAt_6 _ _ (noo (nI_nlt (a := 5) (b := k) (by omega) (by decide)) ⟨b_in rfl hk (by decide), ?_⟩)
    rw [b_cl (by omega), ← nI_succ]
    exact ⟨h2, fun z => h1 (by simpa using z)⟩
  refine go 0 (by decide) (fun e => ?_) (fun e => ?_)
  · rw [if_pos (show x = 99 from e.symm)] at q; exact q
  rw [if_neg (show ¬ x = 99 from fun z => e z.symm)] at q
  refine go 1 (by decide) (fun e => ?_) (fun e => ?_)
  · rw [if_pos (show x = 106 from e.symm)] at q; exact q
  rw [if_neg (show ¬ x = 106 from fun z => e z.symm)] at q
  refine go 2 (by decide) (fun e => ?_) (fun e => ?_)
  · rw [if_pos (show x = 116 from e.symm)] at q; exact q
  rw [if_neg (show ¬ x = 116 from fun z => e z.symm)] at q
  refine go 3 (by decide) (fun e => ?_) (fun e => ?_)
  · rw [if_pos (show x = 103 from e.symm)] at q; exact q
  rw [if_neg (show ¬ x = 103 from fun z => e z.symm)] at q
  refine go 4 (by decide) (fun e => ?_) (fun e => ?_)
  · rw [if_pos (show x = 102 from e.symm)] at q; exact q
  rw [if_neg (show ¬ x = 102 from fun z => e z.symm)] at q
  refine go 5 (by decide) (fun e => ?_) (fun e => ?_)
  · rw [if_pos (show x = 100 from e.symm)] at q; exact q
  rw [if_neg (show ¬ x = 100 from fun z => e z.symm)] at q
  exact vc_X5_kindAt_6 _ _ (yes (by decide) q)
theorem s_afterBlanks (a : Nat) (hs : s ≤ 60) (ha : a ≤ s) (h : TC t f s mu) (q : Q (nI (sk f s a)) mu la) : FnI E (d + 2) mi_110 [.inr (.inr (some (5, t))), .inl (nI a)] mu la Q := by
  have key : ∀ z a : Nat, a + z = s → Q (nI (skp f s z a)) mu la → Ev E (d + 2) mi_110 0 [some (.inr (.inr (some (5, t)))), some (.inl (nI a))] [] (mem E mu la) (qI E Q) := by
    intro z
    induction z with
    | zero =>
      intro a hz q
      refine vc_X6_afterBlanks_0 t _ ?_
      rw [h.1]
      exact yes (nI_le (by omega) (by omega)) q
    | succ z ih =>
      intro a hz q
      refine vc_X6_afterBlanks_0 t _ ?_
      rw [h.1]
      have has : a < s := by omega
      refine noo (nI_ge has (by omega)) (s_signAt a (by omega) hs h ?_)
      unfold skp at q
      unfold sg
      rw [if_pos has]
      by_cases e : f a = 32
      · rw [if_pos ⟨has, e⟩] at q
        rw [← nI_succ]
        exact noo (fun z => z e) (ih (a + 1) (by omega) q)
      · rw [if_neg (fun z => e z.2)] at q
        exact yes e q
  exact vc_X6_afterBlanks t _ (key (s - a) a (by omega) q)
def stC (mu : fMu) (i : Nat) (v : Nat × Nat × Nat × Nat × Nat) : fMu := up3 (up3 (up3 (up3 (up3 mu 10 1 i (nI v.1)) 11 1 i (nI v.2.1)) 12 1 i (nI v.2.2.1)) 13 1 i (nI v.2.2.2.1)) 14 1 i (nI v.2.2.2.2)
theorem s_readCup (a i : Nat) (ha : a ≤ s) (hs : s ≤ 60) (hi : i < 6) (h : TC t f s mu) (hb : (cupA f s a).1 < 5 → Q (nI (cupA f s a).1) mu la) (ho : (cupA f s a).1 = 5 → Q 5 (stC mu i (cupA f s a).2) la) : FnI E (d + 3) mi_111 [.inr (.inr (some (5, t))), .inl (nI a), .inr (.inr (some (1, 1))), .inl (nI i)] mu la Q := by
  refine vc_X6_readCup t _ 1 _ ?_
  rw [nI_1, show nI a + 2 = nI (a + 2) from nI_add a 2, show nI a + 3 = nI (a + 3) from nI_add a 3, show nI a + 4 = nI (a + 4) from nI_add a 4, b_cl (by omega)]
  have hin : vp_in (nI i) 6 := b_in rfl hi (by decide)
  unfold cupA at hb ho
  refine s_kindAt a (by omega) hs h (fO_c _ (fun v e => by have := kdO_lt e; omega) (fun k ek => ?_) (fun ek => ?_))
  · rw [ek] at hb ho ⊢
    dsimp only at hb ho
    refine s_figureAt (a + 1) 1 9 (by omega) hs (by decide) (by decide) h (fO_c _ (fun v e => by have := figO_some (by decide) e (by decide); omega) (fun x ex => ?_) (fun ex => ?_))
    · rw [ex] at hb ho ⊢
      dsimp only at hb ho
      refine s_figureAt (a + 2) 0 3 (by omega) hs (by decide) (by decide) h (fO_c _ (fun v e => by have := figO_some (by decide) e (by decide); omega) (fun y ey => ?_) (fun ey => ?_))
      · rw [ey] at hb ho ⊢
        dsimp only at hb ho
        refine s_figureAt (a + 3) 0 9 (by omega) hs (by decide) (by decide) h (fO_c _ (fun v e => by have := figO_some (by decide) e (by decide); omega) (fun u eu => ?_) (fun eu => ?_))
        · rw [eu] at hb ho ⊢
          dsimp only at hb ho
          refine s_figureAt (a + 4) 0 9 (by omega) hs (by decide) (by decide) h (fO_c _ (fun v e => by have := figO_some (by decide) e (by decide); omega) (fun w ew => ?_) (fun ew => ?_))
          · rw [ew] at hb ho ⊢
            refine ⟨hin, ?_⟩
            rintro mu1 rfl
            refine ⟨hin, ?_⟩
            rintro mu1 rfl
            refine ⟨hin, ?_⟩
            rintro mu1 rfl
            refine ⟨hin, ?_⟩
            rintro mu1 rfl
            refine ⟨hin, ?_⟩
            rintro mu1 rfl
            exact ho rfl
          · rw [ew] at hb; exact hb (show (4 : Nat) < 5 by decide)
        · rw [eu] at hb; exact hb (show (3 : Nat) < 5 by decide)
      · rw [ey] at hb; exact hb (show (2 : Nat) < 5 by decide)
    · rw [ex] at hb; exact hb (show (1 : Nat) < 5 by decide)
  · rw [ek] at hb; exact hb (show (0 : Nat) < 5 by decide)
theorem x_readLoop (mu0 : fMu) (hs : s ≤ 60) (h0 : TC t f s mu0) : ∀ (z i a : Nat) (B : tB) (mu : fMu), i + z = 6 → a ≤ s → bN B = i → Fr nX mu0 mu → DR B mu → (∀ mu' : fMu, Fr nX mu0 mu' → (rdC f s z i a B).1 = none → DR (rdC f s z i a B).2 mu' → Q (-9) mu' la) → (∀ (mu' : fMu) (x : Nat), Fr nX mu0 mu' → x < 1000 → (rdC f s z i a B).1 = some x → Q (nI x) mu' la) → Ev E (d + 4) mi_109 30 [some (.inr (.inr (some (5, t)))), some (.inr (.inr (some (1, 1)))), some (.inl (nI a)), some (.inl (nI i)), none] [] (mem E mu la) (qI E Q) := by
  intro z
  induction z with
  | zero =>
    intro i a B mu hz ha hB hF hD q1 q2
    have h := h0.fr hF
    have hk := sk_le f s a ha
    unfold rdC at q1 q2
    refine vc_X6_readBar_30 t 1 _ _ (yes (nI_le (a := 6) (by omega) (by omega)) (s_afterBlanks a hs ha h ?_))
    rw [h.1]
    refine pk_le s (sk f s a) (fun hl => ?_) (fun hl => ?_)
    · exact q1 mu hF (if_neg (by omega)) hD
    · exact q2 mu (sk f s a) hF (by omega) (if_pos hl)
  | succ z ih =>
    intro i a B mu hz ha hB hF hD q1 q2
    have h := h0.fr hF
    have hk := sk_le f s a ha
    refine vc_X6_readBar_30 t 1 _ _ (noo (nI_ge (b := 6) (by omega) (by decide)) (s_afterBlanks a hs ha h ?_))
    unfold rdC at q1 q2
    have hcup : ¬ (0 < i ∧ s ≤ sk f s a) → FnI E (d + 3) mi_111 [.inr (.inr (some (5, t))), .inl (nI (sk f s a)), .inr (.inr (some (1, 1))), .inl (nI i)] mu la (fun x18 mu19 la20 => ((5 : Int32) ≤ x18 → (∀ mu21 : fMu, mu21 = up3 mu19 1 1 0 (nI i + (1 : Int32)) → (Ev E (d + 4) mi_109 30 [some (.inr (.inr (some (5, t)))), some (.inr (.inr (some (1, 1)))), some (.inl (nI (sk f s a) + x18)), some (.inl (nI i + (1 : Int32))), none] [] (mem E mu21 la20) (qI E Q)))) ∧ (¬ ((5 : Int32) ≤ x18) → (Q (nI (sk f s a) + x18) mu19 la20))) := by
      intro hc
      rw [if_neg hc] at q1 q2
      refine s_readCup (sk f s a) i (by omega) hs (by omega) h (fun h5 => ?_) (fun h5 => ?_)
      · rw [if_pos h5] at q1 q2
        refine noo (nI_ge (b := 5) h5 (by decide)) ?_
        rw [nI_add]
        exact q2 mu _ hF (by omega) rfl
      · rw [if_neg (by omega)] at q1 q2
        refine yes (by decide) ?_
        rintro mu1 rfl
        rw [show nI (sk f s a) + 5 = nI (sk f s a + 5) from nI_add _ 5, nI_1]
        obtain ⟨g0, -⟩ := cupA_5 f s (sk f s a) h5
        refine ih (i + 1) (sk f s a + 5) (setC B i (cupA f s (sk f s a)).2) _ (by omega) (by omega) rfl ?_ ?_ q1 q2
        · exact (((((hF.u3 rfl).u3 rfl).u3 rfl).u3 rfl).u3 rfl).u3 rfl
        · obtain ⟨d1, d2, d3⟩ := hD
          refine ⟨?_, ?_, fun j hj => ?_⟩
          · rw [up3_self]; rfl
          · show up3 (stC mu i _) 1 1 0 _ 1 1 1 = nI (bE B)
            rw [← d2]
            unfold stC up3
            simp
          · have hj : j < i + 1 := hj
            show up3 (stC mu i _) 1 1 0 _ 10 1 j = nI (upN (bK B) i _ j) ∧ up3 (stC mu i _) 1 1 0 _ 11 1 j = nI (upN (bS B) i _ j) ∧ up3 (stC mu i _) 1 1 0 _ 12 1 j = nI (upN (bM B) i _ j) ∧ up3 (stC mu i _) 1 1 0 _ 13 1 j = nI (upN (bA B) i _ j) ∧ up3 (stC mu i _) 1 1 0 _ 14 1 j = nI (upN (bW B) i _ j)
            unfold stC up3 upN
            by_cases e : j = i
            · simp [e]
            · simpa [e] using d3 j (by omega)
    refine ⟨fun hi0 => hcup (fun z => ?_), fun hi0 => ⟨fun hl => hcup (fun z => ?_), fun hl => ?_⟩⟩
    · rw [show (0 : Int32) = nI 0 from rfl, nI_leI (by omega) (by omega)] at hi0
      omega
    · rw [h.1, nI_ltI (by omega) (by omega)] at hl
      omega
    · rw [show (0 : Int32) = nI 0 from rfl, nI_leI (by omega) (by omega)] at hi0
      rw [h.1, nI_ltI (by omega) (by omega)] at hl
      rw [if_pos ⟨by omega, by omega⟩] at q1 q2
      refine s_afterBlanks (sk f s a) hs (by omega) h ?_
      rw [h.1, sk_end f s (sk f s a) (by omega)]
      exact yes (nI_le (by omega) (by omega)) (q1 mu hF rfl hD)
theorem x_readBar (hs : s ≤ 60) (h : TC t f s mu) (q1 : ∀ mu' : fMu, Fr nX mu mu' → (prs f s).1 = none → DR (prs f s).2 mu' → Q (-9) mu' la) (q2 : ∀ (mu' : fMu) (x : Nat), Fr nX mu mu' → x < 1000 → (prs f s).1 = some x → Q (nI x) mu' la) : FnI E (d + 4) mi_109 [.inr (.inr (some (5, t))), .inr (.inr (some (1, 1)))] mu la Q := by
  refine vc_X6_readBar t 1 ?_
  rintro mu1 rfl
  have hF : Fr nX mu (up3 mu 1 1 0 0) := Fr.rf.u3 rfl
  have h1 := h.fr hF
  have hk := sk_le f s 0 (Nat.zero_le _)
  refine s_afterBlanks 0 hs (Nat.zero_le _) h1 (s_signAt _ (by omega) hs h1 ?_)
  rw [nI_1, nI_1]
  unfold prs at q1 q2
  by_cases e : sg f s (sk f s 0) = 101
  · rw [if_pos e] at q1 q2
    refine yes e (s_figureAt (sk f s 0 + 1) 0 9 (by omega) hs (by decide) (by decide) h1 ?_)
    rintro mu1 rfl
    have hF2 : Fr nX mu (up3 (up3 mu 1 1 0 0) 1 1 1 (fO (figO (sg f s (sk f s 0 + 1)) 0 9))) := hF.u3 rfl
    rw [up3_self]
    refine fO_c _ (fun v e => by have := figO_some (by decide) e (by decide); omega) (fun v ev => ?_) (fun ev => ?_)
    · rw [ev] at q1 q2 hF2 ⊢
      have hv := sg_fig (by decide) ev
      refine x_readLoop mu hs h 6 0 _ (bZ v) _ rfl (by omega) rfl hF2 ⟨?_, ?_, fun i hi => absurd hi (Nat.not_lt_zero i)⟩ q1 q2
      · show up3 (up3 mu 1 1 0 0) 1 1 1 _ 1 1 0 = nI 0
        unfold up3; simp; rfl
      · rw [up3_self]; rfl
    · rw [ev] at q2
      exact q2 _ _ hF2 (by omega) rfl
  · rw [if_neg e] at q2
    exact noo e (q2 _ _ hF (by omega) rfl)
end READ
