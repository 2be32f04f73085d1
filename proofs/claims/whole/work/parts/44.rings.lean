/-! who holds whose -/
def hO (n : Nat) (T : tT) (p : Nat) : Option Nat := heldT n T (nI p)
theorem b_pop1 : ∀ h : Nat, h < 64 → ∀ y : Nat, y < 6 → h.testBit y = false → pop (h ||| 2 ^ y) = pop h + 1 ∧ h ||| 2 ^ y < 64 := by decide +kernel
theorem b_bit1 : ∀ h : Nat, h < 64 → ∀ y : Nat, y < 6 → ∀ x : Nat, x < 6 → (h ||| 2 ^ y).testBit x = (h.testBit x || decide (x = y)) := by decide +kernel
def Chn (n : Nat) (T : tT) (st mask x : Nat) : Prop := mask < 64 ∧ x < 6 ∧ mask.testBit x = true ∧ ∀ y : Nat, y < 6 → mask.testBit y = true → y ≠ st → ∃ w : Nat, w < 6 ∧ mask.testBit w = true ∧ w ≠ x ∧ hO n T w = some y
section RING
variable {E : mEv} {d : Nat} {mu : fMu} {la : fLa} {Q : Int32 → fMu → fLa → Prop} {B : tB} {D : Nat → Nat × Nat × Nat} {m : Nat} {T : tT}
theorem hO_lt (h : WT B T) {p i : Nat} (hp : p < 6) (e : hO (bN B) T p = some i) : i < bN B ∧ p < bN B ∧ tH T i = nI p := by
  obtain ⟨h1, h2⟩ := (h.held hp).mp e
  obtain ⟨g1, g2, -⟩ := h.p h1 hp h2
  exact ⟨g1, g2, h2⟩
theorem chn_step (h : WT B T) {st mask x y : Nat} (hc : Chn (bN B) T st mask x) (e : hO (bN B) T x = some y) (hy : y ≠ st) : mask.testBit y = false ∧ Chn (bN B) T st (mask ||| 2 ^ y) y := by
  have hn := h.1
  obtain ⟨c1, c2, c3, c4⟩ := hc
  obtain ⟨y1, y2, y3⟩ := hO_lt h c2 e
  have y6 : y < 6 := by omega
  have hno : mask.testBit y = false := by
    cases hb : mask.testBit y
    · rfl
    · obtain ⟨w, w1, w2, w3, w4⟩ := c4 y y6 hb hy
      have e2 := (hO_lt h w1 w4).2.2
      exact absurd ((nI_eq (by omega) (by omega)).mp (e2.symm.trans y3)) w3
  refine ⟨hno, (b_pop1 mask c1 y y6 hno).2, y6, ?_, fun z hz hb hzs => ?_⟩
  · rw [b_bit1 mask c1 y y6 y y6]; simp
  · rw [b_bit1 mask c1 y y6 z hz] at hb
    by_cases hzy : z = y
    · subst hzy
      refine ⟨x, c2, ?_, fun q => ?_, e⟩
      · rw [b_bit1 mask c1 z y6 x c2, c3]; rfl
      · rw [q, hno] at c3; cases c3
    · simp only [hzy, decide_false, Bool.or_false] at hb
      obtain ⟨w, w1, w2, w3, w4⟩ := c4 z hz hb hzs
      refine ⟨w, w1, ?_, fun q => ?_, w4⟩
      · rw [b_bit1 mask c1 y y6 w w1, w2]; rfl
      · rw [q, hno] at w2; cases w2
theorem chn_0 {n x : Nat} (hx : x < 6) : Chn n T x (2 ^ x) x ∧ pop (2 ^ x) = 1 := by
  have : ∀ x : Nat, x < 6 → 2 ^ x < 64 ∧ (2 ^ x).testBit x = true ∧ pop (2 ^ x) = 1 ∧ ∀ y : Nat, y < 6 → (2 ^ x).testBit y = true → y = x := by decide +kernel
  obtain ⟨a1, a2, a3, a4⟩ := this x hx
  exact ⟨⟨a1, hx, a2, fun y hy hb hne => absurd (a4 y hy hb) hne⟩, a3⟩
/-! runs -/
def rnR (n : Nat) (T : tT) (h : Nat) : Nat → Nat → Nat → Nat × Nat
  | 0, x, k => (k, x)
  | z + 1, x, k => match hO n T x with
    | none => (k, x)
    | some y => if y = h then (k, x) else rnR n T h z y (k + 1)
theorem x_runs (hd : IBd B D m mu) (h : Nat) (hh : h < 6) : ∀ (z x k : Nat), k + z = 6 → x < 6 → Q (nI (rnR (bN B) (rp B D m) h z x k).1) (up3 mu 6 0 11 (nI (rnR (bN B) (rp B D m) h z x k).2)) la → Ev E (d + 1) mi_77 28 [some (.inr (.inr (some (6, 0)))), none, some (.inl (nI h)), some (.inl (nI k)), some (.inl (oI (hO (bN B) (rp B D m) x)))] [] (mem E (up3 mu 6 0 11 (nI x)) la) (qI E Q) := by
  have hn := hd.1.1
  have hwt := hd.wt
  intro z
  induction z with
  | zero =>
    intro x k hk hx q
    exact vc_X6_runs_28 0 _ _ _ (yes (nI_le (a := 6) (by omega) (by omega)) q)
  | succ z ih =>
    intro x k hk hx q
    have hX : CB B (up3 mu 6 0 11 (nI x)) := hd.2.2.1.fr (Fr.rf.u3 rfl)
    have hC : CC B 0 (rp B D m) (up3 mu 6 0 11 (nI x)) := hd.2.2.2.1.fr (Fr.rf.u3 rfl)
    unfold rnR at q
    refine vc_X6_runs_28 0 _ _ _ (noo (nI_ge (b := 6) (by omega) (by decide)) (s_cHasO (n := bN B) _ (fun p e => (hO_lt hwt hx e).1) (by omega) hX.1 ?_))
    cases hy : hO (bN B) (rp B D m) x with
    | none =>
      rw [hy] at q
      exact yes rfl q
    | some y =>
      rw [hy] at q
      dsimp only at q
      have hy1 := (hO_lt hwt hx hy).1
      refine noo b_x10 (pk_eq y h (fun e => ?_) (fun e => ?_))
      · rw [if_pos e] at q
        exact q
      · rw [if_neg e] at q
        rintro mu1 rfl
        refine ⟨b_in rfl (by omega) (by decide), ?_⟩
        have hC2 : CC B 0 (rp B D m) (up3 (up3 mu 6 0 11 (nI x)) 6 0 11 (nI y)) := hC.fr (Fr.rf.u3 rfl)
        rw [show oI (some y) = nI y from rfl, b_cl (by omega), hC2.2.2.2.2.2 y (by omega), up3_up3, ← nI_succ]
        exact ih y (k + 1) (by omega) (by omega) q
theorem m_runs (hd : IBd B D m mu) (i h : Nat) (hi : i < 6) (hh : h < 6) (eh : tH (rp B D m) i = nI h) : ∀ (z x k mask : Nat), k + z = 6 → Chn (bN B) (rp B D m) i mask x → mask.testBit h = false → pop mask = k → Q (nI (rnR (bN B) (rp B D m) h z x k).1) (up3 mu 7 0 17 (nI (rnR (bN B) (rp B D m) h z x k).2)) la → Ev E (d + 1) mi_198 31 [some (.inr (.inr (some (7, 0)))), none, some (.inl (nI h)), some (.inl (nI k)), some (.inl (nI x))] [] (mem E mu la) (qI E Q) := by
  have hn := hd.1.1
  have hwt := hd.wt
  have hM := hd.2.2.2.2.2.1
  have hT := hd.2.2.2.2.2.2.1
  intro z
  induction z with
  | zero =>
    intro x k mask hk hc hmh hpm q
    have h2 := b_pop1 mask hc.1 h hh hmh
    have := pop_le _ h2.2
    omega
  | succ z ih =>
    intro x k mask hk hc hmh hpm q
    have hx := hc.2.1
    unfold rnR at q
    refine vc_X7_runs_31 0 _ _ _ (s_heldBy hk38 (by decide) _ hn hM.1 (fun i h => hT.w h) ?_)
    have ho : heldT (bN B) (rp B D m) (nI x) = hO (bN B) (rp B D m) x := rfl
    rw [ho]
    cases hy : hO (bN B) (rp B D m) x with
    | none =>
      rw [hy] at q
      exact yes rfl (s_answer _ _ q)
    | some y =>
      rw [hy] at q
      dsimp only at q
      have hy1 := (hO_lt hwt hx hy).1
      refine noo (b_p9 y (by omega)).1 (s_heldBy hk38 (by decide) _ hn hM.1 (fun i h => hT.w h) ?_)
      rw [ho, hy]
      refine pk_eq y h (fun e => ?_) (fun e => s_heldBy hk38 (by decide) _ hn hM.1 (fun i h => hT.w h) ?_)
      · rw [if_pos e] at q
        exact s_answer _ _ q
      · rw [if_neg e] at q
        rw [ho, hy, ← nI_succ]
        have hyi : y ≠ i := by
          intro z
          subst z
          have e2 := (hO_lt hwt hx hy).2.2
          have : x = h := (nI_eq (by omega) (by omega)).mp (e2.symm.trans eh)
          have h3 := hc.2.2.1
          rw [this, hmh] at h3
          cases h3
        obtain ⟨s1, s2⟩ := chn_step hwt hc hy hyi
        refine ih y (k + 1) (mask ||| 2 ^ y) (by omega) s2 ?_ ?_ q
        · rw [b_bit1 mask hc.1 y (by omega) h hh, hmh]
          simpa using fun z => e z.symm
        · rw [(b_pop1 mask hc.1 y (by omega) s1).1, hpm]
theorem p_runs (h : Inv IB mu la) (a : Int32) : Pair IB E (d + 2) mi_77 mi_198 [.inl a] mu la := by
  have hi := h
  obtain ⟨-, -, -, B, D, m, hd⟩ := h
  have hn := hd.1.1
  have hwt := hd.wt
  have hX := hd.2.2.1
  have hC := hd.2.2.2.1
  have hM := hd.2.2.2.2.2.1
  refine vc_X6_runs a (s_cHas a (by omega) hX.1 (fun i hj e => yes b_x10 ⟨b_in e (by omega) (by decide), ?_⟩) (fun hno => noo (fun z => z rfl) ?_))
  · subst e
    rintro mu1 rfl
    rw [b_cl (by omega), hC.2.2.2.2.1 i (by omega)]
    have hX1 : CB B (up3 mu 6 0 11 (-9)) := hX.fr (Fr.rf.u3 rfl)
    have hd1 : ∀ v, IBd B D m (up3 mu 6 0 11 v) := fun v => hd.fr (Fr.rf.u3 rfl)
    have none0 : (∀ p : Nat, p < bN B → tH (rp B D m) i = nI p → p = i) → FnI E (d + 2) mi_198 [.inr (.inr (some (7, 0))), .inl (nI i)] (up3 mu 6 0 11 (-9)) la (fun r2 mu2 la2 => (0 : Int32) = r2 ∧ Inv IB mu2 la2) := by
      intro hn0
      have hd' := hd1 (-9)
      refine vc_X7_runs _ (s_isCup hn _ hd'.2.2.2.2.2.1.1 (fun _ _ _ => yes b_x10 ?_) (fun hno => absurd rfl (hno i hj)))
      rw [Int32.zero_add]
      refine ⟨b_in rfl (by omega) (by decide), ?_⟩
      rw [b_cl (by omega), hd'.2.2.2.2.2.2.1.w (i := i) (by omega)]
      refine s_inS _ 0 5 (by decide) (by decide) (fun p _ h5 ep => noo b_x10 ?_) (fun _ => yes rfl (s_answer _ _ ⟨rfl, hi.tell ibf _⟩))
      have hp := (hwt.p (by omega) (by omega) ep).2.1
      have := hn0 p hp ep
      rw [ep, this]
      exact noo (fun z => z rfl) (s_answer _ _ ⟨rfl, hi.tell ibf _⟩)
    refine s_cHas _ (by omega) hX1.1 (fun p hp ep => noo b_x10 ?_) (fun hno => yes rfl (none0 (fun p hp ep => absurd ep (hno p hp))))
    rw [ep]
    refine pk_eq p i (fun e => none0 (fun p' hp' ep' => ?_)) (fun e => ?_)
    · have : p = p' := (nI_eq (by omega) (by omega)).mp (ep.symm.trans ep')
      omega
    · refine vc_X6_runs_28 0 _ _ _ (noo (by decide) (s_cHas _ (by omega) hX1.1 (fun x hx ex => noo b_x10 (noo (fun z => e ((nI_eq (by omega) (by omega)).mp z).symm) ?_)) (fun hno => absurd rfl (hno i hj))))
      rintro mu1 rfl
      refine ⟨b_in rfl (by omega) (by decide), ?_⟩
      have hC2 : CC B 0 (rp B D m) (up3 (up3 mu 6 0 11 (-9)) 6 0 11 (nI i)) := (hC.fr (Fr.rf.u3 rfl)).fr (Fr.rf.u3 rfl)
      rw [b_cl (by omega), hC2.2.2.2.2.2 i (by omega), up3_up3]
      refine x_runs hd p (by omega) 5 i 1 (by omega) (by omega) ?_
      have hd' := hd1 (nI (rnR (bN B) (rp B D m) p 5 i 1).2)
      refine vc_X7_runs _ (s_isCup hn _ hd'.2.2.2.2.2.1.1 (fun _ _ _ => yes b_x10 ?_) (fun hno => absurd rfl (hno i hj)))
      rw [Int32.zero_add]
      refine ⟨b_in rfl (by omega) (by decide), ?_⟩
      rw [b_cl (by omega), hd'.2.2.2.2.2.2.1.w (i := i) (by omega)]
      refine s_inS _ 0 5 (by decide) (by decide) (fun p' _ h5 ep' => noo b_x10 ?_) (fun hno => absurd ep (hno p (by omega) (by omega)))
      rw [ep]
      refine yes (fun z => e ((nI_eq (by omega) (by omega)).mp z)) ?_
      obtain ⟨c1, c2⟩ := chn_0 (T := rp B D m) (n := bN B) (x := i) (by omega)
      refine m_runs hd' i p (by omega) (by omega) ep 5 i 1 (2 ^ i) (by omega) c1 ?_ c2 ⟨rfl, hi.tell ibf _⟩
      rw [Nat.testBit_two_pow]
      simpa using fun z => e z.symm
  · exact vc_X7_runs _ (s_isCup hn _ hM.1 (fun j hj e => absurd e (hno j hj)) (fun _ => noo (fun z => z rfl) ⟨rfl, hi⟩))
/-! mends -/
def ldR (n : Nat) (T : tT) (p : Nat) : Nat → Nat → Bool
  | 0, _ => false
  | z + 1, x => match hO n T x with
    | none => false
    | some y => if y < p then false else if y = p then true else ldR n T p z y
def mdR (n : Nat) (T : tT) (p : Nat) : Nat → Option Nat → Bool → Bool
  | _, none, _ => false
  | 0, some y, l => decide (y = p) && l
  | z + 1, some y, l => if y = p then l else mdR n T p z (hO n T y) (l && decide (p < y))
theorem mdR_f (n : Nat) (p z : Nat) : ∀ r, mdR n T p z r false = false := by
  induction z with
  | zero => intro r; cases r <;> simp [mdR]
  | succ z ih =>
    intro r
    cases r with
    | none => simp [mdR]
    | some y =>
      unfold mdR
      split
      · rfl
      · rw [Bool.false_and]; exact ih _
theorem mdR_eq (h : WT B T) (p : Nat) : ∀ (z x mask : Nat), pop mask + z = 7 → Chn (bN B) T p mask x → mdR (bN B) T p z (hO (bN B) T x) true = ldR (bN B) T p z x := by
  intro z
  induction z with
  | zero =>
    intro x mask hz hc
    have := pop_le _ hc.1
    omega
  | succ z ih =>
    intro x mask hz hc
    unfold ldR
    cases hy : hO (bN B) T x with
    | none => simp [mdR]
    | some y =>
      unfold mdR
      dsimp only
      by_cases e : y = p
      · rw [if_pos e, if_neg (by omega), if_pos e]
      · rw [if_neg e, Bool.true_and]
        by_cases hl : y < p
        · rw [if_pos hl, decide_eq_false (by omega), mdR_f]
        · rw [if_neg hl, if_neg e, decide_eq_true (by omega)]
          obtain ⟨s1, s2⟩ := chn_step h hc hy e
          have y6 := s2.2.1
          exact ih y (mask ||| 2 ^ y) (by rw [(b_pop1 mask hc.1 y y6 s1).1]; omega) s2
def foE (b f : Nat → Bool) : Nat → Nat → Nat → Option Nat
  | _, 0, c => some c
  | p, z + 1, c => if b p then none else foE b f (p + 1) z (if f p then c + 1 else c)
theorem foE_bad (b f : Nat → Bool) (z : Nat) : ∀ (p c j : Nat), p ≤ j → j < p + z → b j = true → foE b f p z c = none := by
  induction z with
  | zero => intro p c j h1 h2; omega
  | succ z ih =>
    intro p c j h1 h2 hb
    unfold foE
    by_cases e : j = p
    · rw [← e, if_pos hb]
    · split
      · rfl
      · exact ih (p + 1) _ j (by omega) (by omega) hb
theorem foE_ok (b b' f f' : Nat → Bool) (z : Nat) : ∀ (p c : Nat), (∀ j, p ≤ j → j < p + z → b j = false ∧ b' j = false ∧ f j = f' j) → foE b f p z c = foE b' f' p z c := by
  induction z with
  | zero => intro p c h; rfl
  | succ z ih =>
    intro p c h
    unfold foE
    obtain ⟨h1, h2, h3⟩ := h p (Nat.le_refl p) (by omega)
    rw [h1, h2, h3]
    simp only [Bool.false_eq_true, if_false]
    exact ih (p + 1) _ (fun j h1 h2 => h j (by omega) (by omega))
def bdX (B : tB) (T : tT) (p : Nat) : Bool := match hO (bN B) T p with
  | none => false
  | some o => decide (bK B o = 3)
def bdM (B : tB) (T : tT) (i : Nat) : Bool := decide (0 ≤ tH T i ∧ tH T i ≤ 5) && decide (bK B i = 3)
def rgX (B : tB) (T : tT) (p : Nat) : Bool := decide (hO (bN B) T p ≠ some p) && ldR (bN B) T p 6 p
def rgM (B : tB) (T : tT) (i : Nat) : Bool := wrH (bN B) T i && mdR (bN B) T i 6 (hO (bN B) T i) true
theorem mends_eq (h : WT B T) : foE (bdX B T) (rgX B T) 0 (bN B) 0 = foE (bdM B T) (rgM B T) 0 (bN B) 0 := by
  have hn := h.1
  by_cases hb : ∃ c : Nat, c < bN B ∧ bK B c = 3 ∧ ∃ p : Nat, p < 6 ∧ tH T c = nI p
  · obtain ⟨c, h1, h2, p, h3, h4⟩ := hb
    obtain ⟨g1, g2, g3, g4⟩ := h.p (by omega) h3 h4
    rw [foE_bad (bdX B T) (rgX B T) (bN B) 0 0 p (Nat.zero_le _) (by omega), foE_bad (bdM B T) (rgM B T) (bN B) 0 0 c (Nat.zero_le _) (by omega)]
    · unfold bdM
      rw [h4, decide_eq_true h2, decide_eq_true ⟨b_np p (by omega), nI_le (b := 5) (by omega) (by decide)⟩]
      rfl
    · unfold bdX
      have e : hO (bN B) T p = some c := (h.held h3).mpr ⟨by omega, h4⟩
      rw [e]
      exact decide_eq_true h2
  · refine foE_ok _ _ _ _ _ 0 0 (fun j _ hj => ⟨?_, ?_, ?_⟩)
    · unfold bdX
      cases e : hO (bN B) T j with
      | none => rfl
      | some o =>
        obtain ⟨g1, g2, g3⟩ := hO_lt h (by omega) e
        exact decide_eq_false (fun z => hb ⟨o, g1, z, j, by omega, g3⟩)
    · unfold bdM
      by_cases e : 0 ≤ tH T j ∧ tH T j ≤ 5
      · rcases b_ix (tH T j) 6 (by decide) with ⟨p, hp, ep⟩ | ⟨z | z, -⟩
        · rw [decide_eq_false (p := bK B j = 3) (fun z => hb ⟨j, by omega, z, p, hp, ep⟩), Bool.and_false]
        · exact absurd e.1 (Int32.not_le.mpr z)
        · exact absurd (Int32.le_trans z e.2) (by decide)
      · rw [decide_eq_false e]; rfl
    · unfold rgX rgM
      have hm := mdR_eq h j 6 j (2 ^ j) (by rw [(chn_0 (T := T) (n := bN B) (x := j) (by omega)).2]) (chn_0 (by omega)).1
      rw [hm]
      unfold wrH
      have ho : heldT (bN B) T (nI j) = hO (bN B) T j := rfl
      rw [ho]
      cases e : hO (bN B) T j with
      | none => simp [ldR, e]
      | some o => simp
theorem s_leadsRing (hd : IBd B D m mu) (p : Nat) (hp : p < bN B) (q : Q (bI (ldR (bN B) (rp B D m) p 6 p)) mu la) : FnI E (d + 1) mi_122 [.inr (.inr (some (6, 0))), .inl (nI p)] mu la Q := by
  have hn := hd.1.1
  have hwt := hd.wt
  have hX := hd.2.2.1
  have hC := hd.2.2.2.1
  have key : ∀ (z x s : Nat), s + z = 6 → x < 6 → Q (bI (ldR (bN B) (rp B D m) p z x)) mu la → Ev E (d + 1) mi_122 4 [some (.inr (.inr (some (6, 0)))), some (.inl (nI p)), some (.inl (nI x)), some (.inl (nI s))] [] (mem E mu la) (qI E Q) := by
    intro z
    induction z with
    | zero =>
      intro x s hs hx q
      exact vc_X6_leadsRing_4 0 _ _ _ (yes (nI_le (a := 6) (by omega) (by omega)) q)
    | succ z ih =>
      intro x s hs hx q
      refine vc_X6_leadsRing_4 0 _ _ _ (noo (nI_ge (b := 6) (by omega) (by decide)) ⟨b_in rfl (by omega) (by decide), ?_⟩)
      rw [b_cl (by omega), hC.2.2.2.2.2 x hx]
      unfold ldR at q
      refine s_cHasO (n := bN B) _ (fun y e => (hO_lt hwt hx e).1) (by omega) hX.1 ?_
      have ho : heldT (bN B) (rp B D m) (nI x) = hO (bN B) (rp B D m) x := rfl
      rw [ho]
      cases hy : hO (bN B) (rp B D m) x with
      | none =>
        rw [hy] at q
        exact yes rfl q
      | some y =>
        rw [hy] at q
        dsimp only at q
        have hy1 := (hO_lt hwt hx hy).1
        refine noo b_x10 (pk_le p y (fun hl => ?_) (fun hl => ?_))
        · rw [if_neg (by omega)] at q
          by_cases e : y = p
          · rw [if_pos e] at q
            exact noo (fun z => z (by rw [e]; rfl)) q
          · rw [if_neg e] at q
            refine yes (fun z => e ((nI_eq (by omega) (by omega)).mp z)) ?_
            rw [← nI_succ]
            exact ih y (s + 1) (by omega) (by omega) q
        · rw [if_pos hl] at q
          exact q
  exact vc_X6_leadsRing _ (key 6 p 0 (by omega) (by omega) q)
theorem x_mends (hd : IBd B D m mu) : ∀ (z p c : Nat), p + z = bN B → (match foE (bdX B (rp B D m)) (rgX B (rp B D m)) p z c with | none => Q (-9) mu la | some c' => Q (nI (pop (wrongT (rp B D m) (bN B))) - nI c') mu la) → Ev E (d + 2) mi_76 4 [some (.inr (.inr (some (6, 0)))), some (.inl (nI c)), some (.inl (nI p)), none] [] (mem E mu la) (qI E Q) := by
  have hn := hd.1.1
  have hwt := hd.wt
  have hX := hd.2.2.1
  have hC := hd.2.2.2.1
  intro z
  induction z with
  | zero =>
    intro p c hp q
    refine vc_X6_mends_4 0 _ _ ?_
    rw [hX.1]
    exact yes (nI_le (by omega) (by omega)) (s_howManyWrong hwt hX.1 hC q)
  | succ z ih =>
    intro p c hp q
    refine vc_X6_mends_4 0 _ _ ?_
    rw [hX.1]
    refine noo (nI_ge (by omega) (by omega)) ⟨b_in rfl (by omega) (by decide), ?_⟩
    rw [b_cl (by omega), hC.2.2.2.2.2 p (by omega)]
    unfold foE bdX rgX at q
    have ho : heldT (bN B) (rp B D m) (nI p) = hO (bN B) (rp B D m) p := rfl
    rw [ho]
    refine s_cHasO (n := bN B) _ (fun y e => (hO_lt hwt (by omega) e).1) (by omega) hX.1 ?_
    rw [← nI_succ, ← nI_succ]
    cases hy : hO (bN B) (rp B D m) p with
    | none =>
      rw [hy] at q
      have e0 : ¬ oI none = nI p := fun z => (b_p9 p (by omega)).1 z.symm
      simp only [ne_eq, reduceCtorEq, not_false_eq_true, decide_true, Bool.true_and, Bool.false_eq_true, if_false] at q
      refine yes rfl (noo e0 (s_leadsRing hd p (by omega) (bzz (fun hl => ?_) (fun hl => ?_))))
      · rw [hl] at q
        exact ih (p + 1) c (by omega) q
      · rw [hl] at q
        exact ih (p + 1) (c + 1) (by omega) q
    | some y =>
      rw [hy] at q
      have hy1 := (hO_lt hwt (by omega) hy).1
      refine noo b_x10 (s_cThere y hn hy1 hX.2.2.1 (bnz (fun ht => ?_) (fun ht => ?_)))
      · have ht2 : ¬ bK B y = 3 := of_decide_eq_true ht
        simp only [ht2, decide_false, Bool.false_eq_true, if_false] at q
        refine pk_eq y p (fun e => ?_) (fun e => s_leadsRing hd p (by omega) (bzz (fun hl => ?_) (fun hl => ?_)))
        · subst e
          simp only [ne_eq, not_true, decide_false, Bool.false_and, Bool.false_eq_true, if_false] at q
          exact ih (y + 1) c (by omega) q
        · simp only [hl, Bool.and_false, Bool.false_eq_true, if_false] at q
          exact ih (p + 1) c (by omega) q
        · have e2 : ¬ some y = some p := fun z => e (Option.some.inj z)
          simp only [hl, e2, ne_eq, not_false_eq_true, decide_true, Bool.true_and, if_true] at q
          exact ih (p + 1) (c + 1) (by omega) q
      · have ht2 : bK B y = 3 := by simpa using ht
        simp only [ht2, decide_true, if_true] at q
        exact q
theorem m_mends_in (hd : IBd B D m mu) (i : Nat) (hi : i < bN B) (v1 : Int32) (c : Nat) : ∀ (z s : Nat) (r : Option Nat) (l : Bool), s + z = 6 → (∀ y, r = some y → y < 6) → Ev E (d + 1) mi_197 9 [some (.inr (.inr (some (7, 0)))), some (.inl v1), some (.inl (nI (if mdR (bN B) (rp B D m) i z r l then c + 1 else c))), some (.inl (nI (i + 1))), none, none, none] [] (mem E mu la) (qI E Q) → Ev E (d + 1) mi_197 44 [some (.inr (.inr (some (7, 0)))), some (.inl v1), some (.inl (nI c)), some (.inl (nI i)), some (.inl (oI r)), some (.inl (bI l)), some (.inl (nI s))] [] (mem E mu la) (qI E Q) := by
  have hn := hd.1.1
  have hwt := hd.wt
  have hM := hd.2.2.2.2.2.1
  have hT := hd.2.2.2.2.2.2.1
  intro z
  induction z with
  | zero =>
    intro s r l hs hr k
    refine vc_X7_mends_44 0 _ _ _ _ _ _ ?_
    rw [b_a0, ← nI_succ, ← nI_succ]
    cases r with
    | none =>
      unfold mdR at k
      exact yes rfl (yes (fun z => (b_p9 i (by omega)).1 z.symm) k)
    | some y =>
      have hy := hr y rfl
      unfold mdR at k
      refine noo (b_p9 y hy).1 ?_
      by_cases e : y = i
      · subst e
        rw [decide_eq_true rfl, Bool.true_and] at k
        refine yes rfl (noo (fun z => z rfl) (bzz (fun hl => ?_) (fun hl => ?_)))
        · rw [hl] at k; exact k
        · rw [hl] at k; exact k
      · have e2 : ¬ oI (some y) = nI i := fun z => e ((nI_eq (by omega) (by omega)).mp z)
        rw [decide_eq_false e, Bool.false_and] at k
        exact noo e2 (yes (nI_le (a := 6) (by omega) (by omega)) (yes e2 k))
  | succ z ih =>
    intro s r l hs hr k
    refine vc_X7_mends_44 0 _ _ _ _ _ _ ?_
    rw [b_a0, ← nI_succ, ← nI_succ, ← nI_succ]
    cases r with
    | none =>
      unfold mdR at k
      exact yes rfl (yes (fun z => (b_p9 i (by omega)).1 z.symm) k)
    | some y =>
      have hy := hr y rfl
      unfold mdR at k
      refine noo (b_p9 y hy).1 ?_
      by_cases e : y = i
      · subst e
        rw [if_pos rfl] at k
        refine yes rfl (noo (fun z => z rfl) (bzz (fun hl => ?_) (fun hl => ?_)))
        · rw [hl] at k; exact k
        · rw [hl] at k; exact k
      · have e2 : ¬ oI (some y) = nI i := fun z => e ((nI_eq (by omega) (by omega)).mp z)
        rw [if_neg e] at k
        refine noo e2 (noo (nI_ge (b := 6) (by omega) (by decide)) (bzz (fun hl => ?_) (fun hl => ?_)))
        · rw [hl, Bool.false_and] at k
          exact s_heldBy hk38 (by decide) _ hn hM.1 (fun i h => hT.w h) (ih (s + 1) (hO (bN B) (rp B D m) y) false (by omega) (fun w hw => by have := (hO_lt hwt hy hw).1; omega) k)
        · rw [hl, Bool.true_and] at k
          refine pk_le y i (fun hle => ?_) (fun hle => ?_)
          · rw [decide_eq_false (by omega)] at k
            exact s_heldBy hk38 (by decide) _ hn hM.1 (fun i h => hT.w h) (ih (s + 1) (hO (bN B) (rp B D m) y) false (by omega) (fun w hw => by have := (hO_lt hwt hy hw).1; omega) k)
          · rw [decide_eq_true hle] at k
            exact s_heldBy hk38 (by decide) _ hn hM.1 (fun i h => hT.w h) (ih (s + 1) (hO (bN B) (rp B D m) y) true (by omega) (fun w hw => by have := (hO_lt hwt hy hw).1; omega) k)
theorem m_mends (hd : IBd B D m mu) : ∀ (z i c : Nat), i + z = bN B → (match foE (bdM B (rp B D m)) (rgM B (rp B D m)) i z c with | none => Q (-9) mu la | some c' => Q (nI (pop (wrongT (rp B D m) (bN B))) - nI c') mu la) → Ev E (d + 2) mi_197 9 [some (.inr (.inr (some (7, 0)))), some (.inl (nI (wrongT (rp B D m) (bN B)))), some (.inl (nI c)), some (.inl (nI i)), none, none, none] [] (mem E mu la) (qI E Q) := by
  have hn := hd.1.1
  have hb := hd.1
  have hwt := hd.wt
  have hM := hd.2.2.2.2.2.1
  have hT := hd.2.2.2.2.2.2.1
  intro z
  induction z with
  | zero =>
    intro i c hi q
    refine vc_X7_mends_9 0 _ _ _ ?_
    rw [hM.1]
    exact yes (nI_le (by omega) (by omega)) (s_bits _ (wrongT_lt _) q)
  | succ z ih =>
    intro i c hi q
    have hin : i < bN B := by omega
    refine vc_X7_mends_9 0 _ _ _ ?_
    rw [hM.1, Int32.zero_add]
    refine noo (nI_ge hin (by omega)) ⟨b_in rfl (by omega) (by decide), ?_⟩
    rw [b_cl (by omega), hT.w (i := i) (by omega), ← nI_succ]
    unfold foE bdM rgM at q
    have hbit : (wrongT (rp B D m) (bN B)).testBit i = wrH (bN B) (rp B D m) i := by
      rw [hwt.wrong, bitsOf_bit, decide_eq_true hin, Bool.true_and]
    have go : (decide (0 ≤ tH (rp B D m) i ∧ tH (rp B D m) i ≤ 5) && decide (bK B i = 3)) = false → FnI E (d + 1) mi_130 [.inl (nI (wrongT (rp B D m) (bN B))), .inl (nI i)] mu la (fun x10 mu11 la12 => (x10 = 0 → (Ev E (d + 2) mi_197 9 [some (.inr (.inr (some (7, 0)))), some (.inl (nI (wrongT (rp B D m) (bN B)))), some (.inl (nI c)), some (.inl (nI (i + 1))), none, none, none] [] (mem E mu11 la12) (qI E Q))) ∧ (¬ (x10 = 0) → (FnI E (d + 1) mi_164 [.inr (.inr (some (7, 0))), .inr (.inr (some (38, 0))), .inl (nI i)] mu11 la12 (fun x13 mu14 la15 => Ev E (d + 2) mi_197 44 [some (.inr (.inr (some (7, 0)))), some (.inl (nI (wrongT (rp B D m) (bN B)))), some (.inl (nI c)), some (.inl (nI i)), some (.inl x13), some (.inl (1 : Int32)), some (.inl (0 : Int32))] [] (mem E mu14 la15) (qI E Q))))) := by
      intro hg
      simp only [hg, Bool.false_eq_true, if_false] at q
      refine s_hasM _ i (wrongT_lt _) (by omega) ?_
      rw [hbit]
      refine bzz (fun hw => ?_) (fun hw => s_heldBy hk38 (by decide) _ hn hM.1 (fun i h => hT.w h) ?_)
      · simp only [hw, Bool.false_and, Bool.false_eq_true, if_false] at q
        exact ih (i + 1) c (by omega) q
      · simp only [hw, Bool.true_and] at q
        exact m_mends_in hd i hin _ c 6 0 (hO (bN B) (rp B D m) i) true (by omega) (fun w hw => by have := (hO_lt hwt (by omega) hw).1; omega) (ih (i + 1) _ (by omega) q)
    refine s_in _ _ _ (fun hc => noo b_x10 (s_mThere i hb hin hM (bnz (fun ht => go ?_) (fun ht => ?_)))) (fun hc => yes rfl (go ?_))
    · rw [decide_eq_false (p := bK B i = 3) (of_decide_eq_true ht), Bool.and_false]
    · have h3 : bK B i = 3 := by simpa using ht
      have h4 : 0 ≤ tH (rp B D m) i ∧ tH (rp B D m) i ≤ 5 := ⟨(b_w 0 _).mp hc.1, (b_w _ 5).mp hc.2⟩
      rw [decide_eq_true h3, decide_eq_true h4] at q
      exact q
    · rw [decide_eq_false (fun z => hc ⟨(b_w 0 _).mpr z.1, (b_w _ 5).mpr z.2⟩), Bool.false_and]
theorem p_mends (h : Inv IB mu la) : Pair IB E (d + 2) mi_76 mi_197 [] mu la := by
  have hi := h
  obtain ⟨-, -, -, B, D, m, hd⟩ := h
  have hn := hd.1.1
  have hwt := hd.wt
  have hM := hd.2.2.2.2.2.1
  have hT := hd.2.2.2.2.2.2.1
  refine vc_X6_mends (x_mends hd (bN B) 0 0 (by omega) ?_)
  have e := mends_eq hwt
  rw [e]
  have fin : ∀ v : Int32, (match foE (bdM B (rp B D m)) (rgM B (rp B D m)) 0 (bN B) 0 with | none => v = -9 | some c' => v = nI (pop (wrongT (rp B D m) (bN B))) - nI c') → FnI E (d + 2) mi_197 [.inr (.inr (some (7, 0)))] mu la (fun r2 mu2 la2 => v = r2 ∧ Inv IB mu2 la2) := by
    intro v hv
    refine vc_X7_mends (s_wrongOf hk38 (by decide) hn hM.1 (fun i h => hT.w h) (m_mends hd (bN B) 0 0 (by omega) ?_))
    cases hf : foE (bdM B (rp B D m)) (rgM B (rp B D m)) 0 (bN B) 0 with
    | none => rw [hf] at hv; exact ⟨hv, hi⟩
    | some c' => rw [hf] at hv; exact ⟨hv, hi⟩
  cases hf : foE (bdM B (rp B D m)) (rgM B (rp B D m)) 0 (bN B) 0 with
  | none => exact fin _ (by rw [hf])
  | some c' => exact fin _ (by rw [hf])
end RING
