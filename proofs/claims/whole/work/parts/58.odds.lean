/-! chances -/
def waitF (B : tB) (T : tT) (p : Nat) : Bool := decide (bK B p ≠ 3) && !(tD T).testBit p
def waysN (n g o p : Nat) : Nat := prodN (fun k => if o.testBit k then (if g.testBit k then p else 12 - p) else 1) n
def hadT (T : tT) (g : Nat) : tT := (tH T, tI T, tD T ||| g, tL T)
def tmO (B : tB) (T : tT) (i o p g : Nat) : Nat := if g &&& (63 ^^^ o) = 0 then (if who B (tD T ||| g) i (bE B) = some i then waysN (bN B) g o p else 0) else 0
theorem first_eq {f : Nat → Bool} {n i : Nat} (hi : i < n) (h1 : f i = true) (h0 : ∀ j, j < i → f j = false) : firstN f 0 n = some i := by
  cases hf : firstN f 0 n with
  | none =>
    rw [firstN_none hf i (Nat.zero_le _) (by omega)] at h1
    cases h1
  | some r =>
    obtain ⟨-, -, h3, h4⟩ := firstN_some hf
    rcases Nat.lt_trichotomy r i with z | z | z
    · rw [h0 r z] at h3; cases h3
    · rw [z]
    · rw [h4 i (Nat.zero_le _) z] at h1; cases h1
theorem cnt_lt (f : Nat → Bool) (i n : Nat) (h : i ≤ n) : cntN (fun k => decide (k < i) && f k) n = cntN f i := by
  induction n with
  | zero =>
    have : i = 0 := by omega
    subst this
    rfl
  | succ n ih =>
    by_cases e : i = n + 1
    · subst e
      exact cntN_congr _ (fun k hk => by rw [decide_eq_true hk, Bool.true_and])
    · show cntN (fun k => decide (k < i) && f k) n + (if (decide (n < i) && f n) = true then 1 else 0) = _
      rw [ih (by omega), decide_eq_false (by omega), Bool.false_and]
      rfl
theorem frac_same {x y k : Nat} (hk : 0 < k) : x * k / Nat.gcd (x * k) (y * k) = x / Nat.gcd x y ∧ y * k / Nat.gcd (x * k) (y * k) = y / Nat.gcd x y := by
  rw [Nat.gcd_mul_right]
  exact ⟨Nat.mul_div_mul_right _ _ hk, Nat.mul_div_mul_right _ _ hk⟩
section ODDS
variable {E : mEv} {d : Nat} {mu : fMu} {la : fLa} {B : tB} {T : tT} {D : Nat → Nat × Nat × Nat} {m : Nat}
theorem odds_sum (hn : bN B ≤ 6) {i p : Nat} (hi : i < bN B) (hp : p ≤ 12) : ∃ c : Nat, cntN (canT B (tD T) (bW B i) (bE B)) i + c = pop (bitsOf (fun q => waitF B T q && decide (q ≠ i)) (bN B)) ∧ sumN (tmO B T i (bitsOf (fun q => waitF B T q && decide (q ≠ i)) (bN B)) p) (2 ^ bN B) = if canT B (tD T) (bW B i) (bE B) i = true then p ^ cntN (canT B (tD T) (bW B i) (bE B)) i * 12 ^ c else 0 := by
  have hC : ∀ k, canT B (tD T) (bW B i) (bE B) k = (waitF B T k && alk (bA B k) (bW B i) (bE B)) := fun k => rfl
  have key : ∀ (O A : Nat → Bool), (∀ k, O k = (waitF B T k && decide (k ≠ i))) → (∀ k, A k = (decide (k < i) && canT B (tD T) (bW B i) (bE B) k)) → cntN A (bN B) + cntN (fun k => O k && !A k) (bN B) = pop (bitsOf O (bN B)) ∧ sumN (tmO B T i (bitsOf O (bN B)) p) (2 ^ bN B) = if canT B (tD T) (bW B i) (bE B) i = true then p ^ cntN A (bN B) * 12 ^ cntN (fun k => O k && !A k) (bN B) else 0 := by
    intro O A hO hA
    have hAO : ∀ k, A k = true → O k = true := by
      intro k hk
      rw [hA, Bool.and_eq_true] at hk
      obtain ⟨k1, k2⟩ := hk
      rw [hC, Bool.and_eq_true] at k2
      rw [hO, k2.1, Bool.true_and]
      have := of_decide_eq_true k1
      exact decide_eq_true (by omega)
    refine ⟨by rw [pop_bits _ _ hn, cnt_split A O (bN B) (fun k _ h => hAO k h)], ?_⟩
    have hterm : ∀ g, g < 2 ^ bN B → tmO B T i (bitsOf O (bN B)) p g = if canT B (tD T) (bW B i) (bE B) i = true then prodN (fun k => (fun k b => if O k then (if b then p else if A k then 0 else 12 - p) else if b then 0 else 1 : Nat → Bool → Nat) k (g.testBit k)) (bN B) else 0 := by
      intro g hg
      have hg64 : g < 64 := Nat.lt_of_lt_of_le hg (Nat.pow_le_pow_right (n := 2) (by decide) hn)
      have hgn : ∀ k, g.testBit k = true → k < bN B := by
        intro k hk
        rcases Nat.lt_or_ge k (bN B) with z | z
        · exact z
        · rw [Nat.testBit_lt_two_pow (Nat.lt_of_lt_of_le hg (Nat.pow_le_pow_right (by decide) z))] at hk
          cases hk
      unfold tmO
      by_cases hs : g &&& (63 ^^^ bitsOf O (bN B)) = 0
      · rw [if_pos hs]
        have hsub := (sub_bits hg64).mp hs
        have hsub2 : ∀ k, g.testBit k = true → O k = true := by
          intro k hk
          have h1 := hsub k hk
          rw [bitsOf_bit, Bool.and_eq_true] at h1
          exact h1.2
        have hgi : g.testBit i = false := by
          cases hh : g.testBit i with
          | false => rfl
          | true =>
            have h1 := hsub2 i hh
            rw [hO] at h1
            simp at h1
        have hC' : ∀ k, canT B (tD T ||| g) (bW B i) (bE B) k = (canT B (tD T) (bW B i) (bE B) k && !g.testBit k) := by
          intro k
          unfold canT
          rw [Nat.testBit_or]
          cases decide (bK B k ≠ 3) <;> cases (tD T).testBit k <;> cases g.testBit k <;> cases alk (bA B k) (bW B i) (bE B) <;> rfl
        by_cases hCi : canT B (tD T) (bW B i) (bE B) i = true
        · rw [if_pos hCi]
          by_cases hall : ∀ k, k < i → canT B (tD T) (bW B i) (bE B) k = true → g.testBit k = true
          · have hw : who B (tD T ||| g) i (bE B) = some i := by
              refine first_eq hi (by rw [hC', hCi, hgi]; rfl) (fun j hj => ?_)
              rw [hC']
              cases hcj : canT B (tD T) (bW B i) (bE B) j with
              | false => rfl
              | true => rw [hall j hj hcj]; rfl
            rw [if_pos hw]
            refine prodN_congr _ (fun k hk => ?_)
            rw [bitsOf_bit, decide_eq_true hk, Bool.true_and]
            dsimp only
            cases hOk : O k with
            | true =>
              rw [if_pos rfl, if_pos rfl]
              cases hgk : g.testBit k with
              | true => rw [if_pos rfl, if_pos rfl]
              | false =>
                rw [if_neg (by decide), if_neg (by decide)]
                cases hAk : A k with
                | true =>
                  rw [hA, Bool.and_eq_true] at hAk
                  rw [hall k (of_decide_eq_true hAk.1) hAk.2] at hgk
                  cases hgk
                | false => rw [if_neg (by decide)]
            | false =>
              rw [if_neg (by decide), if_neg (by decide)]
              cases hgk : g.testBit k with
              | true =>
                rw [hsub2 k hgk] at hOk
                cases hOk
              | false => rw [if_neg (by decide)]
          · have hex : ∃ k, k < i ∧ canT B (tD T) (bW B i) (bE B) k = true ∧ g.testBit k = false := by
              refine Classical.byContradiction (fun hno => hall (fun k h1 h2 => ?_))
              cases hgk : g.testBit k with
              | true => rfl
              | false => exact absurd ⟨k, h1, h2, hgk⟩ hno
            obtain ⟨k, k1, k2, k3⟩ := hex
            have hAk : A k = true := by rw [hA, k2, decide_eq_true k1]; rfl
            have hnw : ¬ who B (tD T ||| g) i (bE B) = some i := by
              intro z
              have h4 := (firstN_some z).2.2.2 k (Nat.zero_le k) k1
              rw [hC', k2, k3] at h4
              cases h4
            rw [if_neg hnw, prodN_zero (bN B) k (by omega)]
            dsimp only
            rw [hAO k hAk, hAk, k3, if_pos rfl, if_neg (by decide), if_pos rfl]
        · rw [if_neg hCi]
          have hnw : ¬ who B (tD T ||| g) i (bE B) = some i := by
            intro z
            have h4 := (firstN_some z).2.2.1
            rw [hC', Bool.and_eq_true] at h4
            exact hCi h4.1
          rw [if_neg hnw]
      · rw [if_neg hs]
        have hex : ∃ k, g.testBit k = true ∧ O k = false := by
          refine Classical.byContradiction (fun hno => hs ((sub_bits hg64).mpr (fun k hk => ?_)))
          rw [bitsOf_bit, decide_eq_true (hgn k hk), Bool.true_and]
          cases hOk : O k with
          | true => rfl
          | false => exact absurd ⟨k, hk, hOk⟩ hno
        obtain ⟨k, k1, k2⟩ := hex
        rw [prodN_zero (bN B) k (hgn k k1)]
        · split <;> rfl
        · dsimp only
          rw [k2, k1, if_neg (by decide), if_pos rfl]
    rw [sumN_congr _ hterm]
    by_cases hCi : canT B (tD T) (bW B i) (bE B) i = true
    · simp only [hCi, if_true]
      rw [sum_sets (fun k b => if O k then (if b then p else if A k then 0 else 12 - p) else if b then 0 else 1), ← prod_pow A O p 12 (bN B)]
      refine prodN_congr _ (fun k hk => ?_)
      cases hAk : A k with
      | true => rw [hAO k hAk]; simp
      | false =>
        cases O k with
        | true => simp; omega
        | false => simp
    · simp only [hCi, if_false]
      have := sumN_le (f := fun _ => 0) (M := 0) (2 ^ bN B) (fun _ _ => Nat.le_refl 0)
      rw [Nat.mul_zero] at this
      simp
      omega
  obtain ⟨k1, k2⟩ := key (fun q => waitF B T q && decide (q ≠ i)) (fun k => decide (k < i) && canT B (tD T) (bW B i) (bE B) k) (fun _ => rfl) (fun _ => rfl)
  rw [cnt_lt _ i (bN B) (by omega)] at k1 k2
  exact ⟨_, k1, k2⟩
theorem s_waiting {Q : Int32 → fMu → fLa → Prop} (hB : wB B) (hT : WT B T) (hM : MB B mu) (e7 : mu 38 0 7 = nI (tD T)) (q : Q (nI (bitsOf (waitF B T) (bN B))) mu la) : FnI E (d + 1) mi_211 [.inr (.inr (some (7, 0)))] mu la Q := by
  have hn := hB.1
  refine vc_X7_waiting ?_
  refine lpU (P := fun k => Ev E (d + 1) mi_211 4 [some (.inr (.inr (some (7, 0)))), some (.inl (nI (bitsOf (waitF B T) k))), some (.inl (nI k))] [] (mem E mu la) (qI E Q)) (n := bN B) ?_ ?_ 0 (Nat.zero_le _)
  · refine vc_X7_waiting_4 0 _ _ ?_
    rw [hM.1]
    exact yes (nI_le (Nat.le_refl _) (by omega)) q
  · intro k hk ih
    refine vc_X7_waiting_4 0 _ _ ?_
    rw [hM.1, b_or0, b_sh k (by omega), b_or, ← nI_succ]
    unfold bitsOf waitF at ih
    refine noo (nI_ge hk (by omega)) (s_mThere k hB hk hM (bzz (fun h0 => ?_) (fun h1 => ⟨b_in (j := 7) rfl (by decide) (by decide), ?_⟩)))
    · simp only [h0, Bool.false_and, Bool.false_eq_true, if_false, Nat.or_zero] at ih
      exact ih
    · rw [show (7 : Int32).toNatClampNeg = 7 from rfl, e7]
      refine s_hasM _ k hT.d64 (by omega) (bnz (fun h2 => ?_) (fun h2 => ?_))
      · simp only [h1, h2, Bool.not_true, Bool.and_false, Bool.false_eq_true, if_false, Nat.or_zero] at ih
        exact ih
      · simp only [h1, h2, Bool.not_false, Bool.and_true, if_true] at ih
        exact ih
theorem s_waysOf {Q : Int64 → fMu → fLa → Prop} (g o p : Nat) (hg : g < 64) (ho : o < 64) (hp : p ≤ 12) (hn : bN B ≤ 6) (e0 : mu 7 0 4 = nI (bN B)) (q : Q (lN (waysN (bN B) g o p)) mu la) : FnL E (d + 1) mi_212 [.inr (.inr (some (7, 0))), .inl (nI g), .inl (nI o), .inl (nI p)] mu la Q := by
  refine vc_X7_waysOf _ _ _ ?_
  refine lpU (P := fun k => Ev E (d + 1) mi_212 4 [some (.inr (.inr (some (7, 0)))), some (.inl (nI g)), some (.inl (nI o)), some (.inl (nI p)), some (.inr (.inl (lN (waysN k g o p)))), none, some (.inl (nI k))] [] (mem E mu la) (qL E Q)) (n := bN B) ?_ ?_ 0 (Nat.zero_le _)
  · refine vc_X7_waysOf_4 0 _ _ _ _ _ ?_
    rw [e0]
    exact yes (nI_le (Nat.le_refl _) (by omega)) q
  · intro k hk ih
    refine vc_X7_waysOf_4 0 _ _ _ _ _ ?_
    rw [e0, show (12 : Int32) = nI 12 from rfl, pk_sub hp, nI_l (n := 12 - p) (by omega), nI_l (n := p) (by omega), show (1 : Int64) = lN 1 from rfl, lN_mul, lN_mul, lN_mul, ← nI_succ]
    unfold waysN prodN at ih
    refine noo (nI_ge hk (by omega)) (s_hasM o k ho (by omega) (bnz (fun h1 => s_hasM g k hg (by omega) (bzz (fun h2 => ?_) (fun h2 => ?_))) (fun h1 => ?_)))
    · simp only [h1, h2, if_true, Bool.false_eq_true, if_false] at ih
      exact ih
    · simp only [h1, h2, if_true] at ih
      exact ih
    · simp only [h1, Bool.false_eq_true, if_false] at ih
      exact ih
theorem MC.had {k : Nat} {g : Nat} {v : Int32} (h : MC k 0 T mu) (e : v = nI (tD T ||| g)) : MC k 0 (hadT T g) (up3 mu k 0 7 v) := by
  refine MC.of (fun i hi => ?_) ?_ ?_ ?_
  · show _ = tH T i
    rw [← h.w hi]
    unfold up3
    rw [if_neg (fun z => by omega)]
  · show _ = nI (tI T)
    rw [← h.2.1]
    unfold up3; simp
  · rw [up3_self, e]
    rfl
  · show _ = tL T
    rw [← h.2.2.2]
    unfold up3; simp
theorem m_odds {Q : Int32 → fMu → fLa → Prop} (mu0 : fMu) (i o p : Nat) (hB : wB B) (hT : WT B T) (hi : i < bN B) (hp : p ≤ 12) (ho : o < 64) (hM : MB B mu0) (hC : MC 38 0 T mu0) : ∀ (z g : Nat) (mu : fMu), g + z = 2 ^ bN B → Fr (cK 39) mu0 mu → (∀ mu' : fMu, Fr (cK 39) mu0 mu' → FnI E (d + 2) mi_192 [.inr (.inr (some (7, 0))), .inr (.inl (lN (sumN (tmO B T i o p) (2 ^ bN B)))), .inr (.inl (lN (12 ^ pop o)))] mu' la Q) → Ev E (d + 3) mi_214 32 [some (.inr (.inr (some (7, 0)))), some (.inl (nI i)), some (.inl (nI p)), some (.inl (nI o)), some (.inr (.inl (lN (sumN (tmO B T i o p) g)))), none, some (.inl (nI g))] [] (mem E mu la) (qI E Q) := by
  have hn := hB.1
  have h64 : 2 ^ bN B ≤ 64 := Nat.pow_le_pow_right (n := 2) (by decide) hn
  intro z
  induction z with
  | zero =>
    intro g mu hg f q
    refine vc_X7_odds_32 0 _ _ _ _ _ ?_
    rw [f 7 0 4 rfl, hM.1, b_sh _ (by omega)]
    have : g = 2 ^ bN B := by omega
    subst this
    have := pop_le o ho
    exact yes (nI_le (Nat.le_refl _) (by omega)) (s_bits _ ho (s_twelves _ (by omega) (q mu f)))
  | succ z ih =>
    intro g mu hg f q
    refine vc_X7_odds_32 0 _ _ _ _ _ ?_
    rw [f 7 0 4 rfl, hM.1, b_sh _ (by omega), (b_andN g (by omega) o ho).1, ← nI_succ, show (7 : Int32).toNatClampNeg = 7 from rfl]
    have stp : ∀ (mu' : fMu) (v : Int64), Fr (cK 39) mu0 mu' → v = lN (sumN (tmO B T i o p) g + tmO B T i o p g) → Ev E (d + 3) mi_214 32 [some (.inr (.inr (some (7, 0)))), some (.inl (nI i)), some (.inl (nI p)), some (.inl (nI o)), some (.inr (.inl v)), none, some (.inl (nI (g + 1)))] [] (mem E mu' la) (qI E Q) := by
      rintro mu' v f' rfl
      exact ih (g + 1) mu' (by omega) f' q
    have h0 : g &&& (63 ^^^ o) < 64 := (b_andN g (by omega) o ho).2
    refine noo (nI_ge (by omega) (by omega)) ?_
    by_cases hs : g &&& (63 ^^^ o) = 0
    · refine noo (fun y => y (by rw [hs]; rfl)) ?_
      refine s_layAside (hC.fr (f.le (cK_K rfl))) (fun mu1 f1 c1 => ⟨b_in (j := 7) rfl (by decide) (by decide), b_in (j := 7) rfl (by decide) (by decide), ?_⟩)
      rintro mu2 rfl
      have e7 : mu1 39 0 7 = nI (tD T) := c1.2.2.1
      have c2 := c1.had (g := g) (v := mu1 39 0 7 ||| nI g) (by rw [e7, b_or])
      have f2 : Fr (cK 39) mu0 (up3 mu1 39 0 7 (mu1 39 0 7 ||| nI g)) := (f.tr f1).u3 rfl
      have hM2 := hM.fr (f2.le (cK_MB (Or.inr rfl)))
      have hd64 : tD T ||| g < 64 := Nat.or_lt_two_pow (n := 6) hT.d64 (show g < 2 ^ 6 by omega)
      rw [hM2.2.1]
      refine s_whoTakes hk39 (by decide) i _ (tD T ||| g) hB hi hB.2.1 hd64 hM2 c2.2.2.1 ?_
      by_cases hw : who B (tD T ||| g) i (bE B) = some i
      · rw [hw]
        refine noo (fun y => y rfl) (s_waysOf g o p (by omega) ho hp hn hM2.1 (stp _ _ f2 ?_))
        rw [lN_add]
        unfold tmO
        rw [if_pos hs, if_pos hw]
      · refine yes (fun y => hw ?_) (stp _ _ f2 ?_)
        · cases hwho : who B (tD T ||| g) i (bE B) with
          | none => rw [hwho] at y; exact absurd y.symm (b_p9 i (by omega)).1
          | some j =>
            rw [hwho] at y
            have := (who_some hwho).1
            rw [(nI_eq (by omega) (by omega)).mp y]
        · rw [show (0 : Int64) = lN 0 from rfl, lN_add]
          unfold tmO
          rw [if_pos hs, if_neg hw]
    · refine yes (fun y => hs ?_) (stp mu _ f ?_)
      · exact (nI_eq (b := 0) (by omega) (by decide)).mp y
      · unfold tmO
        rw [if_neg hs]
        rfl
theorem pow12 {a : Nat} (h : a ≤ 6) : 12 ^ a ≤ 2985984 := by
  have h1 : 12 ^ a ≤ 12 ^ 6 := Nat.pow_le_pow_right (by decide) h
  have h2 : (12 : Nat) ^ 6 = 2985984 := by decide
  omega
theorem p_odds (h : Inv IB mu la) (a b : Int32) : Pair IB E (d + 4) mi_85 mi_214 [.inl a, .inl b] mu la := by
  have hi := h
  obtain ⟨-, -, -, B, D, m, hd⟩ := h
  have hB := hd.1
  have hn := hd.1.1
  have hwt := hd.wt
  have hX := hd.2.2.1
  have hC := hd.2.2.2.1
  have hM := hd.2.2.2.2.2.1
  have hT := hd.2.2.2.2.2.2.1
  refine vc_X6_odds a b (s_cHas a (by omega) hX.1 (fun i hin e => noo b_x10 ?_) (fun hno => yes rfl (vc_X7_odds _ _ (s_isCup hn _ hM.1 (fun j hj e => absurd e (hno j hj)) (fun _ => yes rfl ⟨rfl, hi⟩)))))
  subst e
  refine b_span b 0 12 (by decide) (by decide) (fun p _ hp e => ?_) (fun hno => vc_X7_odds _ _ (s_isCup hn _ hM.1 (fun _ _ _ => noo b_x10 (s_inS _ 0 12 (by decide) (by decide) (fun j h1 h2 e => absurd e (hno j h1 h2)) (fun _ => noo (fun z => z rfl) ⟨rfl, hi⟩))) (fun hno => absurd rfl (hno i hin))))
  subst e
  have mm : ∀ (la1 : fLa) (v : Int32), (tH (rp B D m) i = -9 → FnI E (d + 3) mi_211 [.inr (.inr (some (7, 0)))] mu la1 (fun x10 mu11 la12 => Ev E (d + 4) mi_214 32 [some (.inr (.inr (some (7, 0)))), some (.inl (nI i)), some (.inl (nI p)), some (.inl (x10 &&& (((1 : Int32) <<< (nI i &&& 31)) ^^^ (-1)))), some (.inr (.inl (0 : Int64))), none, some (.inl (0 : Int32))] [] (mem E mu11 la12) (qI E (fun r2 mu2 la2 => v = r2 ∧ Inv IB mu2 la2)))) → (¬ tH (rp B D m) i = -9 → v = -4 ∧ Inv IB mu la1) → FnI E (d + 4) mi_214 [.inr (.inr (some (7, 0))), .inl (nI i), .inl (nI p)] mu la1 (fun r2 mu2 la2 => v = r2 ∧ Inv IB mu2 la2) := by
    intro la1 v q1 q0
    refine vc_X7_odds _ _ (s_isCup hn _ hM.1 (fun _ _ _ => noo b_x10 (s_inS _ 0 12 (by decide) (by decide) (fun j h1 h2 e => yes b_x10 ?_) (fun hno => absurd rfl (hno p (Nat.zero_le p) hp)))) (fun hno => absurd rfl (hno i hin)))
    refine s_isMadeM hk38 (by decide) i (by omega) (hT.w (by omega)) (bzz (fun h9 => q1 (by simpa using h9)) (fun h9 => q0 (of_decide_eq_true h9)))
  refine s_cMade (T := rp B D m) i hn hin hC.2.2.1 (bzz (fun h9 => ⟨b_in rfl (by omega) (by decide), ?_⟩) (fun h9 => mm la _ (fun z => absurd z (of_decide_eq_true h9)) (fun _ => ⟨rfl, hi⟩)))
  have h9' : tH (rp B D m) i = -9 := by simpa using h9
  obtain ⟨c, k1, k2⟩ := odds_sum (B := B) (T := rp B D m) (i := i) (p := p) hn hin hp
  have htk : hrB B (bW B i) (bE B) &&& (63 ^^^ tD (rp B D m)) = bitsOf (canT B (tD (rp B D m)) (bW B i) (bE B)) (bN B) := by
    unfold hrB
    rw [bits_andN _ hn]
    refine bits_congr (fun q _ => ?_)
    unfold canT
    cases decide (bK B q ≠ 3) <;> cases (tD (rp B D m)).testBit q <;> cases alk (bA B q) (bW B i) (bE B) <;> rfl
  have ho64 : bitsOf (fun q => waitF B (rp B D m) q && decide (q ≠ i)) (bN B) < 64 := bits64 _ hn
  have hpo := pop_le _ ho64
  have hof : nI (bitsOf (waitF B (rp B D m)) (bN B)) &&& (((1 : Int32) <<< (nI i &&& 31)) ^^^ (-1)) = nI (bitsOf (fun q => waitF B (rp B D m) q && decide (q ≠ i)) (bN B)) := by
    have h64 : (2 : Nat) ^ i < 64 := (show (2 : Nat) ^ i < 2 ^ 6 from Nat.pow_lt_pow_right (by decide) (by omega))
    rw [b_sh i (by omega), (b_andN _ (bits64 _ hn) (2 ^ i) h64).1, bits_andN _ hn]
    congr 1
    refine bits_congr (fun q _ => ?_)
    rw [Nat.testBit_two_pow]
    by_cases e : i = q
    · subst e; simp
    · have e2 : ¬ q = i := fun z => e z.symm
      simp [e, e2]
  have fin : ∀ (x y : Nat) (la0 : fLa), 0 < y → Inv IB mu la0 → (∃ k : Nat, 0 < k ∧ sumN (tmO B (rp B D m) i (bitsOf (fun q => waitF B (rp B D m) q && decide (q ≠ i)) (bN B)) p) (2 ^ bN B) = x * k ∧ 12 ^ pop (bitsOf (fun q => waitF B (rp B D m) q && decide (q ≠ i)) (bN B)) = y * k) → FnI E (d + 4) mi_214 [.inr (.inr (some (7, 0))), .inl (nI i), .inl (nI p)] mu (up3 (up3 la0 6 0 12 (lN (x / Nat.gcd x y))) 6 0 13 (lN (y / Nat.gcd x y))) (fun r2 mu2 la2 => (1 : Int32) = r2 ∧ Inv IB mu2 la2) := by
    rintro x y la0 hy hi0 ⟨k, hk, hx1, hy1⟩
    refine mm _ _ (fun _ => s_waiting hB hwt hM hT.2.2.1 ?_) (fun z => absurd h9' z)
    rw [hof]
    refine m_odds mu i _ p hB hwt hin hp ho64 hM hT (2 ^ bN B) 0 mu (by omega) Fr.rf (fun mu' f' => ?_)
    have hb12 := pow12 hpo
    have hle : sumN (tmO B (rp B D m) i (bitsOf (fun q => waitF B (rp B D m) q && decide (q ≠ i)) (bN B)) p) (2 ^ bN B) < 2 ^ 62 := by
      rw [k2]
      split
      · have g1 : p ^ cntN (canT B (tD (rp B D m)) (bW B i) (bE B)) i ≤ 12 ^ 6 := Nat.le_trans (Nat.pow_le_pow_left hp _) (Nat.pow_le_pow_right (by decide) (by omega))
        have g2 : 12 ^ c ≤ 12 ^ 6 := Nat.pow_le_pow_right (by decide) (by omega)
        have g3 := Nat.mul_le_mul g1 g2
        have g4 : (12 : Nat) ^ 6 * 12 ^ 6 < 2 ^ 62 := by decide
        omega
      · decide
    refine s_fraction _ _ (Nat.pow_pos (by decide)) hle (by omega) ⟨rfl, ?_⟩
    obtain ⟨r1, r2⟩ := frac_same (x := x) (y := y) hk
    rw [hx1, hy1, r1, r2]
    exact (hi0.frI (f'.le ck39_I)).parts _ _
  rw [b_cl (by omega), (hX.2.2.2 i hin).2.2.2.2.2.1, hC.2.2.2.1, (b_andN (hrB B (bW B i) (bE B)) (bits64 _ hn) _ hwt.d64).1, htk]
  have hbit := b_bit (bitsOf (canT B (tD (rp B D m)) (bW B i) (bE B)) (bN B)) (bits64 _ hn) i (by omega)
  rw [bitsOf_bit, decide_eq_true hin, Bool.true_and] at hbit
  cases hci : canT B (tD (rp B D m)) (bW B i) (bE B) i with
  | false =>
    refine noo (fun z => z (hbit.mpr hci)) ?_
    refine s_tellParts 0 1 (by decide) (by decide) (by decide) (fin 0 1 la (by decide) hi ⟨12 ^ pop (bitsOf (fun q => waitF B (rp B D m) q && decide (q ≠ i)) (bN B)), Nat.pow_pos (by decide), ?_, (Nat.one_mul _).symm⟩)
    rw [k2, hci, if_neg (by decide), Nat.zero_mul]
  | true =>
    refine yes (fun z => by rw [hbit.mp z] at hci; cases hci) ?_
    have hlow : nI (bitsOf (canT B (tD (rp B D m)) (bW B i) (bE B)) (bN B)) &&& (((1 : Int32) <<< (nI i &&& 31)) - 1) = nI (bitsOf (canT B (tD (rp B D m)) (bW B i) (bE B)) i) := by
      have h1 := Nat.two_pow_pos i
      rw [b_sh i (by omega), show (2 : Nat) ^ i = (2 ^ i - 1) + 1 by omega, nI_pred, b_and]
      congr 1
      apply Nat.eq_of_testBit_eq
      intro k
      rw [Nat.testBit_and, Nat.testBit_two_pow_sub_one, bitsOf_bit, bitsOf_bit]
      by_cases e : k < i
      · rw [decide_eq_true e, decide_eq_true (show k < bN B by omega)]; simp
      · rw [decide_eq_false e]; simp
    have hcn : cntN (canT B (tD (rp B D m)) (bW B i) (bE B)) i ≤ i := cntN_le _ i
    rw [hlow]
    refine s_bitCount _ (bits64 _ (by omega)) ?_
    rw [pop_bits _ _ (by omega)]
    refine s_power p _ (by omega) (by omega) (s_power 12 _ (by decide) (by omega) ?_)
    have g1 : p ^ cntN (canT B (tD (rp B D m)) (bW B i) (bE B)) i ≤ 12 ^ 6 := Nat.le_trans (Nat.pow_le_pow_left hp _) (Nat.pow_le_pow_right (by decide) (by omega))
    have g2 := pow12 (a := cntN (canT B (tD (rp B D m)) (bW B i) (bE B)) i) (by omega)
    have g3 : (12 : Nat) ^ 6 < 2 ^ 62 := by decide
    refine s_tellParts _ _ (Nat.pow_pos (by decide)) (by omega) (by omega) (fin _ _ la (Nat.pow_pos (by decide)) hi ⟨12 ^ c, Nat.pow_pos (by decide), ?_, ?_⟩)
    · rw [k2, hci, if_pos rfl]
    · rw [← k1, Nat.pow_add]
end ODDS
