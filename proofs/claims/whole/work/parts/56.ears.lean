/-! ears -/
def cO (n : Nat) (x : Int32) : Option Nat := if 0 ≤ x ∧ x < nI n then some x.toNatClampNeg else none
theorem cO_of {n j : Nat} {x : Int32} (hn : n < 1000) (hj : j < n) (e : x = nI j) : cO n x = some j := by
  unfold cO
  rw [e, if_pos ⟨nI_pos' (by omega), nI_lt hj (by omega)⟩, b_cl (by omega)]
theorem cO_no {n : Nat} {x : Int32} (hn : n < 1000) (h : ∀ j : Nat, j < n → x ≠ nI j) : cO n x = none := by
  unfold cO
  rw [if_neg]
  rintro ⟨h1, h2⟩
  rcases b_ix x n (by omega) with ⟨j, hj, e⟩ | ⟨z | z, -⟩
  · exact h j hj e
  · exact absurd h1 (Int32.not_le.mpr z)
  · exact absurd h2 (Int32.not_lt.mpr z)
theorem cO_some {n c : Nat} {x : Int32} (hn : n < 1000) (h : cO n x = some c) : c < n ∧ x = nI c := by
  rcases b_ix x n (by omega) with ⟨j, hj, e⟩ | ⟨-, hno⟩
  · rw [cO_of hn hj e] at h
    have := Option.some.inj h
    subst this
    exact ⟨hj, e⟩
  · rw [cO_no hn hno] at h
    cases h
/-- pairs: a cup that is not met yet, a person or nobody -/
def prP (n : Nat) (g : Nat → Int32) : Nat → Nat → Nat → Bool
  | _, 0, _ => true
  | w, z + 1, met => match cO n (g (2 * w)) with
    | none => false
    | some c => if met.testBit c then false else if (cO n (g (2 * w + 1))).isSome ∨ g (2 * w + 1) = -9 then prP n g (w + 1) z (met ||| 2 ^ c) else false
def whoB (r : Option Nat) : Nat := match r with
  | none => 0
  | some p => 2 ^ p
def wtS (B : tB) (g : Nat → Int32) (e : Nat) : Nat → Nat → Nat → Bool
  | _, 0, _ => true
  | w, z + 1, had => match cO (bN B) (g (2 * w)) with
    | none => false
    | some c => if oI (who B had c e) = g (2 * w + 1) then wtS B g e (w + 1) z (had ||| whoB (who B had c e)) else false
theorem prP_congr {n : Nat} {g g' : Nat → Int32} (z : Nat) : ∀ (w met : Nat), (∀ j, j < 2 * (w + z) → g j = g' j) → prP n g w z met = prP n g' w z met := by
  induction z with
  | zero => intro w met _; rfl
  | succ z ih =>
    intro w met h
    unfold prP
    rw [h (2 * w) (by omega), h (2 * w + 1) (by omega)]
    cases cO n (g' (2 * w)) with
    | none => rfl
    | some c =>
      dsimp only
      rw [ih (w + 1) _ (fun j hj => h j (by omega))]
theorem wtS_congr {B : tB} {e : Nat} {g g' : Nat → Int32} (z : Nat) : ∀ (w had : Nat), (∀ j, j < 2 * (w + z) → g j = g' j) → wtS B g e w z had = wtS B g' e w z had := by
  induction z with
  | zero => intro w met _; rfl
  | succ z ih =>
    intro w met h
    unfold wtS
    rw [h (2 * w) (by omega), h (2 * w + 1) (by omega)]
    cases cO (bN B) (g' (2 * w)) with
    | none => rfl
    | some c =>
      dsimp only
      rw [ih (w + 1) _ (fun j hj => h j (by omega))]
theorem prP_cup {n : Nat} (hn : n < 1000) {g : Nat → Int32} (z : Nat) : ∀ (w met : Nat), prP n g w z met = true → ∀ v, w ≤ v → v < w + z → ∃ c : Nat, c < n ∧ g (2 * v) = nI c := by
  induction z with
  | zero => intro w met _ v h1 h2; omega
  | succ z ih =>
    intro w met h v h1 h2
    unfold prP at h
    cases hc : cO n (g (2 * w)) with
    | none => rw [hc] at h; cases h
    | some c =>
      rw [hc] at h
      dsimp only at h
      split at h
      · cases h
      · split at h
        · by_cases ev : v = w
          · subst ev
            exact ⟨c, cO_some hn hc⟩
          · exact ih (w + 1) _ h v (by omega) (by omega)
        · cases h
theorem b_rem2 {s : Nat} (hs : s < 1000) : nI s - nI s / 2 * 2 = nI (s % 2) := by
  rw [show (2 : Int32) = nI 2 from rfl]
  exact pk_rem (by omega) (by decide) (by decide)
theorem b_p2 (w : Nat) : nI (2 * w) + (2 : Int32) = nI (2 * (w + 1)) := by
  rw [show (2 : Int32) = nI 2 from rfl, nI_add]
  rfl
section EARS
variable {E : mEv} {d : Nat} {mu : fMu} {la : fLa} {Q : Int32 → fMu → fLa → Prop} {B : tB} {T : tT} {D : Nat → Nat × Nat × Nat} {m : Nat}
theorem or64 {a p : Nat} (ha : a < 64) (hp : p < 6) : a ||| 2 ^ p < 64 := Nat.or_lt_two_pow (n := 6) ha (Nat.pow_lt_pow_right (by decide) hp)
theorem s_tells (r t met : Nat) (hn : bN B ≤ 6) (ht : t ≤ 6) (e : mu 3 r 0 = nI (2 * t)) (e0 : mu 1 0 0 = nI (bN B)) (e3 : mu 0 0 3 = nI met) (hm : met < 64) (q : Q (bI (prP (bN B) (mu 21 r) 0 t met)) mu la) : FnI E (d + 1) mi_123 [.inr (.inr (some (6, 0))), .inr (.inr (some (3, r)))] mu la Q := by
  have key : ∀ (z w met : Nat), w + z = t → met < 64 → Q (bI (prP (bN B) (mu 21 r) w z met)) mu la → Ev E (d + 1) mi_123 6 [some (.inr (.inr (some (6, 0)))), some (.inr (.inr (some (3, r)))), some (.inl (nI met)), some (.inl (nI (2 * w))), none, none] [] (mem E mu la) (qI E Q) := by
    intro z
    induction z with
    | zero =>
      intro w met hw hm q
      refine vc_X6_tellsWhoTookWhat_6 0 r _ _ ?_
      rw [e, nI_1]
      exact yes (nI_le (by omega) (by omega)) q
    | succ z ih =>
      intro w met hw hm q
      refine vc_X6_tellsWhoTookWhat_6 0 r _ _ ?_
      rw [e, nI_1, b_cl (by omega), b_cl (by omega), b_p2]
      refine noo (nI_ge (by omega) (by omega)) ⟨b_in rfl (by omega) (by decide), b_in rfl (by omega) (by decide), ?_⟩
      unfold prP at q
      refine s_cHas _ (by omega) e0 (fun c hc ec => noo b_x10 ?_) (fun hno => yes rfl ?_)
      · rw [cO_of (by omega) hc ec] at q
        dsimp only at q
        rw [ec]
        have hb := b_bit met hm c (by omega)
        cases hmb : met.testBit c with
        | true =>
          rw [hmb, if_pos rfl] at q
          exact yes (fun z => by rw [hb.mp z] at hmb; cases hmb) q
        | false =>
          rw [hmb, if_neg (by decide)] at q
          rw [b_sh c (by omega), b_or]
          rw [b_sh c (by omega)] at hb
          refine noo (fun z => z (hb.mpr hmb)) ?_
          refine s_cHas _ (by omega) e0 (fun c2 hc2 ec2 => yes b_x10 ?_) (fun hno => noo (fun z => z rfl) ?_)
          · rw [cO_of (by omega) hc2 ec2, if_pos (Or.inl (show (some c2).isSome = true from rfl))] at q
            exact ih (w + 1) _ (by omega) (or64 hm (by omega)) q
          · rw [cO_no (by omega) hno] at q
            by_cases h9 : mu 21 r (2 * w + 1) = -9
            · rw [if_pos (Or.inr h9)] at q
              exact yes h9 (ih (w + 1) _ (by omega) (or64 hm (by omega)) q)
            · rw [if_neg (fun z => z.elim (fun y => by cases y) h9)] at q
              exact noo h9 q
      · rw [cO_no (by omega) hno] at q
        exact q
  refine vc_X6_tellsWhoTookWhat r ?_
  rw [e3]
  exact key t 0 met (by omega) hm q
theorem s_arePairs (r t met : Nat) (hr : r < 6) (hn : bN B ≤ 6) (ht : t ≤ 6) (e : mu 29 0 r = nI (2 * t)) (e0 : mu 7 0 4 = nI (bN B)) (hw : ∀ i : Nat, i < 6 → mu 38 0 i = tH T i) (hm : madeT (bN B) T = met) (q : Q (bI (prP (bN B) (fun j => mu 30 0 (40 * r + j)) 0 t met)) mu la) : FnI E (d + 2) mi_203 [.inr (.inr (some (7, 0))), .inl (nI r)] mu la Q := by
  have hinr : vp_in (nI r) 6 := b_in rfl hr (by decide)
  have exitF : ∀ (w met : Nat), Q (bI false) mu la → Ev E (d + 2) mi_203 9 [some (.inr (.inr (some (7, 0)))), some (.inl (nI r)), some (.inl (nI met)), some (.inl (0 : Int32)), some (.inl (nI (2 * w))), none, none] [] (mem E mu la) (qI E Q) := by
    intro w met q
    refine vc_X7_arePairs_9 0 _ _ _ _ ⟨hinr, ?_⟩
    exact ⟨fun _ => ⟨Or.inl rfl, q⟩, fun _ => yes rfl ⟨Or.inl rfl, q⟩⟩
  have key : ∀ (z w met : Nat), w + z = t → met < 64 → Q (bI (prP (bN B) (fun j => mu 30 0 (40 * r + j)) w z met)) mu la → Ev E (d + 2) mi_203 9 [some (.inr (.inr (some (7, 0)))), some (.inl (nI r)), some (.inl (nI met)), some (.inl (1 : Int32)), some (.inl (nI (2 * w))), none, none] [] (mem E mu la) (qI E Q) := by
    intro z
    induction z with
    | zero =>
      intro w met hw hm q
      refine vc_X7_arePairs_9 0 _ _ _ _ ⟨hinr, ?_⟩
      rw [b_cl (by omega), e]
      exact yes (nI_le (by omega) (by omega)) ⟨Or.inr rfl, q⟩
    | succ z ih =>
      intro w met hw hm q
      refine vc_X7_arePairs_9 0 _ _ _ _ ⟨hinr, ?_⟩
      rw [b_cl (j := r) (by omega), e, b_40, nI_1, b_cl (by omega), b_cl (by omega), b_p2, b_or0]
      refine noo (nI_ge (by omega) (by omega)) (noo b_x10 ⟨b_in rfl (by omega) (by decide), b_in rfl (by omega) (by decide), ?_⟩)
      unfold prP at q
      rw [show 40 * r + (2 * w + 1) = 40 * r + 2 * w + 1 by omega] at q
      refine s_isCup hn _ e0 (fun c hc ec => noo b_x10 ?_) (fun hno => yes rfl (yes rfl ?_))
      · rw [cO_of (by omega) hc ec] at q
        dsimp only at q
        rw [ec]
        refine s_hasM met c hm (by omega) (bnz (fun hmb => yes rfl ?_) (fun hmb => ?_))
        · rw [hmb, if_pos rfl] at q
          exact exitF _ _ q
        · rw [hmb, if_neg (by decide)] at q
          rw [b_sh c (by omega), b_or]
          by_cases h9 : mu 30 0 (40 * r + 2 * w + 1) = -9
          · rw [if_pos (Or.inr h9)] at q
            exact yes h9 (noo b_x10 (ih (w + 1) _ (by omega) (or64 hm (by omega)) q))
          · refine noo h9 (s_isCup hn _ e0 (fun c2 hc2 ec2 => noo b_x10 (noo b_x10 ?_)) (fun hno => yes rfl (yes rfl ?_)))
            · rw [cO_of (by omega) hc2 ec2, if_pos (Or.inl (show (some c2).isSome = true from rfl))] at q
              exact ih (w + 1) _ (by omega) (or64 hm (by omega)) q
            · rw [cO_no (by omega) hno, if_neg (fun z => z.elim (fun y => by cases y) h9)] at q
              exact exitF _ _ q
      · rw [cO_no (by omega) hno] at q
        exact exitF _ _ q
  refine vc_X7_arePairs _ (s_madeOf (T := T) hk38 (by decide) hn e0 hw ?_)
  rw [hm]
  exact key t 0 met (by omega) (by rw [← hm]; exact bits64 _ hn) q
theorem s_wouldTake (r t e had : Nat) (hB : wB B) (ht : t ≤ 6) (he : e ≤ 9) (es : mu 3 r 0 = nI (2 * t)) (hX : CB B mu) (e4 : mu 0 0 4 = nI had) (hh : had < 64) (q : Q (bI (wtS B (mu 21 r) e 0 t had)) mu la) : FnI E (d + 2) mi_124 [.inr (.inr (some (6, 0))), .inr (.inr (some (3, r))), .inl (nI e)] mu la Q := by
  have hn := hB.1
  have key : ∀ (z w had : Nat), w + z = t → had < 64 → Q (bI (wtS B (mu 21 r) e w z had)) mu la → Ev E (d + 2) mi_124 6 [some (.inr (.inr (some (6, 0)))), some (.inr (.inr (some (3, r)))), some (.inl (nI e)), some (.inl (nI had)), some (.inl (nI (2 * w))), none, none] [] (mem E mu la) (qI E Q) := by
    intro z
    induction z with
    | zero =>
      intro w had hw hh q
      refine vc_X6_wouldTakeSo_6 0 r _ _ _ ?_
      rw [es, nI_1]
      exact yes (nI_le (by omega) (by omega)) q
    | succ z ih =>
      intro w had hw hh q
      refine vc_X6_wouldTakeSo_6 0 r _ _ _ ?_
      rw [es, nI_1, b_cl (by omega), b_p2]
      refine noo (nI_ge (by omega) (by omega)) ⟨b_in rfl (by omega) (by decide), ?_⟩
      unfold wtS at q
      refine s_cHas _ (by omega) hX.1 (fun c hc ec => yes b_x10 ?_) (fun hno => noo (fun z => z rfl) ?_)
      · rw [cO_of (by omega) hc ec] at q
        dsimp only at q
        rw [ec]
        refine ⟨b_in rfl (by omega) (by decide), ?_⟩
        rw [b_cl (by omega), (hX.2.2.2 c hc).2.2.2.2.1]
        refine s_whoHears _ _ hB (hB.2.2 c hc).2.2.2.2.2 he hX.cn ?_
        obtain ⟨g1, g2⟩ := b_andN (hrB B (bW B c) e) (bits64 _ hn) had hh
        rw [g1]
        refine s_firstOf _ g2 ⟨b_in rfl (by omega) (by decide), ?_⟩
        have hw2 : lowB (hrB B (bW B c) e &&& (63 ^^^ had)) = oI (who B had c e) := by
          unfold hrB who
          rw [bits_andN _ hn, low_first _ _ hn]
          congr 1
          refine first_congr (fun p _ _ => ?_)
          unfold canT
          cases decide (bK B p ≠ 3) <;> cases had.testBit p <;> cases alk (bA B p) (bW B c) e <;> rfl
        rw [hw2, b_cl (by omega)]
        by_cases hq : oI (who B had c e) = mu 21 r (2 * w + 1)
        · rw [if_pos hq] at q
          refine yes hq ?_
          cases hwho : who B had c e with
          | none =>
            rw [hwho] at q
            refine s_setOf none (fun p hp => by cases hp) ?_
            rw [b_or]
            exact ih (w + 1) _ (by omega) (by rw [Nat.or_zero]; exact hh) q
          | some p =>
            have hp6 := (who_some hwho).1
            rw [hwho] at q
            refine s_setOf (some p) (fun p' hp => by cases hp; omega) ?_
            rw [b_or]
            exact ih (w + 1) _ (by omega) (or64 hh (by omega)) q
        · rw [if_neg hq] at q
          exact noo hq q
      · rw [cO_no (by omega) hno] at q
        exact q
  refine vc_X6_wouldTakeSo r _ ?_
  rw [e4]
  exact key t 0 had (by omega) hh q
theorem x_ears (r t had : Nat) (hB : wB B) (ht : t ≤ 6) (es : mu 3 r 0 = nI (2 * t)) (hX : CB B mu) (e4 : mu 0 0 4 = nI had) (hh : had < 64) (q : Q (nI (bitsOf (fun e => wtS B (mu 21 r) e 0 t had) 10)) mu la) : Ev E (d + 3) mi_82 46 [some (.inr (.inr (some (6, 0)))), none, some (.inr (.inr (some (3, r)))), some (.inl (0 : Int32)), some (.inl (0 : Int32))] [] (mem E mu la) (qI E Q) := by
  refine lpU (P := fun e => Ev E (d + 3) mi_82 46 [some (.inr (.inr (some (6, 0)))), none, some (.inr (.inr (some (3, r)))), some (.inl (nI (bitsOf (fun e => wtS B (mu 21 r) e 0 t had) e))), some (.inl (nI e))] [] (mem E mu la) (qI E Q)) (n := 10) ?_ ?_ 0 (Nat.zero_le _)
  · exact vc_X6_ears_46 0 r _ _ (yes (nI_lt (a := 9) (b := 10) (by decide) (by decide)) q)
  · intro e he ih
    refine vc_X6_ears_46 0 r _ _ (noo (nI_nlt (a := 9) (by omega) (by decide)) (s_wouldTake r t e had hB ht (by omega) es hX e4 hh ?_))
    unfold bitsOf at ih
    refine bzz (fun h => ?_) (fun h => ?_)
    · rw [← nI_succ]
      simp only [h, Bool.false_eq_true, if_false, Nat.or_zero] at ih
      exact ih
    · rw [← nI_succ, b_sh e (by omega), b_or]
      simp only [h, if_true] at ih
      exact ih
theorem m_ears1 (mu0 : fMu) (r t e : Nat) (hr : r < 6) (hB : wB B) (ht : t ≤ 6) (he : e ≤ 9) (es : mu0 29 0 r = nI (2 * t)) (hM : MB B mu0) (hc : ∀ w : Nat, w < t → ∃ c : Nat, c < bN B ∧ mu0 30 0 (40 * r + 2 * w) = nI c) (v2 : Int32) : ∀ (z w : Nat) (T : tT) (so : Bool) (mu : fMu), w + z = t → tD T < 64 → (tL T = -9 ∨ ∃ j : Nat, j < bN B ∧ tL T = nI j) → Fr (cK 39) mu0 mu → MC 39 0 T mu → (∀ mu' : fMu, Fr (cK 39) mu0 mu' → Ev E (d + 3) mi_204 49 [some (.inr (.inr (some (7, 0)))), some (.inl (nI r)), some (.inl (if (so && wtS B (fun j => mu0 30 0 (40 * r + j)) e w z (tD T)) = true then v2 ||| nI (2 ^ e) else v2)), some (.inl (nI (e + 1))), none, none, none, none] [] (mem E mu' la) (qI E Q)) → Ev E (d + 3) mi_204 58 [some (.inr (.inr (some (7, 0)))), some (.inl (nI r)), some (.inl v2), some (.inl (nI e)), some (.inl (bI so)), some (.inl (nI (2 * w))), none, none] [] (mem E mu la) (qI E Q) := by
  have hn := hB.1
  have hinr : vp_in (nI r) 6 := b_in rfl hr (by decide)
  intro z
  induction z with
  | zero =>
    intro w T so mu hw hD hL g hC q
    refine vc_X7_ears_58 0 _ _ _ _ _ ⟨hinr, ?_⟩
    rw [b_cl (by omega), g 29 0 r rfl, es, b_or0, ← nI_succ, b_sh e (by omega)]
    have q1 := q mu g
    unfold wtS at q1
    refine yes (nI_le (by omega) (by omega)) (bzz (fun h => ?_) (fun h => ?_))
    · rw [h, if_neg (by decide)] at q1
      exact q1
    · rw [h, if_pos (show (true && true) = true from rfl)] at q1
      exact q1
  | succ z ih =>
    intro w T so mu hw hD hL g hC q
    have hM1 := hM.fr (g.le (cK_MB (Or.inr rfl)))
    obtain ⟨c, hcn, ec⟩ := hc w (by omega)
    refine vc_X7_ears_58 0 _ _ _ _ _ ⟨hinr, ?_⟩
    rw [b_cl (j := r) (by omega), g 29 0 r rfl, es, b_40, nI_1 (40 * r + 2 * w), b_cl (j := 40 * r + 2 * w) (by omega), b_cl (j := 40 * r + 2 * w + 1) (by omega), g 30 0 (40 * r + 2 * w) rfl, ec, b_p2, Int32.zero_add, b_cl (j := c) (by omega)]
    have h9 : vp_in (nI c) 9 := b_in rfl (by omega) (by decide)
    have h240 : vp_in (nI (40 * r + 2 * w + 1)) 240 := b_in rfl (by omega) (by decide)
    refine noo (nI_ge (by omega) (by omega)) ⟨b_in rfl (by omega) (by decide), s_makesOn (Or.inr rfl) c e hB hcn he hD hL hM1 hC (fun mu1 f1 c1 => ⟨h9, ?_⟩)⟩
    have g1 := g.tr f1
    rw [g1 30 0 (40 * r + 2 * w + 1) rfl, c1.w (i := c) (by omega), make_at]
    have hD1 : tD (makesT B T c e) = tD T ||| whoB (who B (tD T) c e) := by
      show (match who B (tD T) c e with | none => tD T | some p => tD T ||| 2 ^ p) = _
      cases who B (tD T) c e with
      | none => exact (Nat.or_zero _).symm
      | some p => rfl
    have hD64 : tD (makesT B T c e) < 64 := by
      rw [hD1]
      cases hw : who B (tD T) c e with
      | none => unfold whoB; rw [Nat.or_zero]; exact hD
      | some p => exact or64 hD (by have := (who_some hw).1; omega)
    have stp : ∀ so' : Bool, (so' = (so && decide (oI (who B (tD T) c e) = mu0 30 0 (40 * r + 2 * w + 1)))) → Ev E (d + 3) mi_204 58 [some (.inr (.inr (some (7, 0)))), some (.inl (nI r)), some (.inl v2), some (.inl (nI e)), some (.inl (bI so')), some (.inl (nI (2 * (w + 1)))), none, none] [] (mem E mu1 la) (qI E Q) := by
      intro so' hso
      refine ih (w + 1) (makesT B T c e) so' mu1 (by omega) hD64 (Or.inr ⟨c, hcn, rfl⟩) g1 c1 (fun mu' f' => ?_)
      have hb : (so' && wtS B (fun j => mu0 30 0 (40 * r + j)) e (w + 1) z (tD (makesT B T c e))) = (so && wtS B (fun j => mu0 30 0 (40 * r + j)) e w (z + 1) (tD T)) := by
        have h1 : wtS B (fun j => mu0 30 0 (40 * r + j)) e w (z + 1) (tD T) = (if oI (who B (tD T) c e) = mu0 30 0 (40 * r + 2 * w + 1) then wtS B (fun j => mu0 30 0 (40 * r + j)) e (w + 1) z (tD T ||| whoB (who B (tD T) c e)) else false) := by
          show (match cO (bN B) (mu0 30 0 (40 * r + 2 * w)) with | none => false | some c => if oI (who B (tD T) c e) = mu0 30 0 (40 * r + (2 * w + 1)) then wtS B (fun j => mu0 30 0 (40 * r + j)) e (w + 1) z (tD T ||| whoB (who B (tD T) c e)) else false) = _
          rw [cO_of (j := c) (by omega) hcn ec]
          rfl
        rw [h1, hso, hD1]
        by_cases hq : oI (who B (tD T) c e) = mu0 30 0 (40 * r + 2 * w + 1)
        · rw [if_pos hq, decide_eq_true hq, Bool.and_true]
        · rw [if_neg hq, decide_eq_false hq, Bool.and_false, Bool.false_and]
      rw [hb]
      exact q mu' f'
    have fin : ∀ (x : Int32), x = oI (who B (tD T) c e) → ((bI so = 0 → Ev E (d + 3) mi_204 58 [some (.inr (.inr (some (7, 0)))), some (.inl (nI r)), some (.inl v2), some (.inl (nI e)), some (.inl (0 : Int32)), some (.inl (nI (2 * (w + 1)))), none, none] [] (mem E mu1 la) (qI E Q)) ∧ (¬ (bI so = 0) → (vp_in (nI (40 * r + 2 * w + 1)) 240 ∧ ((¬ x = mu0 30 0 (40 * r + 2 * w + 1) → Ev E (d + 3) mi_204 58 [some (.inr (.inr (some (7, 0)))), some (.inl (nI r)), some (.inl v2), some (.inl (nI e)), some (.inl (0 : Int32)), some (.inl (nI (2 * (w + 1)))), none, none] [] (mem E mu1 la) (qI E Q)) ∧ (¬ (¬ x = mu0 30 0 (40 * r + 2 * w + 1)) → Ev E (d + 3) mi_204 58 [some (.inr (.inr (some (7, 0)))), some (.inl (nI r)), some (.inl v2), some (.inl (nI e)), some (.inl (1 : Int32)), some (.inl (nI (2 * (w + 1)))), none, none] [] (mem E mu1 la) (qI E Q)))))) := by
      rintro x rfl
      refine bzz (fun h => stp false (by rw [h]; rfl)) (fun h => ⟨h240, fun hq => stp false (by rw [decide_eq_false hq, Bool.and_false]), fun hq => stp true ?_⟩)
      rw [h, decide_eq_true (Decidable.not_not.mp hq)]
      rfl
    cases hw : who B (tD T) c e with
    | none => exact noo (fun z => z rfl) (fin (-9) (by rw [hw]; rfl))
    | some p =>
      have := (who_some hw).1
      exact yes (b_p9 p (by omega)).2.1 ⟨h9, fin (nI p) (by rw [hw]; rfl)⟩
theorem m_ears (mu0 : fMu) (r t : Nat) (hr : r < 6) (hB : wB B) (hT : WT B T) (ht : t ≤ 6) (es : mu0 29 0 r = nI (2 * t)) (hM : MB B mu0) (hC : MC 38 0 T mu0) (hc : ∀ w : Nat, w < t → ∃ c : Nat, c < bN B ∧ mu0 30 0 (40 * r + 2 * w) = nI c) : ∀ (z e : Nat) (mu : fMu), e + z = 10 → Fr (cK 39) mu0 mu → (∀ mu' : fMu, Fr (cK 39) mu0 mu' → Q (nI (bitsOf (fun e => wtS B (fun j => mu0 30 0 (40 * r + j)) e 0 t (tD T)) 10)) mu' la) → Ev E (d + 3) mi_204 49 [some (.inr (.inr (some (7, 0)))), some (.inl (nI r)), some (.inl (nI (bitsOf (fun e => wtS B (fun j => mu0 30 0 (40 * r + j)) e 0 t (tD T)) e))), some (.inl (nI e)), none, none, none, none] [] (mem E mu la) (qI E Q) := by
  intro z
  induction z with
  | zero =>
    intro e mu he g q
    have : e = 10 := by omega
    subst this
    exact vc_X7_ears_49 0 _ _ _ (yes (nI_le (a := 10) (Nat.le_refl _) (by decide)) (q mu g))
  | succ z ih =>
    intro e mu he g q
    refine vc_X7_ears_49 0 _ _ _ (noo (nI_ge (b := 10) (by omega) (by decide)) ?_)
    refine s_layAside (hC.fr (g.le (cK_K rfl))) (fun mu1 f1 c1 => ?_)
    refine m_ears1 mu0 r t e hr hB ht (by omega) es hM hc _ t 0 T true mu1 (by omega) hT.d64 hT.2.2.2.2.2 (g.tr f1) c1 (fun mu2 f2 => ?_)
    have h1 := ih (e + 1) mu2 (by omega) f2 q
    unfold bitsOf at h1
    rw [Bool.true_and]
    cases hb : wtS B (fun j => mu0 30 0 (40 * r + j)) e 0 t (tD T) with
    | true =>
      rw [if_pos rfl, b_or]
      simp only [hb, if_true] at h1
      exact h1
    | false =>
      rw [if_neg (by decide)]
      simp only [hb, Bool.false_eq_true, if_false, Nat.or_zero] at h1
      exact h1
theorem p_ears (h : Inv IB mu la) (a : Int32) : Pair IB E (d + 4) mi_82 mi_204 [.inl a] mu la := by
  have hi := h
  obtain ⟨hR, -, -, B, D, m, hd⟩ := h
  have hB := hd.1
  have hn := hd.1.1
  have hwt := hd.wt
  have hX := hd.2.2.1
  have hC := hd.2.2.2.1
  have hM := hd.2.2.2.2.2.1
  have hT := hd.2.2.2.2.2.2.1
  refine vc_X6_ears a (s_rowOf a (fun r hr e => ?_) (fun hno => ?_))
  · subst e
    have hinr : vp_in (nI r) 6 := b_in rfl hr (by decide)
    rw [hX.1]
    refine sz_c (by omega) (fun hz => ?_) (fun hz => ?_)
    · rcases ir_cases hR hr with ⟨e1, e2⟩ | ⟨s, hs, e1, e2, hv⟩
      · rw [e2]
        refine noo b_n1 (s_foundX 1 (by decide) ?_)
        refine vc_X7_ears _ (s_isRow _ (fun _ _ _ => yes b_x10 ?_) (fun hno => absurd rfl (hno r hr)))
        rw [show fdX mu 1 7 0 4 = nI (bN B) from by rw [← hM.1]; unfold fdX up3; simp, b_cl (by omega), show fdX mu 1 29 0 r = -1 from by rw [← e1]; unfold fdX up3; simp]
        exact sz_c (by omega) (fun _ => ⟨hinr, noo b_n1 (s_foundM 1 (by decide) ⟨rfl, hi.fd ibf (by decide)⟩)⟩) (fun z => by omega)
      · rw [e2, b_rem2 (by omega)]
        refine yes (b_np s (by omega)) ?_
        have mm5 : (12 < s ∨ s % 2 = 1) → FnI E (d + 4) mi_204 [.inr (.inr (some (7, 0))), .inl (nI r)] (fdX mu 5) la (fun r2 mu2 la2 => (-3 : Int32) = r2 ∧ Inv IB mu2 la2) := by
          intro hc
          refine vc_X7_ears _ (s_isRow _ (fun _ _ _ => yes b_x10 ?_) (fun hno => absurd rfl (hno r hr)))
          rw [show fdX mu 5 7 0 4 = nI (bN B) from by rw [← hM.1]; unfold fdX up3; simp, b_cl (by omega), show fdX mu 5 29 0 r = nI s from by rw [← e1]; unfold fdX up3; simp, b_rem2 (by omega)]
          refine sz_c (by omega) (fun _ => ⟨hinr, yes (b_np s (by omega)) ⟨hinr, b_x20, pk_eq (s % 2) 1 (fun _ => s_foundM 5 (by decide) ⟨rfl, hi.fd ibf (by decide)⟩) (fun hz => ⟨hinr, pk_le s 12 (fun h12 => by omega) (fun _ => s_foundM 5 (by decide) ⟨rfl, hi.fd ibf (by decide)⟩)⟩)⟩⟩) (fun z => by omega)
        refine pk_lt 12 s (fun h12 => s_foundX 5 (by decide) (mm5 (Or.inl h12))) (fun h12 => ⟨b_x20, pk_eq (s % 2) 0 (fun h2 => ?_) (fun h2 => s_foundX 5 (by decide) (mm5 (Or.inr (by omega))))⟩)
        obtain ⟨t, rfl⟩ : ∃ t, s = 2 * t := ⟨s / 2, by omega⟩
        have ht : t ≤ 6 := by omega
        have hpr : prP (bN B) (fun j => mu 30 0 (40 * r + j)) 0 t (madeT (bN B) (rp B D m)) = prP (bN B) (mu 21 r) 0 t (madeT (bN B) (rp B D m)) := prP_congr t 0 _ (fun j hj => hv j (by omega))
        have mm3 : ∀ (mu1 : fMu) (v : Int32), mu1 7 0 4 = nI (bN B) → mu1 29 0 r = nI (2 * t) → (∀ i : Nat, i < 6 → mu1 38 0 i = tH (rp B D m) i) → (∀ j : Nat, j < 2 * t → mu1 30 0 (40 * r + j) = mu 21 r j) → (prP (bN B) (mu 21 r) 0 t (madeT (bN B) (rp B D m)) = true → Ev E (d + 4) mi_204 49 [some (.inr (.inr (some (7, 0)))), some (.inl (nI r)), some (.inl (0 : Int32)), some (.inl (0 : Int32)), none, none, none, none] [] (mem E mu1 la) (qI E (fun r2 mu2 la2 => v = r2 ∧ Inv IB mu2 la2))) → (prP (bN B) (mu 21 r) 0 t (madeT (bN B) (rp B D m)) = false → v = -3 ∧ Inv IB (fdM mu1 3) la) → FnI E (d + 4) mi_204 [.inr (.inr (some (7, 0))), .inl (nI r)] mu1 la (fun r2 mu2 la2 => v = r2 ∧ Inv IB mu2 la2) := by
          intro mu1 v g4 g29 g38 g30 q1 q0
          refine vc_X7_ears _ (s_isRow _ (fun _ _ _ => yes b_x10 ?_) (fun hno => absurd rfl (hno r hr)))
          rw [g4, b_cl (by omega), g29, b_rem2 (by omega)]
          refine sz_c (by omega) (fun _ => ⟨hinr, yes (b_np _ (by omega)) ⟨hinr, b_x20, pk_eq (2 * t % 2) 1 (fun z => by omega) (fun _ => ⟨hinr, yes (nI_le (b := 12) (by omega) (by decide)) (s_arePairs (T := rp B D m) r t _ hr hn ht g29 g4 g38 rfl ?_)⟩)⟩⟩) (fun z => by omega)
          rw [prP_congr (g' := mu 21 r) t 0 _ (fun j hj => g30 j (by omega))]
          exact bnz q1 (fun h0 => s_foundM 3 (by decide) (q0 h0))
        refine s_tells r t _ hn ht e2 hX.1 hC.2.2.1 (bits64 _ hn) (bnz (fun hp => ?_) (fun hp => s_foundX 3 (by decide) ?_))
        · refine x_ears r t (tD (rp B D m)) hB ht e2 hX hC.2.2.2.1 hwt.d64 ?_
          refine mm3 mu _ hM.1 e1 (fun i h => hT.w h) (fun j hj => hv j hj) (fun _ => ?_) (fun z => by rw [hp] at z; cases z)
          refine m_ears mu r t hr hB hwt ht e1 hM hT (fun w hw => ?_) 10 0 mu rfl Fr.rf (fun mu' f' => ⟨?_, hi.frI (f'.le ck39_I)⟩)
          · obtain ⟨c, h1, h2⟩ := prP_cup (by omega) t 0 _ hp w (Nat.zero_le w) (by omega)
            exact ⟨c, h1, by rw [hv (2 * w) (by omega)]; exact h2⟩
          · congr 1
            refine bits_congr (fun e _ => wtS_congr t 0 _ (fun j hj => (hv j (by omega)).symm))
        · refine mm3 _ _ (by rw [← hM.1]; unfold fdX up3; simp) (by rw [← e1]; unfold fdX up3; simp) (fun i h => ?_) (fun j hj => ?_) (fun z => by rw [hp] at z; cases z) (fun _ => ⟨rfl, hi.fd ibf (by decide)⟩)
          · rw [← hT.w h]; unfold fdX up3; simp
          · rw [← hv j hj]; unfold fdX up3; simp
    · refine vc_X7_ears _ (s_isRow _ (fun _ _ _ => yes b_x10 ?_) (fun hno => absurd rfl (hno r hr)))
      rw [hM.1]
      exact sz_c (by omega) (fun z => by omega) (fun _ => ⟨rfl, hi⟩)
  · exact vc_X7_ears _ (s_isRow _ (fun j hj e => absurd e (hno j hj)) (fun _ => noo (fun z => z rfl) ⟨rfl, hi⟩))
end EARS
