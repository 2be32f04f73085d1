/-! the mean of how many are wrong -/
def moreW (r : Option Nat) (i : Nat) : Nat := match r with
  | none => 0
  | some p => if p = i then 0 else 1
def allM (B : tB) : Nat → Nat → tT → tT
  | _, 0, T => T
  | i, z + 1, T => allM B (i + 1) z (if tH T i = -9 then makesT B T i (bE B) else T)
def wwN (B : tB) (T : tT) (g : Nat) : Nat := pop (wrongT (allM B 0 (bN B) (hadT T g)) (bN B))
def tmX (B : tB) (T : tT) (o p g : Nat) : Nat := if g &&& (63 ^^^ o) = 0 then p ^ pop g * (12 - p) ^ (pop o - pop g) * wwN B T g else 0
def tmM (B : tB) (T : tT) (o p g : Nat) : Nat := if g &&& (63 ^^^ o) = 0 then wwN B T g * waysN (bN B) g o p else 0
section MID
variable {E : mEv} {d : Nat} {mu : fMu} {la : fLa} {B : tB} {T : tT} {D : Nat → Nat × Nat × Nat} {m : Nat}
theorem wrong_make {i e : Nat} (hB : wB B) (h : WT B T) (hi : i < bN B) (h9 : tH T i = -9) : pop (wrongT (makesT B T i e) (bN B)) = pop (wrongT T (bN B)) + moreW (who B (tD T) i e) i := by
  have hn := h.1
  rw [(wt_make hB h hi h9).wrong, h.wrong, pop_bits _ _ hn, pop_bits _ _ hn]
  have hx : ∀ p, p < 6 → wrH (bN B) (makesT B T i e) p = if who B (tD T) i e = some p then decide (i ≠ p) else wrH (bN B) T p := by
    intro p hp
    unfold wrH
    rw [held_make hB h hi h9 hp]
    by_cases hw : who B (tD T) i e = some p
    · rw [if_pos hw, if_pos hw]
    · rw [if_neg hw, if_neg hw]
  cases hw : who B (tD T) i e with
  | none =>
    show _ = _ + 0
    rw [Nat.add_zero]
    exact cntN_congr _ (fun p hp => by rw [hx p (by omega), if_neg (by rw [hw]; simp)])
  | some p =>
    obtain ⟨g1, g2, g3, g4⟩ := who_some hw
    have h0 : wrH (bN B) T p = false := by
      unfold wrH
      cases hh : heldT (bN B) T (nI p) with
      | none => rfl
      | some j =>
        obtain ⟨j1, j2⟩ := (h.held (by omega)).mp hh
        rw [(h.p j1 (by omega) j2).2.2.2] at g3
        cases g3
    unfold moreW
    dsimp only
    by_cases hpi : p = i
    · rw [if_pos hpi, Nat.add_zero]
      refine cntN_congr _ (fun q hq => ?_)
      rw [hx q (by omega), hw]
      by_cases hqp : p = q
      · subst hqp
        rw [if_pos rfl, h0, decide_eq_false (by omega)]
      · rw [if_neg (fun z => hqp (Option.some.inj z))]
    · rw [if_neg hpi]
      have h1 : wrH (bN B) (makesT B T i e) p = true := by
        rw [hx p (by omega), if_pos hw]
        exact decide_eq_true (fun z => hpi z.symm)
      have hc : cntN (fun q => if q < 6 then wrH (bN B) (makesT B T i e) q else wrH (bN B) T q) (bN B) = cntN (wrH (bN B) T) (bN B) + 1 := by
        refine cntN_set (bN B) p g1 h0 ?_ (fun q hq => ?_)
        · rw [if_pos (show p < 6 by omega)]
          exact h1
        · by_cases h6 : q < 6
          · rw [if_pos h6, hx q h6, if_neg (fun z => by rw [hw] at z; exact hq (Option.some.inj z).symm)]
          · rw [if_neg h6]
      rw [← hc]
      exact cntN_congr _ (fun q hq => by rw [if_pos (show q < 6 by omega)])
theorem wt_had (h : WT B T) {g : Nat} (hg : g < 2 ^ bN B) : WT B (hadT T g) := by
  obtain ⟨hn, a1, a2, a3, a4, a5⟩ := h
  refine ⟨hn, fun i hi => ?_, a2, Nat.or_lt_two_pow a3 hg, a4, a5⟩
  rcases a1 i hi with z | ⟨z0, z | z | ⟨p, g1, g2, g3, g4⟩⟩
  · exact Or.inl z
  · exact Or.inr ⟨z0, Or.inl z⟩
  · exact Or.inr ⟨z0, Or.inr (Or.inl z)⟩
  · refine Or.inr ⟨z0, Or.inr (Or.inr ⟨p, g1, g2, g3, ?_⟩)⟩
    show (tD T ||| g).testBit p = true
    rw [Nat.testBit_or, g4]
    rfl
theorem make_ne (B : tB) (T : tT) {i j : Nat} (e : Nat) (h : j ≠ i) : tH (makesT B T i e) j = tH T j := if_neg h
theorem make_D (B : tB) (T : tT) (i e : Nat) : tD (makesT B T i e) = tD T ||| whoB (who B (tD T) i e) := by
  show (match who B (tD T) i e with | none => tD T | some p => tD T ||| 2 ^ p) = _
  cases who B (tD T) i e with
  | none => exact (Nat.or_zero _).symm
  | some p => rfl
theorem x_setOf {Q : Int32 → fMu → fLa → Prop} (r : Option Nat) (hr : ∀ p, r = some p → p < 6) (q : Q (nI (whoB r)) mu la) : FnI E d mi_104 [.inl (oI r)] mu la Q := by
  cases r with
  | none => exact s_setOf none hr q
  | some p => exact s_setOf (some p) hr q
theorem s_wrongWithout {Q : Int32 → fMu → fLa → Prop} (g : Nat) (hg : g < 2 ^ bN B) (hB : wB B) (hT : WT B T) (hX : CB B mu) (hC : CC B 0 T mu) (q : Q (nI (wwN B T g)) mu la) : FnI E (d + 3) mi_127 [.inr (.inr (some (6, 0))), .inl (nI g)] mu la Q := by
  have hn := hB.1
  have key : ∀ (z i : Nat) (T' : tT), i + z = bN B → WT B T' → (∀ j, i ≤ j → tH T' j = tH T j) → Q (nI (pop (wrongT (allM B i z T') (bN B)))) mu la → Ev E (d + 3) mi_127 12 [some (.inr (.inr (some (6, 0)))), none, some (.inl (nI (tD T'))), some (.inl (nI (pop (wrongT T' (bN B))))), some (.inl (nI i)), none] [] (mem E mu la) (qI E Q) := by
    intro z
    induction z with
    | zero =>
      intro i T' hi hT' hs q
      refine vc_X6_wrongWithout_12 0 _ _ _ ?_
      rw [hX.1]
      exact yes (nI_le (by omega) (by omega)) q
    | succ z ih =>
      intro i T' hi hT' hs q
      refine vc_X6_wrongWithout_12 0 _ _ _ ?_
      rw [hX.1, ← nI_succ, b_a0, ← nI_succ]
      unfold allM at q
      refine noo (nI_ge (by omega) (by omega)) (s_cMade (T := T) i hn (by omega) hC.2.2.1 (bnz (fun h9 => ?_) (fun h9 => ?_)))
      · have h9' : ¬ tH T' i = -9 := by rw [hs i (Nat.le_refl i)]; exact of_decide_eq_true h9
        rw [if_neg h9'] at q
        exact ih (i + 1) T' (by omega) hT' (fun j hj => hs j (by omega)) q
      · have h9' : tH T' i = -9 := by rw [hs i (Nat.le_refl i)]; simpa using h9
        rw [if_pos h9'] at q
        have hlt : ∀ p, who B (tD T') i (bE B) = some p → p < 6 := fun p hp => by have := (who_some hp).1; omega
        refine s_taker i _ hB (by omega) hT'.d64 (hX.2.2.2 i (by omega)).2.2.2.2.2.1 (x_setOf _ hlt ?_)
        have h1 := ih (i + 1) (makesT B T' i (bE B)) (by omega) (wt_make hB hT' (by omega) h9') (fun j hj => by rw [make_ne B T' _ (show j ≠ i by omega)]; exact hs j (by omega)) q
        rw [wrong_make hB hT' (by omega) h9', make_D] at h1
        rw [b_or]
        cases hw : who B (tD T') i (bE B) with
        | none =>
          rw [hw] at h1
          exact yes rfl h1
        | some p =>
          rw [hw] at h1
          have hp := hlt p hw
          refine noo (b_p9 p hp).1 (pk_eq p i (fun e => ?_) (fun e => ?_))
          · rw [show moreW (some p) i = 0 from if_pos e, Nat.add_zero] at h1
            exact h1
          · rw [show moreW (some p) i = 1 from if_neg e] at h1
            exact h1
  refine vc_X6_wrongWithout _ (s_howManyWrong hT hX.1 hC ?_)
  rw [hC.2.2.2.1, b_or]
  have hw : wrongT (hadT T g) (bN B) = wrongT T (bN B) := by
    have : ∀ n, wrongT (hadT T g) n = wrongT T n := by
      intro n
      induction n with
      | zero => rfl
      | succ n ih =>
        unfold wrongT
        rw [ih]
        rfl
    exact this _
  have h1 := key (bN B) 0 (hadT T g) (by omega) (wt_had hT hg) (fun j _ => rfl) q
  rw [hw] at h1
  exact h1
theorem x_mid {Q : Int32 → fMu → fLa → Prop} (p o : Nat) (hB : wB B) (hT : WT B T) (hp : p ≤ 12) (ho : o < 2 ^ bN B) (hX : CB B mu) (hC : CC B 0 T mu) : ∀ (z g : Nat), g + z = 64 → FnV E (d + 3) mi_99 [.inr (.inr (some (6, 0))), .inr (.inl (lN (sumN (tmX B T o p) 64))), .inr (.inl (lN (12 ^ pop o)))] mu la (fun mu8 la9 => Q 1 mu8 la9) → Ev E (d + 4) mi_86 30 [some (.inr (.inr (some (6, 0)))), some (.inl (nI p)), some (.inl (nI o)), some (.inl (nI (pop o))), some (.inr (.inl (lN (sumN (tmX B T o p) g)))), none, some (.inl (nI g)), none] [] (mem E mu la) (qI E Q) := by
  have hn := hB.1
  have ho64 : o < 64 := Nat.lt_of_lt_of_le ho (Nat.pow_le_pow_right (n := 2) (by decide) hn)
  have hpo := pop_le o ho64
  intro z
  induction z with
  | zero =>
    intro g hg q
    have : g = 64 := by omega
    subst this
    exact vc_X6_mid_30 0 _ _ _ _ _ (yes (nI_le (a := 64) (Nat.le_refl _) (by decide)) (s_power 12 _ (by decide) (by omega) q))
  | succ z ih =>
    intro g hg q
    have hg64 : g < 64 := by omega
    refine vc_X6_mid_30 0 _ _ _ _ _ ?_
    rw [(b_andN g hg64 o ho64).1, ← nI_succ]
    have h0 : g &&& (63 ^^^ o) < 64 := (b_andN g hg64 o ho64).2
    have h1 := ih (g + 1) (by omega) q
    have h2 : sumN (tmX B T o p) (g + 1) = sumN (tmX B T o p) g + tmX B T o p g := rfl
    rw [h2] at h1
    unfold tmX at h1
    refine noo (nI_ge (b := 64) (by omega) (by decide)) ?_
    by_cases hs : g &&& (63 ^^^ o) = 0
    · rw [if_pos hs] at h1
      refine noo (fun y => y (by rw [hs]; rfl)) ?_
      have hsub := (sub_bits hg64).mp hs
      have hgn : g < 2 ^ bN B := by
        have : g = bitsOf g.testBit (bN B) := by
          apply Nat.eq_of_testBit_eq
          intro k
          rw [bitsOf_bit]
          by_cases hk : k < bN B
          · rw [decide_eq_true hk, Bool.true_and]
          · rw [decide_eq_false hk, Bool.false_and]
            cases hgk : g.testBit k with
            | false => rfl
            | true =>
              have := hsub k hgk
              rw [Nat.testBit_lt_two_pow (Nat.lt_of_lt_of_le ho (Nat.pow_le_pow_right (by decide) (by omega)))] at this
              cases this
        rw [this]
        exact bitsOf_lt _ _
      have hle : pop g ≤ pop o := by
        rw [← bits_self hgn, ← bits_self ho, pop_bits _ _ hn, pop_bits _ _ hn, cnt_split g.testBit o.testBit (bN B) (fun k _ h => hsub k h)]
        omega
      have hpg := pop_le g hg64
      refine s_bitCount g hg64 (s_power p _ (by omega) (by omega) ?_)
      rw [show (12 : Int32) = nI 12 from rfl, pk_sub hp, pk_sub hle]
      refine s_power _ _ (by omega) (by omega) (s_wrongWithout g hgn hB hT hX hC ?_)
      have hww : wwN B T g < 2 ^ 31 := by
        have := pop_le (wrongT (allM B 0 (bN B) (hadT T g)) (bN B)) (wrongT_lt _)
        unfold wwN
        omega
      rw [nI_l hww, lN_mul, lN_mul, lN_add]
      exact h1
    · rw [if_neg hs, Nat.add_zero] at h1
      exact yes (fun y => hs ((nI_eq (b := 0) (by omega) (by decide)).mp y)) h1
theorem m_mid1 {Q : Int32 → fMu → fLa → Prop} (mu0 : fMu) (p o g s : Nat) (hB : wB B) (hp : p ≤ 12) (ho : o < 64) (hg : g < 64) (hM : MB B mu0) : ∀ (z i : Nat) (T' : tT) (mu : fMu), i + z = bN B → WT B T' → Fr (cK 39) mu0 mu → MC 39 0 T' mu → (∀ mu' : fMu, Fr (cK 39) mu0 mu' → Ev E (d + 4) mi_215 20 [some (.inr (.inr (some (7, 0)))), some (.inl (nI p)), some (.inl (nI o)), some (.inr (.inl (lN (s + pop (wrongT (allM B i z T') (bN B)) * waysN (bN B) g o p)))), none, some (.inl (nI (g + 1))), none] [] (mem E mu' la) (qI E Q)) → Ev E (d + 4) mi_215 44 [some (.inr (.inr (some (7, 0)))), some (.inl (nI p)), some (.inl (nI o)), some (.inr (.inl (lN s))), none, some (.inl (nI g)), some (.inl (nI i))] [] (mem E mu la) (qI E Q) := by
  have hn := hB.1
  intro z
  induction z with
  | zero =>
    intro i T' mu hi hT' f hC q
    have hM1 := hM.fr (f.le (cK_MB (Or.inr rfl)))
    refine vc_X7_mid_44 0 _ _ _ _ _ ?_
    rw [hM1.1]
    refine yes (nI_le (by omega) (by omega)) (s_wrongOf (T := T') hk39 (by decide) hn hM1.1 (fun j h => hC.w h) (s_bits _ (wrongT_lt _) (s_waysOf g o p hg ho hp hn hM1.1 ?_)))
    have hpl := pop_le (wrongT T' (bN B)) (wrongT_lt _)
    rw [nI_l (by omega), lN_mul, lN_add, ← nI_succ]
    exact q mu f
  | succ z ih =>
    intro i T' mu hi hT' f hC q
    have hM1 := hM.fr (f.le (cK_MB (Or.inr rfl)))
    refine vc_X7_mid_44 0 _ _ _ _ _ ?_
    rw [hM1.1]
    unfold allM at q
    refine noo (nI_ge (by omega) (by omega)) (s_isMadeM hk39 (by decide) i (by omega) (hC.w (by omega)) (bnz (fun h9 => ?_) (fun h9 => ?_)))
    · have h9' : ¬ tH T' i = -9 := of_decide_eq_true h9
      rw [if_neg h9'] at q
      rw [← nI_succ]
      exact ih (i + 1) T' mu (by omega) hT' f hC q
    · have h9' : tH T' i = -9 := by simpa using h9
      rw [if_pos h9'] at q
      rw [hM1.2.1]
      refine s_makesOn (Or.inr rfl) i (bE B) hB (by omega) hB.2.1 hT'.d64 hT'.2.2.2.2.2 hM1 hC (fun mu1 f1 c1 => ?_)
      rw [← nI_succ]
      exact ih (i + 1) _ mu1 (by omega) (wt_make hB hT' (by omega) h9') (f.tr f1) c1 q
theorem m_mid {Q : Int32 → fMu → fLa → Prop} (mu0 : fMu) (p o : Nat) (hB : wB B) (hT : WT B T) (hp : p ≤ 12) (ho : o < 64) (hM : MB B mu0) (hC : MC 38 0 T mu0) : ∀ (z g : Nat) (mu : fMu), g + z = 2 ^ bN B → Fr (cK 39) mu0 mu → (∀ mu' : fMu, Fr (cK 39) mu0 mu' → FnI E (d + 3) mi_192 [.inr (.inr (some (7, 0))), .inr (.inl (lN (sumN (tmM B T o p) (2 ^ bN B)))), .inr (.inl (lN (12 ^ pop o)))] mu' la Q) → Ev E (d + 4) mi_215 20 [some (.inr (.inr (some (7, 0)))), some (.inl (nI p)), some (.inl (nI o)), some (.inr (.inl (lN (sumN (tmM B T o p) g)))), none, some (.inl (nI g)), none] [] (mem E mu la) (qI E Q) := by
  have hn := hB.1
  have h64 : 2 ^ bN B ≤ 64 := Nat.pow_le_pow_right (n := 2) (by decide) hn
  intro z
  induction z with
  | zero =>
    intro g mu hg f q
    refine vc_X7_mid_20 0 _ _ _ _ ?_
    rw [f 7 0 4 rfl, hM.1, b_sh _ (by omega)]
    have : g = 2 ^ bN B := by omega
    subst this
    have := pop_le o ho
    exact yes (nI_le (Nat.le_refl _) (by omega)) (s_bits _ ho (s_twelves _ (by omega) (q mu f)))
  | succ z ih =>
    intro g mu hg f q
    refine vc_X7_mid_20 0 _ _ _ _ ?_
    rw [f 7 0 4 rfl, hM.1, b_sh _ (by omega), (b_andN g (by omega) o ho).1, show (7 : Int32).toNatClampNeg = 7 from rfl]
    have h0 : g &&& (63 ^^^ o) < 64 := (b_andN g (by omega) o ho).2
    have h2 : sumN (tmM B T o p) (g + 1) = sumN (tmM B T o p) g + tmM B T o p g := rfl
    refine noo (nI_ge (by omega) (by omega)) ?_
    by_cases hs : g &&& (63 ^^^ o) = 0
    · refine noo (fun y => y (by rw [hs]; rfl)) ?_
      refine s_layAside (hC.fr (f.le (cK_K rfl))) (fun mu1 f1 c1 => ⟨b_in (j := 7) rfl (by decide) (by decide), b_in (j := 7) rfl (by decide) (by decide), ?_⟩)
      rintro mu2 rfl
      have e7 : mu1 39 0 7 = nI (tD T) := c1.2.2.1
      have c2 := c1.had (g := g) (v := mu1 39 0 7 ||| nI g) (by rw [e7, b_or])
      have f2 : Fr (cK 39) mu0 (up3 mu1 39 0 7 (mu1 39 0 7 ||| nI g)) := (f.tr f1).u3 rfl
      refine m_mid1 mu0 p o g _ hB hp ho (by omega) hM (bN B) 0 (hadT T g) _ (by omega) (wt_had hT (by omega)) f2 c2 (fun mu' f' => ?_)
      have h1 := ih (g + 1) mu' (by omega) f' q
      rw [h2] at h1
      unfold tmM at h1
      rw [if_pos hs] at h1
      exact h1
    · have h1 := ih (g + 1) mu (by omega) f q
      rw [h2] at h1
      unfold tmM at h1
      rw [if_neg hs, Nat.add_zero, nI_succ] at h1
      exact yes (fun y => hs ((nI_eq (b := 0) (by omega) (by decide)).mp y)) h1
theorem mid_same (p o : Nat) (hn : bN B ≤ 6) (ho : o < 2 ^ bN B) : sumN (tmX B T o p) 64 = sumN (tmM B T o p) (2 ^ bN B) := by
  have h64 : 2 ^ bN B ≤ 64 := Nat.pow_le_pow_right (n := 2) (by decide) hn
  have hz : sumN (fun g => tmX B T o p (2 ^ bN B + g)) (64 - 2 ^ bN B) = 0 := by
    have h1 := sumN_le (f := fun g => tmX B T o p (2 ^ bN B + g)) (M := 0) (64 - 2 ^ bN B) (fun g hg => ?_)
    · rw [Nat.mul_zero] at h1
      omega
    · unfold tmX
      rw [if_neg (fun hs => ?_)]
      · exact Nat.le_refl 0
      · have hsub := (sub_bits (show 2 ^ bN B + g < 64 by omega)).mp hs
        have : 2 ^ bN B + g = bitsOf (2 ^ bN B + g).testBit (bN B) := by
          apply Nat.eq_of_testBit_eq
          intro k
          rw [bitsOf_bit]
          by_cases hk : k < bN B
          · rw [decide_eq_true hk, Bool.true_and]
          · rw [decide_eq_false hk, Bool.false_and]
            cases hgk : (2 ^ bN B + g).testBit k with
            | false => rfl
            | true =>
              have := hsub k hgk
              rw [Nat.testBit_lt_two_pow (Nat.lt_of_lt_of_le ho (Nat.pow_le_pow_right (by decide) (by omega)))] at this
              cases this
        have := bitsOf_lt (2 ^ bN B + g).testBit (bN B)
        omega
  rw [show (64 : Nat) = 2 ^ bN B + (64 - 2 ^ bN B) by omega, sumN_add, hz, Nat.add_zero]
  refine sumN_congr _ (fun g hg => ?_)
  unfold tmX tmM
  by_cases hs : g &&& (63 ^^^ o) = 0
  · rw [if_pos hs, if_pos hs, Nat.mul_comm]
    congr 1
    have hsub := (sub_bits (show g < 64 by omega)).mp hs
    have h1 : waysN (bN B) g o p = prodN (fun k => if g.testBit k then p else if o.testBit k then 12 - p else 1) (bN B) := by
      refine prodN_congr _ (fun k hk => ?_)
      cases hgk : g.testBit k with
      | true => rw [hsub k hgk]; rfl
      | false =>
        cases o.testBit k <;> rfl
    have h2 := cnt_split g.testBit o.testBit (bN B) (fun k _ h => hsub k h)
    have e1 : pop g = cntN g.testBit (bN B) := by
      have := pop_bits g.testBit (bN B) hn
      rwa [bits_self hg] at this
    have e2 : pop o = cntN o.testBit (bN B) := by
      have := pop_bits o.testBit (bN B) hn
      rwa [bits_self ho] at this
    rw [h1, prod_pow g.testBit o.testBit p (12 - p) (bN B), e1, e2, h2]
    congr 2
    omega
  · rw [if_neg hs, if_neg hs]
theorem p_mid (h : Inv IB mu la) (a : Int32) : Pair IB E (d + 4) mi_86 mi_215 [.inl a] mu la := by
  have hi := h
  obtain ⟨-, -, -, B, D, m, hd⟩ := h
  have hB := hd.1
  have hn := hd.1.1
  have hwt := hd.wt
  have hX := hd.2.2.1
  have hC := hd.2.2.2.1
  have hM := hd.2.2.2.2.2.1
  have hT := hd.2.2.2.2.2.2.1
  refine vc_X6_mid a (b_span a 0 12 (by decide) (by decide) (fun p _ hp e => ?_) (fun hno => vc_X7_mid _ (s_inS _ 0 12 (by decide) (by decide) (fun j h1 h2 e => absurd e (hno j h1 h2)) (fun _ => noo (fun z => z rfl) ⟨rfl, hi⟩))))
  subst e
  have hwf : thB B &&& (63 ^^^ tD (rp B D m)) = bitsOf (waitF B (rp B D m)) (bN B) := by
    unfold thB
    rw [bits_andN _ hn]
    exact bits_congr (fun q _ => rfl)
  have ho := bitsOf_lt (waitF B (rp B D m)) (bN B)
  have ho64 : bitsOf (waitF B (rp B D m)) (bN B) < 64 := bits64 _ hn
  have hpo := pop_le _ ho64
  rw [hX.1, hX.2.2.1, hC.2.2.2.1, (b_andN (thB B) (bits64 _ hn) _ hwt.d64).1, hwf]
  refine sz_c (by omega) (fun hz => ?_) (fun hz => ?_)
  · refine s_bitCount _ ho64 (x_mid p _ hB hwt hp ho hX hC 64 0 rfl ?_)
    have hb12 := pow12 hpo
    have hle : sumN (tmX B (rp B D m) (bitsOf (waitF B (rp B D m)) (bN B)) p) 64 < 2 ^ 62 := by
      have h1 := sumN_le (f := tmX B (rp B D m) (bitsOf (waitF B (rp B D m)) (bN B)) p) (M := 12 ^ 6 * 12 ^ 6 * 6) 64 (fun g hg => ?_)
      · have h2 : 64 * ((12 : Nat) ^ 6 * 12 ^ 6 * 6) < 2 ^ 62 := by decide
        omega
      · unfold tmX
        split
        · have g0 := pop_le g (by omega)
          have g1 : p ^ pop g ≤ 12 ^ 6 := Nat.le_trans (Nat.pow_le_pow_left hp _) (Nat.pow_le_pow_right (by decide) g0)
          have g2 : (12 - p) ^ (pop (bitsOf (waitF B (rp B D m)) (bN B)) - pop g) ≤ 12 ^ 6 := Nat.le_trans (Nat.pow_le_pow_left (show 12 - p ≤ 12 by omega) _) (Nat.pow_le_pow_right (by decide) (by omega))
          have g3 : wwN B (rp B D m) g ≤ 6 := pop_le _ (wrongT_lt _)
          exact Nat.mul_le_mul (Nat.mul_le_mul g1 g2) g3
        · exact Nat.zero_le _
    refine s_tellParts _ _ (Nat.pow_pos (by decide)) hle (by omega) ?_
    refine vc_X7_mid _ (s_inS _ 0 12 (by decide) (by decide) (fun j _ _ _ => yes b_x10 ?_) (fun hno => absurd rfl (hno p (Nat.zero_le p) hp)))
    rw [hM.1]
    refine sz_c (by omega) (fun _ => ?_) (fun z => by omega)
    refine s_waiting hB hwt hM hT.2.2.1 ?_
    refine m_mid mu p _ hB hwt hp ho64 hM hT (2 ^ bN B) 0 mu (by omega) Fr.rf (fun mu' f' => ?_)
    rw [mid_same p _ hn ho] at hle ⊢
    exact s_fraction _ _ (Nat.pow_pos (by decide)) hle (by omega) ⟨rfl, (hi.frI (f'.le ck39_I)).parts _ _⟩
  · refine vc_X7_mid _ (s_inS _ 0 12 (by decide) (by decide) (fun j _ _ _ => yes b_x10 ?_) (fun hno => absurd rfl (hno p (Nat.zero_le p) hp)))
    rw [hM.1]
    exact sz_c (by omega) (fun z => by omega) (fun _ => ⟨rfl, hi⟩)
end MID
