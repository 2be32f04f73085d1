/-! what an order is worth -/
def runL (B : tB) : tT → List Nat → tT
  | T, [] => T
  | T, i :: l => runL B (makesT B T i (bE B)) l
def vlG (B : tB) (st : tT → Nat → Nat → Nat) : tT → Nat → List Nat → Nat
  | _, v, [] => v
  | T, v, i :: l => vlG B st (makesT B T i (bE B)) (st T v i) l
def stpT (B : tB) (s : Bool) (T : tT) (v i : Nat) : Nat := if bK B i = 3 then v else if s then v + tI (makesT B T i (bE B)) else tI (makesT B T i (bE B))
def stpW (B : tB) (T : tT) (v i : Nat) : Nat := v + moreW (who B (tD T) i (bE B)) i
def worthN (w : Nat) (B : tB) (T : tT) (l : List Nat) : Nat := if w = 0 then vlG B (stpT B true) T 0 l else if w = 1 then vlG B (stpT B false) T (tI T) l else pop (wrongT (runL B T l) (bN B))
/-- the best so far: how good, which -/
def updA (a : Option (Nat × List Nat)) (v : Nat) (l : List Nat) : Option (Nat × List Nat) := match a with
  | none => some (v, l)
  | some x => if v < x.1 then some (v, l) else some x
def fldA (val : List Nat → Nat) (pre : List Nat) : List (List Nat) → Option (Nat × List Nat) → Option (Nat × List Nat)
  | [], a => a
  | l :: r, a => fldA val pre r (updA a (val l) (pre ++ l))
theorem fldA_app (val : List Nat → Nat) (pre : List Nat) (x y : List (List Nat)) : ∀ a, fldA val pre (x ++ y) a = fldA val pre y (fldA val pre x a) := by
  induction x with
  | nil => intro a; rfl
  | cons l x ih => intro a; exact ih _
theorem fldA_congr {val val' : List Nat → Nat} (pre : List Nat) (x : List (List Nat)) : ∀ a, (∀ l ∈ x, val l = val' l) → fldA val pre x a = fldA val' pre x a := by
  induction x with
  | nil => intro a _; rfl
  | cons l x ih =>
    intro a h
    unfold fldA
    rw [h l List.mem_cons_self, ih _ (fun l' hl => h l' (List.mem_cons_of_mem _ hl))]
section WORTH
variable {E : mEv} {d : Nat} {mu : fMu} {la : fLa} {B : tB} {T : tT} {D : Nat → Nat × Nat × Nat} {m : Nat}
def okTT (B : tB) (T : tT) : Prop := tD T < 64 ∧ (tL T = -9 ∨ ∃ j : Nat, j < bN B ∧ tL T = nI j)
theorem WT.okk (h : WT B T) : okTT B T := ⟨h.d64, h.2.2.2.2.2⟩
theorem ok_make (hn : bN B ≤ 6) (h : okTT B T) {i : Nat} (hi : i < bN B) (e : Nat) : okTT B (makesT B T i e) := by
  refine ⟨?_, Or.inr ⟨i, hi, rfl⟩⟩
  rw [make_D]
  cases hw : who B (tD T) i e with
  | none => unfold whoB; rw [Nat.or_zero]; exact h.1
  | some p => exact or64 h.1 (by have := (who_some hw).1; omega)
theorem s_worth {Q : Int32 → fMu → fLa → Prop} (w : Nat) (l : List Nat) (hw : w ≤ 2) (hB : wB B) (hT : okTT B T) (hl : l.length ≤ 6) (he : ∀ i ∈ l, i < bN B) (hM : MB B mu) (hC : MC 38 0 T mu) (hO : OR l mu) (q : ∀ mu' : fMu, Fr (cK 39) mu mu' → Q (nI (worthN w B T l)) mu' la) : FnI E (d + 3) mi_187 [.inr (.inr (some (7, 0))), .inl (nI w)] mu la Q := by
  have hn := hB.1
  have e6 : (6 : Int32).toNatClampNeg = 6 := rfl
  have hin6 : vp_in (6 : Int32) 9 := b_in (j := 6) rfl (by decide) (by decide)
  have key : ∀ (l2 l1 : List Nat) (T' : tT) (s t : Nat) (mu' : fMu), l = l1 ++ l2 → okTT B T' → Fr (cK 39) mu mu' → MC 39 0 T' mu' → (∀ mu'' : fMu, Fr (cK 39) mu mu'' → Q (nI (if w = 0 then vlG B (stpT B true) T' s l2 else if w = 1 then vlG B (stpT B false) T' t l2 else pop (wrongT (runL B T' l2) (bN B)))) mu'' la) → Ev E (d + 3) mi_187 11 [some (.inr (.inr (some (7, 0)))), some (.inl (nI w)), some (.inl (nI s)), some (.inl (nI t)), some (.inl (nI l1.length)), none] [] (mem E mu' la) (qI E Q) := by
    intro l2
    induction l2 with
    | nil =>
      intro l1 T' s t mu' el hT' f hC' q
      rw [List.append_nil] at el
      subst el
      have hM1 := hM.fr (f.le (cK_MB (Or.inr rfl)))
      refine vc_X7_worth_11 0 _ _ _ _ ?_
      rw [f 7 0 29 rfl, hO.1]
      refine yes (nI_le (Nat.le_refl _) (by omega)) ?_
      have q2 := q mu' f
      have hc : w = 0 ∨ w = 1 ∨ w = 2 := by omega
      rcases hc with rfl | rfl | rfl
      · exact noo (fun z => z rfl) q2
      · exact yes (by decide) (noo (fun z => z rfl) q2)
      · exact yes (by decide) (yes (by decide) (s_wrongOf (T := T') hk39 (by decide) hn hM1.1 (fun j h => hC'.w h) (s_bits _ (wrongT_lt _) q2)))
    | cons i l2 ih =>
      intro l1 T' s t mu' el hT' f hC' q
      have hM1 := hM.fr (f.le (cK_MB (Or.inr rfl)))
      have hlen : l.length = l1.length + (l2.length + 1) := by rw [el, List.length_append]; rfl
      have hi : i < bN B := he i (by rw [el]; exact List.mem_append_right _ List.mem_cons_self)
      have ho : mu 45 0 l1.length = nI i := by
        rw [hO.2 l1.length (by omega), el, gtD_app2]
      refine vc_X7_worth_11 0 _ _ _ _ ?_
      rw [f 7 0 29 rfl, hO.1, b_cl (by omega), f 45 0 _ rfl, ho, hM1.2.1, e6]
      refine noo (nI_ge (by omega) (by omega)) ⟨b_in rfl (by omega) (by decide), s_makesOn (Or.inr rfl) i (bE B) hB hi hB.2.1 hT'.1 hT'.2 hM1 hC' (fun mu1 f1 c1 => ⟨b_in rfl (by omega) (by decide), ?_⟩)⟩
      have g1 := f.tr f1
      have hM2 := hM.fr (g1.le (cK_MB (Or.inr rfl)))
      rw [g1 45 0 _ rfl, ho]
      have nxt : ∀ (s' t' : Nat), s' = stpT B true T' s i → t' = stpT B false T' t i → Ev E (d + 3) mi_187 11 [some (.inr (.inr (some (7, 0)))), some (.inl (nI w)), some (.inl (nI s')), some (.inl (nI t')), some (.inl (nI (l1.length + 1))), none] [] (mem E mu1 la) (qI E Q) := by
        rintro s' t' rfl rfl
        have h1 := ih (l1 ++ [i]) (makesT B T' i (bE B)) (stpT B true T' s i) (stpT B false T' t i) mu1 (by rw [List.append_assoc]; exact el) (ok_make hn hT' hi _) g1 c1 q
        rw [List.length_append] at h1
        exact h1
      refine s_mThere i hB hi hM2 ?_
      rw [show mu1 39 0 6 = nI (tI (makesT B T' i (bE B))) from c1.2.1, b_a0, ← nI_succ, nI_add]
      by_cases h3 : bK B i = 3
      · rw [decide_eq_false (by simp [h3])]
        refine yes rfl (yes rfl (nxt s t ?_ ?_))
        · exact (if_pos h3).symm
        · exact (if_pos h3).symm
      · rw [decide_eq_true h3]
        refine noo b_x10 ⟨hin6, noo b_x10 ⟨hin6, nxt _ _ ?_ ?_⟩⟩
        · exact (if_neg h3).symm
        · exact (if_neg h3).symm
  refine vc_X7_worth _ (s_layAside hC (fun mu1 f1 c1 => ⟨hin6, ?_⟩))
  rw [e6, f1 38 0 6 rfl, show mu 38 0 6 = nI (tI T) from hC.2.1]
  exact key l [] T 0 (tI T) mu1 rfl hT f1 c1 q
theorem tI_make (hB : wB B) {i : Nat} (hi : i < bN B) (e : Nat) : tI T ≤ tI (makesT B T i e) ∧ tI (makesT B T i e) ≤ tI T + 18 := by
  have h : tI (makesT B T i e) = tI T + takesO B T i := rfl
  have := tO_le (T := T) hB hi
  omega
theorem vl_le (hB : wB B) (s : Bool) : ∀ (l : List Nat) (T : tT) (v : Nat), (∀ i ∈ l, i < bN B) → tI T + 18 * l.length ≤ 300 → vlG B (stpT B s) T v l ≤ v + 300 * l.length := by
  intro l
  induction l with
  | nil => intro T v _ _; exact Nat.le_refl _
  | cons i l ih =>
    intro T v hl ht
    have hi := hl i List.mem_cons_self
    have h1 := (tI_make (T := T) hB hi (bE B)).2
    have hlen : (i :: l).length = l.length + 1 := rfl
    rw [hlen] at ht ⊢
    have h2 := ih (makesT B T i (bE B)) (stpT B s T v i) (fun j hj => hl j (List.mem_cons_of_mem _ hj)) (by omega)
    have h3 : stpT B s T v i ≤ v + 300 := by
      unfold stpT
      split
      · omega
      · split <;> omega
    show vlG B (stpT B s) (makesT B T i (bE B)) (stpT B s T v i) l ≤ _
    omega
theorem worth_lt (hB : wB B) (hT : tI T ≤ 108) {w : Nat} {l : List Nat} (hl : l.length ≤ 6) (he : ∀ i ∈ l, i < bN B) : worthN w B T l < 10000 := by
  unfold worthN
  split
  · have := vl_le hB true l T 0 he (by omega)
    omega
  · split
    · have := vl_le hB false l T (tI T) he (by omega)
      omega
    · have := pop_le (wrongT (runL B T l) (bN B)) (wrongT_lt _)
      omega
/-- the model's best so far -/
def BM (a : Option (Nat × List Nat)) (m : Nat) (mu : fMu) : Prop := match a with
  | none => True
  | some x => x.2.length = m ∧ ∀ j : Nat, j < m → mu 46 0 j = nI (gtD x.2 j)
def lsI (a : Option (Nat × List Nat)) : Int32 := match a with
  | none => 1000000
  | some x => nI x.1
theorem m_best {Q : Int32 → fMu → fLa → Prop} (mu0 : fMu) (r w m : Nat) (hw : w ≤ 2) (hr : r < 6) (hB : wB B) (hT : WT B T) (hm : m ≤ 6) (hM : MB B mu0) (hC : MC 38 0 T mu0) : ∀ (ls : List (List Nat)) (l : List Nat) (a : Option (Nat × List Nat)) (mu : fMu), chC m l ls = true → (∀ l' ∈ l :: ls, l'.length = m ∧ ∀ i ∈ l', i < bN B) → (∀ x, a = some x → x.1 < 10000) → Fr cW mu0 mu → OR l mu → BM a m mu → (∀ (x : Nat × List Nat) (mu' : fMu), fldA (worthN w B T) [] (l :: ls) a = some x → x.2.length = m → Fr cW mu0 mu' → mu' 7 0 29 = nI m → (∀ j : Nat, j < m → mu' 46 0 j = nI (gtD x.2 j)) → Q (nI x.1) (up3 (cpR mu' 46 0 30 (40 * r) m) 29 0 r (nI m)) la) → Ev E (d + 4) mi_188 16 [some (.inr (.inr (some (7, 0)))), some (.inl (nI r)), some (.inl (nI w)), some (.inl (lsI a)), some (.inl (1 : Int32)), none] [] (mem E mu la) (qI E Q) := by
  intro ls
  induction ls with
  | nil =>
    intro l a mu hch hall ha f hO hb q
    obtain ⟨hlen, hel⟩ := hall l List.mem_cons_self
    have hM1 := hM.fr (f.le cW_MB)
    have hC1 := hC.fr (f.le cW_38)
    refine vc_X7_bestBy_16 0 _ _ _ _ (noo b_x10 (s_worth w l hw hB hT.okk (by omega) hel hM1 hC1 hO (fun mu1 f1 => ?_)))
    have hwl := worth_lt (T := T) hB hT.i108 (w := w) (l := l) (by omega) hel
    have g1 : Fr cW mu0 mu1 := f.tr (f1.le cW_39)
    have hO1 : OR l mu1 := ⟨(f1 7 0 29 rfl).trans hO.1, fun j hj => (f1 45 0 j rfl).trans (hO.2 j hj)⟩
    have hnx : nxF l.length (gtD l) = none := by
      unfold chC at hch
      rw [hlen]
      cases hx : nxF m (gtD l) with
      | none => rfl
      | some g => rw [hx] at hch; cases hch
    have fin : ∀ (x : Nat × List Nat) (mu2 : fMu), updA a (worthN w B T l) l = some x → x.2.length = m → Fr cW mu0 mu2 → OR l mu2 → (∀ j : Nat, j < m → mu2 46 0 j = nI (gtD x.2 j)) → FnI E (d + 3) mi_185 [.inr (.inr (some (7, 0)))] mu2 la (fun x14 mu15 la16 => Ev E (d + 4) mi_188 16 [some (.inr (.inr (some (7, 0)))), some (.inl (nI r)), some (.inl (nI w)), some (.inl (nI x.1)), some (.inl x14), none] [] (mem E mu15 la16) (qI E Q)) := by
      intro x mu2 hx hxl g2 o2 b2
      refine s_nextOrder l (by omega) (fun j hj => by have := hel _ (gtD_mem hj); have := hB.1; omega) o2 (fun _ => ?_) (fun g hg => by rw [hnx] at hg; cases hg)
      refine vc_X7_bestBy_16 0 _ _ _ _ (yes rfl ?_)
      have e29 : mu2 7 0 29 = nI m := by rw [← hlen]; exact o2.1
      rw [e29, show (40 : Int32) * nI r = nI (40 * r) from by rw [show (40 : Int32) = nI 40 from rfl, pk_mul]]
      refine s_copies 46 6 0 30 240 (40 * r) m rfl (by decide) rfl (by decide) (by decide) (by omega) (by omega) (by decide) (by decide) ⟨b_in rfl hr (by decide), ?_⟩
      rintro mu4 rfl
      rw [b_cl (by omega), cpR_fr (S := cK 30) Fr.rf (fun _ => rfl) 7 0 29 rfl, e29]
      exact q x mu2 (by unfold fldA; exact hx) hxl g2 e29 b2
    cases a with
    | none =>
      have hlt : ¬ (1000000 : Int32) ≤ nI (worthN w B T l) := nI_ge (b := 1000000) (by omega) (by decide)
      refine noo hlt ?_
      refine s_copies 45 6 0 46 6 0 6 rfl (by decide) rfl (by decide) (by decide) (by decide) (by decide) (by decide) (by decide) ?_
      have f2 : Fr cW mu1 (cpR mu1 45 0 46 0 6) := cpR_fr Fr.rf (fun _ => rfl)
      refine fin (worthN w B T l, l) _ rfl hlen (g1.tr f2) ⟨(cpR_fr (S := cK 46) Fr.rf (fun _ => rfl) 7 0 29 rfl).trans hO1.1, fun j hj => (cpR_fr (S := cK 46) Fr.rf (fun _ => rfl) 45 0 j rfl).trans (hO1.2 j hj)⟩ (fun j hj => ?_)
      have := cpR_in mu1 (k0 := 45) (o1 := 0) (k2 := 46) (o2 := 0) (n := 6) (j := j) (by omega)
      rw [Nat.zero_add] at this
      rw [this]
      exact hO1.2 j (by omega)
    | some x =>
      have hx := ha x rfl
      have hb1 : x.2.length = m ∧ ∀ j : Nat, j < m → mu 46 0 j = nI (gtD x.2 j) := hb
      refine pk_le x.1 (worthN w B T l) (fun hle => ?_) (fun hlt => ?_)
      · exact fin x mu1 (if_neg (by omega)) hb1.1 g1 hO1 (fun j hj => (f1 46 0 j rfl).trans (hb1.2 j hj))
      · refine s_copies 45 6 0 46 6 0 6 rfl (by decide) rfl (by decide) (by decide) (by decide) (by decide) (by decide) (by decide) ?_
        have f2 : Fr cW mu1 (cpR mu1 45 0 46 0 6) := cpR_fr Fr.rf (fun _ => rfl)
        refine fin (worthN w B T l, l) _ (if_pos hlt) hlen (g1.tr f2) ⟨(cpR_fr (S := cK 46) Fr.rf (fun _ => rfl) 7 0 29 rfl).trans hO1.1, fun j hj => (cpR_fr (S := cK 46) Fr.rf (fun _ => rfl) 45 0 j rfl).trans (hO1.2 j hj)⟩ (fun j hj => ?_)
        have := cpR_in mu1 (k0 := 45) (o1 := 0) (k2 := 46) (o2 := 0) (n := 6) (j := j) (by omega)
        rw [Nat.zero_add] at this
        rw [this]
        exact hO1.2 j (by omega)
  | cons l' ls ih =>
    intro l a mu hch hall ha f hO hb q
    obtain ⟨hlen, hel⟩ := hall l List.mem_cons_self
    obtain ⟨hlen', hel'⟩ := hall l' (List.mem_cons_of_mem _ List.mem_cons_self)
    have hM1 := hM.fr (f.le cW_MB)
    have hC1 := hC.fr (f.le cW_38)
    refine vc_X7_bestBy_16 0 _ _ _ _ (noo b_x10 (s_worth w l hw hB hT.okk (by omega) hel hM1 hC1 hO (fun mu1 f1 => ?_)))
    have hwl := worth_lt (T := T) hB hT.i108 (w := w) (l := l) (by omega) hel
    have g1 : Fr cW mu0 mu1 := f.tr (f1.le cW_39)
    have hO1 : OR l mu1 := ⟨(f1 7 0 29 rfl).trans hO.1, fun j hj => (f1 45 0 j rfl).trans (hO.2 j hj)⟩
    unfold chC at hch
    rw [Bool.and_eq_true] at hch
    obtain ⟨hc1, hc2⟩ := hch
    have hnx : ∃ g, nxF l.length (gtD l) = some g ∧ ∀ j : Nat, j < m → g j = gtD l' j := by
      rw [hlen]
      cases hx : nxF m (gtD l) with
      | none => rw [hx] at hc1; cases hc1
      | some g =>
        rw [hx] at hc1
        dsimp only at hc1
        rw [List.all_eq_true] at hc1
        exact ⟨g, rfl, fun j hj => Nat.eq_of_beq_eq_true (hc1 j (List.mem_range.mpr hj))⟩
    obtain ⟨g, hg1, hg2⟩ := hnx
    have fin : ∀ (x : Nat × List Nat) (mu2 : fMu), updA a (worthN w B T l) l = some x → x.1 < 10000 → x.2.length = m → Fr cW mu0 mu2 → OR l mu2 → (∀ j : Nat, j < m → mu2 46 0 j = nI (gtD x.2 j)) → FnI E (d + 3) mi_185 [.inr (.inr (some (7, 0)))] mu2 la (fun x14 mu15 la16 => Ev E (d + 4) mi_188 16 [some (.inr (.inr (some (7, 0)))), some (.inl (nI r)), some (.inl (nI w)), some (.inl (nI x.1)), some (.inl x14), none] [] (mem E mu15 la16) (qI E Q)) := by
      intro x mu2 hx hx1 hxl g2 o2 b2
      refine s_nextOrder l (by omega) (fun j hj => by have := hel _ (gtD_mem hj); have := hB.1; omega) o2 (fun hno => by rw [hg1] at hno; cases hno) (fun g' hg' mu3 f3 o3 => ?_)
      rw [hg1] at hg'
      cases hg'
      refine ih l' (some x) mu3 hc2 (fun l'' hl'' => hall l'' (List.mem_cons_of_mem _ hl'')) (fun y hy => by cases hy; exact hx1) (g2.tr (f3.le cW_45)) ⟨?_, fun j hj => ?_⟩ ⟨hxl, fun j hj => (f3 46 0 j rfl).trans (b2 j hj)⟩ ?_
      · rw [f3 7 0 29 rfl, o2.1, hlen, hlen']
      · rw [o3 j (by omega), hg2 j (by omega)]
      · intro y mu' hy
        refine q y mu' ?_
        unfold fldA
        rw [List.nil_append, hx]
        exact hy
    cases a with
    | none =>
      have hlt : ¬ (1000000 : Int32) ≤ nI (worthN w B T l) := nI_ge (b := 1000000) (by omega) (by decide)
      refine noo hlt ?_
      refine s_copies 45 6 0 46 6 0 6 rfl (by decide) rfl (by decide) (by decide) (by decide) (by decide) (by decide) (by decide) ?_
      have f2 : Fr cW mu1 (cpR mu1 45 0 46 0 6) := cpR_fr Fr.rf (fun _ => rfl)
      refine fin (worthN w B T l, l) _ rfl hwl hlen (g1.tr f2) ⟨(cpR_fr (S := cK 46) Fr.rf (fun _ => rfl) 7 0 29 rfl).trans hO1.1, fun j hj => (cpR_fr (S := cK 46) Fr.rf (fun _ => rfl) 45 0 j rfl).trans (hO1.2 j hj)⟩ (fun j hj => ?_)
      have := cpR_in mu1 (k0 := 45) (o1 := 0) (k2 := 46) (o2 := 0) (n := 6) (j := j) (by omega)
      rw [Nat.zero_add] at this
      rw [this]
      exact hO1.2 j (by omega)
    | some x =>
      have hx := ha x rfl
      have hb1 : x.2.length = m ∧ ∀ j : Nat, j < m → mu 46 0 j = nI (gtD x.2 j) := hb
      refine pk_le x.1 (worthN w B T l) (fun hle => ?_) (fun hlt => ?_)
      · exact fin x mu1 (if_neg (by omega)) hx hb1.1 g1 hO1 (fun j hj => (f1 46 0 j rfl).trans (hb1.2 j hj))
      · refine s_copies 45 6 0 46 6 0 6 rfl (by decide) rfl (by decide) (by decide) (by decide) (by decide) (by decide) (by decide) ?_
        have f2 : Fr cW mu1 (cpR mu1 45 0 46 0 6) := cpR_fr Fr.rf (fun _ => rfl)
        refine fin (worthN w B T l, l) _ (if_pos hlt) hwl hlen (g1.tr f2) ⟨(cpR_fr (S := cK 46) Fr.rf (fun _ => rfl) 7 0 29 rfl).trans hO1.1, fun j hj => (cpR_fr (S := cK 46) Fr.rf (fun _ => rfl) 45 0 j rfl).trans (hO1.2 j hj)⟩ (fun j hj => ?_)
        have := cpR_in mu1 (k0 := 45) (o1 := 0) (k2 := 46) (o2 := 0) (n := 6) (j := j) (by omega)
        rw [Nat.zero_add] at this
        rw [this]
        exact hO1.2 j (by omega)
/-- how many orders are of a worth -/
def cntL (p : List Nat → Bool) : List (List Nat) → Nat
  | [] => 0
  | l :: r => cntL p r + (if p l then 1 else 0)
theorem cntL_app (p : List Nat → Bool) (x y : List (List Nat)) : cntL p (x ++ y) = cntL p x + cntL p y := by
  induction x with
  | nil => exact (Nat.zero_add _).symm
  | cons l x ih =>
    show cntL p (x ++ y) + _ = cntL p x + _ + cntL p y
    rw [ih]
    omega
theorem cntL_congr {p p' : List Nat → Bool} (x : List (List Nat)) (h : ∀ l ∈ x, p l = p' l) : cntL p x = cntL p' x := by
  induction x with
  | nil => rfl
  | cons l x ih =>
    unfold cntL
    rw [h l List.mem_cons_self, ih (fun l' hl => h l' (List.mem_cons_of_mem _ hl))]
theorem m_orders {Q : Int32 → fMu → fLa → Prop} (mu0 : fMu) (t m : Nat) (ht : t ≤ 6) (hB : wB B) (hT : WT B T) (hm : m ≤ 6) (hM : MB B mu0) (hC : MC 38 0 T mu0) : ∀ (ls : List (List Nat)) (l : List Nat) (c : Nat) (mu : fMu), chC m l ls = true → (∀ l' ∈ l :: ls, l'.length = m ∧ ∀ i ∈ l', i < bN B) → Fr cW mu0 mu → OR l mu → (∀ mu' : fMu, Fr cW mu0 mu' → FnI E (d + 3) mi_192 [.inr (.inr (some (7, 0))), .inr (.inl ((nI (c + cntL (fun l => decide (worthN 2 B T l = t)) (l :: ls))).toInt64)), .inr (.inl (1 : Int64))] mu' la Q) → Ev E (d + 4) mi_193 19 [some (.inr (.inr (some (7, 0)))), some (.inl (nI t)), some (.inl (nI c)), some (.inl (1 : Int32))] [] (mem E mu la) (qI E Q) := by
  intro ls
  induction ls with
  | nil =>
    intro l c mu hch hall f hO q
    obtain ⟨hlen, hel⟩ := hall l List.mem_cons_self
    have hM1 := hM.fr (f.le cW_MB)
    have hC1 := hC.fr (f.le cW_38)
    refine vc_X7_orders_19 0 _ _ _ (noo b_x10 (s_worth 2 l (by decide) hB hT.okk (by omega) hel hM1 hC1 hO (fun mu1 f1 => ?_)))
    have hwl := worth_lt (T := T) hB hT.i108 (w := 2) (l := l) (by omega) hel
    have g1 : Fr cW mu0 mu1 := f.tr (f1.le cW_39)
    have hO1 : OR l mu1 := ⟨(f1 7 0 29 rfl).trans hO.1, fun j hj => (f1 45 0 j rfl).trans (hO.2 j hj)⟩
    have hnx : nxF l.length (gtD l) = none := by
      unfold chC at hch
      rw [hlen]
      cases hx : nxF m (gtD l) with
      | none => rfl
      | some g => rw [hx] at hch; cases hch
    have fin : ∀ c' : Nat, c' = c + cntL (fun l => decide (worthN 2 B T l = t)) [l] → FnI E (d + 3) mi_185 [.inr (.inr (some (7, 0)))] mu1 la (fun x14 mu15 la16 => Ev E (d + 4) mi_193 19 [some (.inr (.inr (some (7, 0)))), some (.inl (nI t)), some (.inl (nI c')), some (.inl x14)] [] (mem E mu15 la16) (qI E Q)) := by
      rintro c' rfl
      refine s_nextOrder l (by omega) (fun j hj => by have := hel _ (gtD_mem hj); have := hB.1; omega) hO1 (fun _ => ?_) (fun g hg => by rw [hnx] at hg; cases hg)
      exact vc_X7_orders_19 0 _ _ _ (yes rfl (q mu1 g1))
    rw [b_a0, ← nI_succ]
    by_cases hc : worthN 2 B T l = t
    · refine noo (fun z => z (by rw [hc])) (fin (c + 1) ?_)
      unfold cntL
      rw [decide_eq_true hc, if_pos rfl]
      rfl
    · refine yes (fun z => hc ((nI_eq (by omega) (by omega)).mp z)) (fin c ?_)
      unfold cntL
      rw [decide_eq_false hc]
      rfl
  | cons l' ls ih =>
    intro l c mu hch hall f hO q
    obtain ⟨hlen, hel⟩ := hall l List.mem_cons_self
    obtain ⟨hlen', hel'⟩ := hall l' (List.mem_cons_of_mem _ List.mem_cons_self)
    have hM1 := hM.fr (f.le cW_MB)
    have hC1 := hC.fr (f.le cW_38)
    refine vc_X7_orders_19 0 _ _ _ (noo b_x10 (s_worth 2 l (by decide) hB hT.okk (by omega) hel hM1 hC1 hO (fun mu1 f1 => ?_)))
    have hwl := worth_lt (T := T) hB hT.i108 (w := 2) (l := l) (by omega) hel
    have g1 : Fr cW mu0 mu1 := f.tr (f1.le cW_39)
    have hO1 : OR l mu1 := ⟨(f1 7 0 29 rfl).trans hO.1, fun j hj => (f1 45 0 j rfl).trans (hO.2 j hj)⟩
    unfold chC at hch
    rw [Bool.and_eq_true] at hch
    obtain ⟨hc1, hc2⟩ := hch
    have hnx : ∃ g, nxF l.length (gtD l) = some g ∧ ∀ j : Nat, j < m → g j = gtD l' j := by
      rw [hlen]
      cases hx : nxF m (gtD l) with
      | none => rw [hx] at hc1; cases hc1
      | some g =>
        rw [hx] at hc1
        dsimp only at hc1
        rw [List.all_eq_true] at hc1
        exact ⟨g, rfl, fun j hj => Nat.eq_of_beq_eq_true (hc1 j (List.mem_range.mpr hj))⟩
    obtain ⟨g, hg1, hg2⟩ := hnx
    have fin : ∀ c' : Nat, c' = c + (if decide (worthN 2 B T l = t) = true then 1 else 0) → FnI E (d + 3) mi_185 [.inr (.inr (some (7, 0)))] mu1 la (fun x14 mu15 la16 => Ev E (d + 4) mi_193 19 [some (.inr (.inr (some (7, 0)))), some (.inl (nI t)), some (.inl (nI c')), some (.inl x14)] [] (mem E mu15 la16) (qI E Q)) := by
      rintro c' rfl
      refine s_nextOrder l (by omega) (fun j hj => by have := hel _ (gtD_mem hj); have := hB.1; omega) hO1 (fun hno => by rw [hg1] at hno; cases hno) (fun g' hg' mu3 f3 o3 => ?_)
      rw [hg1] at hg'
      cases hg'
      refine ih l' _ mu3 hc2 (fun l'' hl'' => hall l'' (List.mem_cons_of_mem _ hl'')) (g1.tr (f3.le cW_45)) ⟨?_, fun j hj => ?_⟩ (fun mu' f' => ?_)
      · rw [f3 7 0 29 rfl, hO1.1, hlen, hlen']
      · rw [o3 j (by omega), hg2 j (by omega)]
      · have h1 := q mu' f'
        have e : c + cntL (fun l => decide (worthN 2 B T l = t)) (l :: l' :: ls) = c + (if decide (worthN 2 B T l = t) = true then 1 else 0) + cntL (fun l => decide (worthN 2 B T l = t)) (l' :: ls) := by
          show c + (cntL (fun l => decide (worthN 2 B T l = t)) (l' :: ls) + (if decide (worthN 2 B T l = t) = true then 1 else 0)) = _
          omega
        rw [e] at h1
        exact h1
    rw [b_a0, ← nI_succ]
    by_cases hc : worthN 2 B T l = t
    · refine noo (fun z => z (by rw [hc])) (fin (c + 1) ?_)
      rw [decide_eq_true hc, if_pos rfl]
    · refine yes (fun z => hc ((nI_eq (by omega) (by omega)).mp z)) (fin c ?_)
      rw [decide_eq_false hc]
      rfl
end WORTH
