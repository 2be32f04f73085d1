/-! the class's search -/
def cS (k _ _ : Nat) : Bool := !(k == 4 || k == 22 || k == 23)
theorem cS_I : ∀ k i j, sI k i j = true → cS k i j = true := by
  refine sI_or ?_ ?_ ?_ ?_
  · intro k i j h
    unfold sR at h
    split at h <;> first | rfl | cases h
  · intro k i j h
    unfold sT at h
    split at h <;> first | rfl | cases h
  · intro k i j h
    unfold sS at h
    split at h <;> first | rfl | cases h
  · intro k i j h
    unfold sB at h
    split at h <;> first | rfl | cases h
theorem cS_CB : ∀ k i j, sCB k i j = true → cS k i j = true := by
  intro k i j h
  unfold sCB at h
  split at h <;> first | rfl | cases h
def ceI (a : Option (Nat × List Nat)) : Int32 := match a with
  | none => 1000000
  | some x => nI x.1 - 1
def SR (a : Option (Nat × List Nat)) (mu : fMu) : Prop := mu 4 0 6 = ceI a ∧ ∀ x, a = some x → mu 4 0 3 = nI x.2.length ∧ mu 4 0 4 = nI x.1 ∧ ∀ j : Nat, j < x.2.length → mu 23 0 j = nI (gtD x.2 j)
def PT (pre : List Nat) (mu : fMu) : Prop := ∀ j : Nat, j < pre.length → mu 22 0 j = nI (gtD pre j)
def okA (a : Option (Nat × List Nat)) : Prop := ∀ x, a = some x → x.1 < 10000 ∧ x.2.length ≤ 6
theorem mem_lpL {F : Nat → List (List Nat)} {mq : Nat} {l : List Nat} (w : Nat) : ∀ i, l ∈ lpL F mq i w → ∃ j l', i ≤ j ∧ j < i + w ∧ mq.testBit j = false ∧ l' ∈ F (mq ||| 2 ^ j) ∧ l = j :: l' := by
  induction w with
  | zero => intro i h; cases h
  | succ w ih =>
    intro i h
    unfold lpL at h
    rcases List.mem_append.mp h with h | h
    · split at h
      · cases h
      · rename_i hb
        obtain ⟨l', h1, h2⟩ := List.mem_map.mp h
        exact ⟨i, l', Nat.le_refl i, by omega, by simpa using hb, h1, h2.symm⟩
    · obtain ⟨j, l', h1, h2, h3⟩ := ih (i + 1) h
      exact ⟨j, l', by omega, by omega, h3⟩
theorem lp_el {n : Nat} (z : Nat) : ∀ (mq : Nat) (l : List Nat), l ∈ lpO n z mq → ∀ i ∈ l, i < n := by
  induction z with
  | zero =>
    intro mq l h i hi
    have : l = [] := by simpa [lpO] using h
    rw [this] at hi
    cases hi
  | succ z ih =>
    intro mq l h i hi
    unfold lpO at h
    split at h
    · have : l = [] := by simpa using h
      rw [this] at hi
      cases hi
    · obtain ⟨j, l', h1, h2, h3, h4, rfl⟩ := mem_lpL n 0 h
      rcases List.mem_cons.mp hi with e | e
      · omega
      · exact ih _ l' h4 i e
theorem vl_ge {B : tB} {st : tT → Nat → Nat → Nat} {R : tT → Nat → Prop} (hs : ∀ T v i, R T v → i < bN B → v ≤ st T v i ∧ R (makesT B T i (bE B)) (st T v i)) : ∀ (l : List Nat) (T : tT) (v : Nat), (∀ i ∈ l, i < bN B) → R T v → v ≤ vlG B st T v l := by
  intro l
  induction l with
  | nil => intro T v _ _; exact Nat.le_refl _
  | cons i l ih =>
    intro T v hl hR
    obtain ⟨h1, h2⟩ := hs T v i hR (hl i List.mem_cons_self)
    exact Nat.le_trans h1 (ih _ _ (fun j hj => hl j (List.mem_cons_of_mem _ hj)) h2)
theorem fld_prune {val : List Nat → Nat} {pre : List Nat} {x : Nat × List Nat} (ls : List (List Nat)) (h : ∀ l ∈ ls, x.1 ≤ val l) : fldA val pre ls (some x) = some x := by
  induction ls with
  | nil => rfl
  | cons l ls ih =>
    unfold fldA updA
    dsimp only
    rw [if_neg (by have := h l List.mem_cons_self; omega)]
    exact ih (fun l' hl => h l' (List.mem_cons_of_mem _ hl))
theorem fld_map (val : List Nat → Nat) (pre : List Nat) (i : Nat) (ls : List (List Nat)) : ∀ a, fldA val pre (ls.map (fun l => i :: l)) a = fldA (fun l => val (i :: l)) (pre ++ [i]) ls a := by
  induction ls with
  | nil => intro a; rfl
  | cons l ls ih =>
    intro a
    show fldA val pre (ls.map (fun l => i :: l)) (updA a (val (i :: l)) (pre ++ i :: l)) = fldA (fun l => val (i :: l)) (pre ++ [i]) ls (updA a (val (i :: l)) ((pre ++ [i]) ++ l))
    rw [ih, List.append_assoc]
    rfl
theorem cnt_map (p : List Nat → Bool) (i : Nat) (ls : List (List Nat)) : cntL p (ls.map (fun l => i :: l)) = cntL (fun l => p (i :: l)) ls := by
  induction ls with
  | nil => rfl
  | cons l ls ih =>
    show cntL p (ls.map (fun l => i :: l)) + _ = _
    rw [ih]
    rfl
theorem cntL_0 {p : List Nat → Bool} (ls : List (List Nat)) (h : ∀ l ∈ ls, p l = false) : cntL p ls = 0 := by
  induction ls with
  | nil => rfl
  | cons l ls ih =>
    unfold cntL
    rw [h l List.mem_cons_self, ih (fun l' hl => h l' (List.mem_cons_of_mem _ hl))]
    rfl
section SRCH
variable {E : mEv} {d : Nat} {mu : fMu} {la : fLa} {B : tB} {T : tT} {D : Nat → Nat × Nat × Nat} {m : Nat}
theorem ce_c {a : Option (Nat × List Nat)} {v : Nat} {A C : Prop} (ha : okA a) (hv : v < 10000) (h1 : (∀ x, a = some x → v < x.1) → A) (h0 : (∃ x, a = some x ∧ x.1 ≤ v) → C) : (nI v ≤ ceI a → A) ∧ (¬ (nI v ≤ ceI a) → C) := by
  cases a with
  | none => exact yes (nI_le (b := 1000000) (by omega) (by decide)) (h1 (fun x hx => by cases hx))
  | some x =>
    have hx := (ha x rfl).1
    obtain ⟨x1, x2⟩ := x
    have hx' : x1 < 10000 := hx
    cases x1 with
    | zero =>
      refine noo (fun z => ?_) (h0 ⟨_, rfl, Nat.zero_le v⟩)
      have : ceI (some (0, x2)) = -1 := rfl
      rw [this] at z
      exact absurd (Int32.le_trans (b_np v (by omega)) z) b_n1
    | succ y =>
      have : ceI (some (y + 1, x2)) = nI y := nI_pred y
      rw [this]
      refine pk_le v y (fun h => h1 (fun x hx => ?_)) (fun h => h0 ⟨_, rfl, ?_⟩)
      · cases hx
        show v < y + 1
        omega
      · show y + 1 ≤ v
        omega
theorem s_isWhole {Q : Int32 → fMu → fLa → Prop} (dp mq : Nat) (hn : bN B ≤ 6) (hd6 : dp ≤ 6) (hm : mq < 64) (e0 : mu 1 0 0 = nI (bN B)) (q : Q (bI (decide (dp = 6) || decide (mq = 2 ^ bN B - 1))) mu la) : FnI E (d + 1) mi_36 [.inr (.inr (some (4, 0))), .inl (nI dp), .inl (nI mq)] mu la Q := by
  have h2 := Nat.two_pow_pos (bN B)
  have h64 : 2 ^ bN B ≤ 64 := Nat.pow_le_pow_right (n := 2) (by decide) hn
  refine vc_X4_isWhole _ _ (pk_le 6 dp (fun h => ?_) (fun h => vc_X1_everyOne ?_))
  · rw [decide_eq_true (show dp = 6 by omega)] at q
    exact q
  · rw [decide_eq_false (show ¬ dp = 6 by omega), Bool.false_or] at q
    rw [e0, b_sh _ (by omega), show 2 ^ bN B = (2 ^ bN B - 1) + 1 by omega, nI_pred]
    by_cases hc : mq = 2 ^ bN B - 1
    · rw [decide_eq_true hc] at q
      exact noo (fun z => z (by rw [hc])) q
    · rw [decide_eq_false hc] at q
      exact yes (fun z => hc ((nI_eq (by omega) (by omega)).mp z)) q
theorem s_remPath {Q : fMu → fLa → Prop} (pre : List Nat) (hp : pre.length ≤ 6) (h : PT pre mu) (q : ∀ mu' : fMu, Fr cS mu mu' → mu' 4 0 5 = mu 4 0 5 → mu' 4 0 6 = mu 4 0 6 → mu' 4 0 4 = mu 4 0 4 → mu' 4 0 3 = nI pre.length → PT pre mu' → (∀ j : Nat, j < pre.length → mu' 23 0 j = nI (gtD pre j)) → Q mu' la) : FnV E d mi_37 [.inr (.inr (some (4, 0))), .inl (nI pre.length)] mu la Q := by
  refine vc_X4_rememberPath _ ?_
  rintro mu1 rfl
  have key : ∀ (z i : Nat) (mu' : fMu), i + z = pre.length → Fr (cK 23) (up3 mu 4 0 3 (nI pre.length)) mu' → (∀ j : Nat, j < i → mu' 23 0 j = nI (gtD pre j)) → Ev E d mi_37 5 [some (.inr (.inr (some (4, 0)))), some (.inl (nI pre.length)), some (.inl (nI i))] [] (mem E mu' la) (qV E Q) := by
    intro z
    induction z with
    | zero =>
      intro i mu' hi f hb
      refine vc_X4_rememberPath_5 0 _ _ (yes (nI_le (by omega) (by omega)) (q mu' ?_ ?_ ?_ ?_ ?_ ?_ (fun j hj => hb j (by omega))))
      · intro k i j hs
        have h1 : cK 23 k i j = true := by
          unfold cS at hs
          unfold cK
          cases hk : k == 23 with
          | false => rfl
          | true => rw [hk] at hs; simp at hs
        rw [f k i j h1]
        unfold up3
        rw [if_neg]
        rintro ⟨rfl, -⟩
        exact absurd (show false = true from hs) (by decide)
      · rw [f 4 0 5 rfl]; unfold up3; simp
      · rw [f 4 0 6 rfl]; unfold up3; simp
      · rw [f 4 0 4 rfl]; unfold up3; simp
      · rw [f 4 0 3 rfl, up3_self]
      · intro j hj
        rw [f 22 0 j rfl, ← h j hj]; unfold up3; simp
    | succ z ih =>
      intro i mu' hi f hb
      have hin : vp_in (nI i) 6 := b_in rfl (by omega) (by decide)
      refine vc_X4_rememberPath_5 0 _ _ (noo (nI_ge (by omega) (by omega)) ⟨hin, hin, ?_⟩)
      rw [b_cl (by omega), nI_1]
      rintro mu2 rfl
      refine ih (i + 1) _ (by omega) (f.u3 rfl) (fun j hj => ?_)
      by_cases ej : j = i
      · subst ej
        rw [up3_self, f 22 0 j rfl, ← h j (by omega)]; unfold up3; simp
      · rw [← hb j (by omega)]; unfold up3; simp [ej]
  exact key pre.length 0 _ (by omega) Fr.rf (fun j hj => by omega)
theorem s_improve {Q : fMu → fLa → Prop} (pre : List Nat) (v : Nat) (hp : pre.length ≤ 6) (h : PT pre mu) (q : ∀ mu' : fMu, Fr cS mu mu' → mu' 4 0 5 = mu 4 0 5 → SR (some (v, pre)) mu' → PT pre mu' → Q mu' la) : FnV E (d + 1) mi_38 [.inr (.inr (some (4, 0))), .inl (nI pre.length), .inl (nI v)] mu la Q := by
  refine vc_X4_improve _ _ ?_
  rintro mu1 rfl
  rintro mu2 rfl
  refine s_remPath pre hp (fun j hj => ?_) (fun mu' f e5 e6 e4 e3 p' b' => q mu' (fun k i j hs => ?_) ?_ ⟨?_, fun x hx => ?_⟩ p')
  · rw [← h j hj]; unfold up3; simp
  · rw [f k i j hs]
    unfold up3
    rw [if_neg, if_neg]
    · rintro ⟨rfl, -⟩
      exact absurd (show false = true from hs) (by decide)
    · rintro ⟨rfl, -⟩
      exact absurd (show false = true from hs) (by decide)
  · rw [e5]; unfold up3; simp
  · rw [e6, up3_self]
    rfl
  · cases hx
    refine ⟨e3, ?_, b'⟩
    rw [e4]; unfold up3; simp
theorem PT.app {pre : List Nat} {i : Nat} (h : PT pre mu) : PT (pre ++ [i]) (up3 mu 22 0 pre.length (nI i)) := by
  intro j hj
  rw [List.length_append] at hj
  have hj2 : j < pre.length + 1 := hj
  by_cases ej : j = pre.length
  · subst ej
    rw [up3_self, gtD_app2]
  · rw [gtD_app1 (by omega), ← h j (by omega)]
    unfold up3; simp [ej]
theorem PT.pre {pre : List Nat} {i : Nat} (h : PT (pre ++ [i]) mu) : PT pre mu := by
  intro j hj
  rw [h j (by rw [List.length_append]; omega), gtD_app1 hj]
theorem made_bit (hn : bN B ≤ 6) {i : Nat} (hi : i < bN B) : (madeT (bN B) T).testBit i = decide (tH T i ≠ -9) := by
  unfold madeT
  rw [bitsOf_bit, decide_eq_true hi, Bool.true_and]
theorem fld1 (val : List Nat → Nat) (pre : List Nat) (a : Option (Nat × List Nat)) : fldA val pre [[]] a = updA a (val []) pre := by
  unfold fldA fldA
  rw [List.append_nil]
theorem upd_lt {a : Option (Nat × List Nat)} {v : Nat} {l : List Nat} (h : ∀ x, a = some x → v < x.1) : updA a v l = some (v, l) := by
  cases a with
  | none => rfl
  | some x => exact if_pos (h x rfl)
theorem x_tryTime (s : Bool) (mu0 : fMu) (hB : wB B) (hX : CB B mu0) : ∀ (z : Nat) (pre : List Nat) (T : tT) (v : Nat) (a : Option (Nat × List Nat)) (mu : fMu) (Q : fMu → fLa → Prop), pre.length + z = 6 → WT B T → v + 300 * z < 9000 → (s = false → v ≤ tI T) → okA a → Fr cS mu0 mu → mu 4 0 5 = bI s → SR a mu → PT pre mu → (∀ mu' : fMu, Fr cS mu0 mu' → mu' 4 0 5 = bI s → okA (fldA (vlG B (stpT B s) T v) pre (lpO (bN B) z (madeT (bN B) T)) a) → SR (fldA (vlG B (stpT B s) T v) pre (lpO (bN B) z (madeT (bN B) T)) a) mu' → PT pre mu' → Q mu' la) → FnV E (d + 5 + z) mi_39 [.inr (.inr (some (4, 0))), .inl (nI pre.length), .inl (nI (madeT (bN B) T)), .inl (nI (tI T)), .inl (tL T), .inl (nI v)] mu la Q := by
  have hn := hB.1
  have hR : ∀ (T : tT) (v i : Nat), (s = false → v ≤ tI T) → i < bN B → v ≤ stpT B s T v i ∧ (s = false → stpT B s T v i ≤ tI (makesT B T i (bE B))) := by
    intro T v i h hi
    have h1 := tI_make (T := T) hB hi (bE B)
    unfold stpT
    cases s with
    | true =>
      refine ⟨?_, fun z => by cases z⟩
      split
      · exact Nat.le_refl _
      · rw [if_pos rfl]; omega
    | false =>
      have h2 := h rfl
      split
      · exact ⟨Nat.le_refl _, fun _ => by omega⟩
      · rw [if_neg (by decide)]
        exact ⟨by omega, fun _ => Nat.le_refl _⟩
  have prune : ∀ (z : Nat) (T : tT) (v : Nat) (pre : List Nat) (x : Nat × List Nat), (s = false → v ≤ tI T) → x.1 ≤ v → fldA (vlG B (stpT B s) T v) pre (lpO (bN B) z (madeT (bN B) T)) (some x) = some x := by
    intro z T v pre x h1 h2
    refine fld_prune _ (fun l hl => Nat.le_trans h2 (vl_ge (R := fun T v => s = false → v ≤ tI T) (fun T v i => hR T v i) l T v (lp_el z _ l hl) h1))
  have leaf : ∀ (dd : Nat) (pre : List Nat) (v : Nat) (a : Option (Nat × List Nat)) (mu : fMu) (Q : fMu → fLa → Prop), pre.length ≤ 6 → v < 9000 → (∀ x, a = some x → v < x.1) → Fr cS mu0 mu → mu 4 0 5 = bI s → PT pre mu → (∀ mu' : fMu, Fr cS mu0 mu' → mu' 4 0 5 = bI s → okA (updA a v pre) → SR (updA a v pre) mu' → PT pre mu' → Q mu' la) → FnV E (dd + 1) mi_38 [.inr (.inr (some (4, 0))), .inl (nI pre.length), .inl (nI v)] mu la Q := by
    intro dd pre v a mu Q hp hv hlt f e5 hP q
    rw [upd_lt hlt] at q
    exact s_improve pre v hp hP (fun mu' f' e' s' p' => q mu' (f.tr f') (e'.trans e5) (fun x hx => by cases hx; exact ⟨by omega, hp⟩) s' p')
  intro z
  induction z with
  | zero =>
    intro pre T v a mu Q hlen hT hv hs ha f e5 hS hP q
    unfold lpO at q
    rw [fld1] at q
    have q' : ∀ mu' : fMu, Fr cS mu0 mu' → mu' 4 0 5 = bI s → okA (updA a v pre) → SR (updA a v pre) mu' → PT pre mu' → Q mu' la := q
    refine vc_X4_tryByTime 0 _ _ _ _ _ ?_
    rw [hS.1]
    refine ce_c ha (by omega) (fun hlt => ?_) (fun ⟨x, hx, hle⟩ => ?_)
    · refine s_isWhole _ _ hn (by omega) (bits64 _ hn) (by rw [f 1 0 0 rfl]; exact hX.1) ?_
      rw [decide_eq_true (show pre.length = 6 by omega), Bool.true_or]
      exact noo b_x10 (leaf (d + 3) pre v a mu Q (by omega) (by omega) hlt f e5 hP q')
    · subst hx
      rw [show updA (some x) v pre = some x from if_neg (by omega)] at q'
      exact q' mu f e5 ha hS hP
  | succ z ih =>
    intro pre T v a mu Q hlen hT hv hs ha f e5 hS hP q
    refine vc_X4_tryByTime 0 _ _ _ _ _ ?_
    rw [hS.1]
    refine ce_c ha (by omega) (fun hlt => ?_) (fun ⟨x, hx, hle⟩ => ?_)
    · refine FnI.deep (d := d + 1) (s_isWhole _ _ hn (by omega) (bits64 _ hn) (by rw [f 1 0 0 rfl]; exact hX.1) ?_) (show d + 1 ≤ d + 5 + z by omega)
      rw [decide_eq_false (show ¬ pre.length = 6 by omega), Bool.false_or]
      unfold lpO at q
      by_cases hw : madeT (bN B) T = 2 ^ bN B - 1
      · rw [if_pos hw, fld1] at q
        rw [decide_eq_true hw]
        exact noo b_x10 (FnV.deep (leaf d pre v a mu Q (by omega) (by omega) hlt f e5 hP q) (show d + 1 ≤ d + 5 + z by omega))
      · rw [if_neg hw] at q
        rw [decide_eq_false hw]
        refine yes rfl ?_
        clear hlt
        have key : ∀ (w i : Nat) (a : Option (Nat × List Nat)) (mu : fMu), i + w = bN B → okA a → Fr cS mu0 mu → mu 4 0 5 = bI s → SR a mu → PT pre mu → (∀ mu' : fMu, Fr cS mu0 mu' → mu' 4 0 5 = bI s → okA (fldA (vlG B (stpT B s) T v) pre (lpL (lpO (bN B) z) (madeT (bN B) T) i w) a) → SR (fldA (vlG B (stpT B s) T v) pre (lpL (lpO (bN B) z) (madeT (bN B) T) i w) a) mu' → PT pre mu' → Q mu' la) → Ev E (d + 5 + z + 1) mi_39 17 [some (.inr (.inr (some (4, 0)))), some (.inl (nI pre.length)), some (.inl (nI (madeT (bN B) T))), some (.inl (nI (tI T))), some (.inl (tL T)), some (.inl (nI v)), some (.inl (nI i)), none, none] [] (mem E mu la) (qV E Q) := by
          intro w
          induction w with
          | zero =>
            intro i a mu hi ha f e5 hS hP q
            refine vc_X4_tryByTime_17 0 _ _ _ _ _ _ ?_
            rw [f 1 0 0 rfl, hX.1]
            exact yes (nI_le (by omega) (by omega)) (q mu f e5 ha hS hP)
          | succ w ihw =>
            intro i a mu hi ha f e5 hS hP q
            have hin : i < bN B := by omega
            have hX1 := hX.fr (f.le cS_CB)
            refine vc_X4_tryByTime_17 0 _ _ _ _ _ _ ?_
            rw [hX1.1, ← nI_succ]
            have hb := b_bit (madeT (bN B) T) (bits64 _ hn) i (by omega)
            rw [made_bit hn hin] at hb
            unfold lpL at q
            rw [made_bit hn hin] at q
            refine noo (nI_ge (by omega) (by omega)) ?_
            by_cases h9 : tH T i = -9
            · rw [decide_eq_false (show ¬ tH T i ≠ -9 by simp [h9]), if_neg (by decide), fldA_app, fld_map, ← made_make (e := bE B) hin hn] at q
              refine noo (fun y => y (hb.mpr (by simp [h9]))) ?_
              refine FnI.deep (d := d + 1) (s_timeBehind i hB hin hX1 hT.2.2.2.2.2 ?_) (show d + 1 ≤ d + 5 + z by omega)
              rw [e5, b_cl (by omega), b_sh i (by omega), b_or, ← made_make (e := bE B) hin hn, nI_add, nI_1 pre.length, nI_add]
              have hin6 : vp_in (nI pre.length) 6 := b_in rfl (by omega) (by decide)
              have child : ∀ v' : Nat, v' = stpT B s T v i → FnV E (d + 5 + z) mi_39 [.inr (.inr (some (4, 0))), .inl (nI (pre.length + 1)), .inl (nI (madeT (bN B) (makesT B T i (bE B)))), .inl (nI (tI T + takesO B T i)), .inl (nI i), .inl (nI v')] (up3 mu 22 0 pre.length (nI i)) la (fun mu15 la16 => Ev E (d + 5 + z + 1) mi_39 17 [some (.inr (.inr (some (4, 0)))), some (.inl (nI pre.length)), some (.inl (nI (madeT (bN B) T))), some (.inl (nI (tI T))), some (.inl (tL T)), some (.inl (nI v)), some (.inl (nI (i + 1))), none, none] [] (mem E mu15 la16) (qV E Q)) := by
                rintro v' rfl
                have hT' := wt_make (e := bE B) hB hT hin h9
                have hv' : stpT B s T v i ≤ v + 300 := by
                  have h1 := (tI_make (T := T) hB hin (bE B)).2
                  have h2 := hT.i108
                  unfold stpT
                  split
                  · omega
                  · split <;> omega
                have h1 := ih (pre ++ [i]) (makesT B T i (bE B)) (stpT B s T v i) a (up3 mu 22 0 pre.length (nI i)) (fun mu15 la16 => Ev E (d + 5 + z + 1) mi_39 17 [some (.inr (.inr (some (4, 0)))), some (.inl (nI pre.length)), some (.inl (nI (madeT (bN B) T))), some (.inl (nI (tI T))), some (.inl (tL T)), some (.inl (nI v)), some (.inl (nI (i + 1))), none, none] [] (mem E mu15 la16) (qV E Q)) (by rw [List.length_append]; show pre.length + 1 + z = 6; omega) hT' (by omega) (hR T v i hs hin).2 ha (f.u3 rfl) (by rw [← e5]; unfold up3; simp) ⟨by rw [← hS.1]; unfold up3; simp, fun x hx => by
                  obtain ⟨g1, g2, g3⟩ := hS.2 x hx
                  refine ⟨by rw [← g1]; unfold up3; simp, by rw [← g2]; unfold up3; simp, fun j hj => by rw [← g3 j hj]; unfold up3; simp⟩⟩ hP.app (fun mu' f' e5' ha' hS' hP' => ihw (i + 1) _ mu' (by omega) ha' f' e5' hS' hP'.pre q)
                rw [List.length_append] at h1
                exact h1
              refine bzz (fun hs0 => ⟨hin6, ?_⟩) (fun hs1 => ⟨hin6, ?_⟩)
              · rintro mu1 rfl
                have hX2 : CB B (up3 mu 22 0 pre.length (nI i)) := hX1.fr (Fr.rf.u3 rfl)
                refine s_cThere i hn hin hX2.2.2.1 (bzz (fun k0 => child v ?_) (fun k1 => child _ ?_))
                · exact (if_pos (by simpa using k0)).symm
                · unfold stpT
                  rw [if_neg (of_decide_eq_true k1), hs0, if_neg (by decide)]
                  rfl
              · rintro mu1 rfl
                have hX2 : CB B (up3 mu 22 0 pre.length (nI i)) := hX1.fr (Fr.rf.u3 rfl)
                refine s_cThere i hn hin hX2.2.2.1 (bzz (fun k0 => child v ?_) (fun k1 => child _ ?_))
                · exact (if_pos (by simpa using k0)).symm
                · unfold stpT
                  rw [if_neg (of_decide_eq_true k1), hs1, if_pos rfl]
                  rfl
            · rw [decide_eq_true h9, if_pos rfl, List.nil_append] at q
              refine yes (fun y => by have := hb.mp y; simp [h9] at this) (ihw (i + 1) a mu (by omega) ha f e5 hS hP q)
        exact key (bN B) 0 a mu (by omega) ha f e5 hS hP q
    · subst hx
      rw [prune (z + 1) T v pre x hs hle] at q
      exact q mu f e5 ha hS hP
end SRCH
