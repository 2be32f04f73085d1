/-! making cells, and the calls that the library answers for -/
theorem mHas_not {l : List (Nat × Nat)} {k i : Nat} (h : ¬ mHas l k i = true) : (k, i) ∉ l := by
  induction l with
  | nil => exact List.not_mem_nil
  | cons r l ih =>
    unfold mHas at h
    split at h
    · exact absurd rfl h
    · rename_i hne
      intro hm
      rcases List.mem_cons.mp hm with e | hm
      · exact hne (by rw [← e]; exact ⟨rfl, rfl⟩)
      · exact ih h hm
def adU (ad : Nat → Nat → Nat) (k i q : Nat) : Nat → Nat → Nat := fun k' i' => if k' = k ∧ i' = i then q else ad k' i'
theorem adU_ne {ad : Nat → Nat → Nat} {k i q : Nat} {r : Nat × Nat} (h : r ≠ (k, i)) : adU ad k i q r.1 r.2 = ad r.1 r.2 := by
  unfold adU
  rw [if_neg]
  rintro ⟨h1, h2⟩
  exact h (Prod.ext h1 h2)
theorem adU_eq (ad : Nat → Nat → Nat) (k i q : Nat) : adU ad k i q k i = q := if_pos ⟨rfl, rfl⟩
theorem rOK_ne {M : mM} {k i : Nat} {r : Nat × Nat} (h : rOK M (.inr (.inr (some r)))) (hn : (k, i) ∉ M.1) (hk : k < 52) : r ≠ (k, i) := by
  rintro rfl
  rcases h with h | h | h
  · exact hn h
  · cases h; omega
  · cases h; omega
theorem map_adU {M : mM} {ad : Nat → Nat → Nat} {k i q : Nat} {r : Option (Nat × Nat)} (h : rOK M (.inr (.inr r))) (hn : (k, i) ∉ M.1) (hk : k < 52) : r.map (fun q' => adU ad k i q q'.1 q'.2) = r.map (fun q' => ad q'.1 q'.2) := by
  cases r with
  | none => rfl
  | some r => rw [Option.map_some, Option.map_some, adU_ne (rOK_ne h hn hk)]
theorem tv_adU {M : mM} {ad : Nat → Nat → Nat} {k i q : Nat} {v : mV} (h : rOK M v) (hn : (k, i) ∉ M.1) (hk : k < 52) : tv (adU ad k i q) v = tv ad v := by
  rcases v with x | x | r
  · rfl
  · rfl
  · show va_rf (r.map (fun q' => adU ad k i q q'.1 q'.2)) = va_rf (r.map (fun q' => ad q'.1 q'.2))
    rw [map_adU h hn hk]
theorem lvA_adU {M : mM} {ad : Nat → Nat → Nat} {k i q : Nat} {ls : List (Option mV)} (h : ∀ v, some v ∈ ls → rOK M v) (hn : (k, i) ∉ M.1) (hk : k < 52) (n : Nat) : lvA (adU ad k i q) n ls = lvA ad n ls := by
  induction ls generalizing n with
  | nil => rfl
  | cons a l ih =>
    cases a with
    | none => exact ih (fun v hv => h v (List.mem_cons_of_mem _ hv)) (n + 1)
    | some w =>
      unfold lvA
      rw [ih (fun v hv => h v (List.mem_cons_of_mem _ hv)) (n + 1), tv_adU (h w List.mem_cons_self) hn hk]
theorem mSl_app (l : List (Nat × Nat)) (r : Nat × Nat) : mSl (l ++ [r]) = mSl l + mSz r.1 := by
  induction l with
  | nil => show mSz r.1 + mSl [] = 0 + mSz r.1; rw [show mSl [] = 0 from rfl]; omega
  | cons a l ih =>
    show mSz a.1 + mSl (l ++ [r]) = mSz a.1 + mSl l + mSz r.1
    rw [ih]; omega
theorem mAlloc {s : State} {D : va_G} {A : Nat → Prop} {Z : List (Nat × Nat)} {ad0 : Nat → Nat → Nat} {b t n0 s0 ml cells slots k i q : Nat} {cA : ClassId} {ls : List (Option mV)} {st : List mV} {M M' : mM} {ad : Nat → Nat → Nat} {ca : Nat → Nat → ClassId} {H H1 : Heap} {locs : List Loc} {la : Array Slot}
    (hC : mCe s D A b t Z ad0 M ad ca H locs) (hL : mLo n0 s0 ml ls M ad cells slots la) (hst : ∀ v ∈ st, rOK M v) (hn : (k, i) ∉ M.1) (hk : k < 52) (h1 : M'.1 = M.1 ++ [(k, i)]) (h2 : ∀ r : Nat × Nat, r ≠ (k, i) → ∀ j, M'.2.1 r.1 r.2 j = M.2.1 r.1 r.2 j) (h3 : ∀ r : Nat × Nat, r ≠ (k, i) → ∀ j, M'.2.2.1 r.1 r.2 j = M.2.2.1 r.1 r.2 j) (h4 : ∀ r : Nat × Nat, r ≠ (k, i) → ∀ j, M'.2.2.2 r.1 r.2 j = M.2.2.2 r.1 r.2 j) (h5 : ∀ j, M'.2.1 k i j = none)
    (hT : ∀ ty n, nth mKs k = some (.inr (ty, n)) → ArrOfT s cA ty ∧ va_RA s cA ty) {e : va_E} (he : mE M' (adU ad k i q) (adU ca k i cA) (k, i) = e) (hP : va_P D vwCl (mWs M ad ca ++ [(q, e)]) H1) (hD : va_D A (mWs M ad ca ++ [(q, e)])) (hS : va_S A s.heap H1 locs) :
    mCe s D A b t Z ad0 M' (adU ad k i q) (adU ca k i cA) H1 locs ∧ mLo n0 s0 ml ls M' (adU ad k i q) (cells + 1) (slots + mSz k) la ∧ st.map (tv (adU ad k i q)) = st.map (tv ad) ∧ (∀ v ∈ st, rOK M' v) ∧ rOK M' (.inr (.inr (some (k, i)))) := by
  have hmono : ∀ v, rOK M v → rOK M' v := by
    intro v hv
    rcases v with x | x | r
    · trivial
    · trivial
    · cases r with
      | none => trivial
      | some r =>
        rcases hv with hv | hv
        · exact Or.inl (by rw [h1]; exact List.mem_append_left _ hv)
        · exact Or.inr hv
  have hne : ∀ r ∈ M.1, r ≠ (k, i) := fun r hr e => hn (by rw [← e]; exact hr)
  have hws : mWs M' (adU ad k i q) (adU ca k i cA) = mWs M ad ca ++ [(q, e)] := by
    unfold mWs
    rw [h1, List.map_append]
    congr 1
    · refine List.map_congr_left (fun r hr => ?_)
      rw [adU_ne (hne r hr), mE_congr (M := M) (ad := ad) (ca := ca) (fun j => by rw [h2 r (hne r hr) j]; exact map_adU (hC.2.2.2.2.1 r hr j) hn hk) (h3 r (hne r hr)) (h4 r (hne r hr)) (adU_ne (hne r hr))]
    · show [(adU ad k i q k i, mE M' (adU ad k i q) (adU ca k i cA) (k, i))] = [(q, e)]
      rw [he, adU_eq]
  refine ⟨⟨by rw [hws]; exact hP, by rw [hws]; exact hD, hS, ?_, ?_, ?_, ?_, ?_, ?_⟩, ⟨?_, hL.2.1, fun v hv => hmono v (hL.2.2.1 v hv), ?_, ?_⟩, ?_, fun v hv => hmono v (hst v hv), Or.inl (by rw [h1]; exact List.mem_append_right _ List.mem_cons_self)⟩
  · intro r hr ty n hty
    rw [h1] at hr
    rcases List.mem_append.mp hr with hr | hr
    · rw [adU_ne (hne r hr)]
      exact hC.2.2.2.1 r hr ty n hty
    · rw [List.mem_singleton.mp hr] at hty ⊢
      show ArrOfT s (adU ca k i cA k i) ty ∧ va_RA s (adU ca k i cA k i) ty
      rw [adU_eq]
      exact hT ty n hty
  · intro r hr j
    rw [h1] at hr
    rcases List.mem_append.mp hr with hr | hr
    · rw [h2 r (hne r hr) j]
      exact hmono _ (hC.2.2.2.2.1 r hr j)
    · rw [List.mem_singleton.mp hr, show M'.2.1 (k, i).1 (k, i).2 j = none from h5 j]
      trivial
  · intro r hr
    rw [h1] at hr
    rcases List.mem_append.mp hr with hr | hr
    · exact hC.2.2.2.2.2.1 r hr
    · rw [List.mem_singleton.mp hr]; exact hk
  · rw [show adU ad k i q 100 0 = ad 100 0 from adU_ne (r := (100, 0)) (fun e => by cases e; omega)]
    exact hC.2.2.2.2.2.2.1
  · rw [show adU ad k i q 101 0 = ad 101 0 from adU_ne (r := (101, 0)) (fun e => by cases e; omega)]
    exact hC.2.2.2.2.2.2.2.1
  · intro q' hq'
    obtain ⟨z1, z2⟩ := hC.2.2.2.2.2.2.2.2 q' hq'
    exact ⟨by rw [h1]; exact List.mem_append_left _ z1, by rw [adU_ne (hne q' z1)]; exact z2⟩
  · rw [lvA_adU hL.2.2.1 hn hk]
    exact hL.1
  · rw [h1, List.length_append, ← hL.2.2.2.1]
    simp only [List.length_cons, List.length_nil]
    omega
  · rw [h1, mSl_app, ← hL.2.2.2.2]
    show slots + mSz k + s0 = slots + s0 + mSz k
    omega
  · exact List.map_congr_left (fun v hv => tv_adU (hst v hv) hn hk)
theorem own_rn : ∀ k, k < 8 → ownN k = mRn k := fun k h => match k, h with
  | 0, _ => rfl
  | 1, _ => rfl
  | 2, _ => rfl
  | 3, _ => rfl
  | 4, _ => rfl
  | 5, _ => rfl
  | 6, _ => rfl
  | 7, _ => rfl
  | n + 8, h => absurd h (by omega)
def mNewO (M : mM) (k : Nat) : mM := (M.1 ++ [(k, mCnt M.1 k)], up2 M.2.1 k (mCnt M.1 k) (fun _ => none), up2 M.2.2.1 k (mCnt M.1 k) (fun _ => 0), up2 M.2.2.2 k (mCnt M.1 k) (fun _ => 0))
def mNewA (M : mM) (k : Nat) : mM := (M.1 ++ [(k, mCnt M.1 k)], up2 M.2.1 k (mCnt M.1 k) (fun _ => none), up2 M.2.2.1 k (mCnt M.1 k) (fun _ => 0), M.2.2.2)
theorem mNewO_1 {M : mM} {k : Nat} {r : Nat × Nat} (hr : r ≠ (k, mCnt M.1 k)) (j : Nat) : (mNewO M k).2.1 r.1 r.2 j = M.2.1 r.1 r.2 j := up2_ne (f := M.2.1) (g := fun _ => none) hr j
theorem mNewO_e1 (M : mM) (k j : Nat) : (mNewO M k).2.1 k (mCnt M.1 k) j = none := congrFun (up2_eq M.2.1 k (mCnt M.1 k) (fun _ => none)) j
theorem mNewO_2 {M : mM} {k : Nat} {r : Nat × Nat} (hr : r ≠ (k, mCnt M.1 k)) (j : Nat) : (mNewO M k).2.2.1 r.1 r.2 j = M.2.2.1 r.1 r.2 j := up2_ne (f := M.2.2.1) (g := fun _ => 0) hr j
theorem mNewO_e2 (M : mM) (k j : Nat) : (mNewO M k).2.2.1 k (mCnt M.1 k) j = 0 := congrFun (up2_eq M.2.2.1 k (mCnt M.1 k) (fun _ => 0)) j
theorem mNewO_3 {M : mM} {k : Nat} {r : Nat × Nat} (hr : r ≠ (k, mCnt M.1 k)) (j : Nat) : (mNewO M k).2.2.2 r.1 r.2 j = M.2.2.2 r.1 r.2 j := up2_ne (f := M.2.2.2) (g := fun _ => 0) hr j
theorem mNewO_e3 (M : mM) (k j : Nat) : (mNewO M k).2.2.2 k (mCnt M.1 k) j = 0 := congrFun (up2_eq M.2.2.2 k (mCnt M.1 k) (fun _ => 0)) j
theorem mNewA_1 {M : mM} {k : Nat} {r : Nat × Nat} (hr : r ≠ (k, mCnt M.1 k)) (j : Nat) : (mNewA M k).2.1 r.1 r.2 j = M.2.1 r.1 r.2 j := up2_ne (f := M.2.1) (g := fun _ => none) hr j
theorem mNewA_e1 (M : mM) (k j : Nat) : (mNewA M k).2.1 k (mCnt M.1 k) j = none := congrFun (up2_eq M.2.1 k (mCnt M.1 k) (fun _ => none)) j
theorem mNewA_2 {M : mM} {k : Nat} {r : Nat × Nat} (hr : r ≠ (k, mCnt M.1 k)) (j : Nat) : (mNewA M k).2.2.1 r.1 r.2 j = M.2.2.1 r.1 r.2 j := up2_ne (f := M.2.2.1) (g := fun _ => 0) hr j
theorem mNewA_e2 (M : mM) (k j : Nat) : (mNewA M k).2.2.1 k (mCnt M.1 k) j = 0 := congrFun (up2_eq M.2.2.1 k (mCnt M.1 k) (fun _ => 0)) j
def fs0 (k : Nat) : List Value := (List.range (mNf k)).map (fun j => defaultValue (mTy k j))
theorem fs0_V {k j : Nat} (h : j < mNf k) : defaultValue (mTy k j) = vp_V (fs0 k) j := by
  unfold vp_V fs0
  rw [List.getD_eq_getElem?_getD, List.getElem?_map, List.getElem?_range h]
  rfl
theorem mFv_new {M : mM} {ad : Nat → Nat → Nat} {k i j : Nat} (hk : k < 8) (hj : j < mNf k) (h1 : M.2.1 k i j = none) (h2 : M.2.2.1 k i j = 0) (h3 : M.2.2.2 k i j = 0) : mFv M ad k i j = defaultValue (mTy k j) := by
  have ho := cl_okTy k hk j hj
  unfold mFv
  rw [h1, h2, h3]
  cases hty : mTy k j <;> rw [hty] at ho <;> first | rfl | cases ho
def tANb (q : Nat × Nat × Nat) : Prop := match nth mKs q.2.2 with
  | some (.inr (ty, n)) => ∃ cn, ty = .object cn ∧ n ≤ 6
  | _ => False
theorem tAN_ob : ∀ q ∈ tAN, tANb q := by
  intro q hq
  unfold tAN at hq
  simp only [List.mem_cons, List.not_mem_nil, or_false] at hq
  rcases hq with rfl | rfl | rfl
  · exact ⟨_, rfl, by decide⟩
  · exact ⟨_, rfl, by decide⟩
  · exact ⟨_, rfl, by decide⟩
section SNN
variable {p : Program} {l : Launch} {e : Env} {R : Room} {s : State} {m : MethodId} {args : Array Value} {below : List Frame} {meth : Method} {c : Code} {D : va_G} {A : Nat → Prop} {b t L : Nat} {Z : List (Nat × Nat)} {ad0 : Nat → Nat → Nat} {xs : Nat → Int32} {I : mI} {d n0 s0 N1 S1 : Nat} {Q : State → Prop} {ip pc ip' : Nat} {ls ls' : List (Option mV)} {st st' : List mV} {M M' : mM} {v : Value}
theorem ms_new (C : mCx p R s m args meth c D A b t L xs I d n0 s0 N1 S1) (hpc : nth I.2.2.2.2.2.2.2.2 ip = some pc) {kd : Nat} (hok : okB I pc (nth I.2.2.2.2.2.2.2.2 (ip + 1)) (.new kd) v = true) (h : mstep L xs (.new kd) v ip ls st M = some (ip', ls', st', M')) (hb : M'.1.length ≤ N1 ∧ mSl M'.1 ≤ S1) (k : mGo p l e R s m args below meth c D A b t Z ad0 Q n0 s0 I ip' ls' st' M') : mGo p l e R s m args below meth c D A b t Z ad0 Q n0 s0 I ip ls st M := by
  have hk : tCN.any (fun q => decide (q.1 = I.1) && decide (q.2.2 = kd) && okS I pc (nth I.2.2.2.2.2.2.2.2 (ip + 1)) (.new q.2.1) 3) = true := hok
  simp only [List.any_eq_true, Bool.and_eq_true, decide_eq_true_eq] at hk
  obtain ⟨q, hq, ⟨hq1, hq2⟩, hk⟩ := hk
  obtain ⟨hd, hn⟩ := okS_spec hk
  have hc8 := tCN_ok q hq
  rw [hq2] at hc8
  have hw : (wCN q).before args s = true := C.2.2.2.2.1 _ (tCN_in _ (List.mem_map.mpr ⟨q, hq, rfl⟩))
  unfold wCN at hw
  rw [hq1, hq2] at hw
  have hw2 : (Cond.instantiable (mRn kd) (mNf kd)).before args s = true := C.2.2.2.2.1 _ (tIN_in _ (List.mem_map.mpr ⟨kd, List.mem_range.mpr hc8, rfl⟩))
  have hw3 : (Cond.initialized (mRn kd)).before args s = true := by
    rw [← own_rn kd hc8]
    exact C.2.2.2.2.1 _ (tII_in _ (List.mem_map.mpr ⟨kd, List.mem_range.mpr (by omega), rfl⟩))
  unfold mstep at h
  dsimp only at h
  rw [mK_obj kd hc8] at h
  dsimp only at h
  split at h
  · cases h
  · rename_i hhas
    cases h
    have hnot := mHas_not hhas
    have hsz : mSz kd = mNf kd := by unfold mSz; rw [mK_obj kd hc8]
    have hb1 := hb.1
    have hb2 := hb.2
    rw [List.length_append] at hb1
    rw [mSl_app, hsz] at hb2
    simp only [List.length_cons, List.length_nil] at hb1
    intro pc' hpc' ad ca H locs cells slots la hC hL hst
    cases hpc.symm.trans hpc'
    have hl1 := hL.2.2.2.1
    have hl2 := hL.2.2.2.2
    have hr1 := C.2.2.2.2.2.2.2.2.2.2.2.2.2.2.2.1
    have hr2 := C.2.2.2.2.2.2.2.2.2.2.2.2.2.2.2.2
    refine va_new (ci := kd) (fs := fs0 kd) C.1 C.2.1 C.2.2.2.2.1 (cl_in kd hc8) (mTy kd) (cl_ty kd hc8) C.2.2.2.1 hw hw2 hw3 (mK0 C.2.2.2.2.2.1) hC.1 hC.2.1 hC.2.2.1 C.2.2.2.2.2.2.1 (cl_at kd hc8) (fun j hj => fs0_V hj) (by omega) (by omega) hd (fun qa H1 hP hD hS => ?_)
    obtain ⟨g1, g2, g3, g4, g5⟩ := mAlloc (k := kd) (i := mCnt M.1 kd) (q := qa) (cA := 0) (M' := mNewO M kd) hC hL hst hnot (by omega) rfl (fun r hr j => mNewO_1 hr j) (fun r hr j => mNewO_2 hr j) (fun r hr j => mNewO_3 hr j) (mNewO_e1 M kd) (fun ty n hty => by rw [mK_obj kd hc8] at hty; cases hty) (e := .inr (kd, fs0 kd)) (by
      rw [mE_obj hc8]
      unfold fs0
      congr 2
      refine List.map_congr_left (fun j hj => mFv_new hc8 (List.mem_range.mp hj) ?_ ?_ ?_)
      · exact mNewO_e1 M kd j
      · exact mNewO_e2 M kd j
      · exact mNewO_e3 M kd j) hP hD hS
    have hg := k _ hn _ _ H1 locs _ _ la g1 g2 (st_cn g5 g4)
    rw [List.map_cons, g3, hsz] at hg
    show W p l e R s m args below meth c H1 locs (cells + 1) (slots + mNf kd) Q (F0 m (pc + 3) la (.ref qa :: List.map (tv ad) st))
    have e1 : tv (adU ad kd (mCnt M.1 kd) qa) (.inr (.inr (some (kd, mCnt M.1 kd)))) = .ref qa := by
      show Value.ref (adU ad kd (mCnt M.1 kd) qa kd (mCnt M.1 kd)) = .ref qa
      rw [adU_eq]
    rw [e1] at hg
    exact hg
theorem ms_newa (C : mCx p R s m args meth c D A b t L xs I d n0 s0 N1 S1) (hpc : nth I.2.2.2.2.2.2.2.2 ip = some pc) {kd : Nat} (hok : okB I pc (nth I.2.2.2.2.2.2.2.2 (ip + 1)) (.anewarray kd) v = true) (h : mstep L xs (.anewarray kd) v ip ls st M = some (ip', ls', st', M')) (hb : M'.1.length ≤ N1 ∧ mSl M'.1 ≤ S1) (k : mGo p l e R s m args below meth c D A b t Z ad0 Q n0 s0 I ip' ls' st' M') : mGo p l e R s m args below meth c D A b t Z ad0 Q n0 s0 I ip ls st M := by
  unfold mstep at h
  dsimp only at h
  split at h
  · rename_i zx zst
    split at h
    · rename_i ty n hkd
      split at h
      · cases h
      · rename_i hno
        cases h
        have hnot : (kd, mCnt M.1 kd) ∉ M.1 := mHas_not (fun z => hno (Or.inr (Or.inr z)))
        have hxn : zx.toNatClampNeg = n := Decidable.byContradiction (fun z => hno (Or.inr (Or.inl z)))
        have hsz : mSz kd = n := by unfold mSz; rw [hkd]
        have hb1 := hb.1
        have hb2 := hb.2
        rw [List.length_append] at hb1
        rw [mSl_app, hsz] at hb2
        simp only [List.length_cons, List.length_nil] at hb1
        unfold okB at hok
        dsimp only at hok
        rw [hkd, Bool.or_eq_true] at hok
        intro pc' hpc' ad ca H locs cells slots la hC hL hst
        cases hpc.symm.trans hpc'
        have hl1 := hL.2.2.2.1
        have hl2 := hL.2.2.2.2
        have hr1 := C.2.2.2.2.2.2.2.2.2.2.2.2.2.2.2.1
        have hr2 := C.2.2.2.2.2.2.2.2.2.2.2.2.2.2.2.2
        show W p l e R s m args below meth c H locs cells slots Q (F0 m pc la (.int zx :: List.map (tv ad) _))
        rcases hok with hok | hok
        · cases ty
          case int =>
            have hn1 := (mK_n hkd (fun C z => by cases z)).1
            have hk : okS I pc (nth I.2.2.2.2.2.2.2.2 (ip + 1)) (.newarray .int) 2 = true := hok
            obtain ⟨hd, hn⟩ := okS_spec hk
            have hby : n * componentBytes .int ≤ 536870912 := by
              have e9 : componentBytes .int ≤ 4 := by decide
              have e8 := Nat.mul_le_mul hn1 e9
              omega
            refine va_newa (D := D) (atype := .int) (ty := .int) (a0 := (n, .inl (fun _ => 0))) C.1 C.2.1 (C.2.2.2.2.1 _ (tAR_in _ (by simp [newarray.typeOf]))) rfl (mK0 C.2.2.2.2.2.1) hC.1 hC.2.1 hC.2.2.1 C.2.2.2.2.2.2.1 (fun cA => rfl) (fun z => hno (Or.inl z)) hxn hby (by omega) (by omega) hd (fun qa cA H1 hK hP hD hS => ?_)
            obtain ⟨g1, g2, g3, g4, g5⟩ := mAlloc (k := kd) (i := mCnt M.1 kd) (q := qa) (cA := cA) (M' := mNewA M kd) hC hL (st_tl hst) hnot (mK_lt hkd) rfl (fun r hr j => mNewA_1 hr j) (fun r hr j => mNewA_2 hr j) (fun r hr j => rfl) (mNewA_e1 M kd) (fun ty' n' hty => by rw [hkd] at hty; cases hty; exact hK.2 0 (cA, .int) rfl) (e := .inl (cA, n, .inl (fun _ => 0))) (by
              rw [mE_arr hkd, adU_eq]
              show Sum.inl (cA, n, Sum.inl (up2 M.2.2.1 kd (mCnt M.1 kd) (fun _ => 0) kd (mCnt M.1 kd))) = _
              rw [up2_eq]) hP hD hS
            have hg := k _ hn _ _ H1 locs _ _ la g1 g2 (st_cn g5 g4)
            rw [List.map_cons, g3, hsz] at hg
            have e1 : tv (adU ad kd (mCnt M.1 kd) qa) (.inr (.inr (some (kd, mCnt M.1 kd)))) = .ref qa := by
              show Value.ref (adU ad kd (mCnt M.1 kd) qa kd (mCnt M.1 kd)) = .ref qa
              rw [adU_eq]
            rw [e1] at hg
            exact hg
          case byte =>
            have hn1 := (mK_n hkd (fun C z => by cases z)).1
            have hk : okS I pc (nth I.2.2.2.2.2.2.2.2 (ip + 1)) (.newarray .byte) 2 = true := hok
            obtain ⟨hd, hn⟩ := okS_spec hk
            have hby : n * componentBytes .byte ≤ 536870912 := by
              have e9 : componentBytes .byte ≤ 4 := by decide
              have e8 := Nat.mul_le_mul hn1 e9
              omega
            refine va_newa (D := D) (atype := .byte) (ty := .byte) (a0 := (n, .inl (fun _ => 0))) C.1 C.2.1 (C.2.2.2.2.1 _ (tAR_in _ (by simp [newarray.typeOf]))) rfl (mK0 C.2.2.2.2.2.1) hC.1 hC.2.1 hC.2.2.1 C.2.2.2.2.2.2.1 (fun cA => rfl) (fun z => hno (Or.inl z)) hxn hby (by omega) (by omega) hd (fun qa cA H1 hK hP hD hS => ?_)
            obtain ⟨g1, g2, g3, g4, g5⟩ := mAlloc (k := kd) (i := mCnt M.1 kd) (q := qa) (cA := cA) (M' := mNewA M kd) hC hL (st_tl hst) hnot (mK_lt hkd) rfl (fun r hr j => mNewA_1 hr j) (fun r hr j => mNewA_2 hr j) (fun r hr j => rfl) (mNewA_e1 M kd) (fun ty' n' hty => by rw [hkd] at hty; cases hty; exact hK.2 0 (cA, .byte) rfl) (e := .inl (cA, n, .inl (fun _ => 0))) (by
              rw [mE_arr hkd, adU_eq]
              show Sum.inl (cA, n, Sum.inl (up2 M.2.2.1 kd (mCnt M.1 kd) (fun _ => 0) kd (mCnt M.1 kd))) = _
              rw [up2_eq]) hP hD hS
            have hg := k _ hn _ _ H1 locs _ _ la g1 g2 (st_cn g5 g4)
            rw [List.map_cons, g3, hsz] at hg
            have e1 : tv (adU ad kd (mCnt M.1 kd) qa) (.inr (.inr (some (kd, mCnt M.1 kd)))) = .ref qa := by
              show Value.ref (adU ad kd (mCnt M.1 kd) qa kd (mCnt M.1 kd)) = .ref qa
              rw [adU_eq]
            rw [e1] at hg
            exact hg
          case boolean =>
            have hn1 := (mK_n hkd (fun C z => by cases z)).1
            have hk : okS I pc (nth I.2.2.2.2.2.2.2.2 (ip + 1)) (.newarray .boolean) 2 = true := hok
            obtain ⟨hd, hn⟩ := okS_spec hk
            have hby : n * componentBytes .boolean ≤ 536870912 := by
              have e9 : componentBytes .boolean ≤ 4 := by decide
              have e8 := Nat.mul_le_mul hn1 e9
              omega
            refine va_newa (D := D) (atype := .boolean) (ty := .boolean) (a0 := (n, .inl (fun _ => 0))) C.1 C.2.1 (C.2.2.2.2.1 _ (tAR_in _ (by simp [newarray.typeOf]))) rfl (mK0 C.2.2.2.2.2.1) hC.1 hC.2.1 hC.2.2.1 C.2.2.2.2.2.2.1 (fun cA => rfl) (fun z => hno (Or.inl z)) hxn hby (by omega) (by omega) hd (fun qa cA H1 hK hP hD hS => ?_)
            obtain ⟨g1, g2, g3, g4, g5⟩ := mAlloc (k := kd) (i := mCnt M.1 kd) (q := qa) (cA := cA) (M' := mNewA M kd) hC hL (st_tl hst) hnot (mK_lt hkd) rfl (fun r hr j => mNewA_1 hr j) (fun r hr j => mNewA_2 hr j) (fun r hr j => rfl) (mNewA_e1 M kd) (fun ty' n' hty => by rw [hkd] at hty; cases hty; exact hK.2 0 (cA, .boolean) rfl) (e := .inl (cA, n, .inl (fun _ => 0))) (by
              rw [mE_arr hkd, adU_eq]
              show Sum.inl (cA, n, Sum.inl (up2 M.2.2.1 kd (mCnt M.1 kd) (fun _ => 0) kd (mCnt M.1 kd))) = _
              rw [up2_eq]) hP hD hS
            have hg := k _ hn _ _ H1 locs _ _ la g1 g2 (st_cn g5 g4)
            rw [List.map_cons, g3, hsz] at hg
            have e1 : tv (adU ad kd (mCnt M.1 kd) qa) (.inr (.inr (some (kd, mCnt M.1 kd)))) = .ref qa := by
              show Value.ref (adU ad kd (mCnt M.1 kd) qa kd (mCnt M.1 kd)) = .ref qa
              rw [adU_eq]
            rw [e1] at hg
            exact hg
          all_goals exact Bool.noConfusion (show false = true from hok)
        · simp only [List.any_eq_true, Bool.and_eq_true, decide_eq_true_eq] at hok
          obtain ⟨q, hq, ⟨hq1, hq2⟩, hk⟩ := hok
          obtain ⟨hd, hn⟩ := okS_spec hk
          have hw : (wAN q).before args s = true := C.2.2.2.2.1 _ (tAN_in _ (List.mem_map.mpr ⟨q, hq, rfl⟩))
          unfold wAN at hw
          have hao := C.2.2.2.2.2.2.2.2.2.2.1.2.1 q hq
          rw [hq1, hq2] at hw
          rw [hq2] at hao
          have hob : ∃ cn, ty = .object cn ∧ n ≤ 6 := by
            have h6 := tAN_ob q hq
            unfold tANb at h6
            rw [hq2, hkd] at h6
            exact h6
          obtain ⟨cn, hob, hn6⟩ := hob
          subst hob
          obtain ⟨hcn, hel8⟩ := mEl_ok hkd
          subst hcn
          refine va_newq (D := D) C.1 C.2.1 C.2.2.2.1 hw hao (mK0 C.2.2.2.2.2.1) hC.1 hC.2.1 hC.2.2.1 C.2.2.2.2.2.2.1 (fun z => hno (Or.inl z)) hxn (by omega) (by omega) (by omega) hd (fun qa cA H1 hK hP hD hS => ?_)
          obtain ⟨g1, g2, g3, g4, g5⟩ := mAlloc (k := kd) (i := mCnt M.1 kd) (q := qa) (cA := cA) (M' := mNewA M kd) hC hL (st_tl hst) hnot (mK_lt hkd) rfl (fun r hr j => mNewA_1 hr j) (fun r hr j => mNewA_2 hr j) (fun r hr j => rfl) (mNewA_e1 M kd) (fun ty' n' hty => by rw [hkd] at hty; cases hty; exact hK.2 0 (cA, .object (mRn (mEl kd))) rfl) (e := .inl (cA, n, .inr (.inr (.inr (.inr (fun _ => none)))))) (by
            rw [mE_arr hkd, adU_eq]
            show Sum.inl (cA, n, Sum.inr (Sum.inr (Sum.inr (Sum.inr (fun j => (up2 M.2.1 kd (mCnt M.1 kd) (fun _ => none) kd (mCnt M.1 kd) j).map fun (q' : Nat × Nat) => adU ad kd (mCnt M.1 kd) qa q'.1 q'.2))))) = _
            rw [up2_eq]
            rfl) hP hD hS
          have hg := k _ hn _ _ H1 locs _ _ la g1 g2 (st_cn g5 g4)
          rw [List.map_cons, g3, hsz] at hg
          have e1 : tv (adU ad kd (mCnt M.1 kd) qa) (.inr (.inr (some (kd, mCnt M.1 kd)))) = .ref qa := by
            show Value.ref (adU ad kd (mCnt M.1 kd) qa kd (mCnt M.1 kd)) = .ref qa
            rw [adU_eq]
          rw [e1] at hg
          exact hg
    · cases h
  · cases h
end SNN
