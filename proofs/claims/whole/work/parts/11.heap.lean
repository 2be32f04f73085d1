/-! instructions that read, write or make cells -/
theorem mK_obj : ∀ k, k < 8 → nth mKs k = some (.inl k) := fun k h => match k, h with
  | 0, _ => rfl
  | 1, _ => rfl
  | 2, _ => rfl
  | 3, _ => rfl
  | 4, _ => rfl
  | 5, _ => rfl
  | 6, _ => rfl
  | 7, _ => rfl
  | n + 8, h => absurd h (by omega)
theorem mK_lt {k : Nat} {x : Nat ⊕ (FieldType × Nat)} (h : nth mKs k = some x) : k < 52 := nth_lt h
def okTy : FieldType → Bool
  | .int => true
  | .boolean => true
  | .long => true
  | .object _ => true
  | .array _ => true
  | _ => false
theorem cl_okTy : ∀ ci, ci < 8 → ∀ j, j < mNf ci → okTy (mTy ci j) = true := by decide +kernel
def mElB (k : Nat) : Bool := match nth mKs k with
  | some (.inr (.object C, _)) => decide (C = mRn (mEl k)) && decide (mEl k < 8)
  | some (.inr (ty, n)) => decide (n ≤ 1110) && (decide (ty = .int) || decide (ty = .byte) || decide (ty = .boolean))
  | some (.inl ci) => decide (ci = k) && decide (k < 8)
  | none => true
theorem mElB_ok : ∀ k, k < 52 → mElB k = true := by decide +kernel
theorem mEl_ok {k n : Nat} {C : String} (h : nth mKs k = some (.inr (.object C, n))) : C = mRn (mEl k) ∧ mEl k < 8 := by
  have h1 := mElB_ok k (mK_lt h)
  unfold mElB at h1
  rw [h] at h1
  simpa only [Bool.and_eq_true, decide_eq_true_eq] using h1
theorem mK_inl {k ci : Nat} (h : nth mKs k = some (.inl ci)) : ci = k ∧ k < 8 := by
  have h1 := mElB_ok k (mK_lt h)
  unfold mElB at h1
  rw [h] at h1
  simpa only [Bool.and_eq_true, decide_eq_true_eq] using h1
theorem mK_n {k n : Nat} {ty : FieldType} (h : nth mKs k = some (.inr (ty, n))) (ho : ∀ C, ty ≠ .object C) : n ≤ 1110 ∧ (ty = .int ∨ ty = .byte ∨ ty = .boolean) := by
  have h1 := mElB_ok k (mK_lt h)
  unfold mElB at h1
  rw [h] at h1
  cases ty <;> simp_all
theorem mWs_at {M : mM} (ad : Nat → Nat → Nat) (ca : Nat → Nat → ClassId) {r : Nat × Nat} (h : r ∈ M.1) : ∃ q0 : Nat, M.1[q0]? = some r ∧ (mWs M ad ca)[q0]? = some (ad r.1 r.2, mE M ad ca r) := by
  obtain ⟨q0, hq⟩ := List.getElem?_of_mem h
  refine ⟨q0, hq, ?_⟩
  unfold mWs
  rw [List.getElem?_map, hq]
  rfl
theorem mWs_set {A : Nat → Prop} {M M' : mM} {ad : Nat → Nat → Nat} {ca : Nat → Nat → ClassId} {r : Nat × Nat} {q0 : Nat} {e' : va_E} (hD : va_D A (mWs M ad ca)) (hq : M.1[q0]? = some r) (h1 : M'.1 = M.1) (h2 : mE M' ad ca r = e') (h3 : ∀ r', r' ≠ r → mE M' ad ca r' = mE M ad ca r') : mWs M' ad ca = (mWs M ad ca).set q0 (ad r.1 r.2, e') := by
  refine List.ext_getElem? (fun j => ?_)
  have hlen : q0 < (mWs M ad ca).length := by
    unfold mWs
    rw [List.length_map]
    exact (List.getElem?_eq_some_iff.mp hq).1
  rw [List.getElem?_set]
  by_cases hj : q0 = j
  · subst hj
    rw [if_pos rfl, if_pos hlen]
    unfold mWs
    rw [List.getElem?_map, h1, hq]
    show some (ad r.1 r.2, mE M' ad ca r) = _
    rw [h2]
  · rw [if_neg hj]
    unfold mWs
    rw [List.getElem?_map, List.getElem?_map, h1]
    cases hr : M.1[j]? with
    | none => rfl
    | some r' =>
      show some (ad r'.1 r'.2, mE M' ad ca r') = some (ad r'.1 r'.2, mE M ad ca r')
      rw [h3 r' (fun e => hj ?_)]
      subst e
      refine hD.1 q0 j (ad r'.1 r'.2, mE M ad ca r') (ad r'.1 r'.2, mE M ad ca r') ?_ ?_ rfl
      · unfold mWs
        rw [List.getElem?_map, hq]
        rfl
      · unfold mWs
        rw [List.getElem?_map, hr]
        rfl
theorem mE_congr {M M' : mM} {ad ad' : Nat → Nat → Nat} {ca ca' : Nat → Nat → ClassId} {r : Nat × Nat} (h1 : ∀ j, (M'.2.1 r.1 r.2 j).map (fun q => ad' q.1 q.2) = (M.2.1 r.1 r.2 j).map (fun q => ad q.1 q.2)) (h2 : ∀ j, M'.2.2.1 r.1 r.2 j = M.2.2.1 r.1 r.2 j) (h3 : ∀ j, M'.2.2.2 r.1 r.2 j = M.2.2.2 r.1 r.2 j) (h4 : ca' r.1 r.2 = ca r.1 r.2) : mE M' ad' ca' r = mE M ad ca r := by
  have hF : mFv M' ad' r.1 r.2 = mFv M ad r.1 r.2 := by
    funext j
    unfold mFv
    rw [h1 j, h2 j, h3 j]
  have hA : ∀ ty, mAr M' ad' ty r.1 r.2 = mAr M ad ty r.1 r.2 := by
    intro ty
    have e2 : M'.2.2.1 r.1 r.2 = M.2.2.1 r.1 r.2 := funext h2
    have e1 : (fun j => (M'.2.1 r.1 r.2 j).map (fun q => ad' q.1 q.2)) = (fun j => (M.2.1 r.1 r.2 j).map (fun q => ad q.1 q.2)) := funext h1
    unfold mAr
    rw [e1, e2]
  unfold mE
  rw [hF, h4]
  simp only [hA]
theorem up3_ne {α : Type} {f : Nat → Nat → Nat → α} {k i j : Nat} {v : α} {r : Nat × Nat} (h : r ≠ (k, i)) (j' : Nat) : up3 f k i j v r.1 r.2 j' = f r.1 r.2 j' := by
  unfold up3
  rw [if_neg]
  rintro ⟨h1, h2, -⟩
  exact h (Prod.ext h1 h2)
theorem up2_ne {α : Type} {f : Nat → Nat → Nat → α} {k i : Nat} {g : Nat → α} {r : Nat × Nat} (h : r ≠ (k, i)) (j' : Nat) : up2 f k i g r.1 r.2 j' = f r.1 r.2 j' := by
  unfold up2
  rw [if_neg]
  rintro ⟨h1, h2⟩
  exact h (Prod.ext h1 h2)
theorem up3_eq {α : Type} (f : Nat → Nat → Nat → α) (k i j : Nat) (v : α) : up3 f k i j v k i j = v := if_pos ⟨rfl, rfl, rfl⟩
theorem up3_nj {α : Type} {f : Nat → Nat → Nat → α} {k i j j' : Nat} {v : α} (h : j' ≠ j) : up3 f k i j v k i j' = f k i j' := if_neg (fun q => h q.2.2)
theorem up2_eq {α : Type} (f : Nat → Nat → Nat → α) (k i : Nat) (g : Nat → α) : up2 f k i g k i = g := funext fun _ => if_pos ⟨rfl, rfl⟩
theorem up3_fun {α : Type} (f : Nat → Nat → Nat → Int32) (k i j : Nat) (v : Int32) : up3 f k i j v k i = upd (f k i) j v := by
  funext j'
  unfold up3 upd
  by_cases h : j' = j
  · rw [if_pos ⟨rfl, rfl, h⟩, if_pos h]
  · rw [if_neg (fun q => h q.2.2), if_neg h]
theorem mMap_set {M M' : mM} {ad : Nat → Nat → Nat} {k i j N : Nat} {v : Value} (hj : j < N) (h1 : mFv M' ad k i j = v) (h2 : ∀ j', j' ≠ j → mFv M' ad k i j' = mFv M ad k i j') : (List.range N).map (mFv M' ad k i) = ((List.range N).map (mFv M ad k i)).set j v := by
  refine List.ext_getElem? (fun x => ?_)
  rw [List.getElem?_set, List.getElem?_map, List.getElem?_map]
  by_cases hx : j = x
  · subst hx
    rw [if_pos rfl, if_pos (by rw [List.length_map, List.length_range]; exact hj), List.getElem?_range hj, Option.map_some, h1]
  · rw [if_neg hx]
    cases hr : (List.range N)[x]? with
    | none => rfl
    | some y =>
      have hy : y = x := by
        obtain ⟨hl, e⟩ := List.getElem?_eq_some_iff.mp hr
        rw [List.getElem_range] at e
        exact e.symm
      rw [hy, Option.map_some, Option.map_some, h2 x (fun e => hx e.symm)]
theorem rOK_in {M : mM} {k i : Nat} (h : rOK M (.inr (.inr (some (k, i))))) (hk : k < 52) : (k, i) ∈ M.1 := by
  rcases h with h | h | h
  · exact h
  · cases h; omega
  · cases h; omega
theorem mK1 {s : State} {D : va_G} {cA : ClassId} {ty : FieldType} (h : ∀ (c : Nat) (q : vw_C), vwCl[c]? = some q → u_Kn s q.1 q.2.1 q.2.2 (D.1 c) (D.2 c)) (hT : ArrOfT s cA ty ∧ va_RA s cA ty) : va_K D vwCl [(cA, ty)] s := ⟨h, fun j q hj => by
  cases j with
  | zero => cases hj; exact hT
  | succ j => cases hj⟩
theorem mK0 {s : State} {D : va_G} (h : ∀ (c : Nat) (q : vw_C), vwCl[c]? = some q → u_Kn s q.1 q.2.1 q.2.2 (D.1 c) (D.2 c)) : va_K D vwCl [] s := ⟨h, fun j q hj => by cases hj⟩
theorem mE_obj {M : mM} {ad : Nat → Nat → Nat} {ca : Nat → Nat → ClassId} {k i : Nat} (hk : k < 8) : mE M ad ca (k, i) = .inr (k, (List.range (mNf k)).map (mFv M ad k i)) := by
  unfold mE
  rw [mK_obj k hk]
theorem mE_arr {M : mM} {ad : Nat → Nat → Nat} {ca : Nat → Nat → ClassId} {k i n : Nat} {ty : FieldType} (hk : nth mKs k = some (.inr (ty, n))) : mE M ad ca (k, i) = .inl (ca k i, n, mAr M ad ty k i) := by
  unfold mE
  rw [hk]
theorem mRows {M : mM} {ad : Nat → Nat → Nat} {k i j N : Nat} (hj : j < N) : ((List.range N).map (mFv M ad k i))[j]? = some (mFv M ad k i j) := by
  rw [List.getElem?_map, List.getElem?_range hj, Option.map_some]
theorem mSum {st : List mV} {ad : Nat → Nat → Nat} : ((st.map (tv ad)).map fun v => v.category).sum = mCats st := by
  induction st with
  | nil => rfl
  | cons a l ih =>
    rw [List.map_cons, List.map_cons, List.sum_cons, ih, tv_cat]
    rfl
section SNH
variable {p : Program} {l : Launch} {e : Env} {R : Room} {s : State} {m : MethodId} {args : Array Value} {below : List Frame} {meth : Method} {c : Code} {D : va_G} {A : Nat → Prop} {b t L : Nat} {Z : List (Nat × Nat)} {ad0 : Nat → Nat → Nat} {xs : Nat → Int32} {I : mI} {d n0 s0 N1 S1 : Nat} {Q : State → Prop} {ip pc ip' : Nat} {ls ls' : List (Option mV)} {st st' : List mV} {M M' : mM} {v : Value}
theorem ms_get (C : mCx p R s m args meth c D A b t L xs I d n0 s0 N1 S1) (hpc : nth I.2.2.2.2.2.2.2.2 ip = some pc) {ci j : Nat} (hok : okB I pc (nth I.2.2.2.2.2.2.2.2 (ip + 1)) (.invokeinterface ci j) v = true) (h : mstep L xs (.invokeinterface ci j) v ip ls st M = some (ip', ls', st', M')) (hb : M'.1.length ≤ N1 ∧ mSl M'.1 ≤ S1) (k : mGo p l e R s m args below meth c D A b t Z ad0 Q n0 s0 I ip' ls' st' M') : mGo p l e R s m args below meth c D A b t Z ad0 Q n0 s0 I ip ls st M := by
  have hk : tFT.any (fun q => decide (q.1 = I.1) && decide (q.2.2.1 = ci) && decide (q.2.2.2 = j) && okS I pc (nth I.2.2.2.2.2.2.2.2 (ip + 1)) (.getfield q.2.1) 3) = true := hok
  simp only [List.any_eq_true, Bool.and_eq_true, decide_eq_true_eq] at hk
  obtain ⟨q, hq, ⟨⟨hq1, hq2⟩, hq3⟩, hk⟩ := hk
  obtain ⟨hd, hn⟩ := okS_spec hk
  obtain ⟨hc8, hjn, hcl⟩ := tFT_ok q hq
  have hw : (wFT q).before args s = true := C.2.2.2.2.1 _ (tFT_in _ (List.mem_map.mpr ⟨q, hq, rfl⟩))
  unfold wFT at hw
  rw [hq1, hq2, hq3] at hw
  rw [hq2, hq3] at hcl hjn
  rw [hq2] at hc8
  have key : ∀ i (x : mV), (∀ ad, tv ad x = mFv M ad ci i j) → (∀ r, x = .inr (.inr r) → r = M.2.1 ci i j) → ∀ st1, st = .inr (.inr (some (ci, i))) :: st1 → mGo p l e R s m args below meth c D A b t Z ad0 Q n0 s0 I (ip + 1) ls (x :: st1) M → mGo p l e R s m args below meth c D A b t Z ad0 Q n0 s0 I ip ls st M := by
    intro i x hx hx2 st1 e0 k
    subst e0
    intro pc' hpc' ad ca H locs cells slots la hC hL hst
    cases hpc.symm.trans hpc'
    have hin := rOK_in (st_hd hst) (by omega)
    obtain ⟨q0, hq0, hq9⟩ := mWs_at ad ca hin
    rw [mE_obj hc8] at hq9
    show W p l e R s m args below meth c H locs cells slots Q (F0 m pc la (.ref (ad ci i) :: List.map (tv ad) st1))
    refine va_get (D := D) (v := mFv M ad ci i j) C.1 C.2.1 C.2.2.2.2.1 (cl_in ci hc8) C.2.2.2.1 (mK0 C.2.2.2.2.2.1) hC.1 q0 hq9 (cl_at ci hc8) j hjn hw (fun y hy => by rw [← hcl]; exact hy) (mRows hjn) hd ?_
    have hg := k _ hn ad ca H locs cells slots la hC hL (st_cn ?_ (st_tl hst))
    · rw [List.map_cons, hx ad] at hg
      exact hg
    · rcases x with x | x | r
      · trivial
      · trivial
      · rw [hx2 r rfl]
        exact hC.2.2.2.2.1 (ci, i) hin j
  unfold mstep at h
  dsimp only at h
  split at h
  · rename_i k1 i st1
    split at h
    · rename_i hkc
      subst hkc
      split at h
      · rename_i ht
        cases h
        exact key i (.inl (M.2.2.1 k1 i j)) (fun ad => by unfold mFv; rw [ht]; rfl) (fun r hr => by cases hr) _ rfl k
      · rename_i ht
        cases h
        exact key i (.inl (M.2.2.1 k1 i j)) (fun ad => by unfold mFv; rw [ht]; rfl) (fun r hr => by cases hr) _ rfl k
      · rename_i ht
        cases h
        exact key i (.inr (.inl (M.2.2.2 k1 i j))) (fun ad => by unfold mFv; rw [ht]; rfl) (fun r hr => by cases hr) _ rfl k
      · rename_i ht
        cases h
        exact key i (.inr (.inr (M.2.1 k1 i j))) (fun ad => by unfold mFv; rw [ht]; rfl) (fun r hr => by cases hr; rfl) _ rfl k
      · rename_i ht
        cases h
        exact key i (.inr (.inr (M.2.1 k1 i j))) (fun ad => by unfold mFv; rw [ht]; rfl) (fun r hr => by cases hr; rfl) _ rfl k
      · cases h
    · cases h
  · cases h
end SNH
