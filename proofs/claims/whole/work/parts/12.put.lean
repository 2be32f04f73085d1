theorem rOK_same {M M' : mM} (h : M'.1 = M.1) (v : mV) : rOK M' v ↔ rOK M v := by
  rcases v with x | x | r
  · exact Iff.rfl
  · exact Iff.rfl
  · cases r with
    | none => exact Iff.rfl
    | some r =>
      show (r ∈ M'.1 ∨ r = (100, 0) ∨ r = (101, 0)) ↔ (r ∈ M.1 ∨ r = (100, 0) ∨ r = (101, 0))
      rw [h]
theorem mLo_same {n0 s0 ml : Nat} {ls : List (Option mV)} {M M' : mM} {ad : Nat → Nat → Nat} {cells slots : Nat} {la : Array Slot} (e : M'.1 = M.1) (h : mLo n0 s0 ml ls M ad cells slots la) : mLo n0 s0 ml ls M' ad cells slots la :=
  ⟨h.1, h.2.1, fun v hv => (rOK_same e v).mpr (h.2.2.1 v hv), by rw [e]; exact h.2.2.2.1, by rw [e]; exact h.2.2.2.2⟩
theorem mCe_set {s : State} {D : va_G} {A : Nat → Prop} {b t : Nat} {Z : List (Nat × Nat)} {ad0 : Nat → Nat → Nat} {M M' : mM} {ad : Nat → Nat → Nat} {ca : Nat → Nat → ClassId} {H H1 : Heap} {locs locs1 : List Loc} {q0 : Nat} {r : Nat × Nat} {e' : va_E} (hC : mCe s D A b t Z ad0 M ad ca H locs) (hq : M.1[q0]? = some r) (h1 : M'.1 = M.1) (h2 : mE M' ad ca r = e') (h3 : ∀ r', r' ≠ r → mE M' ad ca r' = mE M ad ca r') (hcl : ∀ r ∈ M.1, ∀ j, rOK M (.inr (.inr (M'.2.1 r.1 r.2 j)))) (hP : va_P D vwCl ((mWs M ad ca).set q0 (ad r.1 r.2, e')) H1) (hD : va_D A ((mWs M ad ca).set q0 (ad r.1 r.2, e'))) (hS : va_S A s.heap H1 locs1) : mCe s D A b t Z ad0 M' ad ca H1 locs1 := by
  have e := mWs_set hC.2.1 hq h1 h2 h3
  refine ⟨by rw [e]; exact hP, by rw [e]; exact hD, hS, by rw [h1]; exact hC.2.2.2.1, fun r hr j => (rOK_same h1 _).mpr (hcl r (by rw [← h1]; exact hr) j), by rw [h1]; exact hC.2.2.2.2.2.1, hC.2.2.2.2.2.2.1, hC.2.2.2.2.2.2.2.1, by rw [h1]; exact hC.2.2.2.2.2.2.2.2⟩
section SNP
variable {p : Program} {l : Launch} {e : Env} {R : Room} {s : State} {m : MethodId} {args : Array Value} {below : List Frame} {meth : Method} {c : Code} {D : va_G} {A : Nat → Prop} {b t L : Nat} {Z : List (Nat × Nat)} {ad0 : Nat → Nat → Nat} {xs : Nat → Int32} {I : mI} {d n0 s0 N1 S1 : Nat} {Q : State → Prop} {ip pc ip' : Nat} {ls ls' : List (Option mV)} {st st' : List mV} {M M' : mM} {v : Value}
theorem ms_put (C : mCx p R s m args meth c D A b t L xs I d n0 s0 N1 S1) (hpc : nth I.2.2.2.2.2.2.2.2 ip = some pc) {ci j : Nat} (hok : okB I pc (nth I.2.2.2.2.2.2.2.2 (ip + 1)) (.multianewarray ci j) v = true) (h : mstep L xs (.multianewarray ci j) v ip ls st M = some (ip', ls', st', M')) (hb : M'.1.length ≤ N1 ∧ mSl M'.1 ≤ S1) (k : mGo p l e R s m args below meth c D A b t Z ad0 Q n0 s0 I ip' ls' st' M') : mGo p l e R s m args below meth c D A b t Z ad0 Q n0 s0 I ip ls st M := by
  have hk : tFT.any (fun q => decide (q.1 = I.1) && decide (q.2.2.1 = ci) && decide (q.2.2.2 = j) && okS I pc (nth I.2.2.2.2.2.2.2.2 (ip + 1)) (.putfield q.2.1) 3 && (!(mFt ci j).2.2.2 || (decide (I.2.1.name = "<init>") && decide (I.1 = ci)))) = true := hok
  simp only [List.any_eq_true, Bool.and_eq_true, decide_eq_true_eq, Bool.or_eq_true, Bool.not_eq_true'] at hk
  obtain ⟨q, hq, ⟨⟨⟨hq1, hq2⟩, hq3⟩, hk⟩, hfin⟩ := hk
  obtain ⟨hd, hn⟩ := okS_spec hk
  obtain ⟨hc8, hjn, hcl⟩ := tFT_ok q hq
  have hw : (wFT q).before args s = true := C.2.2.2.2.1 _ (tFT_in _ (List.mem_map.mpr ⟨q, hq, rfl⟩))
  unfold wFT at hw
  rw [hq1, hq2, hq3] at hw
  rw [hq2, hq3] at hcl hjn
  rw [hq2] at hc8
  have key : ∀ i (x : mV) (M1 : mM), M1.1 = M.1 → (∀ ad, mFv M1 ad ci i j = tv ad x) → (∀ ad j', j' ≠ j → mFv M1 ad ci i j' = mFv M ad ci i j') → (∀ ad ca r', r' ≠ (ci, i) → mE M1 ad ca r' = mE M ad ca r') → (∀ ad, narrow (mTy ci j) (tv ad x) = tv ad x ∧ fits (mTy ci j) (tv ad x) = true) →
      (∀ (r : Nat × Nat) (j' : Nat), M1.2.1 r.1 r.2 j' = M.2.1 r.1 r.2 j' ∨ x = .inr (.inr (M1.2.1 r.1 r.2 j'))) → ∀ st1, st = x :: .inr (.inr (some (ci, i))) :: st1 → mGo p l e R s m args below meth c D A b t Z ad0 Q n0 s0 I (ip + 1) ls st1 M1 → mGo p l e R s m args below meth c D A b t Z ad0 Q n0 s0 I ip ls st M := by
    intro i x M1 e1 hx hx2 hE hnf hcl2 st1 e0 k
    subst e0
    intro pc' hpc' ad ca H locs cells slots la hC hL hst
    cases hpc.symm.trans hpc'
    have hin := rOK_in (st_hd (st_tl hst)) (by omega)
    obtain ⟨q0, hq0, hq9⟩ := mWs_at ad ca hin
    rw [mE_obj hc8] at hq9
    have hset : mE M1 ad ca (ci, i) = .inr (ci, ((List.range (mNf ci)).map (mFv M ad ci i)).set j (tv ad x)) := by
      rw [mE_obj hc8, mMap_set hjn (hx ad) (hx2 ad)]
    have hclo : ∀ r ∈ M.1, ∀ j', rOK M (.inr (.inr (M1.2.1 r.1 r.2 j'))) := fun r hr j' => by
      rcases hcl2 r j' with e2 | e2
      · rw [e2]; exact hC.2.2.2.2.1 r hr j'
      · rw [← e2]; exact st_hd hst
    have hfs : j < ((List.range (mNf ci)).map (mFv M ad ci i)).length := by rw [List.length_map, List.length_range]; exact hjn
    show W p l e R s m args below meth c H locs cells slots Q (F0 m pc la (tv ad x :: .ref (ad ci i) :: List.map (tv ad) st1))
    by_cases hf : (mFt ci j).2.2.2 = true
    · have hin2 : I.2.1.name = "<init>" ∧ I.1 = ci := by
        rcases hfin with h0 | h0
        · rw [h0] at hf; cases hf
        · exact h0
      have hown : s.vm.findClass (mRn ci) = some m.cls := by
        have h1 := C.2.2.2.1
        rw [hin2.2] at h1
        rw [show mRn ci = ownN ci from ?_]
        · exact h1
        · match ci, hc8 with
          | 0, _ => rfl
          | 1, _ => rfl
          | 2, _ => rfl
          | 3, _ => rfl
          | 4, _ => rfl
          | 5, _ => rfl
          | 6, _ => rfl
          | 7, _ => rfl
          | n + 8, h => exact absurd h (by omega)
      have hwo : (Cond.fieldLink (mRn ci) q.2.1 (mRn ci) (mFt ci j).2.1 (mFt ci j).2.2.1).before args s = true := by
        rw [hin2.2] at hw
        rw [show mRn ci = ownN ci from ?_]
        · rw [show mRn ci = ownN ci from ?_] at hw
          · exact hw
          · match ci, hc8 with
            | 0, _ => rfl
            | 1, _ => rfl
            | 2, _ => rfl
            | 3, _ => rfl
            | 4, _ => rfl
            | 5, _ => rfl
            | 6, _ => rfl
            | 7, _ => rfl
            | n + 8, h => exact absurd h (by omega)
        · match ci, hc8 with
          | 0, _ => rfl
          | 1, _ => rfl
          | 2, _ => rfl
          | 3, _ => rfl
          | 4, _ => rfl
          | 5, _ => rfl
          | 6, _ => rfl
          | 7, _ => rfl
          | n + 8, h => exact absurd h (by omega)
      exact va_putF (D := D) (v := tv ad x) (ty := mTy ci j) C.1 C.2.1 C.2.2.2.2.1 (cl_in ci hc8) (mTy ci) (cl_ty ci hc8) (cl_nm ci hc8) hown (mK0 C.2.2.2.2.2.1) hC.1 hC.2.1 hC.2.2.1 q0 hq9 (cl_at ci hc8) j hjn hwo (fun y hy => by rw [← hcl]; exact hy) hf (C.2.2.2.2.2.2.2.2.2.2.2.1 hin2.1) hcl (cl_ty ci hc8 j hjn) (hnf ad).1 (hnf ad).2 hfs hd
        (fun H1 locs1 hP hD hS => k _ hn ad ca H1 locs1 cells slots la (mCe_set hC hq0 e1 hset (hE ad ca) hclo hP hD hS) (mLo_same e1 hL) (fun w hw => (rOK_same e1 w).mpr (st_tl (st_tl hst) w hw)))
    · exact va_put (D := D) (v := tv ad x) (ty := mTy ci j) C.1 C.2.1 C.2.2.2.2.1 (cl_in ci hc8) (mTy ci) (cl_ty ci hc8) (cl_nm ci hc8) C.2.2.2.1 (mK0 C.2.2.2.2.2.1) hC.1 hC.2.1 hC.2.2.1 q0 hq9 (cl_at ci hc8) j hjn hw (fun y hy => by rw [← hcl]; exact hy) (by simpa using hf) (cl_ty ci hc8 j hjn) (hnf ad).1 (hnf ad).2 hfs hd
        (fun H1 locs1 hP hD hS => k _ hn ad ca H1 locs1 cells slots la (mCe_set hC hq0 e1 hset (hE ad ca) hclo hP hD hS) (mLo_same e1 hL) (fun w hw => (rOK_same e1 w).mpr (st_tl (st_tl hst) w hw)))
  unfold mstep at h
  dsimp only at h
  split at h
  · rename_i x k1 i st1
    split at h
    · rename_i hkc
      subst hkc
      split at h
      · rename_i ht
        cases h
        exact key i (.inl x) (M.1, M.2.1, up3 M.2.2.1 k1 i j x, M.2.2.2) rfl (fun ad => by unfold mFv; rw [ht]; simp only [up3_eq]; rfl) (fun ad j' hj => by unfold mFv; simp only [up3_nj hj]) (fun ad ca r' hr => mE_congr (fun _ => rfl) (fun j' => up3_ne hr j') (fun _ => rfl) rfl) (fun ad => by rw [ht]; exact ⟨rfl, rfl⟩) (fun r j' => Or.inl rfl) _ rfl k
      · rename_i ht
        split at h
        · rename_i h01
          cases h
          exact key i (.inl x) (M.1, M.2.1, up3 M.2.2.1 k1 i j x, M.2.2.2) rfl (fun ad => by unfold mFv; rw [ht]; simp only [up3_eq]; rfl) (fun ad j' hj => by unfold mFv; simp only [up3_nj hj]) (fun ad ca r' hr => mE_congr (fun _ => rfl) (fun j' => up3_ne hr j') (fun _ => rfl) rfl) (fun ad => by rw [ht]; rcases h01 with h01 | h01 <;> rw [h01] <;> exact ⟨rfl, rfl⟩) (fun r j' => Or.inl rfl) _ rfl k
        · cases h
      · cases h
    · cases h
  · rename_i y k1 i st1
    split at h
    · rename_i hkc
      subst hkc
      split at h
      · rename_i ht
        cases h
        exact key i (.inr (.inl y)) (M.1, M.2.1, M.2.2.1, up3 M.2.2.2 k1 i j y) rfl (fun ad => by unfold mFv; rw [ht]; simp only [up3_eq]; rfl) (fun ad j' hj => by unfold mFv; simp only [up3_nj hj]) (fun ad ca r' hr => mE_congr (fun _ => rfl) (fun _ => rfl) (fun j' => up3_ne hr j') rfl) (fun ad => by rw [ht]; exact ⟨rfl, rfl⟩) (fun r j' => Or.inl rfl) _ rfl k
      · cases h
    · cases h
  · rename_i r k1 i st1
    have hcl3 : ∀ (r' : Nat × Nat) (j' : Nat), up3 M.2.1 k1 i j r r'.1 r'.2 j' = M.2.1 r'.1 r'.2 j' ∨ (.inr (.inr r) : mV) = .inr (.inr (up3 M.2.1 k1 i j r r'.1 r'.2 j')) := by
      intro r' j'
      unfold up3
      split
      · exact Or.inr rfl
      · exact Or.inl rfl
    split at h
    · rename_i hkc
      subst hkc
      split at h
      · rename_i ht
        cases h
        exact key i (.inr (.inr r)) (M.1, up3 M.2.1 k1 i j r, M.2.2.1, M.2.2.2) rfl (fun ad => by unfold mFv; rw [ht]; simp only [up3_eq]; rfl) (fun ad j' hj => by unfold mFv; simp only [up3_nj hj]) (fun ad ca r' hr => mE_congr (fun j' => by simp only [up3_ne hr j']) (fun _ => rfl) (fun _ => rfl) rfl) (fun ad => by rw [ht]; cases r <;> exact ⟨rfl, rfl⟩) hcl3 _ rfl k
      · rename_i ht
        cases h
        exact key i (.inr (.inr r)) (M.1, up3 M.2.1 k1 i j r, M.2.2.1, M.2.2.2) rfl (fun ad => by unfold mFv; rw [ht]; simp only [up3_eq]; rfl) (fun ad j' hj => by unfold mFv; simp only [up3_nj hj]) (fun ad ca r' hr => mE_congr (fun j' => by simp only [up3_ne hr j']) (fun _ => rfl) (fun _ => rfl) rfl) (fun ad => by rw [ht]; cases r <;> exact ⟨rfl, rfl⟩) hcl3 _ rfl k
      · cases h
    · cases h
  · cases h
end SNP
