section SNA
variable {p : Program} {l : Launch} {e : Env} {R : Room} {s : State} {m : MethodId} {args : Array Value} {below : List Frame} {meth : Method} {c : Code} {D : va_G} {A : Nat → Prop} {b t L : Nat} {Z : List (Nat × Nat)} {ad0 : Nat → Nat → Nat} {xs : Nat → Int32} {I : mI} {d n0 s0 N1 S1 : Nat} {Q : State → Prop} {ip pc ip' : Nat} {ls ls' : List (Option mV)} {st st' : List mV} {M M' : mM} {v : Value}
theorem ms_iaload (C : mCx p R s m args meth c D A b t L xs I d n0 s0 N1 S1) (hpc : nth I.2.2.2.2.2.2.2.2 ip = some pc)  (hok : okB I pc (nth I.2.2.2.2.2.2.2.2 (ip + 1)) (.iaload) v = true) (h : mstep L xs (.iaload) v ip ls st M = some (ip', ls', st', M')) (hb : M'.1.length ≤ N1 ∧ mSl M'.1 ≤ S1) (k : mGo p l e R s m args below meth c D A b t Z ad0 Q n0 s0 I ip' ls' st' M') : mGo p l e R s m args below meth c D A b t Z ad0 Q n0 s0 I ip ls st M := by
  have hk : okS I pc (nth I.2.2.2.2.2.2.2.2 (ip + 1)) (.iaload) 1 = true := hok
  obtain ⟨hd, hn⟩ := okS_spec hk
  unfold mstep at h
  dsimp only at h
  split at h
  · rename_i x k1 i zst1
    split at h
    · rename_i hk1
      split at h
      · cases h
      · rename_i hin
        cases h
        intro pc' hpc' ad ca H locs cells slots la hC hL hst
        cases hpc.symm.trans hpc'
        subst hk1
        have hr : i = 0 := by
          rcases st_hd (st_tl hst) with h1 | h1 | h1
          · exact absurd (show 100 < 52 from hC.2.2.2.2.2.1 _ h1) (by decide)
          · cases h1; rfl
          · cases h1
        subst hr
        show W p l e R s m args below meth c H locs cells slots Q (F0 m pc la (.int x :: .ref (ad 100 0) :: List.map (tv ad) _))
        rw [hC.2.2.2.2.2.2.1]
        exact va_sld C.1 C.2.1 C.2.2.2.2.2.2.2.1.1 C.2.2.2.2.2.2.2.1.2.1 C.2.2.2.2.2.2.2.1.2.2 hC.2.2.1 hin hd (k _ hn ad ca H locs cells slots la hC hL (st_cn trivial (st_tl (st_tl hst))))
    · split at h
      · rename_i n hkd
        split at h
        · cases h
        · rename_i hin
          cases h
          intro pc' hpc' ad ca H locs cells slots la hC hL hst
          cases hpc.symm.trans hpc'
          have hm := rOK_in (st_hd (st_tl hst)) (mK_lt hkd)
          obtain ⟨q0, hq0, hq9⟩ := mWs_at ad ca hm
          rw [mE_arr hkd] at hq9
          show W p l e R s m args below meth c H locs cells slots Q (F0 m pc la (.int x :: .ref (ad k1 i) :: List.map (tv ad) _))
          exact va_iald (D := D) (f := M.2.2.1 k1 i) C.1 C.2.1 (mK1 C.2.2.2.2.2.1 (hC.2.2.2.1 _ hm _ _ hkd)) hC.1 q0 0 hq9 rfl hin hd (k _ hn ad ca H locs cells slots la hC hL (st_cn trivial (st_tl (st_tl hst))))
      · cases h
  · cases h
theorem ms_baload (C : mCx p R s m args meth c D A b t L xs I d n0 s0 N1 S1) (hpc : nth I.2.2.2.2.2.2.2.2 ip = some pc)  (hok : okB I pc (nth I.2.2.2.2.2.2.2.2 (ip + 1)) (.baload) v = true) (h : mstep L xs (.baload) v ip ls st M = some (ip', ls', st', M')) (hb : M'.1.length ≤ N1 ∧ mSl M'.1 ≤ S1) (k : mGo p l e R s m args below meth c D A b t Z ad0 Q n0 s0 I ip' ls' st' M') : mGo p l e R s m args below meth c D A b t Z ad0 Q n0 s0 I ip ls st M := by
  have hk : okS I pc (nth I.2.2.2.2.2.2.2.2 (ip + 1)) (.baload) 1 = true := hok
  obtain ⟨hd, hn⟩ := okS_spec hk
  unfold mstep at h
  dsimp only at h
  split at h
  · rename_i x k1 i zst1
    split at h
    · rename_i n hkd
      split at h
      · cases h
      · rename_i hin
        cases h
        intro pc' hpc' ad ca H locs cells slots la hC hL hst
        cases hpc.symm.trans hpc'
        have hm := rOK_in (st_hd (st_tl hst)) (mK_lt hkd)
        obtain ⟨q0, hq0, hq9⟩ := mWs_at ad ca hm
        rw [mE_arr hkd] at hq9
        show W p l e R s m args below meth c H locs cells slots Q (F0 m pc la (.int x :: .ref (ad k1 i) :: List.map (tv ad) _))
        exact va_bald (D := D) (f := M.2.2.1 k1 i) C.1 C.2.1 (mK1 C.2.2.2.2.2.1 (hC.2.2.2.1 _ hm _ _ hkd)) hC.1 q0 0 hq9 rfl hin hd (k _ hn ad ca H locs cells slots la hC hL (st_cn trivial (st_tl (st_tl hst))))
    · rename_i n hkd
      split at h
      · cases h
      · rename_i hin
        cases h
        intro pc' hpc' ad ca H locs cells slots la hC hL hst
        cases hpc.symm.trans hpc'
        have hm := rOK_in (st_hd (st_tl hst)) (mK_lt hkd)
        obtain ⟨q0, hq0, hq9⟩ := mWs_at ad ca hm
        rw [mE_arr hkd] at hq9
        show W p l e R s m args below meth c H locs cells slots Q (F0 m pc la (.int x :: .ref (ad k1 i) :: List.map (tv ad) _))
        exact va_zald (D := D) (f := M.2.2.1 k1 i) C.1 C.2.1 (mK1 C.2.2.2.2.2.1 (hC.2.2.2.1 _ hm _ _ hkd)) hC.1 q0 0 hq9 rfl hin hd (k _ hn ad ca H locs cells slots la hC hL (st_cn trivial (st_tl (st_tl hst))))
    · cases h
  · cases h
theorem ms_caload (C : mCx p R s m args meth c D A b t L xs I d n0 s0 N1 S1) (hpc : nth I.2.2.2.2.2.2.2.2 ip = some pc)  (hok : okB I pc (nth I.2.2.2.2.2.2.2.2 (ip + 1)) (.caload) v = true) (h : mstep L xs (.caload) v ip ls st M = some (ip', ls', st', M')) (hb : M'.1.length ≤ N1 ∧ mSl M'.1 ≤ S1) (k : mGo p l e R s m args below meth c D A b t Z ad0 Q n0 s0 I ip' ls' st' M') : mGo p l e R s m args below meth c D A b t Z ad0 Q n0 s0 I ip ls st M := by
  have hk : okS I pc (nth I.2.2.2.2.2.2.2.2 (ip + 1)) (.caload) 1 = true := hok
  obtain ⟨hd, hn⟩ := okS_spec hk
  unfold mstep at h
  dsimp only at h
  split at h
  · rename_i x k1 i zst1
    split at h
    · rename_i hk1
      split at h
      · cases h
      · rename_i hin
        cases h
        intro pc' hpc' ad ca H locs cells slots la hC hL hst
        cases hpc.symm.trans hpc'
        subst hk1
        have hr : i = 0 := by
          rcases st_hd (st_tl hst) with h1 | h1 | h1
          · exact absurd (show 101 < 52 from hC.2.2.2.2.2.1 _ h1) (by decide)
          · cases h1
          · cases h1; rfl
        subst hr
        show W p l e R s m args below meth c H locs cells slots Q (F0 m pc la (.int x :: .ref (ad 101 0) :: List.map (tv ad) _))
        rw [hC.2.2.2.2.2.2.2.1]
        exact va_tc C.1 C.2.1 C.2.2.2.2.2.2.2.2.2.1 hC.2.2.1 hin rfl hd (k _ hn ad ca H locs cells slots la hC hL (st_cn trivial (st_tl (st_tl hst))))
    · cases h
  · cases h
theorem ms_aaload (C : mCx p R s m args meth c D A b t L xs I d n0 s0 N1 S1) (hpc : nth I.2.2.2.2.2.2.2.2 ip = some pc)  (hok : okB I pc (nth I.2.2.2.2.2.2.2.2 (ip + 1)) (.aaload) v = true) (h : mstep L xs (.aaload) v ip ls st M = some (ip', ls', st', M')) (hb : M'.1.length ≤ N1 ∧ mSl M'.1 ≤ S1) (k : mGo p l e R s m args below meth c D A b t Z ad0 Q n0 s0 I ip' ls' st' M') : mGo p l e R s m args below meth c D A b t Z ad0 Q n0 s0 I ip ls st M := by
  have hk : okS I pc (nth I.2.2.2.2.2.2.2.2 (ip + 1)) (.aaload) 1 = true := hok
  obtain ⟨hd, hn⟩ := okS_spec hk
  unfold mstep at h
  dsimp only at h
  split at h
  · rename_i x k1 i zst1
    split at h
    · rename_i cn n hkd
      split at h
      · cases h
      · rename_i hin
        cases h
        intro pc' hpc' ad ca H locs cells slots la hC hL hst
        cases hpc.symm.trans hpc'
        have hm := rOK_in (st_hd (st_tl hst)) (mK_lt hkd)
        obtain ⟨q0, hq0, hq9⟩ := mWs_at ad ca hm
        rw [mE_arr hkd] at hq9
        show W p l e R s m args below meth c H locs cells slots Q (F0 m pc la (.int x :: .ref (ad k1 i) :: List.map (tv ad) _))
        exact va_aldq (D := D) (f := fun j => (M.2.1 k1 i j).map fun (q : Nat × Nat) => ad q.1 q.2) C.1 C.2.1 (mK1 C.2.2.2.2.2.1 (hC.2.2.2.1 _ hm _ _ hkd)) hC.1 q0 0 hq9 rfl hin hd (k _ hn ad ca H locs cells slots la hC hL (st_cn (hC.2.2.2.2.1 _ hm _) (st_tl (st_tl hst))))
    · cases h
  · cases h
theorem ms_iastore (C : mCx p R s m args meth c D A b t L xs I d n0 s0 N1 S1) (hpc : nth I.2.2.2.2.2.2.2.2 ip = some pc)  (hok : okB I pc (nth I.2.2.2.2.2.2.2.2 (ip + 1)) (.iastore) v = true) (h : mstep L xs (.iastore) v ip ls st M = some (ip', ls', st', M')) (hb : M'.1.length ≤ N1 ∧ mSl M'.1 ≤ S1) (k : mGo p l e R s m args below meth c D A b t Z ad0 Q n0 s0 I ip' ls' st' M') : mGo p l e R s m args below meth c D A b t Z ad0 Q n0 s0 I ip ls st M := by
  have hk : okS I pc (nth I.2.2.2.2.2.2.2.2 (ip + 1)) (.iastore) 1 = true := hok
  obtain ⟨hd, hn⟩ := okS_spec hk
  unfold mstep at h
  dsimp only at h
  split at h
  · rename_i y x k1 i zst1
    split at h
    · rename_i n hkd
      split at h
      · cases h
      · rename_i hin
        cases h
        intro pc' hpc' ad ca H locs cells slots la hC hL hst
        cases hpc.symm.trans hpc'
        have hm := rOK_in (st_hd (st_tl (st_tl hst))) (mK_lt hkd)
        obtain ⟨q0, hq0, hq9⟩ := mWs_at ad ca hm
        rw [mE_arr hkd] at hq9
        show W p l e R s m args below meth c H locs cells slots Q (F0 m pc la (.int y :: .int x :: .ref (ad k1 i) :: List.map (tv ad) _))
        refine va_iast (D := D) (f := M.2.2.1 k1 i) C.1 C.2.1 (mK1 C.2.2.2.2.2.1 (hC.2.2.2.1 _ hm _ _ hkd)) hC.1 hC.2.1 hC.2.2.1 q0 0 hq9 rfl hin hd (fun H1 locs1 hP hD hS => k _ hn ad ca H1 locs1 cells slots la (mCe_set hC hq0 rfl ?_ (fun r' hr => mE_congr (fun _ => rfl) (fun j' => up3_ne hr j') (fun _ => rfl) rfl) hC.2.2.2.2.1 hP hD hS) (mLo_same rfl hL) (fun w hw => (rOK_same rfl w).mpr (st_tl (st_tl (st_tl hst)) w hw)))
        rw [mE_arr hkd]
        show Sum.inl (ca k1 i, n, Sum.inl (up3 M.2.2.1 k1 i x.toNatClampNeg y k1 i)) = _
        rw [up3_fun (α := Int32)]
    · cases h
  · cases h
theorem ms_bastore (C : mCx p R s m args meth c D A b t L xs I d n0 s0 N1 S1) (hpc : nth I.2.2.2.2.2.2.2.2 ip = some pc)  (hok : okB I pc (nth I.2.2.2.2.2.2.2.2 (ip + 1)) (.bastore) v = true) (h : mstep L xs (.bastore) v ip ls st M = some (ip', ls', st', M')) (hb : M'.1.length ≤ N1 ∧ mSl M'.1 ≤ S1) (k : mGo p l e R s m args below meth c D A b t Z ad0 Q n0 s0 I ip' ls' st' M') : mGo p l e R s m args below meth c D A b t Z ad0 Q n0 s0 I ip ls st M := by
  have hk : okS I pc (nth I.2.2.2.2.2.2.2.2 (ip + 1)) (.bastore) 1 = true := hok
  obtain ⟨hd, hn⟩ := okS_spec hk
  unfold mstep at h
  dsimp only at h
  split at h
  · rename_i y x k1 i zst1
    split at h
    · rename_i n hkd
      split at h
      · cases h
      · rename_i hin
        cases h
        intro pc' hpc' ad ca H locs cells slots la hC hL hst
        cases hpc.symm.trans hpc'
        have hm := rOK_in (st_hd (st_tl (st_tl hst))) (mK_lt hkd)
        obtain ⟨q0, hq0, hq9⟩ := mWs_at ad ca hm
        rw [mE_arr hkd] at hq9
        show W p l e R s m args below meth c H locs cells slots Q (F0 m pc la (.int y :: .int x :: .ref (ad k1 i) :: List.map (tv ad) _))
        refine va_bast (D := D) (f := M.2.2.1 k1 i) C.1 C.2.1 (mK1 C.2.2.2.2.2.1 (hC.2.2.2.1 _ hm _ _ hkd)) hC.1 hC.2.1 hC.2.2.1 q0 0 hq9 rfl hin hd (fun H1 locs1 hP hD hS => k _ hn ad ca H1 locs1 cells slots la (mCe_set hC hq0 rfl ?_ (fun r' hr => mE_congr (fun _ => rfl) (fun j' => up3_ne hr j') (fun _ => rfl) rfl) hC.2.2.2.2.1 hP hD hS) (mLo_same rfl hL) (fun w hw => (rOK_same rfl w).mpr (st_tl (st_tl (st_tl hst)) w hw)))
        rw [mE_arr hkd]
        show Sum.inl (ca k1 i, n, Sum.inl (up3 M.2.2.1 k1 i x.toNatClampNeg (vp_nar .byte y) k1 i)) = _
        rw [up3_fun (α := Int32)]
    · rename_i n hkd
      split at h
      · cases h
      · rename_i hin
        cases h
        intro pc' hpc' ad ca H locs cells slots la hC hL hst
        cases hpc.symm.trans hpc'
        have hm := rOK_in (st_hd (st_tl (st_tl hst))) (mK_lt hkd)
        obtain ⟨q0, hq0, hq9⟩ := mWs_at ad ca hm
        rw [mE_arr hkd] at hq9
        show W p l e R s m args below meth c H locs cells slots Q (F0 m pc la (.int y :: .int x :: .ref (ad k1 i) :: List.map (tv ad) _))
        refine va_zast (D := D) (f := M.2.2.1 k1 i) C.1 C.2.1 (mK1 C.2.2.2.2.2.1 (hC.2.2.2.1 _ hm _ _ hkd)) hC.1 hC.2.1 hC.2.2.1 q0 0 hq9 rfl hin hd (fun H1 locs1 hP hD hS => k _ hn ad ca H1 locs1 cells slots la (mCe_set hC hq0 rfl ?_ (fun r' hr => mE_congr (fun _ => rfl) (fun j' => up3_ne hr j') (fun _ => rfl) rfl) hC.2.2.2.2.1 hP hD hS) (mLo_same rfl hL) (fun w hw => (rOK_same rfl w).mpr (st_tl (st_tl (st_tl hst)) w hw)))
        rw [mE_arr hkd]
        show Sum.inl (ca k1 i, n, Sum.inl (up3 M.2.2.1 k1 i x.toNatClampNeg (vp_nar .boolean y) k1 i)) = _
        rw [up3_fun (α := Int32)]
    · cases h
  · cases h
theorem up3_funr (f : Nat → Nat → Nat → Option (Nat × Nat)) (ad : Nat → Nat → Nat) (k i j : Nat) (r : Nat × Nat) : (fun j' => (up3 f k i j (some r) k i j').map fun q => ad q.1 q.2) = va_up (fun j' => (f k i j').map fun q => ad q.1 q.2) j (some (ad r.1 r.2)) := by
  funext j'
  unfold up3 va_up
  by_cases h : j' = j
  · rw [if_pos ⟨rfl, rfl, h⟩, if_pos h]; rfl
  · rw [if_neg (fun q => h q.2.2), if_neg h]
theorem ms_aastore (C : mCx p R s m args meth c D A b t L xs I d n0 s0 N1 S1) (hpc : nth I.2.2.2.2.2.2.2.2 ip = some pc)  (hok : okB I pc (nth I.2.2.2.2.2.2.2.2 (ip + 1)) (.aastore) v = true) (h : mstep L xs (.aastore) v ip ls st M = some (ip', ls', st', M')) (hb : M'.1.length ≤ N1 ∧ mSl M'.1 ≤ S1) (k : mGo p l e R s m args below meth c D A b t Z ad0 Q n0 s0 I ip' ls' st' M') : mGo p l e R s m args below meth c D A b t Z ad0 Q n0 s0 I ip ls st M := by
  have hk : okS I pc (nth I.2.2.2.2.2.2.2.2 (ip + 1)) (.aastore) 1 = true := hok
  obtain ⟨hd, hn⟩ := okS_spec hk
  unfold mstep at h
  dsimp only at h
  split at h
  · rename_i k2 i2 x k1 i zst1
    split at h
    · rename_i hel
      split at h
      · rename_i cn n hkd
        split at h
        · cases h
        · rename_i hin
          cases h
          intro pc' hpc' ad ca H locs cells slots la hC hL hst
          cases hpc.symm.trans hpc'
          obtain ⟨hcn, hel8⟩ := mEl_ok hkd
          rw [hel] at hcn hel8
          subst hcn
          have hm := rOK_in (st_hd (st_tl (st_tl hst))) (mK_lt hkd)
          have hm2 := rOK_in (st_hd hst) (by omega)
          obtain ⟨q0, hq0, hq9⟩ := mWs_at ad ca hm
          obtain ⟨q1, hq1, hq8⟩ := mWs_at ad ca hm2
          rw [mE_arr hkd] at hq9
          rw [mE_obj hel8] at hq8
          show W p l e R s m args below meth c H locs cells slots Q (F0 m pc la (.ref (ad k2 i2) :: .int x :: .ref (ad k1 i) :: List.map (tv ad) _))
          refine va_astq (D := D) (r := (mRn k2, mFt k2, mNf k2)) (f := fun j => (M.2.1 k1 i j).map fun (q : Nat × Nat) => ad q.1 q.2) C.1 C.2.1 (mK1 C.2.2.2.2.2.1 (hC.2.2.2.1 _ hm _ _ hkd)) hC.1 hC.2.1 hC.2.2.1 q0 0 q1 k2 hq9 rfl hq8 (cl_at k2 hel8) hin hd (fun H1 locs1 hP hD hS => k _ hn ad ca H1 locs1 cells slots la (mCe_set hC hq0 rfl ?_ (fun r' hr => mE_congr (fun j' => by simp only [up3_ne hr j']) (fun _ => rfl) (fun _ => rfl) rfl) (fun r hr j' => ?_) hP hD hS) (mLo_same rfl hL) (fun w hw => (rOK_same rfl w).mpr (st_tl (st_tl (st_tl hst)) w hw)))
          · rw [mE_arr hkd]
            show Sum.inl (ca k1 i, n, Sum.inr (Sum.inr (Sum.inr (Sum.inr (fun j' => (up3 M.2.1 k1 i x.toNatClampNeg (some (k2, i2)) k1 i j').map fun q => ad q.1 q.2))))) = _
            rw [up3_funr]
          · show rOK M (.inr (.inr (up3 M.2.1 k1 i x.toNatClampNeg (some (k2, i2)) r.1 r.2 j')))
            unfold up3
            split
            · exact st_hd hst
            · exact hC.2.2.2.2.1 r hr j'
      · cases h
    · cases h
  · cases h
theorem ms_alen (C : mCx p R s m args meth c D A b t L xs I d n0 s0 N1 S1) (hpc : nth I.2.2.2.2.2.2.2.2 ip = some pc)  (hok : okB I pc (nth I.2.2.2.2.2.2.2.2 (ip + 1)) (.arraylength) v = true) (h : mstep L xs (.arraylength) v ip ls st M = some (ip', ls', st', M')) (hb : M'.1.length ≤ N1 ∧ mSl M'.1 ≤ S1) (k : mGo p l e R s m args below meth c D A b t Z ad0 Q n0 s0 I ip' ls' st' M') : mGo p l e R s m args below meth c D A b t Z ad0 Q n0 s0 I ip ls st M := by
  have hk : okS I pc (nth I.2.2.2.2.2.2.2.2 (ip + 1)) (.arraylength) 1 = true := hok
  obtain ⟨hd, hn⟩ := okS_spec hk
  unfold mstep at h
  dsimp only at h
  split at h
  · rename_i k1 i zst1
    split at h
    · rename_i hk1
      cases h
      intro pc' hpc' ad ca H locs cells slots la hC hL hst
      cases hpc.symm.trans hpc'
      subst hk1
      have hr : i = 0 := by
        rcases st_hd hst with h1 | h1 | h1
        · exact absurd (show 100 < 52 from hC.2.2.2.2.2.1 _ h1) (by decide)
        · cases h1; rfl
        · cases h1
      subst hr
      show W p l e R s m args below meth c H locs cells slots Q (F0 m pc la (.ref (ad 100 0) :: List.map (tv ad) _))
      rw [hC.2.2.2.2.2.2.1]
      exact va_slen C.1 C.2.1 C.2.2.2.2.2.2.2.1.1 C.2.2.2.2.2.2.2.1.2.1 C.2.2.2.2.2.2.2.1.2.2 hC.2.2.1 hd (k _ hn ad ca H locs cells slots la hC hL (st_cn trivial (st_tl hst)))
    · split at h
      · rename_i ty n hkd
        cases h
        intro pc' hpc' ad ca H locs cells slots la hC hL hst
        cases hpc.symm.trans hpc'
        have hm := rOK_in (st_hd hst) (mK_lt hkd)
        obtain ⟨q0, hq0, hq9⟩ := mWs_at ad ca hm
        rw [mE_arr hkd] at hq9
        show W p l e R s m args below meth c H locs cells slots Q (F0 m pc la (.ref (ad k1 i) :: List.map (tv ad) _))
        exact va_alen (D := D) C.1 C.2.1 (mK1 C.2.2.2.2.2.1 (hC.2.2.2.1 _ hm _ _ hkd)) hC.1 q0 0 hq9 rfl rfl hd (k _ hn ad ca H locs cells slots la hC hL (st_cn trivial (st_tl hst)))
      · cases h
  · cases h
end SNA
