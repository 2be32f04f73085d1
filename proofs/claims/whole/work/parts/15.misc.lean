section SNM
variable {p : Program} {l : Launch} {e : Env} {R : Room} {s : State} {m : MethodId} {args : Array Value} {below : List Frame} {meth : Method} {c : Code} {D : va_G} {A : Nat → Prop} {b t L : Nat} {Z : List (Nat × Nat)} {ad0 : Nat → Nat → Nat} {xs : Nat → Int32} {I : mI} {d n0 s0 N1 S1 : Nat} {Q : State → Prop} {ip pc ip' : Nat} {ls ls' : List (Option mV)} {st st' : List mV} {M M' : mM} {v : Value}
theorem ms_pop (C : mCx p R s m args meth c D A b t L xs I d n0 s0 N1 S1) (hpc : nth I.2.2.2.2.2.2.2.2 ip = some pc)  (hok : okB I pc (nth I.2.2.2.2.2.2.2.2 (ip + 1)) (.pop) v = true) (h : mstep L xs (.pop) v ip ls st M = some (ip', ls', st', M')) (hb : M'.1.length ≤ N1 ∧ mSl M'.1 ≤ S1) (k : mGo p l e R s m args below meth c D A b t Z ad0 Q n0 s0 I ip' ls' st' M') : mGo p l e R s m args below meth c D A b t Z ad0 Q n0 s0 I ip ls st M := by
  have hk : tOB.any (fun q => decide (q.1 = I.1) && okS I pc (nth I.2.2.2.2.2.2.2.2 (ip + 1)) (.invokespecial q.2) 3) = true := hok
  simp only [List.any_eq_true, Bool.and_eq_true, decide_eq_true_eq] at hk
  obtain ⟨q, hq, hq1, hk⟩ := hk
  obtain ⟨hd, hn⟩ := okS_spec hk
  have hw : (wOB q).before args s = true := C.2.2.2.2.1 _ (tOB_in _ (List.mem_map.mpr ⟨q, hq, rfl⟩))
  unfold wOB at hw
  rw [hq1] at hw
  have hf := C.2.2.2.2.2.2.2.2.2.2.2.2.1
  have hlo := C.2.2.2.2.2.2.2.2.2.2.2.2.2.1
  unfold mstep at h
  dsimp only at h
  split at h
  · rename_i zr zst
    split at h
    · rename_i hcat
      cases h
      intro pc' hpc' ad ca H locs cells slots la hC hL hst
      cases hpc.symm.trans hpc'
      show W p l e R s m args below meth c H locs cells slots Q (F0 m pc la (.ref (ad zr.1 zr.2) :: List.map (tv ad) _))
      have hrm := lv_room (m := m) (pc := pc) (ls := la) (rest := (.ref (ad zr.1 zr.2) :: List.map (tv ad) st')) (st := List.map (tv ad) st') (by rw [mSum]; exact hcat)
      refine W.objInit C.1 C.2.1 C.2.2.2.1 hw (C.2.2.2.2.1 _ (tOI_in _ List.mem_cons_self)) (C.2.2.2.2.1 _ (tOI_in _ (List.mem_cons_of_mem _ List.mem_cons_self))) rfl (by rw [C.2.2.1]; exact hL.1.1) rfl hd (by omega) (by omega) ?_
      exact k _ hn ad ca H locs cells slots la hC hL (st_tl hst)
    · cases h
  · cases h
theorem ms_mabs (C : mCx p R s m args meth c D A b t L xs I d n0 s0 N1 S1) (hpc : nth I.2.2.2.2.2.2.2.2 ip = some pc)  (hok : okB I pc (nth I.2.2.2.2.2.2.2.2 (ip + 1)) (.lneg) v = true) (h : mstep L xs (.lneg) v ip ls st M = some (ip', ls', st', M')) (hb : M'.1.length ≤ N1 ∧ mSl M'.1 ≤ S1) (k : mGo p l e R s m args below meth c D A b t Z ad0 Q n0 s0 I ip' ls' st' M') : mGo p l e R s m args below meth c D A b t Z ad0 Q n0 s0 I ip ls st M := by
  have hk : tMA.any (fun q => decide (q.1 = I.1) && decide (q.2.2 = 0) && okS I pc (nth I.2.2.2.2.2.2.2.2 (ip + 1)) (.invokestatic q.2.1) 3) = true := hok
  simp only [List.any_eq_true, Bool.and_eq_true, decide_eq_true_eq] at hk
  obtain ⟨q, hq, ⟨hq1, hq2⟩, hk⟩ := hk
  obtain ⟨hd, hn⟩ := okS_spec hk
  have hw : (wMA q).before args s = true := C.2.2.2.2.1 _ (tMA_in _ (List.mem_map.mpr ⟨q, hq, rfl⟩))
  unfold wMA at hw
  rw [hq1, hq2] at hw
  have hf := C.2.2.2.2.2.2.2.2.2.2.2.2.1
  have hlo := C.2.2.2.2.2.2.2.2.2.2.2.2.2.1
  have hr1 := C.2.2.2.2.2.2.2.2.2.2.2.2.2.2.2.1
  have hr2 := C.2.2.2.2.2.2.2.2.2.2.2.2.2.2.2.2
  unfold mstep at h
  dsimp only at h
  split at h
  · split at h
    · rename_i hcat
      cases h
      intro pc' hpc' ad ca H locs cells slots la hC hL hst
      cases hpc.symm.trans hpc'
      have hl1 := hL.2.2.2.1
      have hl2 := hL.2.2.2.2
      have hb1 := hb.1
      have hb2 := hb.2
      show W p l e R s m args below meth c H locs cells slots Q (F0 m pc la (.int _ :: List.map (tv ad) _))
      exact va_mabs C.1 C.2.1 (by rw [C.2.2.1]; exact hL.1.1.symm) C.2.2.2.1 hw (C.2.2.2.2.1 _ (tMW_in _ (List.mem_of_getElem? (i := 0) rfl))) (C.2.2.2.2.1 _ (tMW_in _ (List.mem_of_getElem? (i := 3) rfl))) (C.2.2.2.2.1 _ (tMW_in _ (List.mem_of_getElem? (i := 4) rfl))) (by omega) (by rw [mSum]; omega) (by omega) (by omega) hd (k _ hn ad ca H locs cells slots la hC hL (st_cn trivial (st_tl hst)))
    · cases h
  · cases h
theorem ms_mmax (C : mCx p R s m args meth c D A b t L xs I d n0 s0 N1 S1) (hpc : nth I.2.2.2.2.2.2.2.2 ip = some pc)  (hok : okB I pc (nth I.2.2.2.2.2.2.2.2 (ip + 1)) (.lor) v = true) (h : mstep L xs (.lor) v ip ls st M = some (ip', ls', st', M')) (hb : M'.1.length ≤ N1 ∧ mSl M'.1 ≤ S1) (k : mGo p l e R s m args below meth c D A b t Z ad0 Q n0 s0 I ip' ls' st' M') : mGo p l e R s m args below meth c D A b t Z ad0 Q n0 s0 I ip ls st M := by
  have hk : tMA.any (fun q => decide (q.1 = I.1) && decide (q.2.2 = 1) && okS I pc (nth I.2.2.2.2.2.2.2.2 (ip + 1)) (.invokestatic q.2.1) 3) = true := hok
  simp only [List.any_eq_true, Bool.and_eq_true, decide_eq_true_eq] at hk
  obtain ⟨q, hq, ⟨hq1, hq2⟩, hk⟩ := hk
  obtain ⟨hd, hn⟩ := okS_spec hk
  have hw : (wMA q).before args s = true := C.2.2.2.2.1 _ (tMA_in _ (List.mem_map.mpr ⟨q, hq, rfl⟩))
  unfold wMA at hw
  rw [hq1, hq2] at hw
  have hf := C.2.2.2.2.2.2.2.2.2.2.2.2.1
  have hlo := C.2.2.2.2.2.2.2.2.2.2.2.2.2.1
  have hr1 := C.2.2.2.2.2.2.2.2.2.2.2.2.2.2.2.1
  have hr2 := C.2.2.2.2.2.2.2.2.2.2.2.2.2.2.2.2
  unfold mstep at h
  dsimp only at h
  split at h
  · split at h
    · rename_i hcat
      cases h
      intro pc' hpc' ad ca H locs cells slots la hC hL hst
      cases hpc.symm.trans hpc'
      have hl1 := hL.2.2.2.1
      have hl2 := hL.2.2.2.2
      have hb1 := hb.1
      have hb2 := hb.2
      show W p l e R s m args below meth c H locs cells slots Q (F0 m pc la (.int _ :: .int _ :: List.map (tv ad) _))
      exact va_mmax C.1 C.2.1 (by rw [C.2.2.1]; exact hL.1.1.symm) C.2.2.2.1 hw (C.2.2.2.2.1 _ (tMW_in _ (List.mem_of_getElem? (i := 1) rfl))) (C.2.2.2.2.1 _ (tMW_in _ (List.mem_of_getElem? (i := 3) rfl))) (C.2.2.2.2.1 _ (tMW_in _ (List.mem_of_getElem? (i := 5) rfl))) (by omega) (by rw [mSum]; omega) (by omega) (by omega) hd (k _ hn ad ca H locs cells slots la hC hL (st_cn trivial (st_tl (st_tl hst))))
    · cases h
  · cases h
theorem ms_mmin (C : mCx p R s m args meth c D A b t L xs I d n0 s0 N1 S1) (hpc : nth I.2.2.2.2.2.2.2.2 ip = some pc)  (hok : okB I pc (nth I.2.2.2.2.2.2.2.2 (ip + 1)) (.lxor) v = true) (h : mstep L xs (.lxor) v ip ls st M = some (ip', ls', st', M')) (hb : M'.1.length ≤ N1 ∧ mSl M'.1 ≤ S1) (k : mGo p l e R s m args below meth c D A b t Z ad0 Q n0 s0 I ip' ls' st' M') : mGo p l e R s m args below meth c D A b t Z ad0 Q n0 s0 I ip ls st M := by
  have hk : tMA.any (fun q => decide (q.1 = I.1) && decide (q.2.2 = 2) && okS I pc (nth I.2.2.2.2.2.2.2.2 (ip + 1)) (.invokestatic q.2.1) 3) = true := hok
  simp only [List.any_eq_true, Bool.and_eq_true, decide_eq_true_eq] at hk
  obtain ⟨q, hq, ⟨hq1, hq2⟩, hk⟩ := hk
  obtain ⟨hd, hn⟩ := okS_spec hk
  have hw : (wMA q).before args s = true := C.2.2.2.2.1 _ (tMA_in _ (List.mem_map.mpr ⟨q, hq, rfl⟩))
  unfold wMA at hw
  rw [hq1, hq2] at hw
  have hf := C.2.2.2.2.2.2.2.2.2.2.2.2.1
  have hlo := C.2.2.2.2.2.2.2.2.2.2.2.2.2.1
  have hr1 := C.2.2.2.2.2.2.2.2.2.2.2.2.2.2.2.1
  have hr2 := C.2.2.2.2.2.2.2.2.2.2.2.2.2.2.2.2
  unfold mstep at h
  dsimp only at h
  split at h
  · split at h
    · rename_i hcat
      cases h
      intro pc' hpc' ad ca H locs cells slots la hC hL hst
      cases hpc.symm.trans hpc'
      have hl1 := hL.2.2.2.1
      have hl2 := hL.2.2.2.2
      have hb1 := hb.1
      have hb2 := hb.2
      show W p l e R s m args below meth c H locs cells slots Q (F0 m pc la (.int _ :: .int _ :: List.map (tv ad) _))
      exact va_mmin C.1 C.2.1 (by rw [C.2.2.1]; exact hL.1.1.symm) C.2.2.2.1 hw (C.2.2.2.2.1 _ (tMW_in _ (List.mem_of_getElem? (i := 2) rfl))) (C.2.2.2.2.1 _ (tMW_in _ (List.mem_of_getElem? (i := 3) rfl))) (C.2.2.2.2.1 _ (tMW_in _ (List.mem_of_getElem? (i := 6) rfl))) (by omega) (by rw [mSum]; omega) (by omega) (by omega) hd (k _ hn ad ca H locs cells slots la hC hL (st_cn trivial (st_tl (st_tl hst))))
    · cases h
  · cases h
theorem mK2 {s : State} {D : va_G} {cA cB : ClassId} {ty : FieldType} (h : ∀ (c : Nat) (q : vw_C), vwCl[c]? = some q → u_Kn s q.1 q.2.1 q.2.2 (D.1 c) (D.2 c)) (hT : ArrOfT s cA ty ∧ va_RA s cA ty) (hU : ArrOfT s cB ty ∧ va_RA s cB ty) : va_K D vwCl [(cA, ty), (cB, ty)] s := ⟨h, fun j q hj => by
  cases j with
  | zero => cases hj; exact hT
  | succ j =>
    cases j with
    | zero => cases hj; exact hU
    | succ j => cases hj⟩
theorem ms_cpy (C : mCx p R s m args meth c D A b t L xs I d n0 s0 N1 S1) (hpc : nth I.2.2.2.2.2.2.2.2 ip = some pc)  (hok : okB I pc (nth I.2.2.2.2.2.2.2.2 (ip + 1)) (.dup2_x2) v = true) (h : mstep L xs (.dup2_x2) v ip ls st M = some (ip', ls', st', M')) (hb : M'.1.length ≤ N1 ∧ mSl M'.1 ≤ S1) (k : mGo p l e R s m args below meth c D A b t Z ad0 Q n0 s0 I ip' ls' st' M') : mGo p l e R s m args below meth c D A b t Z ad0 Q n0 s0 I ip ls st M := by
  have hk : (decide (I.1 = 6) && okS I pc (nth I.2.2.2.2.2.2.2.2 (ip + 1)) (.invokestatic 102) 3) = true := hok
  rw [Bool.and_eq_true, decide_eq_true_eq] at hk
  obtain ⟨hd, hn⟩ := okS_spec hk.2
  have hf := C.2.2.2.2.2.2.2.2.2.2.2.2.1
  have hlo := C.2.2.2.2.2.2.2.2.2.2.2.2.2.1
  have hown : s.vm.findClass RX6 = some m.cls := by
    have h1 := C.2.2.2.1
    rw [hk.1] at h1
    exact h1
  unfold mstep at h
  dsimp only at h
  split at h
  · rename_i zn zdp k2 i2 zsp k1 i1 zst
    split at h
    · rename_i n1 n2 hk1 hk2
      split at h
      · cases h
      · rename_i hno
        cases h
        intro pc' hpc' ad ca H locs cells slots la hC hL hst
        cases hpc.symm.trans hpc'
        have hm2 := rOK_in (st_hd (st_tl (st_tl hst))) (mK_lt hk2)
        have hm1 := rOK_in (st_hd (st_tl (st_tl (st_tl (st_tl hst))))) (mK_lt hk1)
        obtain ⟨q0, hq0, hq9⟩ := mWs_at ad ca hm1
        obtain ⟨q1, hq1, hq8⟩ := mWs_at ad ca hm2
        rw [mE_arr hk1] at hq9
        rw [mE_arr hk2] at hq8
        show W p l e R s m args below meth c H locs cells slots Q (F0 m pc la (.int zn :: .int zdp :: .ref (ad k2 i2) :: .int zsp :: .ref (ad k1 i1) :: List.map (tv ad) _))
        have hnw : nativeFrameWords "java/lang/System" "arraycopy" 5 ≤ 40 := by decide
        have hlq : ((List.map (tv ad) st').map fun v => v.category).sum + (nativeFrameWords "java/lang/System" "arraycopy" 5 + 11) ≤ R.locals := by
          have h8 : ¬ 8 < mCats st' := fun z => hno (Or.inl z)
          rw [mSum]
          omega
        refine va_copyi (D := D) (f := M.2.2.1 k1 i1) (g := M.2.2.1 k2 i2) C.1 C.2.1 (by rw [C.2.2.1]; exact hL.1.1.symm) hown (C.2.2.2.2.1 _ (tAC_in _ (List.mem_of_getElem? (i := 0) rfl))) (C.2.2.2.2.1 _ (tAC_in _ (List.mem_of_getElem? (i := 1) rfl))) (C.2.2.2.2.1 _ (tAC_in _ (List.mem_of_getElem? (i := 2) rfl))) (C.2.2.2.2.1 _ (tAC_in _ (List.mem_of_getElem? (i := 3) rfl))) (mK2 C.2.2.2.2.2.1 (hC.2.2.2.1 _ hm1 _ _ hk1) (hC.2.2.2.1 _ hm2 _ _ hk2)) hC.1 hC.2.1 hC.2.2.1 q0 q1 0 1 hq9 hq8 rfl rfl rfl (fun z => hno (Or.inr (Or.inr (Or.inl z)))) (fun z => hno (Or.inr (Or.inr (Or.inr (Or.inl z))))) (fun z => hno (Or.inr (Or.inl z))) (Nat.not_lt.mp (fun z => hno (Or.inr (Or.inr (Or.inr (Or.inr (Or.inl z))))))) (Nat.not_lt.mp (fun z => hno (Or.inr (Or.inr (Or.inr (Or.inr (Or.inr z))))))) (fun _ _ => rfl) (by omega) hlq hd (fun H1 locs1 hP hD hS => k _ hn ad ca H1 locs1 cells slots la (mCe_set hC hq1 rfl ?_ (fun r' hr => mE_congr (fun _ => rfl) (fun j' => up2_ne hr j') (fun _ => rfl) rfl) hC.2.2.2.2.1 hP hD hS) (mLo_same rfl hL) (fun w hw => (rOK_same rfl w).mpr (st_tl (st_tl (st_tl (st_tl (st_tl hst)))) w hw)))
        rw [mE_arr hk2]
        show Sum.inl (ca k2 i2, n2, Sum.inl (up2 M.2.2.1 k2 i2 (va_cpy (M.2.2.1 k1 i1) (M.2.2.1 k2 i2) zsp.toNatClampNeg zdp.toNatClampNeg zn.toNatClampNeg) k2 i2)) = _
        rw [up2_eq]
    · cases h
  · cases h
theorem ms_gst (C : mCx p R s m args meth c D A b t L xs I d n0 s0 N1 S1) (hpc : nth I.2.2.2.2.2.2.2.2 ip = some pc) {z : Nat} (hok : okB I pc (nth I.2.2.2.2.2.2.2.2 (ip + 1)) (.getstatic z) v = true) (h : mstep L xs (.getstatic z) v ip ls st M = some (ip', ls', st', M')) (hb : M'.1.length ≤ N1 ∧ mSl M'.1 ≤ S1) (k : mGo p l e R s m args below meth c D A b t Z ad0 Q n0 s0 I ip' ls' st' M') : mGo p l e R s m args below meth c D A b t Z ad0 Q n0 s0 I ip ls st M := by
  have hk : (decide (I.1 = 5) && okS I pc (nth I.2.2.2.2.2.2.2.2 (ip + 1)) (.getstatic 27) 3) = true := hok
  rw [Bool.and_eq_true, decide_eq_true_eq] at hk
  obtain ⟨hd, hn⟩ := okS_spec hk.2
  have hown : s.vm.findClass RX5 = some m.cls := by
    have h1 := C.2.2.2.1
    rw [hk.1] at h1
    exact h1
  unfold mstep at h
  dsimp only at h
  cases h
  intro pc' hpc' ad ca H locs cells slots la hC hL hst
  cases hpc.symm.trans hpc'
  refine va_getsN C.1 C.2.1 C.2.2.2.2.2.2.2.2.1 hC.2.2.1 hown (va_Nw.use rfl C.2.2.2.2.2.2.2.2.2.2.1.2.2) (fun _ hx => hx) hd ?_
  have hg := k _ hn ad ca H locs cells slots la hC hL (st_cn (Or.inr (Or.inr rfl)) hst)
  rw [List.map_cons, show tv ad (.inr (.inr (some (101, 0)))) = .ref (ad 101 0) from rfl, hC.2.2.2.2.2.2.2.1] at hg
  exact hg
/-- every instruction that is no call and no return -/
theorem ms_all (C : mCx p R s m args meth c D A b t L xs I d n0 s0 N1 S1) (hpc : nth I.2.2.2.2.2.2.2.2 ip = some pc) {i : Instr} (hok : okB I pc (nth I.2.2.2.2.2.2.2.2 (ip + 1)) i v = true) (h : mstep L xs i v ip ls st M = some (ip', ls', st', M')) (hb : M'.1.length ≤ N1 ∧ mSl M'.1 ≤ S1) (k : mGo p l e R s m args below meth c D A b t Z ad0 Q n0 s0 I ip' ls' st' M') : mGo p l e R s m args below meth c D A b t Z ad0 Q n0 s0 I ip ls st M := by
  cases i
  case iload => exact ms_iload C hpc hok h hb k
  case lload => exact ms_lload C hpc hok h hb k
  case aload => exact ms_aload C hpc hok h hb k
  case istore => exact ms_istore C hpc hok h hb k
  case astore => exact ms_astore C hpc hok h hb k
  case lstore => exact ms_lstore C hpc hok h hb k
  case iconst => exact ms_iconst C hpc hok h hb k
  case lconst => exact ms_lconst C hpc hok h hb k
  case aconst_null => exact ms_anull C hpc hok h hb k
  case iinc => exact ms_iinc C hpc hok h hb k
  case iadd => exact ms_iadd C hpc hok h hb k
  case isub => exact ms_isub C hpc hok h hb k
  case imul => exact ms_imul C hpc hok h hb k
  case iand => exact ms_iand C hpc hok h hb k
  case ior => exact ms_ior C hpc hok h hb k
  case ixor => exact ms_ixor C hpc hok h hb k
  case ishl => exact ms_ishl C hpc hok h hb k
  case ishr => exact ms_ishr C hpc hok h hb k
  case iushr => exact ms_iushr C hpc hok h hb k
  case idiv => exact ms_idiv C hpc hok h hb k
  case irem => exact ms_irem C hpc hok h hb k
  case ineg => exact ms_ineg C hpc hok h hb k
  case ladd => exact ms_ladd C hpc hok h hb k
  case lmul => exact ms_lmul C hpc hok h hb k
  case ldiv => exact ms_ldiv C hpc hok h hb k
  case lrem => exact ms_lrem C hpc hok h hb k
  case lcmp => exact ms_lcmp C hpc hok h hb k
  case i2l => exact ms_i2l C hpc hok h hb k
  case l2i => exact ms_l2i C hpc hok h hb k
  case i2b => exact ms_i2b C hpc hok h hb k
  case dup => exact ms_dup C hpc hok h hb k
  case dup2 => exact ms_dup2 C hpc hok h hb k
  case goto => exact ms_goto C hpc hok h hb k
  case if_icmp => exact ms_icmp C hpc hok h hb k
  case ifCond => exact ms_ifc C hpc hok h hb k
  case ifnull => exact ms_ifnull C hpc hok h hb k
  case ifnonnull => exact ms_ifnonnull C hpc hok h hb k
  case tableswitch => exact ms_tsw C hpc hok h hb k
  case invokeinterface => exact ms_get C hpc hok h hb k
  case multianewarray => exact ms_put C hpc hok h hb k
  case getstatic => exact ms_gst C hpc hok h hb k
  case iaload => exact ms_iaload C hpc hok h hb k
  case baload => exact ms_baload C hpc hok h hb k
  case caload => exact ms_caload C hpc hok h hb k
  case aaload => exact ms_aaload C hpc hok h hb k
  case iastore => exact ms_iastore C hpc hok h hb k
  case bastore => exact ms_bastore C hpc hok h hb k
  case aastore => exact ms_aastore C hpc hok h hb k
  case arraylength => exact ms_alen C hpc hok h hb k
  case anewarray => exact ms_newa C hpc hok h hb k
  case new => exact ms_new C hpc hok h hb k
  case pop => exact ms_pop C hpc hok h hb k
  case lneg => exact ms_mabs C hpc hok h hb k
  case lor => exact ms_mmax C hpc hok h hb k
  case lxor => exact ms_mmin C hpc hok h hb k
  case dup2_x2 => exact ms_cpy C hpc hok h hb k
  all_goals exact absurd h (by intro z; cases z)
end SNM
