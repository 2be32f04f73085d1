theorem st_tl {M : mM} {a : mV} {st : List mV} (h : ∀ v ∈ a :: st, rOK M v) : ∀ v ∈ st, rOK M v := fun v hv => h v (List.mem_cons_of_mem _ hv)
theorem st_hd {M : mM} {a : mV} {st : List mV} (h : ∀ v ∈ a :: st, rOK M v) : rOK M a := h a List.mem_cons_self
theorem st_cn {M : mM} {a : mV} {st : List mV} (ha : rOK M a) (h : ∀ v ∈ st, rOK M v) : ∀ v ∈ a :: st, rOK M v := fun v hv => by
  rcases List.mem_cons.mp hv with e | hv
  · rw [e]; exact ha
  · exact h v hv
section SND
variable {p : Program} {l : Launch} {e : Env} {R : Room} {s : State} {m : MethodId} {args : Array Value} {below : List Frame} {meth : Method} {c : Code} {D : va_G} {A : Nat → Prop} {b t L : Nat} {Z : List (Nat × Nat)} {ad0 : Nat → Nat → Nat} {xs : Nat → Int32} {I : mI} {d n0 s0 N1 S1 : Nat} {Q : State → Prop} {ip pc ip' : Nat} {ls ls' : List (Option mV)} {st st' : List mV} {M M' : mM} {v : Value}
theorem ms_iadd (C : mCx p R s m args meth c D A b t L xs I d n0 s0 N1 S1) (hpc : nth I.2.2.2.2.2.2.2.2 ip = some pc)  (hok : okB I pc (nth I.2.2.2.2.2.2.2.2 (ip + 1)) (.iadd) v = true) (h : mstep L xs (.iadd) v ip ls st M = some (ip', ls', st', M')) (hb : M'.1.length ≤ N1 ∧ mSl M'.1 ≤ S1) (k : mGo p l e R s m args below meth c D A b t Z ad0 Q n0 s0 I ip' ls' st' M') : mGo p l e R s m args below meth c D A b t Z ad0 Q n0 s0 I ip ls st M := by
  have hk : okS I pc (nth I.2.2.2.2.2.2.2.2 (ip + 1)) (.iadd) 1 = true := hok
  obtain ⟨hd, hn⟩ := okS_spec hk
  unfold mstep at h
  dsimp only at h
  split at h
  · cases h
    intro pc' hpc' ad ca H locs cells slots la hC hL hst
    cases hpc.symm.trans hpc'
    show W p l e R s m args below meth c H locs cells slots Q (F0 m pc la (.int _ :: .int _ :: List.map (tv ad) _))
    exact lv_iadd C.1 C.2.1 hd (k _ hn ad ca H locs cells slots la hC hL (st_cn trivial (st_tl (st_tl hst))))
  · cases h
theorem ms_isub (C : mCx p R s m args meth c D A b t L xs I d n0 s0 N1 S1) (hpc : nth I.2.2.2.2.2.2.2.2 ip = some pc)  (hok : okB I pc (nth I.2.2.2.2.2.2.2.2 (ip + 1)) (.isub) v = true) (h : mstep L xs (.isub) v ip ls st M = some (ip', ls', st', M')) (hb : M'.1.length ≤ N1 ∧ mSl M'.1 ≤ S1) (k : mGo p l e R s m args below meth c D A b t Z ad0 Q n0 s0 I ip' ls' st' M') : mGo p l e R s m args below meth c D A b t Z ad0 Q n0 s0 I ip ls st M := by
  have hk : okS I pc (nth I.2.2.2.2.2.2.2.2 (ip + 1)) (.isub) 1 = true := hok
  obtain ⟨hd, hn⟩ := okS_spec hk
  unfold mstep at h
  dsimp only at h
  split at h
  · cases h
    intro pc' hpc' ad ca H locs cells slots la hC hL hst
    cases hpc.symm.trans hpc'
    show W p l e R s m args below meth c H locs cells slots Q (F0 m pc la (.int _ :: .int _ :: List.map (tv ad) _))
    exact lv_isub C.1 C.2.1 hd (k _ hn ad ca H locs cells slots la hC hL (st_cn trivial (st_tl (st_tl hst))))
  · cases h
theorem ms_imul (C : mCx p R s m args meth c D A b t L xs I d n0 s0 N1 S1) (hpc : nth I.2.2.2.2.2.2.2.2 ip = some pc)  (hok : okB I pc (nth I.2.2.2.2.2.2.2.2 (ip + 1)) (.imul) v = true) (h : mstep L xs (.imul) v ip ls st M = some (ip', ls', st', M')) (hb : M'.1.length ≤ N1 ∧ mSl M'.1 ≤ S1) (k : mGo p l e R s m args below meth c D A b t Z ad0 Q n0 s0 I ip' ls' st' M') : mGo p l e R s m args below meth c D A b t Z ad0 Q n0 s0 I ip ls st M := by
  have hk : okS I pc (nth I.2.2.2.2.2.2.2.2 (ip + 1)) (.imul) 1 = true := hok
  obtain ⟨hd, hn⟩ := okS_spec hk
  unfold mstep at h
  dsimp only at h
  split at h
  · cases h
    intro pc' hpc' ad ca H locs cells slots la hC hL hst
    cases hpc.symm.trans hpc'
    show W p l e R s m args below meth c H locs cells slots Q (F0 m pc la (.int _ :: .int _ :: List.map (tv ad) _))
    exact lv_imul C.1 C.2.1 hd (k _ hn ad ca H locs cells slots la hC hL (st_cn trivial (st_tl (st_tl hst))))
  · cases h
theorem ms_iand (C : mCx p R s m args meth c D A b t L xs I d n0 s0 N1 S1) (hpc : nth I.2.2.2.2.2.2.2.2 ip = some pc)  (hok : okB I pc (nth I.2.2.2.2.2.2.2.2 (ip + 1)) (.iand) v = true) (h : mstep L xs (.iand) v ip ls st M = some (ip', ls', st', M')) (hb : M'.1.length ≤ N1 ∧ mSl M'.1 ≤ S1) (k : mGo p l e R s m args below meth c D A b t Z ad0 Q n0 s0 I ip' ls' st' M') : mGo p l e R s m args below meth c D A b t Z ad0 Q n0 s0 I ip ls st M := by
  have hk : okS I pc (nth I.2.2.2.2.2.2.2.2 (ip + 1)) (.iand) 1 = true := hok
  obtain ⟨hd, hn⟩ := okS_spec hk
  unfold mstep at h
  dsimp only at h
  split at h
  · cases h
    intro pc' hpc' ad ca H locs cells slots la hC hL hst
    cases hpc.symm.trans hpc'
    show W p l e R s m args below meth c H locs cells slots Q (F0 m pc la (.int _ :: .int _ :: List.map (tv ad) _))
    exact lv_iand C.1 C.2.1 hd (k _ hn ad ca H locs cells slots la hC hL (st_cn trivial (st_tl (st_tl hst))))
  · cases h
theorem ms_ior (C : mCx p R s m args meth c D A b t L xs I d n0 s0 N1 S1) (hpc : nth I.2.2.2.2.2.2.2.2 ip = some pc)  (hok : okB I pc (nth I.2.2.2.2.2.2.2.2 (ip + 1)) (.ior) v = true) (h : mstep L xs (.ior) v ip ls st M = some (ip', ls', st', M')) (hb : M'.1.length ≤ N1 ∧ mSl M'.1 ≤ S1) (k : mGo p l e R s m args below meth c D A b t Z ad0 Q n0 s0 I ip' ls' st' M') : mGo p l e R s m args below meth c D A b t Z ad0 Q n0 s0 I ip ls st M := by
  have hk : okS I pc (nth I.2.2.2.2.2.2.2.2 (ip + 1)) (.ior) 1 = true := hok
  obtain ⟨hd, hn⟩ := okS_spec hk
  unfold mstep at h
  dsimp only at h
  split at h
  · cases h
    intro pc' hpc' ad ca H locs cells slots la hC hL hst
    cases hpc.symm.trans hpc'
    show W p l e R s m args below meth c H locs cells slots Q (F0 m pc la (.int _ :: .int _ :: List.map (tv ad) _))
    exact lv_ior C.1 C.2.1 hd (k _ hn ad ca H locs cells slots la hC hL (st_cn trivial (st_tl (st_tl hst))))
  · cases h
theorem ms_ixor (C : mCx p R s m args meth c D A b t L xs I d n0 s0 N1 S1) (hpc : nth I.2.2.2.2.2.2.2.2 ip = some pc)  (hok : okB I pc (nth I.2.2.2.2.2.2.2.2 (ip + 1)) (.ixor) v = true) (h : mstep L xs (.ixor) v ip ls st M = some (ip', ls', st', M')) (hb : M'.1.length ≤ N1 ∧ mSl M'.1 ≤ S1) (k : mGo p l e R s m args below meth c D A b t Z ad0 Q n0 s0 I ip' ls' st' M') : mGo p l e R s m args below meth c D A b t Z ad0 Q n0 s0 I ip ls st M := by
  have hk : okS I pc (nth I.2.2.2.2.2.2.2.2 (ip + 1)) (.ixor) 1 = true := hok
  obtain ⟨hd, hn⟩ := okS_spec hk
  unfold mstep at h
  dsimp only at h
  split at h
  · cases h
    intro pc' hpc' ad ca H locs cells slots la hC hL hst
    cases hpc.symm.trans hpc'
    show W p l e R s m args below meth c H locs cells slots Q (F0 m pc la (.int _ :: .int _ :: List.map (tv ad) _))
    exact lv_ixor C.1 C.2.1 hd (k _ hn ad ca H locs cells slots la hC hL (st_cn trivial (st_tl (st_tl hst))))
  · cases h
theorem ms_ishl (C : mCx p R s m args meth c D A b t L xs I d n0 s0 N1 S1) (hpc : nth I.2.2.2.2.2.2.2.2 ip = some pc)  (hok : okB I pc (nth I.2.2.2.2.2.2.2.2 (ip + 1)) (.ishl) v = true) (h : mstep L xs (.ishl) v ip ls st M = some (ip', ls', st', M')) (hb : M'.1.length ≤ N1 ∧ mSl M'.1 ≤ S1) (k : mGo p l e R s m args below meth c D A b t Z ad0 Q n0 s0 I ip' ls' st' M') : mGo p l e R s m args below meth c D A b t Z ad0 Q n0 s0 I ip ls st M := by
  have hk : okS I pc (nth I.2.2.2.2.2.2.2.2 (ip + 1)) (.ishl) 1 = true := hok
  obtain ⟨hd, hn⟩ := okS_spec hk
  unfold mstep at h
  dsimp only at h
  split at h
  · cases h
    intro pc' hpc' ad ca H locs cells slots la hC hL hst
    cases hpc.symm.trans hpc'
    show W p l e R s m args below meth c H locs cells slots Q (F0 m pc la (.int _ :: .int _ :: List.map (tv ad) _))
    exact lv_ishl C.1 C.2.1 hd (k _ hn ad ca H locs cells slots la hC hL (st_cn trivial (st_tl (st_tl hst))))
  · cases h
theorem ms_ishr (C : mCx p R s m args meth c D A b t L xs I d n0 s0 N1 S1) (hpc : nth I.2.2.2.2.2.2.2.2 ip = some pc)  (hok : okB I pc (nth I.2.2.2.2.2.2.2.2 (ip + 1)) (.ishr) v = true) (h : mstep L xs (.ishr) v ip ls st M = some (ip', ls', st', M')) (hb : M'.1.length ≤ N1 ∧ mSl M'.1 ≤ S1) (k : mGo p l e R s m args below meth c D A b t Z ad0 Q n0 s0 I ip' ls' st' M') : mGo p l e R s m args below meth c D A b t Z ad0 Q n0 s0 I ip ls st M := by
  have hk : okS I pc (nth I.2.2.2.2.2.2.2.2 (ip + 1)) (.ishr) 1 = true := hok
  obtain ⟨hd, hn⟩ := okS_spec hk
  unfold mstep at h
  dsimp only at h
  split at h
  · cases h
    intro pc' hpc' ad ca H locs cells slots la hC hL hst
    cases hpc.symm.trans hpc'
    show W p l e R s m args below meth c H locs cells slots Q (F0 m pc la (.int _ :: .int _ :: List.map (tv ad) _))
    exact lv_ishr C.1 C.2.1 hd (k _ hn ad ca H locs cells slots la hC hL (st_cn trivial (st_tl (st_tl hst))))
  · cases h
theorem ms_ladd (C : mCx p R s m args meth c D A b t L xs I d n0 s0 N1 S1) (hpc : nth I.2.2.2.2.2.2.2.2 ip = some pc)  (hok : okB I pc (nth I.2.2.2.2.2.2.2.2 (ip + 1)) (.ladd) v = true) (h : mstep L xs (.ladd) v ip ls st M = some (ip', ls', st', M')) (hb : M'.1.length ≤ N1 ∧ mSl M'.1 ≤ S1) (k : mGo p l e R s m args below meth c D A b t Z ad0 Q n0 s0 I ip' ls' st' M') : mGo p l e R s m args below meth c D A b t Z ad0 Q n0 s0 I ip ls st M := by
  have hk : okS I pc (nth I.2.2.2.2.2.2.2.2 (ip + 1)) (.ladd) 1 = true := hok
  obtain ⟨hd, hn⟩ := okS_spec hk
  unfold mstep at h
  dsimp only at h
  split at h
  · cases h
    intro pc' hpc' ad ca H locs cells slots la hC hL hst
    cases hpc.symm.trans hpc'
    show W p l e R s m args below meth c H locs cells slots Q (F0 m pc la (.long _ :: .long _ :: List.map (tv ad) _))
    exact lv_ladd C.1 C.2.1 hd (k _ hn ad ca H locs cells slots la hC hL (st_cn trivial (st_tl (st_tl hst))))
  · cases h
theorem ms_lmul (C : mCx p R s m args meth c D A b t L xs I d n0 s0 N1 S1) (hpc : nth I.2.2.2.2.2.2.2.2 ip = some pc)  (hok : okB I pc (nth I.2.2.2.2.2.2.2.2 (ip + 1)) (.lmul) v = true) (h : mstep L xs (.lmul) v ip ls st M = some (ip', ls', st', M')) (hb : M'.1.length ≤ N1 ∧ mSl M'.1 ≤ S1) (k : mGo p l e R s m args below meth c D A b t Z ad0 Q n0 s0 I ip' ls' st' M') : mGo p l e R s m args below meth c D A b t Z ad0 Q n0 s0 I ip ls st M := by
  have hk : okS I pc (nth I.2.2.2.2.2.2.2.2 (ip + 1)) (.lmul) 1 = true := hok
  obtain ⟨hd, hn⟩ := okS_spec hk
  unfold mstep at h
  dsimp only at h
  split at h
  · cases h
    intro pc' hpc' ad ca H locs cells slots la hC hL hst
    cases hpc.symm.trans hpc'
    show W p l e R s m args below meth c H locs cells slots Q (F0 m pc la (.long _ :: .long _ :: List.map (tv ad) _))
    exact lv_lmul C.1 C.2.1 hd (k _ hn ad ca H locs cells slots la hC hL (st_cn trivial (st_tl (st_tl hst))))
  · cases h
theorem ms_ineg (C : mCx p R s m args meth c D A b t L xs I d n0 s0 N1 S1) (hpc : nth I.2.2.2.2.2.2.2.2 ip = some pc)  (hok : okB I pc (nth I.2.2.2.2.2.2.2.2 (ip + 1)) (.ineg) v = true) (h : mstep L xs (.ineg) v ip ls st M = some (ip', ls', st', M')) (hb : M'.1.length ≤ N1 ∧ mSl M'.1 ≤ S1) (k : mGo p l e R s m args below meth c D A b t Z ad0 Q n0 s0 I ip' ls' st' M') : mGo p l e R s m args below meth c D A b t Z ad0 Q n0 s0 I ip ls st M := by
  have hk : okS I pc (nth I.2.2.2.2.2.2.2.2 (ip + 1)) (.ineg) 1 = true := hok
  obtain ⟨hd, hn⟩ := okS_spec hk
  unfold mstep at h
  dsimp only at h
  split at h
  · cases h
    intro pc' hpc' ad ca H locs cells slots la hC hL hst
    cases hpc.symm.trans hpc'
    show W p l e R s m args below meth c H locs cells slots Q (F0 m pc la (.int _ :: List.map (tv ad) _))
    exact lv_ineg C.1 C.2.1 hd (k _ hn ad ca H locs cells slots la hC hL (st_cn trivial (st_tl hst)))
  · cases h
theorem ms_i2l (C : mCx p R s m args meth c D A b t L xs I d n0 s0 N1 S1) (hpc : nth I.2.2.2.2.2.2.2.2 ip = some pc)  (hok : okB I pc (nth I.2.2.2.2.2.2.2.2 (ip + 1)) (.i2l) v = true) (h : mstep L xs (.i2l) v ip ls st M = some (ip', ls', st', M')) (hb : M'.1.length ≤ N1 ∧ mSl M'.1 ≤ S1) (k : mGo p l e R s m args below meth c D A b t Z ad0 Q n0 s0 I ip' ls' st' M') : mGo p l e R s m args below meth c D A b t Z ad0 Q n0 s0 I ip ls st M := by
  have hk : okS I pc (nth I.2.2.2.2.2.2.2.2 (ip + 1)) (.i2l) 1 = true := hok
  obtain ⟨hd, hn⟩ := okS_spec hk
  unfold mstep at h
  dsimp only at h
  split at h
  · cases h
    intro pc' hpc' ad ca H locs cells slots la hC hL hst
    cases hpc.symm.trans hpc'
    show W p l e R s m args below meth c H locs cells slots Q (F0 m pc la (.int _ :: List.map (tv ad) _))
    exact lv_i2l C.1 C.2.1 hd rfl (k _ hn ad ca H locs cells slots la hC hL (st_cn trivial (st_tl hst)))
  · cases h
theorem ms_l2i (C : mCx p R s m args meth c D A b t L xs I d n0 s0 N1 S1) (hpc : nth I.2.2.2.2.2.2.2.2 ip = some pc)  (hok : okB I pc (nth I.2.2.2.2.2.2.2.2 (ip + 1)) (.l2i) v = true) (h : mstep L xs (.l2i) v ip ls st M = some (ip', ls', st', M')) (hb : M'.1.length ≤ N1 ∧ mSl M'.1 ≤ S1) (k : mGo p l e R s m args below meth c D A b t Z ad0 Q n0 s0 I ip' ls' st' M') : mGo p l e R s m args below meth c D A b t Z ad0 Q n0 s0 I ip ls st M := by
  have hk : okS I pc (nth I.2.2.2.2.2.2.2.2 (ip + 1)) (.l2i) 1 = true := hok
  obtain ⟨hd, hn⟩ := okS_spec hk
  unfold mstep at h
  dsimp only at h
  split at h
  · cases h
    intro pc' hpc' ad ca H locs cells slots la hC hL hst
    cases hpc.symm.trans hpc'
    show W p l e R s m args below meth c H locs cells slots Q (F0 m pc la (.long _ :: List.map (tv ad) _))
    exact lv_l2i C.1 C.2.1 hd rfl (k _ hn ad ca H locs cells slots la hC hL (st_cn trivial (st_tl hst)))
  · cases h
theorem ms_i2b (C : mCx p R s m args meth c D A b t L xs I d n0 s0 N1 S1) (hpc : nth I.2.2.2.2.2.2.2.2 ip = some pc)  (hok : okB I pc (nth I.2.2.2.2.2.2.2.2 (ip + 1)) (.i2b) v = true) (h : mstep L xs (.i2b) v ip ls st M = some (ip', ls', st', M')) (hb : M'.1.length ≤ N1 ∧ mSl M'.1 ≤ S1) (k : mGo p l e R s m args below meth c D A b t Z ad0 Q n0 s0 I ip' ls' st' M') : mGo p l e R s m args below meth c D A b t Z ad0 Q n0 s0 I ip ls st M := by
  have hk : okS I pc (nth I.2.2.2.2.2.2.2.2 (ip + 1)) (.i2b) 1 = true := hok
  obtain ⟨hd, hn⟩ := okS_spec hk
  unfold mstep at h
  dsimp only at h
  split at h
  · cases h
    intro pc' hpc' ad ca H locs cells slots la hC hL hst
    cases hpc.symm.trans hpc'
    show W p l e R s m args below meth c H locs cells slots Q (F0 m pc la (.int _ :: List.map (tv ad) _))
    exact lv_i2b C.1 C.2.1 hd rfl (k _ hn ad ca H locs cells slots la hC hL (st_cn trivial (st_tl hst)))
  · cases h
theorem ms_iushr (C : mCx p R s m args meth c D A b t L xs I d n0 s0 N1 S1) (hpc : nth I.2.2.2.2.2.2.2.2 ip = some pc)  (hok : okB I pc (nth I.2.2.2.2.2.2.2.2 (ip + 1)) (.iushr) v = true) (h : mstep L xs (.iushr) v ip ls st M = some (ip', ls', st', M')) (hb : M'.1.length ≤ N1 ∧ mSl M'.1 ≤ S1) (k : mGo p l e R s m args below meth c D A b t Z ad0 Q n0 s0 I ip' ls' st' M') : mGo p l e R s m args below meth c D A b t Z ad0 Q n0 s0 I ip ls st M := by
  have hk : okS I pc (nth I.2.2.2.2.2.2.2.2 (ip + 1)) (.iushr) 1 = true := hok
  obtain ⟨hd, hn⟩ := okS_spec hk
  unfold mstep at h
  dsimp only at h
  split at h
  · cases h
    intro pc' hpc' ad ca H locs cells slots la hC hL hst
    cases hpc.symm.trans hpc'
    show W p l e R s m args below meth c H locs cells slots Q (F0 m pc la (.int _ :: .int _ :: List.map (tv ad) _))
    exact lv_iushr C.1 C.2.1 hd rfl (k _ hn ad ca H locs cells slots la hC hL (st_cn trivial (st_tl (st_tl hst))))
  · cases h
theorem ms_lcmp (C : mCx p R s m args meth c D A b t L xs I d n0 s0 N1 S1) (hpc : nth I.2.2.2.2.2.2.2.2 ip = some pc)  (hok : okB I pc (nth I.2.2.2.2.2.2.2.2 (ip + 1)) (.lcmp) v = true) (h : mstep L xs (.lcmp) v ip ls st M = some (ip', ls', st', M')) (hb : M'.1.length ≤ N1 ∧ mSl M'.1 ≤ S1) (k : mGo p l e R s m args below meth c D A b t Z ad0 Q n0 s0 I ip' ls' st' M') : mGo p l e R s m args below meth c D A b t Z ad0 Q n0 s0 I ip ls st M := by
  have hk : okS I pc (nth I.2.2.2.2.2.2.2.2 (ip + 1)) (.lcmp) 1 = true := hok
  obtain ⟨hd, hn⟩ := okS_spec hk
  unfold mstep at h
  dsimp only at h
  split at h
  · cases h
    intro pc' hpc' ad ca H locs cells slots la hC hL hst
    cases hpc.symm.trans hpc'
    show W p l e R s m args below meth c H locs cells slots Q (F0 m pc la (.long _ :: .long _ :: List.map (tv ad) _))
    exact W.lcmp C.1 C.2.1 hd (k _ hn ad ca H locs cells slots la hC hL (st_cn trivial (st_tl (st_tl hst))))
  · cases h
theorem ms_idiv (C : mCx p R s m args meth c D A b t L xs I d n0 s0 N1 S1) (hpc : nth I.2.2.2.2.2.2.2.2 ip = some pc)  (hok : okB I pc (nth I.2.2.2.2.2.2.2.2 (ip + 1)) (.idiv) v = true) (h : mstep L xs (.idiv) v ip ls st M = some (ip', ls', st', M')) (hb : M'.1.length ≤ N1 ∧ mSl M'.1 ≤ S1) (k : mGo p l e R s m args below meth c D A b t Z ad0 Q n0 s0 I ip' ls' st' M') : mGo p l e R s m args below meth c D A b t Z ad0 Q n0 s0 I ip ls st M := by
  have hk : okS I pc (nth I.2.2.2.2.2.2.2.2 (ip + 1)) (.idiv) 1 = true := hok
  obtain ⟨hd, hn⟩ := okS_spec hk
  unfold mstep at h
  dsimp only at h
  split at h
  · split at h
    · cases h
    · rename_i hne
      cases h
      intro pc' hpc' ad ca H locs cells slots la hC hL hst
      cases hpc.symm.trans hpc'
      show W p l e R s m args below meth c H locs cells slots Q (F0 m pc la (.int _ :: .int _ :: List.map (tv ad) _))
      exact lv_idiv C.1 C.2.1 hd hne (k _ hn ad ca H locs cells slots la hC hL (st_cn trivial (st_tl (st_tl hst))))
  · cases h
theorem ms_irem (C : mCx p R s m args meth c D A b t L xs I d n0 s0 N1 S1) (hpc : nth I.2.2.2.2.2.2.2.2 ip = some pc)  (hok : okB I pc (nth I.2.2.2.2.2.2.2.2 (ip + 1)) (.irem) v = true) (h : mstep L xs (.irem) v ip ls st M = some (ip', ls', st', M')) (hb : M'.1.length ≤ N1 ∧ mSl M'.1 ≤ S1) (k : mGo p l e R s m args below meth c D A b t Z ad0 Q n0 s0 I ip' ls' st' M') : mGo p l e R s m args below meth c D A b t Z ad0 Q n0 s0 I ip ls st M := by
  have hk : okS I pc (nth I.2.2.2.2.2.2.2.2 (ip + 1)) (.irem) 1 = true := hok
  obtain ⟨hd, hn⟩ := okS_spec hk
  unfold mstep at h
  dsimp only at h
  split at h
  · split at h
    · cases h
    · rename_i hne
      cases h
      intro pc' hpc' ad ca H locs cells slots la hC hL hst
      cases hpc.symm.trans hpc'
      show W p l e R s m args below meth c H locs cells slots Q (F0 m pc la (.int _ :: .int _ :: List.map (tv ad) _))
      exact lv_irem C.1 C.2.1 hd hne (k _ hn ad ca H locs cells slots la hC hL (st_cn trivial (st_tl (st_tl hst))))
  · cases h
theorem ms_ldiv (C : mCx p R s m args meth c D A b t L xs I d n0 s0 N1 S1) (hpc : nth I.2.2.2.2.2.2.2.2 ip = some pc)  (hok : okB I pc (nth I.2.2.2.2.2.2.2.2 (ip + 1)) (.ldiv) v = true) (h : mstep L xs (.ldiv) v ip ls st M = some (ip', ls', st', M')) (hb : M'.1.length ≤ N1 ∧ mSl M'.1 ≤ S1) (k : mGo p l e R s m args below meth c D A b t Z ad0 Q n0 s0 I ip' ls' st' M') : mGo p l e R s m args below meth c D A b t Z ad0 Q n0 s0 I ip ls st M := by
  have hk : okS I pc (nth I.2.2.2.2.2.2.2.2 (ip + 1)) (.ldiv) 1 = true := hok
  obtain ⟨hd, hn⟩ := okS_spec hk
  unfold mstep at h
  dsimp only at h
  split at h
  · split at h
    · cases h
    · rename_i hne
      cases h
      intro pc' hpc' ad ca H locs cells slots la hC hL hst
      cases hpc.symm.trans hpc'
      show W p l e R s m args below meth c H locs cells slots Q (F0 m pc la (.long _ :: .long _ :: List.map (tv ad) _))
      exact lv_ldiv C.1 C.2.1 hd hne (k _ hn ad ca H locs cells slots la hC hL (st_cn trivial (st_tl (st_tl hst))))
  · cases h
theorem ms_lrem (C : mCx p R s m args meth c D A b t L xs I d n0 s0 N1 S1) (hpc : nth I.2.2.2.2.2.2.2.2 ip = some pc)  (hok : okB I pc (nth I.2.2.2.2.2.2.2.2 (ip + 1)) (.lrem) v = true) (h : mstep L xs (.lrem) v ip ls st M = some (ip', ls', st', M')) (hb : M'.1.length ≤ N1 ∧ mSl M'.1 ≤ S1) (k : mGo p l e R s m args below meth c D A b t Z ad0 Q n0 s0 I ip' ls' st' M') : mGo p l e R s m args below meth c D A b t Z ad0 Q n0 s0 I ip ls st M := by
  have hk : okS I pc (nth I.2.2.2.2.2.2.2.2 (ip + 1)) (.lrem) 1 = true := hok
  obtain ⟨hd, hn⟩ := okS_spec hk
  unfold mstep at h
  dsimp only at h
  split at h
  · split at h
    · cases h
    · rename_i hne
      cases h
      intro pc' hpc' ad ca H locs cells slots la hC hL hst
      cases hpc.symm.trans hpc'
      show W p l e R s m args below meth c H locs cells slots Q (F0 m pc la (.long _ :: .long _ :: List.map (tv ad) _))
      exact lv_lrem C.1 C.2.1 hd hne (k _ hn ad ca H locs cells slots la hC hL (st_cn trivial (st_tl (st_tl hst))))
  · cases h
theorem ms_iload (C : mCx p R s m args meth c D A b t L xs I d n0 s0 N1 S1) (hpc : nth I.2.2.2.2.2.2.2.2 ip = some pc) {n : Nat} (hok : okB I pc (nth I.2.2.2.2.2.2.2.2 (ip + 1)) (.iload n) v = true) (h : mstep L xs (.iload n) v ip ls st M = some (ip', ls', st', M')) (hb : M'.1.length ≤ N1 ∧ mSl M'.1 ≤ S1) (k : mGo p l e R s m args below meth c D A b t Z ad0 Q n0 s0 I ip' ls' st' M') : mGo p l e R s m args below meth c D A b t Z ad0 Q n0 s0 I ip ls st M := by
  have hk : (decide (n < I.2.2.2.1) && ((decide (n < 4) && okS I pc (nth I.2.2.2.2.2.2.2.2 (ip + 1)) (.iload_n (f4 n)) 1) || okS I pc (nth I.2.2.2.2.2.2.2.2 (ip + 1)) (.iload n) 2)) = true := hok
  unfold mstep at h
  dsimp only at h
  split at h
  · rename_i x hx
    cases h
    intro pc' hpc' ad ca H locs cells slots la hC hL hst
    cases hpc.symm.trans hpc'
    have hv := hL.at hx
    simp only [Bool.and_eq_true, Bool.or_eq_true, decide_eq_true_eq] at hk
    rcases hk.2 with ⟨h4, hk⟩ | hk
    · obtain ⟨hd, hn⟩ := okS_spec hk
      exact lv_iload_n C.1 C.2.1 hd (f4_val h4) hv (k _ hn ad ca H locs cells slots la hC hL (st_cn trivial hst))
    · obtain ⟨hd, hn⟩ := okS_spec hk
      exact lv_iload C.1 C.2.1 hd hv (k _ hn ad ca H locs cells slots la hC hL (st_cn trivial hst))
  · cases h
theorem ms_lload (C : mCx p R s m args meth c D A b t L xs I d n0 s0 N1 S1) (hpc : nth I.2.2.2.2.2.2.2.2 ip = some pc) {n : Nat} (hok : okB I pc (nth I.2.2.2.2.2.2.2.2 (ip + 1)) (.lload n) v = true) (h : mstep L xs (.lload n) v ip ls st M = some (ip', ls', st', M')) (hb : M'.1.length ≤ N1 ∧ mSl M'.1 ≤ S1) (k : mGo p l e R s m args below meth c D A b t Z ad0 Q n0 s0 I ip' ls' st' M') : mGo p l e R s m args below meth c D A b t Z ad0 Q n0 s0 I ip ls st M := by
  have hk : (decide (n < I.2.2.2.1) && ((decide (n < 4) && okS I pc (nth I.2.2.2.2.2.2.2.2 (ip + 1)) (.lload_n (f4 n)) 1) || okS I pc (nth I.2.2.2.2.2.2.2.2 (ip + 1)) (.lload n) 2)) = true := hok
  unfold mstep at h
  dsimp only at h
  split at h
  · rename_i x hx
    cases h
    intro pc' hpc' ad ca H locs cells slots la hC hL hst
    cases hpc.symm.trans hpc'
    have hv := hL.at hx
    simp only [Bool.and_eq_true, Bool.or_eq_true, decide_eq_true_eq] at hk
    rcases hk.2 with ⟨h4, hk⟩ | hk
    · obtain ⟨hd, hn⟩ := okS_spec hk
      exact lv_lload_n C.1 C.2.1 hd (f4_val h4) hv (k _ hn ad ca H locs cells slots la hC hL (st_cn trivial hst))
    · obtain ⟨hd, hn⟩ := okS_spec hk
      exact lv_lload C.1 C.2.1 hd hv (k _ hn ad ca H locs cells slots la hC hL (st_cn trivial hst))
  · cases h
theorem ms_aload (C : mCx p R s m args meth c D A b t L xs I d n0 s0 N1 S1) (hpc : nth I.2.2.2.2.2.2.2.2 ip = some pc) {n : Nat} (hok : okB I pc (nth I.2.2.2.2.2.2.2.2 (ip + 1)) (.aload n) v = true) (h : mstep L xs (.aload n) v ip ls st M = some (ip', ls', st', M')) (hb : M'.1.length ≤ N1 ∧ mSl M'.1 ≤ S1) (k : mGo p l e R s m args below meth c D A b t Z ad0 Q n0 s0 I ip' ls' st' M') : mGo p l e R s m args below meth c D A b t Z ad0 Q n0 s0 I ip ls st M := by
  have hk : (decide (n < I.2.2.2.1) && ((decide (n < 4) && okS I pc (nth I.2.2.2.2.2.2.2.2 (ip + 1)) (.aload_n (f4 n)) 1) || okS I pc (nth I.2.2.2.2.2.2.2.2 (ip + 1)) (.aload n) 2)) = true := hok
  unfold mstep at h
  dsimp only at h
  split at h
  · rename_i r hx
    cases h
    intro pc' hpc' ad ca H locs cells slots la hC hL hst
    cases hpc.symm.trans hpc'
    have hv := hL.at hx
    have ho := hL.ok hx
    simp only [Bool.and_eq_true, Bool.or_eq_true, decide_eq_true_eq] at hk
    rcases hk.2 with ⟨h4, hk⟩ | hk
    · obtain ⟨hd, hn⟩ := okS_spec hk
      have hg := k _ hn ad ca H locs cells slots la hC hL (st_cn ho hst)
      cases r with
      | none => exact lv_aload_nN C.1 C.2.1 hd (f4_val h4) hv hg
      | some q => exact lv_aload_n C.1 C.2.1 hd (f4_val h4) hv hg
    · obtain ⟨hd, hn⟩ := okS_spec hk
      have hg := k _ hn ad ca H locs cells slots la hC hL (st_cn ho hst)
      cases r with
      | none => exact lv_aloadN C.1 C.2.1 hd hv hg
      | some q => exact lv_aload C.1 C.2.1 hd hv hg
  · cases h
theorem ms_istore (C : mCx p R s m args meth c D A b t L xs I d n0 s0 N1 S1) (hpc : nth I.2.2.2.2.2.2.2.2 ip = some pc) {n : Nat} (hok : okB I pc (nth I.2.2.2.2.2.2.2.2 (ip + 1)) (.istore n) v = true) (h : mstep L xs (.istore n) v ip ls st M = some (ip', ls', st', M')) (hb : M'.1.length ≤ N1 ∧ mSl M'.1 ≤ S1) (k : mGo p l e R s m args below meth c D A b t Z ad0 Q n0 s0 I ip' ls' st' M') : mGo p l e R s m args below meth c D A b t Z ad0 Q n0 s0 I ip ls st M := by
  have hk : (decide (n < I.2.2.2.1) && ((decide (n < 4) && okS I pc (nth I.2.2.2.2.2.2.2.2 (ip + 1)) (.istore_n (f4 n)) 1) || okS I pc (nth I.2.2.2.2.2.2.2.2 (ip + 1)) (.istore n) 2)) = true := hok
  unfold mstep at h
  dsimp only at h
  split at h
  · cases h
    intro pc' hpc' ad ca H locs cells slots la hC hL hst
    cases hpc.symm.trans hpc'
    simp only [Bool.and_eq_true, Bool.or_eq_true, decide_eq_true_eq] at hk
    rcases hk.2 with ⟨h4, hk1⟩ | hk1
    · obtain ⟨hd, hn⟩ := okS_spec hk1
      exact lv_istore_n C.1 C.2.1 hd (f4_val h4) hL.1 hk.1 rfl (fun lb hb => k _ hn ad ca H locs cells slots lb hC (hL.st1 (v := .inl _) trivial hb) (st_tl hst))
    · obtain ⟨hd, hn⟩ := okS_spec hk1
      exact lv_istore C.1 C.2.1 hd hL.1 hk.1 rfl (fun lb hb => k _ hn ad ca H locs cells slots lb hC (hL.st1 (v := .inl _) trivial hb) (st_tl hst))
  · cases h
theorem ms_astore (C : mCx p R s m args meth c D A b t L xs I d n0 s0 N1 S1) (hpc : nth I.2.2.2.2.2.2.2.2 ip = some pc) {n : Nat} (hok : okB I pc (nth I.2.2.2.2.2.2.2.2 (ip + 1)) (.astore n) v = true) (h : mstep L xs (.astore n) v ip ls st M = some (ip', ls', st', M')) (hb : M'.1.length ≤ N1 ∧ mSl M'.1 ≤ S1) (k : mGo p l e R s m args below meth c D A b t Z ad0 Q n0 s0 I ip' ls' st' M') : mGo p l e R s m args below meth c D A b t Z ad0 Q n0 s0 I ip ls st M := by
  have hk : (decide (n < I.2.2.2.1) && ((decide (n < 4) && okS I pc (nth I.2.2.2.2.2.2.2.2 (ip + 1)) (.astore_n (f4 n)) 1) || okS I pc (nth I.2.2.2.2.2.2.2.2 (ip + 1)) (.astore n) 2)) = true := hok
  unfold mstep at h
  dsimp only at h
  split at h
  · rename_i r st1
    cases h
    intro pc' hpc' ad ca H locs cells slots la hC hL hst
    cases hpc.symm.trans hpc'
    simp only [Bool.and_eq_true, Bool.or_eq_true, decide_eq_true_eq] at hk
    have ho := st_hd hst
    rcases hk.2 with ⟨h4, hk1⟩ | hk1
    · obtain ⟨hd, hn⟩ := okS_spec hk1
      cases r with
      | none => exact lv_astore_nN C.1 C.2.1 hd (f4_val h4) hL.1 hk.1 rfl (fun lb hb => k _ hn ad ca H locs cells slots lb hC (hL.st1 (v := .inr (.inr none)) ho hb) (st_tl hst))
      | some q => exact lv_astore_n C.1 C.2.1 hd (f4_val h4) hL.1 hk.1 rfl (fun lb hb => k _ hn ad ca H locs cells slots lb hC (hL.st1 (v := .inr (.inr (some q))) ho hb) (st_tl hst))
    · obtain ⟨hd, hn⟩ := okS_spec hk1
      cases r with
      | none => exact lv_astoreN C.1 C.2.1 hd hL.1 hk.1 rfl (fun lb hb => k _ hn ad ca H locs cells slots lb hC (hL.st1 (v := .inr (.inr none)) ho hb) (st_tl hst))
      | some q => exact lv_astore C.1 C.2.1 hd hL.1 hk.1 rfl (fun lb hb => k _ hn ad ca H locs cells slots lb hC (hL.st1 (v := .inr (.inr (some q))) ho hb) (st_tl hst))
  · cases h
theorem ms_lstore (C : mCx p R s m args meth c D A b t L xs I d n0 s0 N1 S1) (hpc : nth I.2.2.2.2.2.2.2.2 ip = some pc) {n : Nat} (hok : okB I pc (nth I.2.2.2.2.2.2.2.2 (ip + 1)) (.lstore n) v = true) (h : mstep L xs (.lstore n) v ip ls st M = some (ip', ls', st', M')) (hb : M'.1.length ≤ N1 ∧ mSl M'.1 ≤ S1) (k : mGo p l e R s m args below meth c D A b t Z ad0 Q n0 s0 I ip' ls' st' M') : mGo p l e R s m args below meth c D A b t Z ad0 Q n0 s0 I ip ls st M := by
  have hk : (decide (n + 1 < I.2.2.2.1) && ((decide (n < 4) && okS I pc (nth I.2.2.2.2.2.2.2.2 (ip + 1)) (.lstore_n (f4 n)) 1) || okS I pc (nth I.2.2.2.2.2.2.2.2 (ip + 1)) (.lstore n) 2)) = true := hok
  unfold mstep at h
  dsimp only at h
  split at h
  · cases h
    intro pc' hpc' ad ca H locs cells slots la hC hL hst
    cases hpc.symm.trans hpc'
    simp only [Bool.and_eq_true, Bool.or_eq_true, decide_eq_true_eq] at hk
    rcases hk.2 with ⟨h4, hk1⟩ | hk1
    · obtain ⟨hd, hn⟩ := okS_spec hk1
      exact lv_lstore_n C.1 C.2.1 hd (f4_val h4) hL.1 hk.1 rfl (fun lb hb => k _ hn ad ca H locs cells slots lb hC (hL.st2 (v := .inr (.inl _)) hk.1 trivial hb) (st_tl hst))
    · obtain ⟨hd, hn⟩ := okS_spec hk1
      exact lv_lstore C.1 C.2.1 hd hL.1 hk.1 rfl (fun lb hb => k _ hn ad ca H locs cells slots lb hC (hL.st2 (v := .inr (.inl _)) hk.1 trivial hb) (st_tl hst))
  · cases h
theorem ms_iinc (C : mCx p R s m args meth c D A b t L xs I d n0 s0 N1 S1) (hpc : nth I.2.2.2.2.2.2.2.2 ip = some pc) {n : Nat} {z : Int} (hok : okB I pc (nth I.2.2.2.2.2.2.2.2 (ip + 1)) (.iinc n z) v = true) (h : mstep L xs (.iinc n z) v ip ls st M = some (ip', ls', st', M')) (hb : M'.1.length ≤ N1 ∧ mSl M'.1 ≤ S1) (k : mGo p l e R s m args below meth c D A b t Z ad0 Q n0 s0 I ip' ls' st' M') : mGo p l e R s m args below meth c D A b t Z ad0 Q n0 s0 I ip ls st M := by
  unfold mstep at h
  dsimp only at h
  split at h
  · rename_i y x hx
    cases h
    have hk : (decide (n < I.2.2.2.1) && okS I pc (nth I.2.2.2.2.2.2.2.2 (ip + 1)) (.iinc n y.toInt) 3) = true := hok
    simp only [Bool.and_eq_true, decide_eq_true_eq] at hk
    obtain ⟨hd, hn⟩ := okS_spec hk.2
    intro pc' hpc' ad ca H locs cells slots la hC hL hst
    cases hpc.symm.trans hpc'
    obtain ⟨q, hq⟩ := List.getElem?_of_mem ((lvA_mem ad ls 0 (n, tv ad (.inl x))).mpr ⟨n, _, hx, by rw [Nat.zero_add]⟩)
    exact lv_iinc C.1 C.2.1 hd hL.1 hq (by rw [Int32.ofInt_toInt]) hk.1 rfl (fun lb hb => k _ hn ad ca H locs cells slots lb hC (hL.st1 (v := .inl _) trivial hb) hst)
  · cases h
theorem ms_iconst (C : mCx p R s m args meth c D A b t L xs I d n0 s0 N1 S1) (hpc : nth I.2.2.2.2.2.2.2.2 ip = some pc) {z : Int} (hok : okB I pc (nth I.2.2.2.2.2.2.2.2 (ip + 1)) (.iconst z) v = true) (h : mstep L xs (.iconst z) v ip ls st M = some (ip', ls', st', M')) (hb : M'.1.length ≤ N1 ∧ mSl M'.1 ≤ S1) (k : mGo p l e R s m args below meth c D A b t Z ad0 Q n0 s0 I ip' ls' st' M') : mGo p l e R s m args below meth c D A b t Z ad0 Q n0 s0 I ip ls st M := by
  unfold mstep at h
  dsimp only at h
  split at h
  · rename_i x
    cases h
    have hk : (okS I pc (nth I.2.2.2.2.2.2.2.2 (ip + 1)) (.iconst x.toInt) 1 || (okS I pc (nth I.2.2.2.2.2.2.2.2 (ip + 1)) (.bipush x.toInt) 2 && decide ((Int8.ofInt x.toInt).toInt32 = x)) || (okS I pc (nth I.2.2.2.2.2.2.2.2 (ip + 1)) (.sipush x.toInt) 3 && decide ((Int16.ofInt x.toInt).toInt32 = x)) ||
      tCI.any (fun q => decide (q.1 = I.1) && decide (q.2.2 = x) && (okS I pc (nth I.2.2.2.2.2.2.2.2 (ip + 1)) (.ldc q.2.1) 2 || okS I pc (nth I.2.2.2.2.2.2.2.2 (ip + 1)) (.ldc_w q.2.1) 3))) = true := hok
    intro pc' hpc' ad ca H locs cells slots la hC hL hst
    cases hpc.symm.trans hpc'
    simp only [Bool.or_eq_true, Bool.and_eq_true, decide_eq_true_eq, List.any_eq_true] at hk
    rcases hk with ((hk | ⟨hk, hx⟩) | ⟨hk, hx⟩) | ⟨q, hq, ⟨hq1, hq2⟩, hk⟩
    · obtain ⟨hd, hn⟩ := okS_spec hk
      exact lv_iconst C.1 C.2.1 hd (Int32.ofInt_toInt x) (k _ hn ad ca H locs cells slots la hC hL (st_cn trivial hst))
    · obtain ⟨hd, hn⟩ := okS_spec hk
      exact lv_bipush C.1 C.2.1 hd hx (k _ hn ad ca H locs cells slots la hC hL (st_cn trivial hst))
    · obtain ⟨hd, hn⟩ := okS_spec hk
      exact lv_sipush C.1 C.2.1 hd hx (k _ hn ad ca H locs cells slots la hC hL (st_cn trivial hst))
    · have hw : (Cond.constant (ownN I.1) q.2.1 x).before args s = true := by
        rw [← hq1, ← hq2]
        exact C.2.2.2.2.1 _ (tCI_in _ (List.mem_map.mpr ⟨q, hq, rfl⟩))
      rcases hk with hk | hk
      · obtain ⟨hd, hn⟩ := okS_spec hk
        exact lv_ldc C.1 C.2.1 C.2.2.2.1 hw hd (k _ hn ad ca H locs cells slots la hC hL (st_cn trivial hst))
      · obtain ⟨hd, hn⟩ := okS_spec hk
        exact lv_ldcw C.1 C.2.1 C.2.2.2.1 hw hd (k _ hn ad ca H locs cells slots la hC hL (st_cn trivial hst))
  · cases h
theorem ms_lconst (C : mCx p R s m args meth c D A b t L xs I d n0 s0 N1 S1) (hpc : nth I.2.2.2.2.2.2.2.2 ip = some pc) {z : Fin 2} (hok : okB I pc (nth I.2.2.2.2.2.2.2.2 (ip + 1)) (.lconst z) v = true) (h : mstep L xs (.lconst z) v ip ls st M = some (ip', ls', st', M')) (hb : M'.1.length ≤ N1 ∧ mSl M'.1 ≤ S1) (k : mGo p l e R s m args below meth c D A b t Z ad0 Q n0 s0 I ip' ls' st' M') : mGo p l e R s m args below meth c D A b t Z ad0 Q n0 s0 I ip ls st M := by
  unfold mstep at h
  dsimp only at h
  split at h
  · rename_i x
    cases h
    have hk : ((decide (x = 0) && okS I pc (nth I.2.2.2.2.2.2.2.2 (ip + 1)) (.lconst 0) 1) || (decide (x = 1) && okS I pc (nth I.2.2.2.2.2.2.2.2 (ip + 1)) (.lconst 1) 1) || tCL.any (fun q => decide (q.1 = I.1) && decide (q.2.2 = x) && okS I pc (nth I.2.2.2.2.2.2.2.2 (ip + 1)) (.ldc2_w q.2.1) 3)) = true := hok
    intro pc' hpc' ad ca H locs cells slots la hC hL hst
    cases hpc.symm.trans hpc'
    simp only [Bool.or_eq_true, Bool.and_eq_true, decide_eq_true_eq, List.any_eq_true] at hk
    rcases hk with (⟨hx, hk⟩ | ⟨hx, hk⟩) | ⟨q, hq, ⟨hq1, hq2⟩, hk⟩
    · obtain ⟨hd, hn⟩ := okS_spec hk
      exact lv_lconst C.1 C.2.1 hd (by rw [hx]; rfl) (k _ hn ad ca H locs cells slots la hC hL (st_cn trivial hst))
    · obtain ⟨hd, hn⟩ := okS_spec hk
      exact lv_lconst C.1 C.2.1 hd (by rw [hx]; rfl) (k _ hn ad ca H locs cells slots la hC hL (st_cn trivial hst))
    · have hw : (Cond.constantLong (ownN I.1) q.2.1 x).before args s = true := by
        rw [← hq1, ← hq2]
        exact C.2.2.2.2.1 _ (tCL_in _ (List.mem_map.mpr ⟨q, hq, rfl⟩))
      obtain ⟨hd, hn⟩ := okS_spec hk
      exact lv_ldc2 C.1 C.2.1 C.2.2.2.1 hw hd (k _ hn ad ca H locs cells slots la hC hL (st_cn trivial hst))
  · cases h
theorem ms_anull (C : mCx p R s m args meth c D A b t L xs I d n0 s0 N1 S1) (hpc : nth I.2.2.2.2.2.2.2.2 ip = some pc)  (hok : okB I pc (nth I.2.2.2.2.2.2.2.2 (ip + 1)) (.aconst_null) v = true) (h : mstep L xs (.aconst_null) v ip ls st M = some (ip', ls', st', M')) (hb : M'.1.length ≤ N1 ∧ mSl M'.1 ≤ S1) (k : mGo p l e R s m args below meth c D A b t Z ad0 Q n0 s0 I ip' ls' st' M') : mGo p l e R s m args below meth c D A b t Z ad0 Q n0 s0 I ip ls st M := by
  have hk : okS I pc (nth I.2.2.2.2.2.2.2.2 (ip + 1)) (.aconst_null) 1 = true := hok
  obtain ⟨hd, hn⟩ := okS_spec hk
  unfold mstep at h
  dsimp only at h
  cases h
  intro pc' hpc' ad ca H locs cells slots la hC hL hst
  cases hpc.symm.trans hpc'
  exact lv_null C.1 C.2.1 hd (k _ hn ad ca H locs cells slots la hC hL (st_cn trivial hst))
theorem ms_dup (C : mCx p R s m args meth c D A b t L xs I d n0 s0 N1 S1) (hpc : nth I.2.2.2.2.2.2.2.2 ip = some pc)  (hok : okB I pc (nth I.2.2.2.2.2.2.2.2 (ip + 1)) (.dup) v = true) (h : mstep L xs (.dup) v ip ls st M = some (ip', ls', st', M')) (hb : M'.1.length ≤ N1 ∧ mSl M'.1 ≤ S1) (k : mGo p l e R s m args below meth c D A b t Z ad0 Q n0 s0 I ip' ls' st' M') : mGo p l e R s m args below meth c D A b t Z ad0 Q n0 s0 I ip ls st M := by
  have hk : okS I pc (nth I.2.2.2.2.2.2.2.2 (ip + 1)) (.dup) 1 = true := hok
  obtain ⟨hd, hn⟩ := okS_spec hk
  unfold mstep at h
  dsimp only at h
  split at h
  · cases h
    intro pc' hpc' ad ca H locs cells slots la hC hL hst
    cases hpc.symm.trans hpc'
    exact lv_dup C.1 C.2.1 hd rfl (k _ hn ad ca H locs cells slots la hC hL (st_cn trivial hst))
  · rename_i r st1
    cases h
    intro pc' hpc' ad ca H locs cells slots la hC hL hst
    cases hpc.symm.trans hpc'
    exact lv_dup C.1 C.2.1 hd (tv_cat ad (.inr (.inr r))) (k _ hn ad ca H locs cells slots la hC hL (st_cn (st_hd hst) hst))
  · cases h
theorem ms_dup2 (C : mCx p R s m args meth c D A b t L xs I d n0 s0 N1 S1) (hpc : nth I.2.2.2.2.2.2.2.2 ip = some pc)  (hok : okB I pc (nth I.2.2.2.2.2.2.2.2 (ip + 1)) (.dup2) v = true) (h : mstep L xs (.dup2) v ip ls st M = some (ip', ls', st', M')) (hb : M'.1.length ≤ N1 ∧ mSl M'.1 ≤ S1) (k : mGo p l e R s m args below meth c D A b t Z ad0 Q n0 s0 I ip' ls' st' M') : mGo p l e R s m args below meth c D A b t Z ad0 Q n0 s0 I ip ls st M := by
  have hk : okS I pc (nth I.2.2.2.2.2.2.2.2 (ip + 1)) (.dup2) 1 = true := hok
  obtain ⟨hd, hn⟩ := okS_spec hk
  unfold mstep at h
  dsimp only at h
  split at h
  · rename_i x r st1
    cases h
    intro pc' hpc' ad ca H locs cells slots la hC hL hst
    cases hpc.symm.trans hpc'
    exact lv_dup2_11 C.1 C.2.1 hd rfl (tv_cat ad (.inr (.inr r))) (k _ hn ad ca H locs cells slots la hC hL (st_cn trivial (st_cn (st_hd (st_tl hst)) hst)))
  · cases h
theorem ms_goto (C : mCx p R s m args meth c D A b t L xs I d n0 s0 N1 S1) (hpc : nth I.2.2.2.2.2.2.2.2 ip = some pc) {z : Int} (hok : okB I pc (nth I.2.2.2.2.2.2.2.2 (ip + 1)) (.goto z) v = true) (h : mstep L xs (.goto z) v ip ls st M = some (ip', ls', st', M')) (hb : M'.1.length ≤ N1 ∧ mSl M'.1 ≤ S1) (k : mGo p l e R s m args below meth c D A b t Z ad0 Q n0 s0 I ip' ls' st' M') : mGo p l e R s m args below meth c D A b t Z ad0 Q n0 s0 I ip ls st M := by
  unfold mstep at h
  dsimp only at h
  cases h
  unfold okB at hok
  dsimp only at hok
  split at hok
  · rename_i off hd
    obtain ⟨tp, ht, he⟩ := okT_spec hok
    intro pc' hpc' ad ca H locs cells slots la hC hL hst
    cases hpc.symm.trans hpc'
    exact lv_goto C.1 C.2.1 hd he (k _ ht ad ca H locs cells slots la hC hL hst)
  · cases hok
theorem ms_ifnull (C : mCx p R s m args meth c D A b t L xs I d n0 s0 N1 S1) (hpc : nth I.2.2.2.2.2.2.2.2 ip = some pc) {z : Int} (hok : okB I pc (nth I.2.2.2.2.2.2.2.2 (ip + 1)) (.ifnull z) v = true) (h : mstep L xs (.ifnull z) v ip ls st M = some (ip', ls', st', M')) (hb : M'.1.length ≤ N1 ∧ mSl M'.1 ≤ S1) (k : mGo p l e R s m args below meth c D A b t Z ad0 Q n0 s0 I ip' ls' st' M') : mGo p l e R s m args below meth c D A b t Z ad0 Q n0 s0 I ip ls st M := by
  unfold okB at hok
  dsimp only at hok
  split at hok
  · rename_i off hd
    rw [Bool.and_eq_true] at hok
    obtain ⟨tp, ht, he⟩ := okT_spec hok.1
    have hn := okN_spec hok.2
    unfold mstep at h
    dsimp only at h
    split at h
    · cases h
      intro pc' hpc' ad ca H locs cells slots la hC hL hst
      cases hpc.symm.trans hpc'
      exact lv_ifnullN C.1 C.2.1 hd he (k _ ht ad ca H locs cells slots la hC hL (st_tl hst))
    · cases h
      intro pc' hpc' ad ca H locs cells slots la hC hL hst
      cases hpc.symm.trans hpc'
      exact lv_ifnull C.1 C.2.1 hd (k _ hn ad ca H locs cells slots la hC hL (st_tl hst))
    · cases h
  · cases hok
theorem ms_ifnonnull (C : mCx p R s m args meth c D A b t L xs I d n0 s0 N1 S1) (hpc : nth I.2.2.2.2.2.2.2.2 ip = some pc) {z : Int} (hok : okB I pc (nth I.2.2.2.2.2.2.2.2 (ip + 1)) (.ifnonnull z) v = true) (h : mstep L xs (.ifnonnull z) v ip ls st M = some (ip', ls', st', M')) (hb : M'.1.length ≤ N1 ∧ mSl M'.1 ≤ S1) (k : mGo p l e R s m args below meth c D A b t Z ad0 Q n0 s0 I ip' ls' st' M') : mGo p l e R s m args below meth c D A b t Z ad0 Q n0 s0 I ip ls st M := by
  unfold okB at hok
  dsimp only at hok
  split at hok
  · rename_i off hd
    rw [Bool.and_eq_true] at hok
    obtain ⟨tp, ht, he⟩ := okT_spec hok.1
    have hn := okN_spec hok.2
    unfold mstep at h
    dsimp only at h
    split at h
    · cases h
      intro pc' hpc' ad ca H locs cells slots la hC hL hst
      cases hpc.symm.trans hpc'
      exact lv_ifnonnullN C.1 C.2.1 hd (k _ hn ad ca H locs cells slots la hC hL (st_tl hst))
    · cases h
      intro pc' hpc' ad ca H locs cells slots la hC hL hst
      cases hpc.symm.trans hpc'
      exact lv_ifnonnull C.1 C.2.1 hd he (k _ ht ad ca H locs cells slots la hC hL (st_tl hst))
    · cases h
  · cases hok
theorem ms_icmp (C : mCx p R s m args meth c D A b t L xs I d n0 s0 N1 S1) (hpc : nth I.2.2.2.2.2.2.2.2 ip = some pc) {q : ClassFile.Cond} {z : Int} (hok : okB I pc (nth I.2.2.2.2.2.2.2.2 (ip + 1)) (.if_icmp q z) v = true) (h : mstep L xs (.if_icmp q z) v ip ls st M = some (ip', ls', st', M')) (hb : M'.1.length ≤ N1 ∧ mSl M'.1 ≤ S1) (k : mGo p l e R s m args below meth c D A b t Z ad0 Q n0 s0 I ip' ls' st' M') : mGo p l e R s m args below meth c D A b t Z ad0 Q n0 s0 I ip ls st M := by
  unfold okB at hok
  dsimp only at hok
  split at hok
  · rename_i q' off hd
    simp only [Bool.and_eq_true, decide_eq_true_eq] at hok
    obtain ⟨⟨hq, hT⟩, hN⟩ := hok
    subst hq
    obtain ⟨tp, ht, he⟩ := okT_spec hT
    have hn := okN_spec hN
    unfold mstep at h
    dsimp only at h
    split at h
    · cases q
      · dsimp only at h
        intro pc' hpc' ad ca H locs cells slots la hC hL hst
        cases hpc.symm.trans hpc'
        show W p l e R s m args below meth c H locs cells slots Q (F0 m pc la (.int _ :: .int _ :: List.map (tv ad) _))
        refine lv_icmp_eq C.1 C.2.1 hd he (fun hc => by rw [if_pos hc] at h; cases h; exact k _ ht ad ca H locs cells slots la hC hL (st_tl (st_tl hst))) (fun hc => by rw [if_neg hc] at h; cases h; exact k _ hn ad ca H locs cells slots la hC hL (st_tl (st_tl hst)))
      · dsimp only at h
        intro pc' hpc' ad ca H locs cells slots la hC hL hst
        cases hpc.symm.trans hpc'
        show W p l e R s m args below meth c H locs cells slots Q (F0 m pc la (.int _ :: .int _ :: List.map (tv ad) _))
        refine lv_icmp_ne C.1 C.2.1 hd he (fun hc => by rw [if_pos hc] at h; cases h; exact k _ ht ad ca H locs cells slots la hC hL (st_tl (st_tl hst))) (fun hc => by rw [if_neg (fun z => z hc)] at h; cases h; exact k _ hn ad ca H locs cells slots la hC hL (st_tl (st_tl hst)))
      · dsimp only at h
        intro pc' hpc' ad ca H locs cells slots la hC hL hst
        cases hpc.symm.trans hpc'
        show W p l e R s m args below meth c H locs cells slots Q (F0 m pc la (.int _ :: .int _ :: List.map (tv ad) _))
        refine lv_icmp_lt C.1 C.2.1 hd he (fun hc => by rw [if_pos hc] at h; cases h; exact k _ ht ad ca H locs cells slots la hC hL (st_tl (st_tl hst))) (fun hc => by rw [if_neg hc] at h; cases h; exact k _ hn ad ca H locs cells slots la hC hL (st_tl (st_tl hst)))
      · dsimp only at h
        intro pc' hpc' ad ca H locs cells slots la hC hL hst
        cases hpc.symm.trans hpc'
        show W p l e R s m args below meth c H locs cells slots Q (F0 m pc la (.int _ :: .int _ :: List.map (tv ad) _))
        refine lv_icmp_ge C.1 C.2.1 hd he (fun hc => by rw [if_pos hc] at h; cases h; exact k _ ht ad ca H locs cells slots la hC hL (st_tl (st_tl hst))) (fun hc => by rw [if_neg hc] at h; cases h; exact k _ hn ad ca H locs cells slots la hC hL (st_tl (st_tl hst)))
      · dsimp only at h
        intro pc' hpc' ad ca H locs cells slots la hC hL hst
        cases hpc.symm.trans hpc'
        show W p l e R s m args below meth c H locs cells slots Q (F0 m pc la (.int _ :: .int _ :: List.map (tv ad) _))
        refine lv_icmp_gt C.1 C.2.1 hd he (fun hc => by rw [if_pos hc] at h; cases h; exact k _ ht ad ca H locs cells slots la hC hL (st_tl (st_tl hst))) (fun hc => by rw [if_neg hc] at h; cases h; exact k _ hn ad ca H locs cells slots la hC hL (st_tl (st_tl hst)))
      · dsimp only at h
        intro pc' hpc' ad ca H locs cells slots la hC hL hst
        cases hpc.symm.trans hpc'
        show W p l e R s m args below meth c H locs cells slots Q (F0 m pc la (.int _ :: .int _ :: List.map (tv ad) _))
        refine lv_icmp_le C.1 C.2.1 hd he (fun hc => by rw [if_pos hc] at h; cases h; exact k _ ht ad ca H locs cells slots la hC hL (st_tl (st_tl hst))) (fun hc => by rw [if_neg hc] at h; cases h; exact k _ hn ad ca H locs cells slots la hC hL (st_tl (st_tl hst)))
    · cases h
  · cases hok
theorem ms_ifc (C : mCx p R s m args meth c D A b t L xs I d n0 s0 N1 S1) (hpc : nth I.2.2.2.2.2.2.2.2 ip = some pc) {q : ClassFile.Cond} {z : Int} (hok : okB I pc (nth I.2.2.2.2.2.2.2.2 (ip + 1)) (.ifCond q z) v = true) (h : mstep L xs (.ifCond q z) v ip ls st M = some (ip', ls', st', M')) (hb : M'.1.length ≤ N1 ∧ mSl M'.1 ≤ S1) (k : mGo p l e R s m args below meth c D A b t Z ad0 Q n0 s0 I ip' ls' st' M') : mGo p l e R s m args below meth c D A b t Z ad0 Q n0 s0 I ip ls st M := by
  unfold okB at hok
  dsimp only at hok
  split at hok
  · rename_i q' off hd
    simp only [Bool.and_eq_true, decide_eq_true_eq] at hok
    obtain ⟨⟨hq, hT⟩, hN⟩ := hok
    subst hq
    obtain ⟨tp, ht, he⟩ := okT_spec hT
    have hn := okN_spec hN
    unfold mstep at h
    dsimp only at h
    split at h
    · cases q
      · dsimp only at h
        intro pc' hpc' ad ca H locs cells slots la hC hL hst
        cases hpc.symm.trans hpc'
        show W p l e R s m args below meth c H locs cells slots Q (F0 m pc la (.int _ :: List.map (tv ad) _))
        refine lv_if_eq C.1 C.2.1 hd he (fun hc => by rw [if_pos hc] at h; cases h; exact k _ ht ad ca H locs cells slots la hC hL (st_tl hst)) (fun hc => by rw [if_neg hc] at h; cases h; exact k _ hn ad ca H locs cells slots la hC hL (st_tl hst))
      · dsimp only at h
        intro pc' hpc' ad ca H locs cells slots la hC hL hst
        cases hpc.symm.trans hpc'
        show W p l e R s m args below meth c H locs cells slots Q (F0 m pc la (.int _ :: List.map (tv ad) _))
        refine lv_if_ne C.1 C.2.1 hd he (fun hc => by rw [if_pos hc] at h; cases h; exact k _ ht ad ca H locs cells slots la hC hL (st_tl hst)) (fun hc => by rw [if_neg (fun z => z hc)] at h; cases h; exact k _ hn ad ca H locs cells slots la hC hL (st_tl hst))
      · dsimp only at h
        intro pc' hpc' ad ca H locs cells slots la hC hL hst
        cases hpc.symm.trans hpc'
        show W p l e R s m args below meth c H locs cells slots Q (F0 m pc la (.int _ :: List.map (tv ad) _))
        refine lv_if_lt C.1 C.2.1 hd he (fun hc => by rw [if_pos hc] at h; cases h; exact k _ ht ad ca H locs cells slots la hC hL (st_tl hst)) (fun hc => by rw [if_neg hc] at h; cases h; exact k _ hn ad ca H locs cells slots la hC hL (st_tl hst))
      · dsimp only at h
        intro pc' hpc' ad ca H locs cells slots la hC hL hst
        cases hpc.symm.trans hpc'
        show W p l e R s m args below meth c H locs cells slots Q (F0 m pc la (.int _ :: List.map (tv ad) _))
        refine lv_if_ge C.1 C.2.1 hd he (fun hc => by rw [if_pos hc] at h; cases h; exact k _ ht ad ca H locs cells slots la hC hL (st_tl hst)) (fun hc => by rw [if_neg hc] at h; cases h; exact k _ hn ad ca H locs cells slots la hC hL (st_tl hst))
      · dsimp only at h
        intro pc' hpc' ad ca H locs cells slots la hC hL hst
        cases hpc.symm.trans hpc'
        show W p l e R s m args below meth c H locs cells slots Q (F0 m pc la (.int _ :: List.map (tv ad) _))
        refine lv_if_gt C.1 C.2.1 hd he (fun hc => by rw [if_pos hc] at h; cases h; exact k _ ht ad ca H locs cells slots la hC hL (st_tl hst)) (fun hc => by rw [if_neg hc] at h; cases h; exact k _ hn ad ca H locs cells slots la hC hL (st_tl hst))
      · dsimp only at h
        intro pc' hpc' ad ca H locs cells slots la hC hL hst
        cases hpc.symm.trans hpc'
        show W p l e R s m args below meth c H locs cells slots Q (F0 m pc la (.int _ :: List.map (tv ad) _))
        refine lv_if_le C.1 C.2.1 hd he (fun hc => by rw [if_pos hc] at h; cases h; exact k _ ht ad ca H locs cells slots la hC hL (st_tl hst)) (fun hc => by rw [if_neg hc] at h; cases h; exact k _ hn ad ca H locs cells slots la hC hL (st_tl hst))
    · cases h
  · cases hok
theorem okTs_spec {I : mI} {pc : Nat} (os ts : List Int) (h : okTs I pc os ts = true) {j : Nat} {tg : Int} (hj : nth ts j = some tg) : ∃ off, nth os j = some off ∧ ∃ tp : Nat, nth I.2.2.2.2.2.2.2.2 tg.toNat = some tp ∧ (pc : Int) + off = (tp : Int) := by
  induction os generalizing ts j with
  | nil =>
    cases ts with
    | nil => cases hj
    | cons => cases h
  | cons o os ih =>
    cases ts with
    | nil => cases h
    | cons t ts =>
      rw [okTs, Bool.and_eq_true] at h
      cases j with
      | zero => cases hj; exact ⟨o, rfl, okT_spec h.1⟩
      | succ j => exact ih ts h.2 hj
theorem ms_tsw (C : mCx p R s m args meth c D A b t L xs I d n0 s0 N1 S1) (hpc : nth I.2.2.2.2.2.2.2.2 ip = some pc) {z lo hi : Int} {offs : Array Int} (hok : okB I pc (nth I.2.2.2.2.2.2.2.2 (ip + 1)) (.tableswitch z lo hi offs) v = true) (h : mstep L xs (.tableswitch z lo hi offs) v ip ls st M = some (ip', ls', st', M')) (hb : M'.1.length ≤ N1 ∧ mSl M'.1 ≤ S1) (k : mGo p l e R s m args below meth c D A b t Z ad0 Q n0 s0 I ip' ls' st' M') : mGo p l e R s m args below meth c D A b t Z ad0 Q n0 s0 I ip ls st M := by
  unfold okB at hok
  dsimp only at hok
  split at hok
  · rename_i d' lo' hi' offs' len hd
    simp only [Bool.and_eq_true, decide_eq_true_eq] at hok
    obtain ⟨⟨⟨hlo, hhi⟩, hT⟩, hTs⟩ := hok
    subst hlo
    subst hhi
    unfold mstep at h
    dsimp only at h
    split at h
    · split at h
      · rename_i hc
        cases h
        obtain ⟨tp, ht, he⟩ := okT_spec hT
        intro pc' hpc' ad ca H locs cells slots la hC hL hst
        cases hpc.symm.trans hpc'
        exact lv_tableOut C.1 C.2.1 hd hc he (k _ ht ad ca H locs cells slots la hC hL (st_tl hst))
      · rename_i hc
        split at h
        · rename_i tg hg
          cases h
          obtain ⟨off, ho, tp, ht, he⟩ := okTs_spec _ _ hTs hg
          intro pc' hpc' ad ca H locs cells slots la hC hL hst
          cases hpc.symm.trans hpc'
          exact lv_tableIn C.1 C.2.1 hd (fun q => hc (Or.inl q)) (fun q => hc (Or.inr q)) (by rw [← Array.getElem?_toList, ← nth_get]; exact ho) he (k _ ht ad ca H locs cells slots la hC hL (st_tl hst))
        · cases h
    · cases h
  · cases hok
end SND
