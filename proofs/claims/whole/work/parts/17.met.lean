/-! the small machine's run gives the true one's: contracts of all methods at once -/
def mRm (d mc ms : Nat) : Room := { frames := d + 1, cells := mc, slots := ms, locals := (d + 1) * 60 }
def mWords (J : mI) : List Cond := Cond.code J.2.1 J.2.2.1 J.2.2.2.1 J.2.2.2.2.1 :: gTbl
def mPre (D : va_G) (b t L : Nat) (xs : Nat → Int32) (M : mM) (ad : Nat → Nat → Nat) (ca : Nat → Nat → ClassId) (sz : Nat) (U : State) : Prop :=
  U.heap.size = sz ∧ va_P D vwCl (mWs M ad ca) U.heap ∧ va_D (fun _ => True) (mWs M ad ca) ∧
  (∀ r ∈ M.1, ∀ (ty : FieldType) (n : Nat), nth mKs r.1 = some (.inr (ty, n)) → ArrOfT U (ca r.1 r.2) ty ∧ va_RA U (ca r.1 r.2) ty) ∧
  (∀ r ∈ M.1, ∀ j : Nat, rOK M (.inr (.inr (M.2.1 r.1 r.2 j)))) ∧ (∀ r ∈ M.1, r.1 < 52) ∧ ad 100 0 = b ∧ ad 101 0 = t ∧
  (∀ (c : Nat) (q : vw_C), vwCl[c]? = some q → u_Kn U q.1 q.2.1 q.2.2 (D.1 c) (D.2 c)) ∧ (va_X b L xs U U.heap ∧ b < sz ∧ ¬ va_A (mWs M ad ca) sz b) ∧
  va_Z "AnnCups" "LETTERS" "[C" (.ref t) (va_A (mWs M ad ca) sz) U U.heap ∧ va_T .char t 6 (fun j => .int (lett j)) (va_A (mWs M ad ca) sz) U U.heap ∧ mX U
theorem mPre.move {D : va_G} {b t L : Nat} {xs : Nat → Int32} {M : mM} {ad : Nat → Nat → Nat} {ca : Nat → Nat → ClassId} {sz : Nat} {U V : State} (h : mPre D b t L xs M ad ca sz U) (hh : V.heap = U.heap) (hv : U.vm.Alike V.vm) (hx : mX V) : mPre D b t L xs M ad ca sz V := by
  obtain ⟨h1, h2, h3, h4, h5, h6, h7, h8, h9, h10, h11, h12, h13⟩ := h
  refine ⟨by rw [hh]; exact h1, by rw [hh]; exact h2, h3, fun r hr ty n hk => ⟨arrOfT_moved hv (h4 r hr ty n hk).1, (h4 r hr ty n hk).2.moved hv⟩, h5, h6, h7, h8, fun c q hq => u_Kn_moved hv (h9 c q hq), ⟨by rw [hh]; exact h10.1.moved hv, h10.2⟩, by rw [hh]; exact h11.moved hv, by rw [hh]; exact h12.moved hv, hx⟩
def mPost (D : va_G) (b t : Nat) (M : mM) (ad : Nat → Nat → Nat) (ca : Nat → Nat → ClassId) (sz : Nat) (r : Option mV) (M' : mM) : Array Value → State → Outcome → State → Prop := fun _ st oc T =>
  ∃ (ad' : Nat → Nat → Nat) (ca' : Nat → Nat → ClassId), (∀ q ∈ M.1, ad' q.1 q.2 = ad q.1 q.2) ∧ ad' 100 0 = b ∧ ad' 101 0 = t ∧ oc = .returned (r.map (tv ad')) ∧ va_P D vwCl (mWs M' ad' ca') T.heap ∧ va_D (va_A (mWs M ad ca) sz) (mWs M' ad' ca') ∧
  (∀ r ∈ M'.1, ∀ (ty : FieldType) (n : Nat), nth mKs r.1 = some (.inr (ty, n)) → ArrOfT T (ca' r.1 r.2) ty ∧ va_RA T (ca' r.1 r.2) ty) ∧
  (∀ r ∈ M'.1, ∀ j : Nat, rOK M' (.inr (.inr (M'.2.1 r.1 r.2 j)))) ∧ (∀ r ∈ M'.1, r.1 < 52) ∧ (∀ v, r = some v → rOK M' v) ∧ va_F (va_A (mWs M ad ca) sz) st T
theorem tv_agree {M : mM} {ad ad' : Nat → Nat → Nat} {v : mV} (h : rOK M v) (h1 : ∀ q ∈ M.1, ad' q.1 q.2 = ad q.1 q.2) (h2 : ad' 100 0 = ad 100 0) (h3 : ad' 101 0 = ad 101 0) : tv ad' v = tv ad v := by
  rcases v with x | x | r
  · rfl
  · rfl
  · cases r with
    | none => rfl
    | some r =>
      show Value.ref (ad' r.1 r.2) = Value.ref (ad r.1 r.2)
      rcases h with h | h | h
      · rw [h1 r h]
      · rw [h]; exact congrArg _ h2
      · rw [h]; exact congrArg _ h3
theorem lvA_agree {M : mM} {ad ad' : Nat → Nat → Nat} {ls : List (Option mV)} (h : ∀ v, some v ∈ ls → rOK M v) (h1 : ∀ q ∈ M.1, ad' q.1 q.2 = ad q.1 q.2) (h2 : ad' 100 0 = ad 100 0) (h3 : ad' 101 0 = ad 101 0) (n : Nat) : lvA ad' n ls = lvA ad n ls := by
  induction ls generalizing n with
  | nil => rfl
  | cons a l ih =>
    cases a with
    | none => exact ih (fun v hv => h v (List.mem_cons_of_mem _ hv)) (n + 1)
    | some w =>
      unfold lvA
      rw [ih (fun v hv => h v (List.mem_cons_of_mem _ hv)) (n + 1), tv_agree (h w List.mem_cons_self) h1 h2 h3]
/-- what the induction shows for runs of n steps -/
def SG (L : Nat) (xs : Nat → Int32) (n : Nat) : Prop := ∀ (d : Nat) (I : mI) (ip : Nat) (ls : List (Option mV)) (st : List mV) (M : mM) (r : Option mV) (M' : mM), mrun L xs n d I ip ls st M = some (r, M') →
  ∀ (p : Program) (l : Launch) (e : Env) (R : Room) (s : State) (m : MethodId) (args : Array Value) (below : List Frame) (meth : Method) (c : Code) (D : va_G) (A : Nat → Prop) (b t : Nat) (Z : List (Nat × Nat)) (ad0 : Nat → Nat → Nat) (Q : State → Prop) (n0 s0 N1 S1 : Nat),
    mCx p R s m args meth c D A b t L xs I d n0 s0 N1 S1 → M'.1.length ≤ N1 ∧ mSl M'.1 ≤ S1 →
    (∀ (i : Instr) (v : Value) (ipR pcR : Nat) (lsR : List (Option mV)) (stR : List mV), nth I.2.2.2.2.2.2.2.1 ipR = some (i, v) → mRet I.2.2.2.2.1 i stR = some r → nth I.2.2.2.2.2.2.2.2 ipR = some pcR → okD I pcR i 1 = true → ∀ ad ca H locs cells slots la, mCe s D A b t Z ad0 M' ad ca H locs → mLo n0 s0 I.2.2.2.1 lsR M' ad cells slots la → (∀ v ∈ stR, rOK M' v) →
      W p l e R s m args below meth c H locs cells slots Q (F0 m pcR la (stR.map (tv ad)))) →
    mGo p l e R s m args below meth c D A b t Z ad0 Q n0 s0 I ip ls st M
theorem okH_spec {J : mI} (h : okM J = true) : J.2.1.cls = ownN J.1 ∧ J.1 < 12 ∧ plainName J.2.1.cls = true ∧ (J.2.1.cls ≠ "java/lang/invoke/MethodHandle" ∧ J.2.1.cls ≠ "java/lang/invoke/VarHandle" ∧ (parseMethodDescriptor J.2.1.desc).map (fun d => d.parameters.length) = some (if J.2.2.2.2.2.2.1 = true then J.2.2.2.2.2.1 else J.2.2.2.2.2.1 - 1)) ∧ (J.2.2.2.2.2.2.1 = true ∨ 0 < J.2.2.2.2.2.1) ∧ J.2.2.2.1 ≤ 40 ∧ nth J.2.2.2.2.2.2.2.2 0 = some 0 := by
  unfold okM okH at h
  simp only [Bool.and_eq_true, decide_eq_true_eq] at h
  obtain ⟨⟨⟨⟨⟨⟨⟨⟨⟨h1, h2⟩, h3⟩, h4⟩, h5⟩, h6⟩, h7⟩, h8⟩, h9⟩, -⟩ := h
  exact ⟨h1, h2, h3, ⟨h4, h5, h6⟩, h7, h8, h9⟩
theorem ok_at {I : mI} (h : okM I = true) {ip : Nat} {o : mO} (ho : nth I.2.2.2.2.2.2.2.1 ip = some o) : ∃ pc, nth I.2.2.2.2.2.2.2.2 ip = some pc ∧ okB I pc (nth I.2.2.2.2.2.2.2.2 (ip + 1)) o.1 o.2 = true := by
  unfold okM at h
  rw [Bool.and_eq_true] at h
  exact okL_at _ _ h.2 ip o ho
set_option maxHeartbeats 4000000 in
/-- a method's contract out of its run -/
theorem met_of {L : Nat} {xs : Nat → Int32} {n : Nat} (hS : SG L xs n) {J : mI} (hJ : okM J = true) {d : Nat} {as : List mV} {M M' : mM} {r : Option mV} (hrun : mrun L xs n d J 0 (mPad J.2.2.2.1 (mEnt as)) [] M = some (r, M')) (hlen : (mEnt as).length ≤ J.2.2.2.1) (has : ∀ v ∈ as, rOK M v) (l : Launch) (D : va_G) (b t : Nat) (ad : Nat → Nat → Nat) (ca : Nat → Nat → ClassId) (sz : Nat) :
    Met l J.2.1 (mWords J) (mRm d (M'.1.length - M.1.length) (mSl M'.1 - mSl M.1)) (va_Pc (as.map (tv ad)) (mPre D b t L xs M ad ca sz)) (mPost D b t M ad ca sz r M') (M'.1.length - M.1.length) (mSl M'.1 - mSl M.1) (va_A (mWs M ad ca) sz) := by
  obtain ⟨hcls, h12, hpl, -, -, h40, hpc0⟩ := okH_spec hJ
  refine Met.ofW (cc := J.2.2.1) (maxL := J.2.2.2.1) (ret := J.2.2.2.2.1) hpl rfl ?_
  intro p e s m args below meth c s₁ B hml hv
  obtain ⟨rfl, hpre⟩ := hv
  obtain ⟨h1, h2, h3, h4, h5, h6, h7, h8, h9, h10, h11, h12', h13⟩ := hpre
  subst h1
  have hts : ∀ w ∈ gTbl, w.before (as.map (tv ad)).toArray s = true := fun w hw => atoms_spec (ws := mWords J) B.pre w (List.mem_cons_of_mem _ hw)
  have hown : s.vm.findClass (ownN J.1) = some m.cls := by
    rw [← hcls]
    exact findClass_of_methodNamed B.named
  have hlocks : meth.locks = false := B.notSynchronized
  have hC : mCx p (headSpec (mWords J) (mRm d (M'.1.length - M.1.length) (mSl M'.1 - mSl M.1))).room s m (as.map (tv ad)).toArray meth c D (va_A (mWs M ad ca) s.heap.size) b t L xs J d M.1.length (mSl M.1) M'.1.length (mSl M'.1) :=
    ⟨B.exec, B.bytes, hml, hown, hts, h9, fun q hq => Or.inr hq, h10, h11, h12', h13, fun hn => by rw [(name_of_methodNamed B.named B.method).1]; exact hn, Nat.le_refl _, Nat.le_refl _, hJ, (by show M'.1.length ≤ M.1.length + (M'.1.length - M.1.length); omega), (by show mSl M'.1 ≤ mSl M.1 + (mSl M'.1 - mSl M.1); omega)⟩
  have hD := h3.self (sz := s.heap.size)
  have hent := lv_entry (as.map (tv ad)) (n := J.2.2.2.1) (by rw [lg_len]; exact hlen)
  rw [← lvA_entry ad as J.2.2.2.1 0 hlen] at hent
  rw [lg_entry_eq]
  have hm := mono_le (mrun_mono n _ _ _ _ _ _ _ _ hrun)
  have hgo := hS d J 0 _ [] M r M' hrun p l e _ s m _ below meth c D _ b t M.1 ad (MQ below (mPost D b t M ad ca s.heap.size r M') (as.map (tv ad)).toArray s (M'.1.length - M.1.length) (mSl M'.1 - mSl M.1) (va_A (mWs M ad ca) s.heap.size)) _ _ _ _ hC ⟨Nat.le_refl _, Nat.le_refl _⟩ ?_
  · exact hgo 0 hpc0 ad ca s.heap [] 0 0 _ ⟨h2, hD, va_S.rf, h4, h5, h6, h7, h8, fun q hq => ⟨hq, rfl⟩⟩ ⟨hent, mPad_len _ _ hlen, fun v hv => has v (mEnt_mem (mPad_mem hv)), Nat.zero_add _, Nat.zero_add _⟩ (fun v hv => nomatch hv)
  · intro i v ipR pcR lsR stR hcode hret hpcR hok ad' ca' H locs cells slots la hCe hLo hst
    have hd := okD_spec hok
    have hc1 : cells = M'.1.length - M.1.length := by have := hLo.2.2.2.1; omega
    have hc2 : slots = mSl M'.1 - mSl M.1 := by have := hLo.2.2.2.2; omega
    subst hc1
    subst hc2
    have post : ∀ (z : Option Value), z = r.map (tv ad') → (∀ v, r = some v → rOK M' v) → ∀ T : State, T.heap = H → s.WarmedH T.vm → mPost D b t M ad ca s.heap.size r M' (as.map (tv ad)).toArray s (.returned z) T := by
      intro z hz hro T hT hW
      exact ⟨ad', ca', fun q hq => (hCe.2.2.2.2.2.2.2.2 q hq).2, hCe.2.2.2.2.2.2.1, hCe.2.2.2.2.2.2.2.1, by rw [hz], by rw [hT]; exact hCe.1, hCe.2.1, fun r hr ty n hk => ⟨arrOfT_moved hW.alike (hCe.2.2.2.1 r hr ty n hk).1, (hCe.2.2.2.1 r hr ty n hk).2.moved hW.alike⟩, hCe.2.2.2.2.1, hCe.2.2.2.2.2.1, hro, hCe.2.2.1.F hT⟩
    have hr := B.returns
    unfold mRet at hret
    split at hret
    · split at hret
      · rename_i x
        split at hret
        · rename_i hrt
          cases hret
          rw [hrt] at hr
          exact W.iret B.exec B.bytes hr (post _ rfl (fun v hv => by cases hv; trivial)) hCe.2.2.1.2.2 hd
        · rename_i hrt
          split at hret
          · rename_i h01
            cases hret
            rw [hrt] at hr
            exact W.zret B.exec B.bytes hr (by rcases h01 with h01 | h01 <;> rw [h01] <;> rfl) (post _ rfl (fun v hv => by cases hv; trivial)) hCe.2.2.1.2.2 hd
          · cases hret
        · cases hret
      · cases hret
    · split at hret
      · split at hret
        · rename_i hrt
          cases hret
          rw [hrt] at hr
          exact W.lret B.exec B.bytes hr (post _ rfl (fun v hv => by cases hv; trivial)) hCe.2.2.1.2.2 hd
        · cases hret
      · cases hret
    · split at hret
      · rename_i zr
        split at hret
        · rename_i hrt
          cases hret
          rw [hrt] at hr
          exact W.aret (v := tv ad' (.inr (.inr zr))) B.exec B.bytes hr (Or.inl ⟨_, rfl⟩) (by cases zr with
            | none => exact Or.inl rfl
            | some q => exact Or.inr ⟨_, rfl⟩) (post _ rfl (fun v hv => by cases hv; exact st_hd hst)) hCe.2.2.1.2.2 hd
        · cases hret
      · cases hret
    · split at hret
      · split at hret
        · rename_i hrt
          cases hret
          rw [hrt] at hr
          exact W.vret B.exec B.bytes hr (post _ rfl (fun v hv => by cases hv)) hCe.2.2.1.2.2 hd
        · cases hret
      · cases hret
    · cases hret
