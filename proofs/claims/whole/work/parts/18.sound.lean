theorem ret_ok {rt : Option FieldType} {i : Instr} {st : List mV} {r : Option mV} {I : mI} {pc : Nat} {nx : Option Nat} {v : Value} (h : mRet rt i st = some r) (hok : okB I pc nx i v = true) : okD I pc i 1 = true := by
  unfold mRet at h
  split at h
  · exact hok
  · exact hok
  · exact hok
  · exact hok
  · cases h
def vMB (t : Nat) : Bool := match mG t with
  | some J => decide (J.1 < 8)
  | none => true
theorem vMB_ok : ∀ t ∈ tVM, vMB t = true := by decide +kernel
theorem vM_lt (t : Nat) (ht : t ∈ tVM) (J : mI) (hG : mG t = some J) (k : Nat) (hk : k = J.1) : k < 8 := by
  have h := vMB_ok t ht
  unfold vMB at h
  rw [hG] at h
  rw [hk]
  exact of_decide_eq_true h
def ivB (t : Nat) : Bool := match mG t with
  | some J => !decide (J.2.1.name = "<init>") || decide (J.2.2.2.2.1 = none)
  | none => true
theorem ivB_ok : ∀ t, t < 240 → ivB t = true := by decide +kernel
theorem row_len : ∀ r ∈ mTab, r.length ≤ 16 := by
  intro r hr
  unfold mTab at hr
  simp only [List.mem_cons, List.not_mem_nil, or_false] at hr
  rcases hr with rfl | rfl | rfl | rfl | rfl | rfl | rfl | rfl | rfl | rfl | rfl | rfl | rfl | rfl | rfl
  all_goals decide
theorem mG_lt {t : Nat} {J : mI} (h : mG t = some J) : t < 240 := by
  unfold mG at h
  split at h
  · rename_i r hr
    have h1 := nth_lt hr
    have h2 : mTab.length = 15 := rfl
    have h3 := nth_lt h
    have h4 : r.length ≤ 16 := row_len r (nth_mem hr)
    omega
  · cases h
theorem init_void (t : Nat) (J : mI) (hG : mG t = some J) (hn : J.2.1.name = "<init>") : J.2.2.2.2.1 = none := by
  have h := ivB_ok t (mG_lt hG)
  unfold ivB at h
  rw [hG] at h
  dsimp only at h
  rw [hn] at h
  simpa using h
theorem m_call {p : Program} {l : Launch} {e : Env} {R : Room} {s : State} {m : MethodId} {args : Array Value} {below : List Frame} {meth : Method} {c : Code} {H : Heap} {locs : List Loc} {cells slots mc ms pc : Nat} {la : Array Slot} {st0 rest : List Value} {Q : State → Prop} {Qa : State → Outcome → State → Prop} {free : Addr → Prop}
    (hr : va_Run p l e R s m args below meth c H locs cells slots mc ms (F0 m pc la st0) rest Qa free)
    (kk : ∀ (v : Option Value) (s0 t : State) (K : List Loc) (H1 : Heap), s0.heap = H → s.vm.Alike t.vm → t.heap = H1 → Qa s0 (.returned v) t → (∀ q ∈ K, free q.base) → W p l e R s m args below meth c H1 (locs ++ K) (cells + mc) (slots + ms) Q (F0 m (pc + 3) la (v.toList ++ rest))) : W p l e R s m args below meth c H locs cells slots Q (F0 m pc la st0) := by
  intro T hT X
  obtain ⟨v, s0, t, T', K, h0, X', hL, e1, e2, hq, st⟩ := hr T hT X
  obtain ⟨t2, a1, b1⟩ := kk v s0 t K T'.heap h0 (by rw [← e2]; exact X'.warmed.alike) e1.symm hq hL T' rfl X'
  exact ⟨t2, st t2 a1, b1⟩
theorem tMT_lt : ∀ q ∈ tMT, q.2.2 < 230 := by decide +kernel
theorem tNT_lt : ∀ q ∈ tNT, q.2.2 < 230 := by decide +kernel
theorem mYn_of {t : Nat} {J : mI} (h : mG t = some J) : mYn t = J.2.1 := by unfold mYn; rw [h]
theorem wCD_of {t : Nat} {J : mI} (h : mG t = some J) (ht : t < 230) : Cond.code J.2.1 J.2.2.1 J.2.2.2.1 J.2.2.2.2.1 ∈ gTbl := by
  have h1 := tCD_in (wCD t) (List.mem_map.mpr ⟨t, List.mem_range.mpr ht, rfl⟩)
  unfold wCD at h1
  rw [h] at h1
  exact h1
theorem wSI_of {t : Nat} {J : mI} (h : mG t = some J) (ht : t < 230) : (if J.2.2.2.2.2.2.1 = true then Cond.static J.2.1 else Cond.instanceMethod J.2.1) ∈ gTbl := by
  have h1 := tSI_in (wSI t) (List.mem_map.mpr ⟨t, List.mem_range.mpr ht, rfl⟩)
  unfold wSI at h1
  rw [h] at h1
  exact h1
theorem wII_of {J : mI} (h : okM J = true) : Cond.initialized J.2.1.cls ∈ gTbl := by
  obtain ⟨h1, h2, -⟩ := okH_spec h
  rw [h1]
  exact tII_in _ (List.mem_map.mpr ⟨J.1, List.mem_range.mpr h2, rfl⟩)
theorem wGI_of {t : Nat} {J : mI} (h : mG t = some J) (ht : t < 230) : GoodIn gTbl (mWords J) := by
  intro w hw
  unfold mWords at hw
  rcases List.mem_cons.mp hw with e | hw
  · rw [e]
    exact gTbl_good _ (wCD_of h ht)
  · exact gTbl_good w hw
section SNC
variable {p : Program} {l : Launch} {e : Env} {R : Room} {s : State} {m : MethodId} {args : Array Value} {below : List Frame} {meth : Method} {c : Code} {D : va_G} {A : Nat → Prop} {b t L : Nat} {Z : List (Nat × Nat)} {ad0 : Nat → Nat → Nat} {xs : Nat → Int32} {I : mI} {d n0 s0 N1 S1 : Nat} {Q : State → Prop} {ip pc ip' : Nat} {ls ls' : List (Option mV)} {st st' : List mV} {M M' : mM} {v : Value}
/-- the start that a callee wants, at the caller's state -/
theorem pre_of (C : mCx p R s m args meth c D A b t L xs I d n0 s0 N1 S1) {ad : Nat → Nat → Nat} {ca : Nat → Nat → ClassId} {H : Heap} {locs : List Loc} (hC : mCe s D A b t Z ad0 M ad ca H locs) : ∀ U : State, U.heap = H → s.WarmedH U.vm → mPre D b t L xs M ad ca H.size U := by
  intro U hU hW
  have hsub : ∀ q, va_A (mWs M ad ca) H.size q → A q := by
    rintro q (⟨j, w, hj⟩ | hq)
    · exact hC.2.1.2 j (q, w) hj
    · exact C.2.2.2.2.2.2.1 q (Nat.le_trans hC.2.2.1.1 hq)
  have hkeep : ∀ a : Nat, a < s.heap.size → ¬ A a → H[a]? = s.heap[a]? := fun a h1 h2 => hC.2.2.1.2.1 a h1 h2
  obtain ⟨hX1, hX2, hX3⟩ := C.2.2.2.2.2.2.2.1
  refine ⟨by rw [hU], by rw [hU]; exact hC.1, hC.2.1.weaken (fun _ _ _ _ => trivial), fun r hr ty n hk => ⟨arrOfT_moved hW.alike (hC.2.2.2.1 r hr ty n hk).1, (hC.2.2.2.1 r hr ty n hk).2.moved hW.alike⟩, hC.2.2.2.2.1, hC.2.2.2.2.2.1, hC.2.2.2.2.2.2.1, hC.2.2.2.2.2.2.2.1, fun c q hq => u_Kn_moved hW.alike (C.2.2.2.2.2.1 c q hq), ⟨by rw [hU]; exact (hX1.kept (hkeep b hX2 hX3)).moved hW.alike, Nat.lt_of_lt_of_le hX2 hC.2.2.1.1, fun z => hX3 (hsub b z)⟩, ?_, ?_, C.2.2.2.2.2.2.2.2.2.2.1.warm hW⟩
  · rw [hU]
    exact ((C.2.2.2.2.2.2.2.2.1.kept hkeep).narrow hsub).moved hW.alike
  · rw [hU]
    exact ((C.2.2.2.2.2.2.2.2.2.1.kept hkeep).narrow hsub).moved hW.alike
theorem pre_blind {D : va_G} {b t L : Nat} {xs : Nat → Int32} {M : mM} {ad : Nat → Nat → Nat} {ca : Nat → Nat → ClassId} {sz : Nat} {as : List Value} : FrameBlind (va_Pc as (mPre D b t L xs M ad ca sz)) := fun a U g mk q => ⟨q.1, q.2.move rfl (Vm.Alike.refl U.vm) (q.2.2.2.2.2.2.2.2.2.2.2.2.2.same rfl)⟩
/-- behind a call -/
theorem call_on (C : mCx p R s m args meth c D A b t L xs I d n0 s0 N1 S1) (hn : nth I.2.2.2.2.2.2.2.2 (ip + 1) = some (pc + 3)) {rest : List mV} {r1 : Option mV} {M1 : mM} (hmo : ∃ x, M1.1 = M.1 ++ x) (k : mGo p l e R s m args below meth c D A b t Z ad0 Q n0 s0 I (ip + 1) ls (r1.toList ++ rest) M1)
    {ad : Nat → Nat → Nat} {ca : Nat → Nat → ClassId} {H : Heap} {locs : List Loc} {cells slots : Nat} {la : Array Slot} (hC : mCe s D A b t Z ad0 M ad ca H locs) (hL : mLo n0 s0 I.2.2.2.1 ls M ad cells slots la) (hrest : ∀ v ∈ rest, rOK M v) {a0 : Array Value} {st0 : List Value}
    (hr : va_Run p l e R s m args below meth c H locs cells slots (M1.1.length - M.1.length) (mSl M1.1 - mSl M.1) (F0 m pc la st0) (rest.map (tv ad)) (mPost D b t M ad ca H.size r1 M1 a0) (va_A (mWs M ad ca) H.size)) : W p l e R s m args below meth c H locs cells slots Q (F0 m pc la st0) := by
  have hsub : ∀ q, va_A (mWs M ad ca) H.size q → A q := by
    rintro q (⟨j, w, hj⟩ | hq)
    · exact hC.2.1.2 j (q, w) hj
    · exact C.2.2.2.2.2.2.1 q (Nat.le_trans hC.2.2.1.1 hq)
  refine m_call hr (fun v q0 T K H1 h0 hvm hT hq hK => ?_)
  obtain ⟨ad', ca', e1, e2, e3, e4, e5, e6, e7, e8, e9, e10, e11⟩ := hq
  have f2 : ad' 100 0 = ad 100 0 := by rw [e2]; exact hC.2.2.2.2.2.2.1.symm
  have f3 : ad' 101 0 = ad 101 0 := by rw [e3]; exact hC.2.2.2.2.2.2.2.1.symm
  have hle := mono_le hmo
  have hg := k _ hn ad' ca' H1 (locs ++ K) (cells + (M1.1.length - M.1.length)) (slots + (mSl M1.1 - mSl M.1)) la
    ⟨by rw [← hT]; exact e5, e6.weaken (fun j q hj hq => hsub q.1 hq), ⟨?_, ?_, ?_⟩, fun r hr ty n hk => ⟨arrOfT_moved hvm.symm (e7 r hr ty n hk).1, (e7 r hr ty n hk).2.moved hvm.symm⟩, e8, e9, e2, e3, ?_⟩
    ⟨by rw [lvA_agree hL.2.2.1 e1 f2 f3]; exact hL.1, hL.2.1, fun w hw => mono_ok hmo w (hL.2.2.1 w hw), (by have := hL.2.2.2.1; omega), (by have := hL.2.2.2.2; omega)⟩ ?_
  · have e12 : v = r1.map (tv ad') := by cases e4; rfl
    rw [e12]
    rw [List.map_append, List.map_congr_left (fun w hw => tv_agree (hrest w hw) e1 f2 f3)] at hg
    cases r1 with
    | none => exact hg
    | some w => exact hg
  · rw [← hT]
    exact Nat.le_trans hC.2.2.1.1 (by rw [← h0]; exact e11.1)
  · intro q hq hA
    rw [← hT, e11.2 q (by rw [h0]; exact Nat.lt_of_lt_of_le hq hC.2.2.1.1) (fun z => hA (hsub q z)), h0]
    exact hC.2.2.1.2.1 q hq hA
  · intro q hq
    rcases List.mem_append.mp hq with hq | hq
    · exact hC.2.2.1.2.2 q hq
    · exact hsub _ (hK q hq)
  · intro q hq
    obtain ⟨z1, z2⟩ := hC.2.2.2.2.2.2.2.2 q hq
    obtain ⟨x, hx⟩ := hmo
    exact ⟨by rw [hx]; exact List.mem_append_left _ z1, by rw [e1 q z1]; exact z2⟩
  · intro w hw
    rcases List.mem_append.mp hw with hw | hw
    · exact e10 w (by cases r1 with
        | none => cases hw
        | some y => rw [List.mem_singleton.mp hw])
    · exact mono_ok hmo w (hrest w hw)
theorem take_drop_map {st : List mV} {na : Nat} {ad : Nat → Nat → Nat} : st.map (tv ad) = (((st.take na).reverse).map (tv ad)).reverse ++ (st.drop na).map (tv ad) := by
  rw [← List.map_reverse, List.reverse_reverse, ← List.map_append, List.take_append_drop]
set_option maxHeartbeats 4000000 in
theorem call_go (C : mCx p R s m args meth c D A b t L xs I (d + 1) n0 s0 N1 S1) (hpc : nth I.2.2.2.2.2.2.2.2 ip = some pc) {i : Instr} (hok : okB I pc (nth I.2.2.2.2.2.2.2.2 (ip + 1)) i v = true) {J : mI} {as rest : List mV} (hcall : mCall i st = some (J, as, rest)) {r1 : Option mV} {M1 : mM} (hmo : ∃ x, M1.1 = M.1 ++ x) (hb : M1.1.length ≤ N1 ∧ mSl M1.1 ≤ S1)
    (hM : (∀ v ∈ as, rOK M v) → okM J = true → ∀ (ad : Nat → Nat → Nat) (ca : Nat → Nat → ClassId) (sz : Nat), Met l J.2.1 (mWords J) (mRm d (M1.1.length - M.1.length) (mSl M1.1 - mSl M.1)) (va_Pc (as.map (tv ad)) (mPre D b t L xs M ad ca sz)) (mPost D b t M ad ca sz r1 M1) (M1.1.length - M.1.length) (mSl M1.1 - mSl M.1) (va_A (mWs M ad ca) sz))
    (k : mGo p l e R s m args below meth c D A b t Z ad0 Q n0 s0 I (ip + 1) ls (r1.toList ++ rest) M1) : mGo p l e R s m args below meth c D A b t Z ad0 Q n0 s0 I ip ls st M := by
  have hf := C.2.2.2.2.2.2.2.2.2.2.2.2.1
  have hlo := C.2.2.2.2.2.2.2.2.2.2.2.2.2.1
  have hr1 := C.2.2.2.2.2.2.2.2.2.2.2.2.2.2.2.1
  have hr2 := C.2.2.2.2.2.2.2.2.2.2.2.2.2.2.2.2
  have hle := mono_le hmo
  have hroom : ∀ {J : mI}, J.2.2.2.1 ≤ 40 → (mRm d (M1.1.length - M.1.length) (mSl M1.1 - mSl M.1)).frames + 1 ≤ R.frames ∧ 8 + (J.2.2.2.1 + 11) + (mRm d (M1.1.length - M.1.length) (mSl M1.1 - mSl M.1)).locals ≤ R.locals := by
    intro J h40
    refine ⟨hf, ?_⟩
    show 8 + (J.2.2.2.1 + 11) + (d + 1) * 60 ≤ R.locals
    omega
  have hfit : ∀ {ls : List (Option mV)} {ad : Nat → Nat → Nat} {cells slots : Nat} {la : Array Slot}, mLo n0 s0 I.2.2.2.1 ls M ad cells slots la → cells + (M1.1.length - M.1.length) ≤ R.cells ∧ slots + (mSl M1.1 - mSl M.1) ≤ R.slots := by
    intro ls ad cells slots la hL
    have h1 := hL.2.2.2.1
    have h2 := hL.2.2.2.2
    exact ⟨by omega, by omega⟩
  unfold mCall at hcall
  split at hcall
  · rename_i tn
    split at hcall
    · rename_i J' hG
      split at hcall
      · rename_i hcc
        obtain ⟨hst1, hna, hcat⟩ := hcc
        cases hcall
        have hJ := ok_all hG
        obtain ⟨hcls, h12, hpl, hdd, hpos, h40, hpc0⟩ := okH_spec hJ
        rw [if_pos hst1] at hdd
        intro pc' hpc' ad ca H locs cells slots la hC hL hst
        cases hpc.symm.trans hpc'
        have has : ∀ w ∈ (st.take J.2.2.2.2.2.1).reverse, rOK M w := fun w hw => hst w (List.mem_of_mem_take (List.mem_reverse.mp hw))
        have hrs : ∀ w ∈ st.drop J.2.2.2.2.2.1, rOK M w := fun w hw => hst w (List.mem_of_mem_drop hw)
        have hlen : ((st.take J.2.2.2.2.2.1).reverse.map (tv ad)).length = J.2.2.2.2.2.1 := by
          rw [List.length_map, List.length_reverse, List.length_take]
          omega
        have hrm : 2 * (F0 m pc la (st.map (tv ad))).monitorRoom + (((st.drop J.2.2.2.2.2.1).map (tv ad)).map fun v => v.category).sum ≤ 8 := lv_room (by rw [mSum]; exact hcat)
        have hk : (tMT.any (fun q => decide (q.1 = I.1) && decide (q.2.2 = tn) && okS I pc (nth I.2.2.2.2.2.2.2.2 (ip + 1)) (.invokestatic q.2.1) 3) || tNT.any (fun q => decide (q.1 = I.1) && decide (q.2.2 = tn) && okS I pc (nth I.2.2.2.2.2.2.2.2 (ip + 1)) (.invokestatic q.2.1) 3)) = true := hok
        simp only [Bool.or_eq_true, List.any_eq_true, Bool.and_eq_true, decide_eq_true_eq] at hk
        rcases hk with ⟨q, hq, ⟨hq1, hq2⟩, hk⟩ | ⟨q, hq, ⟨hq1, hq2⟩, hk⟩
        · obtain ⟨hd, hn⟩ := okS_spec hk
          have htl := tMT_lt q hq
          rw [hq2] at htl
          have hsi := C.2.2.2.2.1 _ (wSI_of hG htl)
          rw [if_pos hst1] at hsi
          have hw : (wMT q).before args s = true := C.2.2.2.2.1 _ (tMT_in _ (List.mem_map.mpr ⟨q, hq, rfl⟩))
          unfold wMT at hw
          rw [hq1, hq2, mYn_of hG] at hw
          refine call_on C hn hmo k hC hL hrs (va_runS (Ts := gTbl) (n := J.2.2.2.2.2.1) (As := (st.take J.2.2.2.2.2.1).reverse.map (tv ad)) ⟨C.1, C.2.1, C.2.2.1, C.2.2.2.1, C.2.2.2.2.1⟩ (hM has hJ ad ca H.size) ⟨callB_of _ C.2.2.2.2.1 (wGI_of hG htl) rfl rfl rfl (C.2.2.2.2.1 _ (wII_of hJ)) hw hdd (hroom h40), hsi⟩ ⟨pre_blind, fun U hU hW => ⟨rfl, pre_of C hC U hU hW⟩⟩ rfl hlen hL.1.1 take_drop_map hrm hd (hfit hL))
        · obtain ⟨hd, hn⟩ := okS_spec hk
          have htl := tNT_lt q hq
          rw [hq2] at htl
          have hsi := C.2.2.2.2.1 _ (wSI_of hG htl)
          rw [if_pos hst1] at hsi
          have hw : va_Nw (wNT q) s := C.2.2.2.2.2.2.2.2.2.2.1.1 q hq
          unfold wNT at hw
          rw [hq1, hq2, mYn_of hG] at hw
          refine call_on C hn hmo k hC hL hrs (va_runSN (Ts := gTbl) (n := J.2.2.2.2.2.1) (As := (st.take J.2.2.2.2.2.1).reverse.map (tv ad)) ⟨C.1, C.2.1, C.2.2.1, C.2.2.2.1, C.2.2.2.2.1⟩ (hM has hJ ad ca H.size) ⟨va_cnB _ C.2.2.2.2.1 (wGI_of hG htl) rfl rfl rfl hw (C.2.2.2.2.1 _ (wII_of hJ)) hdd (hroom h40), hsi, trivial⟩ ⟨pre_blind, fun U hU hW => ⟨rfl, pre_of C hC U hU hW⟩⟩ rfl hlen hL.1.1 take_drop_map hrm hd (hfit hL))
      · cases hcall
    · cases hcall
  · rename_i tn
    split at hcall
    · rename_i J' hG
      split at hcall
      · rename_i hcc
        obtain ⟨hst1, hna, hcat⟩ := hcc
        split at hcall
        · rename_i zk zi zas htk
          split at hcall
          · rename_i hkc
            cases hcall
            have hJ := ok_all hG
            obtain ⟨hcls, h12, hpl, hdd, hpos, h40, hpc0⟩ := okH_spec hJ
            rw [if_neg (by rw [hst1]; decide)] at hdd
            intro pc' hpc' ad ca H locs cells slots la hC hL hst
            cases hpc.symm.trans hpc'
            have has : ∀ w ∈ (.inr (.inr (some (zk, zi))) :: zas : List mV), rOK M w := fun w hw => by
              rw [← htk] at hw
              exact hst w (List.mem_of_mem_take (List.mem_reverse.mp hw))
            have hrs : ∀ w ∈ st.drop J.2.2.2.2.2.1, rOK M w := fun w hw => hst w (List.mem_of_mem_drop hw)
            have hlen0 : (.inr (.inr (some (zk, zi))) :: zas : List mV).length = J.2.2.2.2.2.1 := by
              rw [← htk, List.length_reverse, List.length_take]
              omega
            have hlen : (zas.map (tv ad)).length = J.2.2.2.2.2.1 - 1 := by
              rw [List.length_map]
              rw [List.length_cons] at hlen0
              omega
            have hstk : st.map (tv ad) = (zas.map (tv ad)).reverse ++ .ref (ad zk zi) :: (st.drop J.2.2.2.2.2.1).map (tv ad) := by
              have h1 := take_drop_map (st := st) (na := J.2.2.2.2.2.1) (ad := ad)
              rw [htk] at h1
              rw [h1, List.map_cons, List.reverse_cons, List.append_assoc]
              rfl
            have hrm : 2 * (F0 m pc la (st.map (tv ad))).monitorRoom + (((st.drop J.2.2.2.2.2.1).map (tv ad)).map fun v => v.category).sum ≤ 8 := lv_room (by rw [mSum]; exact hcat)
            have hk : (decide (tn ∈ tVM) && tMT.any (fun q => decide (q.1 = I.1) && decide (q.2.2 = tn) && okS I pc (nth I.2.2.2.2.2.2.2.2 (ip + 1)) (.invokevirtual q.2.1) 3)) = true := hok
            simp only [List.any_eq_true, Bool.and_eq_true, decide_eq_true_eq] at hk
            obtain ⟨hvm, q, hq, ⟨hq1, hq2⟩, hk⟩ := hk
            obtain ⟨hd, hn⟩ := okS_spec hk
            have htl := tMT_lt q hq
            rw [hq2] at htl
            have hsi := C.2.2.2.2.1 _ (wSI_of hG htl)
            rw [if_neg (by rw [hst1]; decide)] at hsi
            have hw : (wMT q).before args s = true := C.2.2.2.2.1 _ (tMT_in _ (List.mem_map.mpr ⟨q, hq, rfl⟩))
            unfold wMT at hw
            rw [hq1, hq2, mYn_of hG] at hw
            have hse : (wSE tn).before args s = true := C.2.2.2.2.1 _ (tSE_in _ (List.mem_map.mpr ⟨tn, hvm, rfl⟩))
            unfold wSE at hse
            rw [mYn_of hG] at hse
            have hm := rOK_in (has _ List.mem_cons_self) (by omega)
            have hk8 : zk < 8 := vM_lt tn hvm J hG zk hkc
            obtain ⟨q0, hq0, hq9⟩ := mWs_at ad ca hm
            rw [mE_obj hk8] at hq9
            have hcn : J.2.1.cls = mRn zk := by rw [hcls, ← hkc, own_rn zk hk8]
            have hrec := va_recv (mK0 C.2.2.2.2.2.1) hC.1 (cl_at zk hk8) hq9
            rw [hcn] at hse
            refine call_on C hn hmo k hC hL hrs (va_runV (Ts := gTbl) (C := mRn zk) (b := ad zk zi) (n := J.2.2.2.2.2.1 - 1) (As := zas.map (tv ad)) ⟨C.1, C.2.1, C.2.2.1, C.2.2.2.1, C.2.2.2.2.1⟩ (hM has hJ ad ca H.size) ⟨callB_of _ C.2.2.2.2.1 (wGI_of hG htl) rfl rfl rfl (C.2.2.2.2.1 _ (wII_of hJ)) hw hdd (hroom h40), hsi, hse⟩ ⟨pre_blind, hrec, fun U hU hW => ⟨rfl, pre_of C hC U hU hW⟩⟩ rfl hlen hL.1.1 hstk hrm hd (hfit hL))
          · cases hcall
        · cases hcall
      · cases hcall
    · cases hcall
  · rename_i tn
    split at hcall
    · rename_i J' hG
      split at hcall
      · rename_i hcc
        obtain ⟨hst1, hna, hcat⟩ := hcc
        split at hcall
        · rename_i zk zi zas htk
          split at hcall
          · rename_i hkc
            cases hcall
            have hJ := ok_all hG
            obtain ⟨hcls, h12, hpl, hdd, hpos, h40, hpc0⟩ := okH_spec hJ
            rw [if_neg (by rw [hst1]; decide)] at hdd
            intro pc' hpc' ad ca H locs cells slots la hC hL hst
            cases hpc.symm.trans hpc'
            have has : ∀ w ∈ (.inr (.inr (some (zk, zi))) :: zas : List mV), rOK M w := fun w hw => by
              rw [← htk] at hw
              exact hst w (List.mem_of_mem_take (List.mem_reverse.mp hw))
            have hrs : ∀ w ∈ st.drop J.2.2.2.2.2.1, rOK M w := fun w hw => hst w (List.mem_of_mem_drop hw)
            have hlen0 : (.inr (.inr (some (zk, zi))) :: zas : List mV).length = J.2.2.2.2.2.1 := by
              rw [← htk, List.length_reverse, List.length_take]
              omega
            have hlen : (zas.map (tv ad)).length = J.2.2.2.2.2.1 - 1 := by
              rw [List.length_map]
              rw [List.length_cons] at hlen0
              omega
            have hstk : st.map (tv ad) = (zas.map (tv ad)).reverse ++ .ref (ad zk zi) :: (st.drop J.2.2.2.2.2.1).map (tv ad) := by
              have h1 := take_drop_map (st := st) (na := J.2.2.2.2.2.1) (ad := ad)
              rw [htk] at h1
              rw [h1, List.map_cons, List.reverse_cons, List.append_assoc]
              rfl
            have hrm : 2 * (F0 m pc la (st.map (tv ad))).monitorRoom + (((st.drop J.2.2.2.2.2.1).map (tv ad)).map fun v => v.category).sum ≤ 8 := lv_room (by rw [mSum]; exact hcat)
            have hk : (decide ((mYn tn).name = "<init>") && (tMT.any (fun q => decide (q.1 = I.1) && decide (q.2.2 = tn) && okS I pc (nth I.2.2.2.2.2.2.2.2 (ip + 1)) (.invokespecial q.2.1) 3) || tNT.any (fun q => decide (q.1 = I.1) && decide (q.2.2 = tn) && okS I pc (nth I.2.2.2.2.2.2.2.2 (ip + 1)) (.invokespecial q.2.1) 3))) = true := hok
            simp only [Bool.or_eq_true, List.any_eq_true, Bool.and_eq_true, decide_eq_true_eq] at hk
            obtain ⟨hname, hk⟩ := hk
            rw [mYn_of hG] at hname
            have hret : J.2.2.2.2.1 = none := init_void tn J hG hname
            have hMJ := hM has hJ ad ca H.size
            rcases hk with ⟨q, hq, ⟨hq1, hq2⟩, hk⟩ | ⟨q, hq, ⟨hq1, hq2⟩, hk⟩
            · obtain ⟨hd, hn⟩ := okS_spec hk
              have htl := tMT_lt q hq
              rw [hq2] at htl
              have hsi := C.2.2.2.2.1 _ (wSI_of hG htl)
              rw [if_neg (by rw [hst1]; decide)] at hsi
              have hw : (wMT q).before args s = true := C.2.2.2.2.1 _ (tMT_in _ (List.mem_map.mpr ⟨q, hq, rfl⟩))
              unfold wMT at hw
              rw [hq1, hq2, mYn_of hG] at hw
              refine call_on C hn hmo k hC hL hrs (va_runI (Ts := gTbl) (b := ad zk zi) (bytes := J.2.2.1) (maxL := J.2.2.2.1) (n := J.2.2.2.2.2.1 - 1) (As := zas.map (tv ad)) ⟨C.1, C.2.1, C.2.2.1, C.2.2.2.1, C.2.2.2.2.1⟩ hMJ ⟨callB_of _ C.2.2.2.2.1 (wGI_of hG htl) (by unfold mWords; rw [hret]) rfl rfl (C.2.2.2.2.1 _ (wII_of hJ)) hw hdd (hroom h40), hname, hsi⟩ ⟨pre_blind, fun U hU hW => ⟨rfl, pre_of C hC U hU hW⟩⟩ rfl hlen hL.1.1 hstk hrm hd (hfit hL))
            · obtain ⟨hd, hn⟩ := okS_spec hk
              have htl := tNT_lt q hq
              rw [hq2] at htl
              have hsi := C.2.2.2.2.1 _ (wSI_of hG htl)
              rw [if_neg (by rw [hst1]; decide)] at hsi
              have hw : va_Nw (wNT q) s := C.2.2.2.2.2.2.2.2.2.2.1.1 q hq
              unfold wNT at hw
              rw [hq1, hq2, mYn_of hG] at hw
              refine call_on C hn hmo k hC hL hrs (va_runIN (Ts := gTbl) (b := ad zk zi) (bytes := J.2.2.1) (maxL := J.2.2.2.1) (n := J.2.2.2.2.2.1 - 1) (As := zas.map (tv ad)) ⟨C.1, C.2.1, C.2.2.1, C.2.2.2.1, C.2.2.2.2.1⟩ hMJ ⟨va_cnB _ C.2.2.2.2.1 (wGI_of hG htl) (by unfold mWords; rw [hret]) rfl rfl hw (C.2.2.2.2.1 _ (wII_of hJ)) hdd (hroom h40), hname, hsi⟩ ⟨pre_blind, fun U hU hW => ⟨rfl, pre_of C hC U hU hW⟩⟩ rfl hlen hL.1.1 hstk hrm hd (hfit hL))
          · cases hcall
        · cases hcall
      · cases hcall
    · cases hcall
  · cases hcall
end SNC
set_option maxHeartbeats 4000000 in
/-- THE SMALL MACHINE IS SOUND -/
theorem sound (L : Nat) (xs : Nat → Int32) : ∀ n, SG L xs n := by
  intro n
  induction n with
  | zero => intro d I ip ls st M r M' h; cases h
  | succ n ih =>
    intro d I ip ls st M r M' h p l e R s m args below meth c D A b t Z ad0 Q n0 s0 N1 S1 C hb hfin
    have hrun := h
    unfold mrun at h
    split at h
    · cases h
    · rename_i i v hcode
      obtain ⟨pc, hpc, hok⟩ := ok_at C.2.2.2.2.2.2.2.2.2.2.2.2.2.2.1 hcode
      split at h
      · rename_i r' hret
        cases h
        intro pc' hpc' ad ca H locs cells slots la hC hL hst
        refine hfin i v ip pc' ls st hcode hret hpc' ?_ ad ca H locs cells slots la hC hL hst
        cases hpc.symm.trans hpc'
        exact ret_ok hret hok
      · split at h
        · rename_i J as rest hcall
          split at h
          · cases h
          · rename_i d'
            split at h
            · rename_i hlen
              split at h
              · rename_i r1 M1 h1
                have hmo := mrun_mono n _ _ _ _ _ _ _ _ h1
                have hmo2 := mono_le (mrun_mono n _ _ _ _ _ _ _ _ h)
                exact call_go C hpc hok hcall hmo ⟨Nat.le_trans hmo2.1 hb.1, Nat.le_trans hmo2.2 hb.2⟩ (fun has hJ ad ca sz => met_of ih hJ h1 hlen has l D b t ad ca sz) (ih _ _ _ _ _ _ _ _ h p l e R s m args below meth c D A b t Z ad0 Q n0 s0 N1 S1 C hb hfin)
              · cases h
            · cases h
        · split at h
          · rename_i ip1 ls1 st1' M1 h1
            have hmo2 := mono_le (mrun_mono n _ _ _ _ _ _ _ _ h)
            exact ms_all C hpc hok h1 ⟨Nat.le_trans hmo2.1 hb.1, Nat.le_trans hmo2.2 hb.2⟩ (ih _ _ _ _ _ _ _ _ h p l e R s m args below meth c D A b t Z ad0 Q n0 s0 N1 S1 C hb hfin)
          · cases h
