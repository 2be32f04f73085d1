/-! THE CLAIM OUT OF ONE WALK OF THE LAW'S BODY. Your part is whole_start (and what it stands on); all else here is the same for every law, but numbers. -/
def R_law : String := "AnnCupsLaw"
def lw_P (b : Addr) (xs : List Int32) (args : Array Value) (s : State) : Prop := args = #[.ref b] ∧ s.IntsAt b xs ∧ xs.length ≤ 3072 ∧ (Jvm.Cond.and given_1 narrow_1).before args s = true
def lw_Q (_ : Array Value) (s : State) (o : Outcome) (t : State) : Prop := o = .returned (some (.int 1)) ∧ Framed s o t [] 600000 7302250
def lw_Z (below : List Frame) (a : Array Value) (s : State) : State → Prop := fun t => ∃ o, t.status = .running ∧ Ended t below o ∧ lw_Q a s o t
/-- the law's own end, with 1 on the stack, nothing written that was there before, its room as the claim has it -/
theorem lw_ret {p : Program} {l : Launch} {e : Env} {s : State} {m : MethodId} {below : List Frame} {meth : Method} {c : Code} {b : Nat} (hx : p.tables.exec = Jvm.exec) (hb : c.code = code) (hr : meth.sig.returnType = ret) (hlocks : meth.locks = false) {pc : Nat} {H : Heap} {ls : Array Slot} (hdg : decode code pc = .ok (.ireturn, 1)) : W p l e room_1 s m #[Value.ref b] below meth c H [] 600000 7302250 (lw_Z below #[Value.ref b] s) (F0 m pc ls [.int 1]) := by
  intro T hT X
  obtain ⟨fs, hret, hrun, hended, hW, hframe⟩ := X.leave (v := some (.int 1)) (hlocks := hlocks) (fun h => by rw [hr] at h; cases h)
  have hmeth' : T.vm.method? m = some meth := X.method'
  refine ⟨T.setFrames fs, ?_, .returned (some (.int 1)), hrun, hended, rfl, ⟨_, rfl⟩, hW, hframe⟩
  jvm_step X.here [X.here.top, hx, hb, hdg, hmeth', hr, ret, narrow_b1]
  (try refine ⟨rfl, ?_⟩); (try refine ⟨rfl, ?_⟩)
  first | (intro acts; rw [hret _ acts rfl rfl rfl]) | rw [hret _ _ rfl rfl rfl]
  exact Steps.refl _
/-- what holds at the law's entry: the machine, the code, the tables' words (any of lw_tbl by 'hts w (by decide +kernel)'), the script of L ints xs at the cell b, what the Statement gives of the start (any of its parts by flat_of_before) -/
def lw_At (p : Program) (s : State) (m : MethodId) (meth : Method) (c : Code) (b L : Nat) (xs : Nat → Int32) : Prop :=
  p.tables.exec = Jvm.exec ∧ c.code = code ∧ meth.sig.returnType = ret ∧ c.maxLocals = 4 ∧ s.vm.findClass R_law = some m.cls ∧ (∀ w ∈ lw_tbl, w.before #[Value.ref b] s = true) ∧ va_X b L xs s s.heap ∧ b < s.heap.size ∧ meth.locks = false ∧ (Jvm.Cond.and given_1 narrow_1).before #[Value.ref b] s = true
def m00 : mM := ([], fun _ _ _ => none, fun _ _ _ => 0, fun _ _ _ => 0)
theorem tLS_in : ∀ w ∈ ([.laysStatic "AnnCups" "LETTERS" "[C"] : List Cond), w ∈ lw_tbl := mx_in [414] rfl
set_option maxHeartbeats 4000000 in
set_option maxRecDepth 100000 in
/-- the law's walk out of its run on the small machine -/
theorem whole_of {p : Program} {e : Env} {s : State} {m : MethodId} {below : List Frame} {meth : Method} {c : Code} (l : Launch) {b L : Nat} {xs : Nat → Int32} (C0 : lw_At p s m meth c b L xs) {n d : Nat} {M' : mM} (hrun : mrun L xs n d mi_230 0 [some (vR 100 0), none, none, none] [] m00 = some (some (vI 1), M')) (hd : d ≤ 1000) (hN : M'.1.length ≤ 600000 ∧ mSl M'.1 ≤ 7302250) : W p l e room_1 s m #[Value.ref b] below meth c s.heap [] 0 0 (lw_Z below #[Value.ref b] s) (entryFrame m ([Value.ref b] : List Value).toArray 4) := by
  obtain ⟨hx, hb, hr, hml, hown, hts, hX, hbl, hlocks, hgv⟩ := C0
  have hs := flat_of_before _ hgv
  have hg : ∀ w ∈ gTbl, w.before #[Value.ref b] s = true := fun w hw => hts w (gTbl_in w hw)
  have hini : (Cond.initialized "AnnCups").before #[Value.ref b] s = true := hg _ (tII_in _ (List.mem_map.mpr ⟨6, by decide, rfl⟩))
  have harr : (Cond.arrayOf (.static "AnnCups" "LETTERS" "[C") .char).before #[Value.ref b] s = true := hs _ (by decide +kernel)
  have e0 := va_eqt (hs (Cond.eq (.elem (.static "AnnCups" "LETTERS" "[C") (.int 0)) (.int 99)) (by decide +kernel))
  have e1 := va_eqt (hs (Cond.eq (.elem (.static "AnnCups" "LETTERS" "[C") (.int 1)) (.int 106)) (by decide +kernel))
  have e2 := va_eqt (hs (Cond.eq (.elem (.static "AnnCups" "LETTERS" "[C") (.int 2)) (.int 116)) (by decide +kernel))
  have e3 := va_eqt (hs (Cond.eq (.elem (.static "AnnCups" "LETTERS" "[C") (.int 3)) (.int 103)) (by decide +kernel))
  have e4 := va_eqt (hs (Cond.eq (.elem (.static "AnnCups" "LETTERS" "[C") (.int 4)) (.int 102)) (by decide +kernel))
  have e5 := va_eqt (hs (Cond.eq (.elem (.static "AnnCups" "LETTERS" "[C") (.int 5)) (.int 100)) (by decide +kernel))
  have e6 := va_eqt (hs (Cond.eq (.length (.static "AnnCups" "LETTERS" "[C")) (.int 6)) (by decide +kernel))
  obtain ⟨t, ht, hT⟩ := va_Tof (N := 6) (f := fun j => .int (lett j)) (A := fun q : Nat => s.heap.size ≤ q) (by decide) harr e6 (fun j hj => by
    match j, hj with
    | 0, _ => exact e0
    | 1, _ => exact e1
    | 2, _ => exact e2
    | 3, _ => exact e3
    | 4, _ => exact e4
    | 5, _ => exact e5
    | j + 6, h => exact absurd h (by omega)) (fun a ha => Nat.not_le.mpr ha)
  have hZ := va_Zof (A := fun q : Nat => s.heap.size ≤ q) (hts _ (tLS_in _ List.mem_cons_self)) hini ht (fun a ha => Nat.not_le.mpr ha)
  have hk : ∀ ci, ∃ y : ClassId × (Nat → Nat), ci < 8 → u_Kn s (mRn ci) (mFt ci) (mNf ci) y.1 y.2 := by
    intro ci
    by_cases h : ci < 8
    · obtain ⟨c0, iS, hK⟩ := u_known (C := mRn ci) (T := mFt ci) (N := mNf ci) (n := mNf ci) hg (cl_in ci h) (hg _ (tIN_in _ (List.mem_map.mpr ⟨ci, List.mem_range.mpr h, rfl⟩)))
      exact ⟨(c0, iS), fun _ => hK⟩
    · exact ⟨(0, fun _ => 0), fun q => absurd q h⟩
  obtain ⟨f, hf⟩ : ∃ f : Nat → ClassId × (Nat → Nat), ∀ ci, ci < 8 → u_Kn s (mRn ci) (mFt ci) (mNf ci) (f ci).1 (f ci).2 := ⟨fun ci => (hk ci).choose, fun ci => (hk ci).choose_spec⟩
  have hK0 : ∀ (c : Nat) (q : vw_C), vwCl[c]? = some q → u_Kn s q.1 q.2.1 q.2.2 (f c).1 (f c).2 := by
    intro c q hq
    have hc : c < 8 := (List.getElem?_eq_some_iff.mp hq).1
    rw [cl_at c hc] at hq
    cases hq
    exact hf c hc
  have hmX : mX s := ⟨fun q hq => va_Nw.of rfl (hts _ (tNT_in _ (List.mem_map.mpr ⟨q, hq, rfl⟩))), fun q hq => va_AO.of (hts _ (tAO_in _ (List.mem_map.mpr ⟨q, hq, rfl⟩))), va_Nw.of rfl (hts _ (tGS_in _ List.mem_cons_self))⟩
  have hC : mCx p room_1 s m #[Value.ref b] meth c (fun k => (f k).1, fun k => (f k).2) (fun q : Nat => s.heap.size ≤ q) b t L xs mi_230 d 0 0 M'.1.length (mSl M'.1) :=
    ⟨hx, hb, hml, hown, hg, hK0, fun _ h => h, ⟨hX, hbl, Nat.not_le.mpr hbl⟩, hZ, hT, hmX, fun h => absurd h (by decide), (by show d + 1 ≤ 2048; omega), (by show (d + 1) * 60 ≤ 84000; omega), ok_230, (by show M'.1.length ≤ 0 + 600000; omega), (by show mSl M'.1 ≤ 0 + 7302250; omega)⟩
  have hgo := sound L xs n d mi_230 0 _ [] m00 _ M' hrun p l e room_1 s m _ below meth c _ _ b t [] (fun _ _ => 0) (lw_Z below #[Value.ref b] s) _ _ _ _ hC ⟨Nat.le_refl _, Nat.le_refl _⟩ ?_
  · have hl := lv_entry ([.ref b]) (n := 4) (Nat.le_of_ble_eq_true rfl)
    rw [lg_entry_eq]
    exact hgo 0 rfl (fun k _ => if k = 100 then b else t) (fun _ _ => 0) s.heap [] 0 0 _ ⟨fun k q h => (nomatch h), ⟨fun i j p q h => (nomatch h), fun k q h => (nomatch h)⟩, va_S.rf, fun r hr => (nomatch hr), fun r hr => (nomatch hr), fun r hr => (nomatch hr), rfl, rfl, fun q hq => (nomatch hq)⟩ ⟨hl, rfl, fun v hv => by
      simp only [List.mem_cons, Option.some.injEq, List.not_mem_nil, or_false, reduceCtorEq] at hv
      rw [hv]
      exact Or.inr (Or.inl rfl), rfl, rfl⟩ (fun v hv => nomatch hv)
  · intro i v ipR pcR lsR stR hcode hret hpcR hok ad ca H locs cells slots la hCe hLo hst
    have hdc := okD_spec hok
    have hret2 : mRet (some .boolean) i stR = some (some (vI 1)) := hret
    unfold mRet at hret2
    split at hret2
    · split at hret2
      · rename_i x
        dsimp only at hret2
        · split at hret2
          · cases hret2
            refine va_forget (fun q hq => hCe.2.2.1.2.2 q hq) ?_
            have h1 := hLo.2.2.2.1
            have h2 := hLo.2.2.2.2
            refine W.widen (k := 600000) (n := 7302250) (by omega) (by omega) ?_
            exact lw_ret hx hb hr hlocks hdc
          · cases hret2
      · cases hret2
    · split at hret2
      · split at hret2 <;> cases hret2
      · cases hret2
    · split at hret2
      · split at hret2 <;> cases hret2
      · cases hret2
    · split at hret2
      · split at hret2 <;> cases hret2
      · cases hret2
    · cases hret2
