/-! what a state of the small machine says of the true one -/
def tv (ad : Nat → Nat → Nat) : mV → Value
  | .inl x => .int x
  | .inr (.inl y) => .long y
  | .inr (.inr r) => va_rf (r.map fun q => ad q.1 q.2)
def mFv (M : mM) (ad : Nat → Nat → Nat) (k i j : Nat) : Value := match mTy k j with
  | .int => .int (M.2.2.1 k i j)
  | .boolean => .int (M.2.2.1 k i j)
  | .long => .long (M.2.2.2 k i j)
  | _ => va_rf ((M.2.1 k i j).map fun q => ad q.1 q.2)
def mAr (M : mM) (ad : Nat → Nat → Nat) (ty : FieldType) (k i : Nat) : (Nat → Int32) ⊕ (Nat → Int64) ⊕ (Nat → UInt32) ⊕ (Nat → UInt64) ⊕ (Nat → Option Nat) := match ty with
  | .object _ => .inr (.inr (.inr (.inr (fun j => (M.2.1 k i j).map fun q => ad q.1 q.2))))
  | _ => .inl (M.2.2.1 k i)
def mE (M : mM) (ad : Nat → Nat → Nat) (ca : Nat → Nat → ClassId) (r : Nat × Nat) : va_E := match nth mKs r.1 with
  | some (.inl ci) => .inr (ci, (List.range (mNf ci)).map (mFv M ad r.1 r.2))
  | some (.inr (ty, n)) => .inl (ca r.1 r.2, n, mAr M ad ty r.1 r.2)
  | none => .inr (99, [])
def mWs (M : mM) (ad : Nat → Nat → Nat) (ca : Nat → Nat → ClassId) : va_W := M.1.map (fun r => (ad r.1 r.2, mE M ad ca r))
def mSz (k : Nat) : Nat := match nth mKs k with
  | some (.inl ci) => mNf ci
  | some (.inr (_, n)) => n
  | none => 0
def mSl : List (Nat × Nat) → Nat
  | [] => 0
  | r :: l => mSz r.1 + mSl l
def rOK (M : mM) : mV → Prop
  | .inr (.inr (some r)) => r ∈ M.1 ∨ r = (100, 0) ∨ r = (101, 0)
  | _ => True
def lvA (ad : Nat → Nat → Nat) : Nat → List (Option mV) → List (Nat × Value)
  | _, [] => []
  | n, none :: l => lvA ad (n + 1) l
  | n, some v :: l => (n, tv ad v) :: lvA ad (n + 1) l
def mX (U : State) : Prop := (∀ q ∈ tNT, va_Nw (wNT q) U) ∧ (∀ q ∈ tAN, va_AO (mRn (mEl q.2.2)) U) ∧ va_Nw (.fieldLinkNest RX5 27 "AnnCups" "LETTERS" "[C" "AnnCups") U
theorem mX.warm {s U : State} (hW : s.WarmedH U.vm) (h : mX s) : mX U := ⟨fun q hq => va_Nw.warmM hW (h.1 q hq), fun q hq => (h.2.1 q hq).moved hW.alike, va_Nw.warmF hW h.2.2⟩
theorem mX.same {s U : State} (hv : s.vm = U.vm) (h : mX s) : mX U := ⟨fun q hq => va_Nw.same rfl hv (h.1 q hq), fun q hq => (h.2.1 q hq).moved (by rw [hv]; exact Vm.Alike.refl _), va_Nw.same rfl hv h.2.2⟩
/-- what stays the same while a method runs -/
def mCx (p : Program) (R : Room) (s : State) (m : MethodId) (args : Array Value) (meth : Method) (c : Code) (D : va_G) (A : Nat → Prop) (b t L : Nat) (xs : Nat → Int32) (I : mI) (d n0 s0 N1 S1 : Nat) : Prop :=
  p.tables.exec = Jvm.exec ∧ c.code = I.2.2.1 ∧ c.maxLocals = I.2.2.2.1 ∧ s.vm.findClass (ownN I.1) = some m.cls ∧ (∀ w ∈ gTbl, w.before args s = true) ∧
  (∀ (c : Nat) (q : vw_C), vwCl[c]? = some q → u_Kn s q.1 q.2.1 q.2.2 (D.1 c) (D.2 c)) ∧ (∀ q : Nat, s.heap.size ≤ q → A q) ∧
  (va_X b L xs s s.heap ∧ b < s.heap.size ∧ ¬ A b) ∧ va_Z "AnnCups" "LETTERS" "[C" (.ref t) A s s.heap ∧ va_T .char t 6 (fun j => .int (lett j)) A s s.heap ∧ mX s ∧ (I.2.1.name = "<init>" → meth.name = "<init>") ∧ d + 1 ≤ R.frames ∧ (d + 1) * 60 ≤ R.locals ∧ okM I = true ∧ N1 ≤ n0 + R.cells ∧ S1 ≤ s0 + R.slots
/-- the cells -/
def mCe (s : State) (D : va_G) (A : Nat → Prop) (b t : Nat) (Z : List (Nat × Nat)) (ad0 : Nat → Nat → Nat) (M : mM) (ad : Nat → Nat → Nat) (ca : Nat → Nat → ClassId) (H : Heap) (locs : List Loc) : Prop :=
  va_P D vwCl (mWs M ad ca) H ∧ va_D A (mWs M ad ca) ∧ va_S A s.heap H locs ∧
  (∀ r ∈ M.1, ∀ (ty : FieldType) (n : Nat), nth mKs r.1 = some (.inr (ty, n)) → ArrOfT s (ca r.1 r.2) ty ∧ va_RA s (ca r.1 r.2) ty) ∧
  (∀ r ∈ M.1, ∀ j : Nat, rOK M (.inr (.inr (M.2.1 r.1 r.2 j)))) ∧ (∀ r ∈ M.1, r.1 < 52) ∧ ad 100 0 = b ∧ ad 101 0 = t ∧ ∀ q ∈ Z, q ∈ M.1 ∧ ad q.1 q.2 = ad0 q.1 q.2
/-- the locals, the room -/
def mLo (n0 s0 ml : Nat) (ls : List (Option mV)) (M : mM) (ad : Nat → Nat → Nat) (cells slots : Nat) (la : Array Slot) : Prop :=
  lv_has la ml (lvA ad 0 ls) ∧ ls.length = ml ∧ (∀ v, some v ∈ ls → rOK M v) ∧ cells + n0 = M.1.length ∧ slots + s0 = mSl M.1
def mGo (p : Program) (l : Launch) (e : Env) (R : Room) (s : State) (m : MethodId) (args : Array Value) (below : List Frame) (meth : Method) (c : Code) (D : va_G) (A : Nat → Prop) (b t : Nat) (Z : List (Nat × Nat)) (ad0 : Nat → Nat → Nat) (Q : State → Prop) (n0 s0 : Nat) (I : mI) (ip : Nat) (ls : List (Option mV)) (st : List mV) (M : mM) : Prop :=
  ∀ pc, nth I.2.2.2.2.2.2.2.2 ip = some pc → ∀ ad ca H locs cells slots la, mCe s D A b t Z ad0 M ad ca H locs → mLo n0 s0 I.2.2.2.1 ls M ad cells slots la → (∀ v ∈ st, rOK M v) →
    W p l e R s m args below meth c H locs cells slots Q (F0 m pc la (st.map (tv ad)))
theorem nth_lt {α : Type} {l : List α} {k : Nat} {a : α} (h : nth l k = some a) : k < l.length := by
  induction l generalizing k with
  | nil => cases h
  | cons b l ih =>
    cases k with
    | zero => exact Nat.succ_pos _
    | succ k => exact Nat.succ_lt_succ (ih h)
theorem nth_get {α : Type} (l : List α) (k : Nat) : nth l k = l[k]? := by
  induction l generalizing k with
  | nil => rfl
  | cons b l ih =>
    cases k with
    | zero => rfl
    | succ k => rw [nth, ih]; rfl
theorem lvA_mem (ad : Nat → Nat → Nat) (ls : List (Option mV)) (n : Nat) (q : Nat × Value) : q ∈ lvA ad n ls ↔ ∃ (i : Nat) (v : mV), nth ls i = some (some v) ∧ q = (n + i, tv ad v) := by
  induction ls generalizing n with
  | nil => exact ⟨(fun h => nomatch h), (fun ⟨_, _, h, _⟩ => nomatch h)⟩
  | cons a l ih =>
    cases a with
    | none =>
      rw [lvA, ih]
      constructor
      · rintro ⟨i, v, h, e⟩
        exact ⟨i + 1, v, h, by rw [e]; congr 1; omega⟩
      · rintro ⟨i, v, h, e⟩
        cases i with
        | zero => cases h
        | succ i => exact ⟨i, v, h, by rw [e]; congr 1; omega⟩
    | some w =>
      rw [lvA, List.mem_cons, ih]
      constructor
      · rintro (e | ⟨i, v, h, e⟩)
        · exact ⟨0, w, rfl, e⟩
        · exact ⟨i + 1, v, h, by rw [e]; congr 1; omega⟩
      · rintro ⟨i, v, h, e⟩
        cases i with
        | zero => cases h; exact Or.inl e
        | succ i => exact Or.inr ⟨i, v, h, by rw [e]; congr 1; omega⟩
theorem lv_less {la : Array Slot} {n : Nat} {l l' : List (Nat × Value)} (h : lv_has la n l) (hs : ∀ q ∈ l', q ∈ l) : lv_has la n l' := ⟨h.1, h.2.1, fun q hq => h.2.2 q (hs q hq)⟩
theorem mLo.at {n0 s0 ml : Nat} {ls : List (Option mV)} {M : mM} {ad : Nat → Nat → Nat} {cells slots : Nat} {la : Array Slot} (h : mLo n0 s0 ml ls M ad cells slots la) {i : Nat} {v : mV} (hi : nth ls i = some (some v)) : la[i]? = some (.val (tv ad v)) :=
  h.1.2.2 (i, tv ad v) ((lvA_mem ad ls 0 _).mpr ⟨i, v, hi, by rw [Nat.zero_add]⟩)
theorem mLo.ok {n0 s0 ml : Nat} {ls : List (Option mV)} {M : mM} {ad : Nat → Nat → Nat} {cells slots : Nat} {la : Array Slot} (h : mLo n0 s0 ml ls M ad cells slots la) {i : Nat} {v : mV} (hi : nth ls i = some (some v)) : rOK M v := h.2.2.1 v (nth_mem hi)
theorem tv_cat (ad : Nat → Nat → Nat) (v : mV) : (tv ad v).category = mCat v := by
  rcases v with x | x | r
  · rfl
  · rfl
  · cases r <;> rfl
theorem nth_set {α : Type} (l : List α) (n j : Nat) (a : α) : nth (l.set n a) j = if j = n ∧ n < l.length then some a else nth l j := by
  rw [nth_get, nth_get, List.getElem?_set]
  by_cases h : j = n
  · subst h
    by_cases h2 : j < l.length
    · simp [h2]
    · simp [h2]
  · have h' : ¬ n = j := fun e => h e.symm
    simp [h, h']
theorem lkill_nth {ls : List (Option mV)} {n j : Nat} {v : mV} (h : nth (lkill ls n) j = some (some v)) : nth ls j = some (some v) ∧ ¬ (j + 1 = n ∧ mCat v = 2) := by
  cases n with
  | zero => exact ⟨h, fun q => by omega⟩
  | succ k =>
    unfold lkill at h
    simp only at h
    split at h
    · rename_i x e
      rw [nth_set] at h
      split at h
      · cases h
      · rename_i hn
        refine ⟨h, fun q => hn ⟨by omega, nth_lt e⟩⟩
    · rename_i hno
      refine ⟨h, fun q => ?_⟩
      have hj : j = k := by omega
      subst hj
      rcases v with x | x | r
      · simp [mCat] at q
      · exact hno x h
      · simp [mCat] at q
theorem lkill_len (ls : List (Option mV)) (n : Nat) : (lkill ls n).length = ls.length := by
  cases n with
  | zero => rfl
  | succ k =>
    unfold lkill
    simp only
    split
    · exact List.length_set ..
    · rfl
theorem lst1_sub {ad : Nat → Nat → Nat} {ls : List (Option mV)} {n : Nat} {v : mV} {q : Nat × Value} (h : q ∈ lvA ad 0 (lst1 ls n v)) : q ∈ (n, tv ad v) :: (lvA ad 0 ls).filter (fun q => !(q.1 == n) && !(q.1 + 1 == n && q.2.category == 2)) := by
  obtain ⟨i, w, hi, e⟩ := (lvA_mem ad _ 0 q).mp h
  unfold lst1 at hi
  rw [nth_set] at hi
  split at hi
  · rename_i hc
    cases hi
    rw [e, hc.1, Nat.zero_add]
    exact List.mem_cons_self
  · rename_i hc
    obtain ⟨h1, h2⟩ := lkill_nth hi
    have hl := nth_lt h1
    refine List.mem_cons_of_mem _ (List.mem_filter.mpr ⟨(lvA_mem ad _ 0 q).mpr ⟨i, w, h1, e⟩, ?_⟩)
    have hin : ¬ i = n := fun e2 => hc ⟨e2, by rw [lkill_len, ← e2]; exact hl⟩
    rw [e]
    simp only [Nat.zero_add, tv_cat]
    simp only [Bool.and_eq_true, Bool.not_eq_true', beq_eq_false_iff_ne, Bool.and_eq_false_iff, ne_eq]
    refine ⟨hin, ?_⟩
    by_cases hq : i + 1 = n
    · exact Or.inr (fun hcat => h2 ⟨hq, hcat⟩)
    · exact Or.inl hq
theorem lst2_sub {ad : Nat → Nat → Nat} {ls : List (Option mV)} {n : Nat} {v : mV} {q : Nat × Value} (h : q ∈ lvA ad 0 (lst2 ls n v)) (hn : n + 1 < ls.length) : q ∈ (n, tv ad v) :: (lvA ad 0 ls).filter (fun q => !(q.1 == n) && (!(q.1 == n + 1) && !(q.1 + 1 == n && q.2.category == 2))) := by
  obtain ⟨i, w, hi, e⟩ := (lvA_mem ad _ 0 q).mp h
  unfold lst2 at hi
  rw [nth_set] at hi
  split at hi
  · cases hi
  · rename_i hc1
    rw [nth_set] at hi
    split at hi
    · rename_i hc
      cases hi
      rw [e, hc.1, Nat.zero_add]
      exact List.mem_cons_self
    · rename_i hc
      obtain ⟨h1, h2⟩ := lkill_nth hi
      have hl := nth_lt h1
      refine List.mem_cons_of_mem _ (List.mem_filter.mpr ⟨(lvA_mem ad _ 0 q).mpr ⟨i, w, h1, e⟩, ?_⟩)
      have hin : ¬ i = n := fun e2 => hc ⟨e2, by rw [lkill_len, ← e2]; exact hl⟩
      have hin1 : ¬ i = n + 1 := fun e2 => hc1 ⟨e2, by rw [List.length_set, lkill_len]; exact hn⟩
      rw [e]
      simp only [Nat.zero_add, tv_cat]
      simp only [Bool.and_eq_true, Bool.not_eq_true', beq_eq_false_iff_ne, Bool.and_eq_false_iff, ne_eq]
      refine ⟨hin, hin1, ?_⟩
      by_cases hq : i + 1 = n
      · exact Or.inr (fun hcat => h2 ⟨hq, hcat⟩)
      · exact Or.inl hq
theorem mem_set_sub {α : Type} {l : List α} {n : Nat} {a x : α} (h : x ∈ l.set n a) : x = a ∨ x ∈ l := by
  rcases List.mem_or_eq_of_mem_set h with h | h
  · exact Or.inr h
  · exact Or.inl h
theorem lkill_mem {ls : List (Option mV)} {n : Nat} {v : mV} (h : some v ∈ lkill ls n) : some v ∈ ls := by
  cases n with
  | zero => exact h
  | succ k =>
    unfold lkill at h
    simp only at h
    split at h
    · rcases mem_set_sub h with h | h
      · cases h
      · exact h
    · exact h
theorem mLo.st1 {n0 s0 ml : Nat} {ls : List (Option mV)} {M : mM} {ad : Nat → Nat → Nat} {cells slots : Nat} {la : Array Slot} (h : mLo n0 s0 ml ls M ad cells slots la) {n : Nat} {v : mV} (hv : rOK M v) {lb : Array Slot} (hb : lv_has lb ml ((n, tv ad v) :: (lvA ad 0 ls).filter (fun q => !(q.1 == n) && !(q.1 + 1 == n && q.2.category == 2)))) : mLo n0 s0 ml (lst1 ls n v) M ad cells slots lb := by
  refine ⟨lv_less hb (fun q hq => lst1_sub hq), ?_, fun w hw => ?_, h.2.2.2⟩
  · unfold lst1
    rw [List.length_set, lkill_len]
    exact h.2.1
  · unfold lst1 at hw
    rcases mem_set_sub hw with e | hw
    · cases e; exact hv
    · exact h.2.2.1 w (lkill_mem hw)
theorem mLo.st2 {n0 s0 ml : Nat} {ls : List (Option mV)} {M : mM} {ad : Nat → Nat → Nat} {cells slots : Nat} {la : Array Slot} (h : mLo n0 s0 ml ls M ad cells slots la) {n : Nat} {v : mV} (hn : n + 1 < ml) (hv : rOK M v) {lb : Array Slot} (hb : lv_has lb ml ((n, tv ad v) :: (lvA ad 0 ls).filter (fun q => !(q.1 == n) && (!(q.1 == n + 1) && !(q.1 + 1 == n && q.2.category == 2))))) : mLo n0 s0 ml (lst2 ls n v) M ad cells slots lb := by
  refine ⟨lv_less hb (fun q hq => lst2_sub hq (by rw [h.2.1]; exact hn)), ?_, fun w hw => ?_, h.2.2.2⟩
  · unfold lst2
    rw [List.length_set, List.length_set, lkill_len]
    exact h.2.1
  · unfold lst2 at hw
    rcases mem_set_sub hw with e | hw
    · cases e
    · rcases mem_set_sub hw with e | hw
      · cases e; exact hv
      · exact h.2.2.1 w (lkill_mem hw)
theorem okD_spec {I : mI} {pc : Nat} {i : Instr} {len : Nat} (h : okD I pc i len = true) : decode I.2.2.1 pc = .ok (i, len) := by
  unfold okD at h
  split at h
  · rename_i j l e
    simp only [Bool.and_eq_true, decide_eq_true_eq] at h
    rw [e, h.1, h.2]
  · cases h
theorem okN_spec {pc : Nat} {nx : Option Nat} {len : Nat} (h : okN pc nx len = true) : nx = some (pc + len) := by
  unfold okN at h
  split at h
  · rw [decide_eq_true_eq] at h
    rw [h]
  · cases h
theorem okS_spec {I : mI} {pc : Nat} {nx : Option Nat} {i : Instr} {len : Nat} (h : okS I pc nx i len = true) : decode I.2.2.1 pc = .ok (i, len) ∧ nx = some (pc + len) := by
  unfold okS at h
  rw [Bool.and_eq_true] at h
  exact ⟨okD_spec h.1, okN_spec h.2⟩
theorem okT_spec {I : mI} {pc : Nat} {off t : Int} (h : okT I pc off t = true) : ∃ tp : Nat, nth I.2.2.2.2.2.2.2.2 t.toNat = some tp ∧ (pc : Int) + off = (tp : Int) := by
  unfold okT at h
  split at h
  · rename_i tp e
    exact ⟨tp, e, of_decide_eq_true h⟩
  · cases h
theorem f4_val {b : Nat} (h : b < 4) : ((f4 b : Fin 4) : Nat) = b := Nat.mod_eq_of_lt h
theorem okL_at {I : mI} (os : List mO) (pcs : List Nat) (h : okL I os pcs = true) (ip : Nat) (o : mO) (ho : nth os ip = some o) : ∃ pc, nth pcs ip = some pc ∧ okB I pc (nth pcs (ip + 1)) o.1 o.2 = true := by
  induction os generalizing pcs ip with
  | nil => cases ho
  | cons a os ih =>
    cases pcs with
    | nil => cases h
    | cons pc pcs =>
      rw [okL, Bool.and_eq_true] at h
      cases ip with
      | zero => cases ho; exact ⟨pc, rfl, h.1⟩
      | succ ip => exact ih pcs h.2 ip ho
