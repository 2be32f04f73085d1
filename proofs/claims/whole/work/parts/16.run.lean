def mEnt : List mV → List (Option mV)
  | [] => []
  | .inr (.inl x) :: l => some (.inr (.inl x)) :: none :: mEnt l
  | v :: l => some v :: mEnt l
def mPad (n : Nat) (l : List (Option mV)) : List (Option mV) := match n, l with
  | 0, l => l
  | n + 1, [] => none :: mPad n []
  | n + 1, a :: l => a :: mPad n l
/-- what a return may give back -/
def mRet (rt : Option FieldType) (i : Instr) (st : List mV) : Option (Option mV) :=
  match i with
  | .ireturn => match st with
    | [.inl x] => match rt with
      | some .int => some (some (.inl x))
      | some .boolean => if x = 0 ∨ x = 1 then some (some (.inl x)) else none
      | _ => none
    | _ => none
  | .lreturn => match st with
    | [.inr (.inl x)] => match rt with
      | some .long => some (some (.inr (.inl x)))
      | _ => none
    | _ => none
  | .areturn => match st with
    | [.inr (.inr r)] => match rt with
      | some (.object _) => some (some (.inr (.inr r)))
      | _ => none
    | _ => none
  | .return_ => match st with
    | [] => match rt with
      | none => some none
      | _ => none
    | _ => none
  | _ => none
/-- a call: which method, its arguments, what lies below them on the stack -/
def mCall (i : Instr) (st : List mV) : Option (mI × List mV × List mV) :=
  match i with
  | .invokestatic t => match mG t with
    | some I => if I.2.2.2.2.2.2.1 = true ∧ I.2.2.2.2.2.1 ≤ st.length ∧ mCats (st.drop I.2.2.2.2.2.1) ≤ 8 then some (I, (st.take I.2.2.2.2.2.1).reverse, st.drop I.2.2.2.2.2.1) else none
    | none => none
  | .invokevirtual t => match mG t with
    | some I => if I.2.2.2.2.2.2.1 = false ∧ I.2.2.2.2.2.1 ≤ st.length ∧ mCats (st.drop I.2.2.2.2.2.1) ≤ 8 then match (st.take I.2.2.2.2.2.1).reverse with
      | .inr (.inr (some (k, i))) :: as => if k = I.1 then some (I, .inr (.inr (some (k, i))) :: as, st.drop I.2.2.2.2.2.1) else none
      | _ => none
      else none
    | none => none
  | .invokespecial t => match mG t with
    | some I => if I.2.2.2.2.2.2.1 = false ∧ I.2.2.2.2.2.1 ≤ st.length ∧ mCats (st.drop I.2.2.2.2.2.1) ≤ 8 then match (st.take I.2.2.2.2.2.1).reverse with
      | .inr (.inr (some (k, i))) :: as => if k = I.1 then some (I, .inr (.inr (some (k, i))) :: as, st.drop I.2.2.2.2.2.1) else none
      | _ => none
      else none
    | none => none
  | _ => none
def mrun (L : Nat) (xs : Nat → Int32) : Nat → Nat → mI → Nat → List (Option mV) → List mV → mM → Option (Option mV × mM)
  | 0, _, _, _, _, _, _ => none
  | n + 1, d, I, ip, ls, st, M => match nth I.2.2.2.2.2.2.2.1 ip with
    | none => none
    | some (i, v) => match mRet I.2.2.2.2.1 i st with
      | some r => some (r, M)
      | none => match mCall i st with
        | some (J, as, rest) => match d with
          | 0 => none
          | d' + 1 => if (mEnt as).length ≤ J.2.2.2.1 then match mrun L xs n d' J 0 (mPad J.2.2.2.1 (mEnt as)) [] M with
            | some (r, M') => mrun L xs n (d' + 1) I (ip + 1) ls (r.toList ++ rest) M'
            | none => none
            else none
        | none => match mstep L xs i v ip ls st M with
          | some (ip', ls', st', M') => mrun L xs n d I ip' ls' st' M'
          | none => none
theorem mstep_mono {L : Nat} {xs : Nat → Int32} {i : Instr} {v : Value} {ip ip' : Nat} {ls ls' : List (Option mV)} {st st' : List mV} {M M' : mM} (h : mstep L xs i v ip ls st M = some (ip', ls', st', M')) : ∃ x, M'.1 = M.1 ++ x := by
  unfold mstep at h
  split at h
  all_goals (repeat' (split at h))
  all_goals (first | (cases h; exact ⟨[], (List.append_nil _).symm⟩) | (cases h; exact ⟨_, rfl⟩) | cases h)
theorem mrun_mono {L : Nat} {xs : Nat → Int32} (n : Nat) : ∀ (d : Nat) (I : mI) (ip : Nat) (ls : List (Option mV)) (st : List mV) (M : mM) (r : Option mV) (M' : mM), mrun L xs n d I ip ls st M = some (r, M') → ∃ x, M'.1 = M.1 ++ x := by
  induction n with
  | zero => intro d I ip ls st M r M' h; cases h
  | succ n ih =>
    intro d I ip ls st M r M' h
    unfold mrun at h
    split at h
    · cases h
    · split at h
      · cases h; exact ⟨[], (List.append_nil _).symm⟩
      · split at h
        · split at h
          · cases h
          · split at h
            · split at h
              · rename_i zr zM hz
                obtain ⟨x, hx⟩ := ih _ _ _ _ _ _ _ _ hz
                obtain ⟨y, hy⟩ := ih _ _ _ _ _ _ _ _ h
                exact ⟨x ++ y, by rw [hy, hx, List.append_assoc]⟩
              · cases h
            · cases h
        · split at h
          · rename_i hz
            obtain ⟨x, hx⟩ := mstep_mono hz
            obtain ⟨y, hy⟩ := ih _ _ _ _ _ _ _ _ h
            exact ⟨x ++ y, by rw [hy, hx, List.append_assoc]⟩
          · cases h
theorem mSl_apps (a x : List (Nat × Nat)) : mSl (a ++ x) = mSl a + mSl x := by
  induction a with
  | nil => show mSl x = 0 + mSl x; omega
  | cons r l ih =>
    show mSz r.1 + mSl (l ++ x) = mSz r.1 + mSl l + mSl x
    rw [ih]; omega
theorem mono_le {M M' : mM} (h : ∃ x, M'.1 = M.1 ++ x) : M.1.length ≤ M'.1.length ∧ mSl M.1 ≤ mSl M'.1 := by
  obtain ⟨x, hx⟩ := h
  rw [hx, List.length_append, mSl_apps]
  exact ⟨Nat.le_add_right _ _, Nat.le_add_right _ _⟩
theorem mono_ok {M M' : mM} (h : ∃ x, M'.1 = M.1 ++ x) (v : mV) (hv : rOK M v) : rOK M' v := by
  obtain ⟨x, hx⟩ := h
  rcases v with z | z | r
  · trivial
  · trivial
  · cases r with
    | none => trivial
    | some r =>
      rcases hv with hv | hv
      · exact Or.inl (by rw [hx]; exact List.mem_append_left _ hv)
      · exact Or.inr hv
theorem mPad_len (k : Nat) (l : List (Option mV)) (h : l.length ≤ k) : (mPad k l).length = k := by
  induction k generalizing l with
  | zero => unfold mPad; omega
  | succ k ih =>
    cases l with
    | nil => unfold mPad; rw [List.length_cons, ih [] (Nat.zero_le _)]
    | cons a l => unfold mPad; rw [List.length_cons, ih l (by simp only [List.length_cons] at h; omega)]
theorem mPad_mem {k : Nat} {l : List (Option mV)} {v : mV} (h : some v ∈ mPad k l) : some v ∈ l := by
  induction k generalizing l with
  | zero => exact h
  | succ k ih =>
    cases l with
    | nil =>
      unfold mPad at h
      rcases List.mem_cons.mp h with e | h
      · cases e
      · exact ih h
    | cons a l =>
      unfold mPad at h
      rcases List.mem_cons.mp h with e | h
      · rw [e]; exact List.mem_cons_self
      · exact List.mem_cons_of_mem _ (ih h)
theorem mEnt_mem {as : List mV} {v : mV} (h : some v ∈ mEnt as) : v ∈ as := by
  induction as with
  | nil => cases h
  | cons a l ih =>
    unfold mEnt at h
    split at h
    · cases ‹_ :: _ = []›
    · rename_i e
      cases e
      rcases List.mem_cons.mp h with e | h
      · cases e; exact List.mem_cons_self
      · rcases List.mem_cons.mp h with e | h
        · cases e
        · exact List.mem_cons_of_mem _ (ih h)
    · rename_i e
      cases e
      rcases List.mem_cons.mp h with e | h
      · cases e; exact List.mem_cons_self
      · exact List.mem_cons_of_mem _ (ih h)
theorem lvA_nones (ad : Nat → Nat → Nat) (k n : Nat) : lvA ad n (mPad k []) = [] := by
  induction k generalizing n with
  | zero => rfl
  | succ k ih => unfold mPad; unfold lvA; exact ih (n + 1)
theorem mEnt_i (x : Int32) (l : List mV) : mEnt (.inl x :: l) = some (.inl x) :: mEnt l := rfl
theorem mEnt_l (x : Int64) (l : List mV) : mEnt (.inr (.inl x) :: l) = some (.inr (.inl x)) :: none :: mEnt l := rfl
theorem mEnt_r (r : Option (Nat × Nat)) (l : List mV) : mEnt (.inr (.inr r) :: l) = some (.inr (.inr r)) :: mEnt l := rfl
theorem lvA_entry (ad : Nat → Nat → Nat) (as : List mV) : ∀ (k n : Nat), (mEnt as).length ≤ k → lvA ad n (mPad k (mEnt as)) = lv_args n (as.map (tv ad)) := by
  induction as with
  | nil => intro k n _; exact lvA_nones ad k n
  | cons v l ih =>
    intro k n h
    have one : ∀ w : mV, mEnt (w :: l) = some w :: mEnt l → (tv ad w).category = 1 → (mEnt (w :: l)).length ≤ k → lvA ad n (mPad k (mEnt (w :: l))) = lv_args n ((w :: l).map (tv ad)) := by
      intro w e1 e2 h
      rw [e1] at h ⊢
      simp only [List.length_cons] at h
      cases k with
      | zero => omega
      | succ k =>
        unfold mPad lvA
        rw [ih k (n + 1) (by omega), List.map_cons]
        show _ = (n, tv ad w) :: lv_args (if (tv ad w).category = 2 then n + 2 else n + 1) (List.map (tv ad) l)
        rw [e2, if_neg (by decide)]
    rcases v with x | x | r
    · exact one _ (mEnt_i x l) rfl h
    · rw [mEnt_l] at h ⊢
      simp only [List.length_cons] at h
      match k, h with
      | k + 2, h =>
        show lvA ad n (some (.inr (.inl x)) :: none :: mPad k (mEnt l)) = _
        unfold lvA
        unfold lvA
        rw [ih k (n + 1 + 1) (by omega), List.map_cons]
        show _ = (n, tv ad (.inr (.inl x))) :: lv_args (if (tv ad (.inr (.inl x))).category = 2 then n + 2 else n + 1) (List.map (tv ad) l)
        rw [show (tv ad (.inr (.inl x))).category = 2 from rfl, if_pos rfl]
      | 0, h => omega
      | 1, h => omega
    · exact one _ (mEnt_r r l) (tv_cat ad _) h
theorem lg_len (ad : Nat → Nat → Nat) (as : List mV) : (lg_sl (as.map (tv ad))).length = (mEnt as).length := by
  induction as with
  | nil => rfl
  | cons v l ih =>
    have hc : lg_sl ((v :: l).map (tv ad)) = (if (tv ad v).category = 2 then [.val (tv ad v), .second] else [.val (tv ad v)]) ++ lg_sl (l.map (tv ad)) := by
      unfold lg_sl
      rw [List.map_cons, List.flatMap_cons]
    rw [hc, List.length_append, ih, tv_cat]
    rcases v with x | x | r
    · rw [mEnt_i]; show 1 + _ = _; rw [List.length_cons]; omega
    · rw [mEnt_l]; show 2 + _ = _; rw [List.length_cons, List.length_cons]; omega
    · rw [mEnt_r]; show 1 + _ = _; rw [List.length_cons]; omega
