/-! locals that are no longer wanted may be forgotten -/
def lle : List (Option mV) → List (Option mV) → Prop
  | [], [] => True
  | a :: l, b :: l' => (a = none ∨ a = b) ∧ lle l l'
  | _, _ => False
theorem lle_len {l l' : List (Option mV)} (h : lle l l') : l.length = l'.length := by
  induction l generalizing l' with
  | nil =>
    cases l' with
    | nil => rfl
    | cons => exact h.elim
  | cons a l ih =>
    cases l' with
    | nil => exact h.elim
    | cons b l' => rw [List.length_cons, List.length_cons, ih h.2]
theorem lle_at {l l' : List (Option mV)} (h : lle l l') {i : Nat} {v : mV} (hi : nth l i = some (some v)) : nth l' i = some (some v) := by
  induction l generalizing l' i with
  | nil => cases hi
  | cons a l ih =>
    cases l' with
    | nil => exact h.elim
    | cons b l' =>
      cases i with
      | zero =>
        cases hi
        rcases h.1 with e | e
        · cases e
        · rw [← e]; rfl
      | succ i => exact ih h.2 hi
theorem lle_of {l l' : List (Option mV)} (hl : l.length = l'.length) (h : ∀ (i : Nat) (v : mV), nth l i = some (some v) → nth l' i = some (some v)) : lle l l' := by
  induction l generalizing l' with
  | nil =>
    cases l' with
    | nil => trivial
    | cons => cases hl
  | cons a l ih =>
    cases l' with
    | nil => cases hl
    | cons b l' =>
      refine ⟨?_, ih (by simpa using hl) (fun i v hi => h (i + 1) v hi)⟩
      cases a with
      | none => exact Or.inl rfl
      | some v => exact Or.inr (Option.some.inj (h 0 v rfl)).symm
theorem lkill_keep {l : List (Option mV)} {n j : Nat} {v : mV} (h : nth l j = some (some v)) (hn : ¬ (j + 1 = n ∧ mCat v = 2)) : nth (lkill l n) j = some (some v) := by
  cases n with
  | zero => exact h
  | succ k =>
    unfold lkill
    simp only
    split
    · rename_i x e
      rw [nth_set]
      rw [if_neg]
      · exact h
      · rintro ⟨hj, -⟩
        subst hj
        rw [e] at h
        cases h
        exact hn ⟨rfl, rfl⟩
    · exact h
theorem lle_kill {l l' : List (Option mV)} (h : lle l l') (n : Nat) : lle (lkill l n) (lkill l' n) := by
  refine lle_of (by rw [lkill_len, lkill_len]; exact lle_len h) (fun i v hi => ?_)
  obtain ⟨h1, h2⟩ := lkill_nth hi
  exact lkill_keep (lle_at h h1) h2
theorem lle_set {l l' : List (Option mV)} (h : lle l l') (n : Nat) (v : Option mV) : lle (l.set n v) (l'.set n v) := by
  refine lle_of (by rw [List.length_set, List.length_set]; exact lle_len h) (fun i w hi => ?_)
  rw [nth_set] at hi ⊢
  rw [← lle_len h]
  split at hi
  · rename_i hc
    rw [if_pos hc]; exact hi
  · rename_i hc
    rw [if_neg hc]
    exact lle_at h hi
theorem lle_1 {l l' : List (Option mV)} (h : lle l l') (n : Nat) (v : mV) : lle (lst1 l n v) (lst1 l' n v) := lle_set (lle_kill h n) n _
theorem lle_2 {l l' : List (Option mV)} (h : lle l l') (n : Nat) (v : mV) : lle (lst2 l n v) (lst2 l' n v) := lle_set (lle_set (lle_kill h n) n _) _ _
theorem mstep_less {L : Nat} {xs : Nat → Int32} {i : Instr} {v : Value} {ip ip' : Nat} {ls l' ls' : List (Option mV)} {st st' : List mV} {M M' : mM} (hl : lle ls l') (h : mstep L xs i v ip ls st M = some (ip', ls', st', M')) : ∃ l2, mstep L xs i v ip l' st M = some (ip', l2, st', M') ∧ lle ls' l2 := by
  cases i
  case iload n =>
    unfold mstep at h ⊢
    dsimp only at h ⊢
    split at h
    · rename_i x hx
      rw [lle_at hl hx]
      cases h
      exact ⟨_, rfl, hl⟩
    · cases h
  case lload n =>
    unfold mstep at h ⊢
    dsimp only at h ⊢
    split at h
    · rename_i x hx
      rw [lle_at hl hx]
      cases h
      exact ⟨_, rfl, hl⟩
    · cases h
  case aload n =>
    unfold mstep at h ⊢
    dsimp only at h ⊢
    split at h
    · rename_i x hx
      rw [lle_at hl hx]
      cases h
      exact ⟨_, rfl, hl⟩
    · cases h
  case istore n =>
    unfold mstep at h ⊢
    dsimp only at h ⊢
    split at h
    · cases h
      exact ⟨_, rfl, lle_1 hl _ _⟩
    · cases h
  case astore n =>
    unfold mstep at h ⊢
    dsimp only at h ⊢
    split at h
    · cases h
      exact ⟨_, rfl, lle_1 hl _ _⟩
    · cases h
  case lstore n =>
    unfold mstep at h ⊢
    dsimp only at h ⊢
    split at h
    · cases h
      exact ⟨_, rfl, lle_2 hl _ _⟩
    · cases h
  case iinc n z =>
    unfold mstep at h ⊢
    dsimp only at h ⊢
    split at h
    · rename_i y x hx
      rw [lle_at hl hx]
      cases h
      exact ⟨_, rfl, lle_1 hl _ _⟩
    · cases h
  all_goals (revert h; unfold mstep; dsimp only)
  all_goals (repeat' split)
  all_goals (intro h; first | (cases h; done) | (cases h; exact ⟨_, rfl, hl⟩))
theorem mrun_less {L : Nat} {xs : Nat → Int32} (n : Nat) : ∀ (d : Nat) (I : mI) (ip : Nat) (ls l' : List (Option mV)) (st : List mV) (M : mM) (x : Option mV × mM), lle ls l' → mrun L xs n d I ip ls st M = some x → mrun L xs n d I ip l' st M = some x := by
  induction n with
  | zero => intro d I ip ls l' st M x _ h; cases h
  | succ n ih =>
    intro d I ip ls l' st M x hl h
    unfold mrun at h ⊢
    split at h
    · cases h
    · split at h
      · exact h
      · split at h
        · split at h
          · cases h
          · split at h
            · rename_i hlen
              rw [if_pos hlen]
              split at h
              · exact ih _ _ _ _ _ _ _ _ hl h
              · cases h
            · cases h
        · split at h
          · rename_i hz
            obtain ⟨l2, e2, hl2⟩ := mstep_less hl hz
            rw [e2]
            exact ih _ _ _ _ _ _ _ _ hl2 h
          · cases h
theorem Ev.drop {E : mEv} {d : Nat} {I : mI} {ip : Nat} {ls l' : List (Option mV)} {st : List mV} {M : mM} {Q : Option mV → mM → Prop} (hl : lle ls l') (h : Ev E d I ip ls st M Q) : Ev E d I ip l' st M Q := by
  obtain ⟨n, r, M', hr, q⟩ := h
  exact ⟨n, r, M', mrun_less n _ _ _ _ _ _ _ _ hl hr, q⟩
section EVA
variable {E : mEv} {d : Nat} {I : mI} {ip : Nat} {ls : List (Option mV)} {rest : List mV} {Q : Option mV → mM → Prop} {v : Value} {mu : fMu} {la : fLa} {k i n : Nat} {x y : Int32}
theorem Ev.ial (h1 : nth I.2.2.2.2.2.2.2.1 ip = some (.iaload, v)) (hk : nth mKs k = some (.inr (.int, n))) (hk0 : k ≠ 100) (hin : vp_in x n) (kk : Ev E d I (ip + 1) ls (.inl (mu k i x.toNatClampNeg) :: rest) (mem E mu la) Q) : Ev E d I ip ls (.inl x :: .inr (.inr (some (k, i))) :: rest) (mem E mu la) Q := by
  refine Ev.one (s' := (ip + 1, ls, .inl (mu k i x.toNatClampNeg) :: rest, mem E mu la)) h1 rfl rfl ?_ kk
  unfold mstep
  dsimp only
  rw [if_neg hk0, hk]
  exact if_neg hin
theorem Ev.ias (h1 : nth I.2.2.2.2.2.2.2.1 ip = some (.iastore, v)) (hk : nth mKs k = some (.inr (.int, n))) (hin : vp_in x n) (kk : Ev E d I (ip + 1) ls rest (mem E (up3 mu k i x.toNatClampNeg y) la) Q) : Ev E d I ip ls (.inl y :: .inl x :: .inr (.inr (some (k, i))) :: rest) (mem E mu la) Q := by
  refine Ev.one (s' := (ip + 1, ls, rest, mem E (up3 mu k i x.toNatClampNeg y) la)) h1 rfl rfl ?_ kk
  unfold mstep
  dsimp only
  rw [hk]
  exact if_neg hin
theorem Ev.bal (h1 : nth I.2.2.2.2.2.2.2.1 ip = some (.baload, v)) (hk : nth mKs k = some (.inr (.byte, n)) ∨ nth mKs k = some (.inr (.boolean, n))) (hin : vp_in x n) (kk : Ev E d I (ip + 1) ls (.inl (mu k i x.toNatClampNeg) :: rest) (mem E mu la) Q) : Ev E d I ip ls (.inl x :: .inr (.inr (some (k, i))) :: rest) (mem E mu la) Q := by
  refine Ev.one (s' := (ip + 1, ls, .inl (mu k i x.toNatClampNeg) :: rest, mem E mu la)) h1 rfl rfl ?_ kk
  unfold mstep
  dsimp only
  rcases hk with hk | hk
  · rw [hk]
    exact if_neg hin
  · rw [hk]
    exact if_neg hin
theorem Ev.bas (h1 : nth I.2.2.2.2.2.2.2.1 ip = some (.bastore, v)) (hk : nth mKs k = some (.inr (.byte, n))) (hin : vp_in x n) (kk : Ev E d I (ip + 1) ls rest (mem E (up3 mu k i x.toNatClampNeg y.toInt8.toInt32) la) Q) : Ev E d I ip ls (.inl y :: .inl x :: .inr (.inr (some (k, i))) :: rest) (mem E mu la) Q := by
  refine Ev.one (s' := (ip + 1, ls, rest, mem E (up3 mu k i x.toNatClampNeg y.toInt8.toInt32) la)) h1 rfl rfl ?_ kk
  unfold mstep
  dsimp only
  rw [hk]
  dsimp only
  rw [vp_nar_byte]
  exact if_neg hin
theorem Ev.zas (h1 : nth I.2.2.2.2.2.2.2.1 ip = some (.bastore, v)) (hk : nth mKs k = some (.inr (.boolean, n))) (hin : vp_in x n) (kk : Ev E d I (ip + 1) ls rest (mem E (up3 mu k i x.toNatClampNeg (vp_nar .boolean y)) la) Q) : Ev E d I ip ls (.inl y :: .inl x :: .inr (.inr (some (k, i))) :: rest) (mem E mu la) Q := by
  refine Ev.one (s' := (ip + 1, ls, rest, mem E (up3 mu k i x.toNatClampNeg (vp_nar .boolean y)) la)) h1 rfl rfl ?_ kk
  unfold mstep
  dsimp only
  rw [hk]
  exact if_neg hin
theorem Ev.aal {C : String} {r : Option (Nat × Nat)} (h1 : nth I.2.2.2.2.2.2.2.1 ip = some (.aaload, v)) (hk : nth mKs k = some (.inr (.object C, n))) (hr : rhF k i x.toNatClampNeg = r) (hin : vp_in x n) (kk : Ev E d I (ip + 1) ls (.inr (.inr r) :: rest) (mem E mu la) Q) : Ev E d I ip ls (.inl x :: .inr (.inr (some (k, i))) :: rest) (mem E mu la) Q := by
  subst hr
  refine Ev.one (s' := (ip + 1, ls, .inr (.inr (rhF k i x.toNatClampNeg)) :: rest, mem E mu la)) h1 rfl rfl ?_ kk
  unfold mstep
  dsimp only
  rw [hk]
  exact if_neg hin
theorem Ev.alx (h1 : nth I.2.2.2.2.2.2.2.1 ip = some (.iaload, v)) (hin : vp_in x E.1) (kk : Ev E d I (ip + 1) ls (.inl (E.2.1 x.toNatClampNeg) :: rest) (mem E mu la) Q) : Ev E d I ip ls (.inl x :: .inr (.inr (some (100, i))) :: rest) (mem E mu la) Q := by
  refine Ev.one (s' := (ip + 1, ls, .inl (E.2.1 x.toNatClampNeg) :: rest, mem E mu la)) h1 rfl rfl ?_ kk
  unfold mstep
  dsimp only
  rw [if_pos rfl]
  exact if_neg hin
theorem Ev.aln {ty : FieldType} (h1 : nth I.2.2.2.2.2.2.2.1 ip = some (.arraylength, v)) (hk : nth mKs k = some (.inr (ty, n))) (hk0 : k ≠ 100) (kk : Ev E d I (ip + 1) ls (.inl (Int32.ofNat n) :: rest) (mem E mu la) Q) : Ev E d I ip ls (.inr (.inr (some (k, i))) :: rest) (mem E mu la) Q := by
  refine Ev.one (s' := (ip + 1, ls, .inl (Int32.ofNat n) :: rest, mem E mu la)) h1 rfl rfl ?_ kk
  unfold mstep
  dsimp only
  rw [if_neg hk0, hk]
end EVA
