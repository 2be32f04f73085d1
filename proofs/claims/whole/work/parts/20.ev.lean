/-! reasoning about runs: what holds when a run has ended -/
theorem mrun_more {L : Nat} {xs : Nat → Int32} (n : Nat) : ∀ (n' d d' : Nat) (I : mI) (ip : Nat) (ls : List (Option mV)) (st : List mV) (M : mM) (x : Option mV × mM), mrun L xs n d I ip ls st M = some x → n ≤ n' → d ≤ d' → mrun L xs n' d' I ip ls st M = some x := by
  induction n with
  | zero => intro n' d d' I ip ls st M x h; cases h
  | succ n ih =>
    intro n' d d' I ip ls st M x h hn hd
    cases n' with
    | zero => omega
    | succ n' =>
      unfold mrun at h ⊢
      split at h
      · cases h
      · split at h
        · exact h
        · split at h
          · split at h
            · cases h
            · rename_i dd
              cases d' with
              | zero => omega
              | succ d' =>
                dsimp only
                split at h
                · rename_i hl
                  rw [if_pos hl]
                  split at h
                  · rename_i r1 M1 h1
                    rw [ih n' dd d' _ _ _ _ _ _ h1 (by omega) (by omega)]
                    exact ih n' (dd + 1) (d' + 1) _ _ _ _ _ _ h (by omega) (by omega)
                  · cases h
                · cases h
          · split at h
            · exact ih n' d d' _ _ _ _ _ _ h (by omega) hd
            · cases h
/-- E: the script's length, the script, the cells that are there -/
abbrev mEv : Type := Nat × (Nat → Int32) × List (Nat × Nat)
abbrev fMu : Type := Nat → Nat → Nat → Int32
abbrev fLa : Type := Nat → Nat → Nat → Int64
def Ev (E : mEv) (d : Nat) (I : mI) (ip : Nat) (ls : List (Option mV)) (st : List mV) (M : mM) (Q : Option mV → mM → Prop) : Prop := ∃ n r M', mrun E.1 E.2.1 n d I ip ls st M = some (r, M') ∧ Q r M'
def mst (E : mEv) : Nat → mI → mS → Option mS
  | 0, _, s => some s
  | n + 1, I, s => match nth I.2.2.2.2.2.2.2.1 s.1 with
    | none => none
    | some o => match mRet I.2.2.2.2.1 o.1 s.2.2.1 with
      | some _ => none
      | none => match mCall o.1 s.2.2.1 with
        | some _ => none
        | none => match mstep E.1 E.2.1 o.1 o.2 s.1 s.2.1 s.2.2.1 s.2.2.2 with
          | none => none
          | some s' => mst E n I s'
theorem Ev.one {E : mEv} {d : Nat} {I : mI} {ip : Nat} {ls : List (Option mV)} {st : List mV} {M : mM} {Q : Option mV → mM → Prop} {o : mO} {s' : mS} (h1 : nth I.2.2.2.2.2.2.2.1 ip = some o) (h2 : mRet I.2.2.2.2.1 o.1 st = none) (h3 : mCall o.1 st = none) (h4 : mstep E.1 E.2.1 o.1 o.2 ip ls st M = some s') (k : Ev E d I s'.1 s'.2.1 s'.2.2.1 s'.2.2.2 Q) : Ev E d I ip ls st M Q := by
  obtain ⟨n, r, M', hr, hq⟩ := k
  refine ⟨n + 1, r, M', ?_, hq⟩
  unfold mrun
  rw [h1]
  dsimp only
  rw [h2]
  dsimp only
  rw [h3]
  dsimp only
  rw [h4]
  exact hr
theorem Ev.steps {E : mEv} {d : Nat} {I : mI} {Q : Option mV → mM → Prop} {ip : Nat} {ls : List (Option mV)} {st : List mV} {M : mM} (n : Nat) {ip' : Nat} {ls' : List (Option mV)} {st' : List mV} {M' : mM} (h : mst E n I (ip, ls, st, M) = some (ip', ls', st', M')) (k : Ev E d I ip' ls' st' M' Q) : Ev E d I ip ls st M Q := by
  induction n generalizing ip ls st M with
  | zero => cases h; exact k
  | succ n ih =>
    unfold mst at h
    dsimp only at h
    split at h
    · cases h
    · rename_i o ho
      split at h
      · cases h
      · rename_i hr
        split at h
        · cases h
        · rename_i hc
          split at h
          · cases h
          · rename_i s' hs
            exact Ev.one ho hr hc hs (ih h)
theorem Ev.ret {E : mEv} {d : Nat} {I : mI} {ip : Nat} {ls : List (Option mV)} {st : List mV} {M : mM} {Q : Option mV → mM → Prop} {o : mO} {r : Option mV} (h1 : nth I.2.2.2.2.2.2.2.1 ip = some o) (h2 : mRet I.2.2.2.2.1 o.1 st = some r) (q : Q r M) : Ev E d I ip ls st M Q := by
  refine ⟨1, r, M, ?_, q⟩
  unfold mrun
  rw [h1]
  dsimp only
  rw [h2]
theorem Ev.mono {E : mEv} {d : Nat} {I : mI} {ip : Nat} {ls : List (Option mV)} {st : List mV} {M : mM} {Q Q' : Option mV → mM → Prop} (h : Ev E d I ip ls st M Q) (hq : ∀ r M, Q r M → Q' r M) : Ev E d I ip ls st M Q' := by
  obtain ⟨n, r, M', hr, q⟩ := h
  exact ⟨n, r, M', hr, hq r M' q⟩
theorem Ev.deep {E : mEv} {d d' : Nat} {I : mI} {ip : Nat} {ls : List (Option mV)} {st : List mV} {M : mM} {Q : Option mV → mM → Prop} (h : Ev E d I ip ls st M Q) (hd : d ≤ d') : Ev E d' I ip ls st M Q := by
  obtain ⟨n, r, M', hr, q⟩ := h
  exact ⟨n, r, M', mrun_more n n d d' _ _ _ _ _ _ hr (Nat.le_refl n) hd, q⟩
theorem Ev.call {E : mEv} {d : Nat} {I : mI} {ip : Nat} {ls : List (Option mV)} {st : List mV} {M : mM} {Q : Option mV → mM → Prop} {o : mO} {J : mI} {as rest : List mV} (h1 : nth I.2.2.2.2.2.2.2.1 ip = some o) (h2 : mRet I.2.2.2.2.1 o.1 st = none) (h3 : mCall o.1 st = some (J, as, rest)) (h4 : (mEnt as).length ≤ J.2.2.2.1) (k : Ev E d J 0 (mPad J.2.2.2.1 (mEnt as)) [] M (fun r M1 => Ev E (d + 1) I (ip + 1) ls (r.toList ++ rest) M1 Q)) : Ev E (d + 1) I ip ls st M Q := by
  obtain ⟨n, r, M', hr, n2, r2, M2, hr2, hq⟩ := k
  refine ⟨max n n2 + 1, r2, M2, ?_, hq⟩
  unfold mrun
  rw [h1]
  dsimp only
  rw [h2]
  dsimp only
  rw [h3]
  dsimp only
  rw [if_pos h4, mrun_more n (max n n2) d d _ _ _ _ _ _ hr (Nat.le_max_left _ _) (Nat.le_refl _)]
  exact mrun_more n2 (max n n2) _ _ _ _ _ _ _ _ hr2 (Nat.le_max_right _ _) (Nat.le_refl _)
