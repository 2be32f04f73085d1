/-- where references lead, once both objects are made -/
def rhF (k i j : Nat) : Option (Nat × Nat) := match k with
  | 0 => match j with
    | 0 => some (1, 0)
    | 5 => some (8, i)
    | 6 => some (9, i)
    | _ => none
  | 1 => match j with
    | 3 => some (10, i)
    | 4 => some (11, i)
    | 5 => some (12, i)
    | 6 => some (13, i)
    | 7 => some (14, i)
    | 8 => some (15, i)
    | 9 => some (16, i)
    | 10 => some (17, i)
    | _ => none
  | 2 => match j with
    | 1 => some (18, i)
    | 2 => some (19, i)
    | 3 => some (20, i)
    | _ => none
  | 3 => match j with
    | 1 => some (21, i)
    | _ => none
  | 4 => match j with
    | 0 => some (1, 0)
    | 1 => some (22, i)
    | 2 => some (23, i)
    | _ => none
  | 5 => match j with
    | 1 => some (24, i)
    | _ => none
  | 6 => match j with
    | 0 => some (25, i)
    | 1 => some (26, i)
    | 2 => some (1, 0)
    | 3 => some (1, 1)
    | 4 => some (0, 0)
    | 5 => some (0, 1)
    | 6 => some (4, 0)
    | 7 => some (2, 0)
    | 8 => some (27, i)
    | 9 => some (28, i)
    | _ => none
  | 7 => match j with
    | 0 => some (29, i)
    | 1 => some (30, i)
    | 2 => some (31, i)
    | 3 => some (32, i)
    | 6 => some (33, i)
    | 7 => some (34, i)
    | 8 => some (35, i)
    | 9 => some (36, i)
    | 10 => some (37, i)
    | 11 => some (38, i)
    | 12 => some (39, i)
    | 14 => some (40, i)
    | 15 => some (41, i)
    | 16 => some (42, i)
    | 21 => some (43, i)
    | 25 => some (44, i)
    | 27 => some (45, i)
    | 28 => some (46, i)
    | 30 => some (47, i)
    | 31 => some (48, i)
    | 32 => some (49, i)
    | 33 => some (50, i)
    | 34 => some (51, i)
    | _ => none
  | 25 => some (3, j)
  | 26 => some (5, j)
  | 27 => some (2, j + 1)
  | _ => none
abbrev mem (E : mEv) (mu : fMu) (la : fLa) : mM := (E.2.2, rhF, mu, la)
/-- a method called with arguments; what holds of its answer and of the two tables behind it -/
def FnV (E : mEv) (d : Nat) (J : mI) (as : List mV) (mu : fMu) (la : fLa) (Q : fMu → fLa → Prop) : Prop := Ev E d J 0 (mPad J.2.2.2.1 (mEnt as)) [] (mem E mu la) (fun r M => ∃ mu' la', r = none ∧ M = mem E mu' la' ∧ Q mu' la')
def FnI (E : mEv) (d : Nat) (J : mI) (as : List mV) (mu : fMu) (la : fLa) (Q : Int32 → fMu → fLa → Prop) : Prop := Ev E d J 0 (mPad J.2.2.2.1 (mEnt as)) [] (mem E mu la) (fun r M => ∃ x mu' la', r = some (.inl x) ∧ M = mem E mu' la' ∧ Q x mu' la')
def FnL (E : mEv) (d : Nat) (J : mI) (as : List mV) (mu : fMu) (la : fLa) (Q : Int64 → fMu → fLa → Prop) : Prop := Ev E d J 0 (mPad J.2.2.2.1 (mEnt as)) [] (mem E mu la) (fun r M => ∃ x mu' la', r = some (.inr (.inl x)) ∧ M = mem E mu' la' ∧ Q x mu' la')
def FnR (E : mEv) (d : Nat) (J : mI) (as : List mV) (mu : fMu) (la : fLa) (kd : Nat) (Qn : fMu → fLa → Prop) (Qs : Nat → fMu → fLa → Prop) : Prop := Ev E d J 0 (mPad J.2.2.2.1 (mEnt as)) [] (mem E mu la) (fun r M => ∃ mu' la', M = mem E mu' la' ∧ ((r = some (.inr (.inr none)) ∧ Qn mu' la') ∨ ∃ i, r = some (.inr (.inr (some (kd, i)))) ∧ Qs i mu' la'))
/-- a method on its way; its answer's kind as above -/
abbrev qV (E : mEv) (Q : fMu → fLa → Prop) : Option mV → mM → Prop := fun r M => ∃ mu' la', r = none ∧ M = mem E mu' la' ∧ Q mu' la'
abbrev qI (E : mEv) (Q : Int32 → fMu → fLa → Prop) : Option mV → mM → Prop := fun r M => ∃ x mu' la', r = some (.inl x) ∧ M = mem E mu' la' ∧ Q x mu' la'
abbrev qL (E : mEv) (Q : Int64 → fMu → fLa → Prop) : Option mV → mM → Prop := fun r M => ∃ x mu' la', r = some (.inr (.inl x)) ∧ M = mem E mu' la' ∧ Q x mu' la'
abbrev qR (E : mEv) (kd : Nat) (Qn : fMu → fLa → Prop) (Qs : Nat → fMu → fLa → Prop) : Option mV → mM → Prop := fun r M => ∃ mu' la', M = mem E mu' la' ∧ ((r = some (.inr (.inr none)) ∧ Qn mu' la') ∨ ∃ i, r = some (.inr (.inr (some (kd, i)))) ∧ Qs i mu' la')
theorem Ev.br {E : mEv} {d : Nat} {I : mI} {ip : Nat} {ls : List (Option mV)} {st : List mV} {M : mM} {Q : Option mV → mM → Prop} {o : mO} {c : Prop} {dc : Decidable c} {s1 s2 : mS} (h1 : nth I.2.2.2.2.2.2.2.1 ip = some o) (h2 : mRet I.2.2.2.2.1 o.1 st = none) (h3 : mCall o.1 st = none) (h4 : mstep E.1 E.2.1 o.1 o.2 ip ls st M = @ite _ c dc (some s1) (some s2)) (k1 : c → Ev E d I s1.1 s1.2.1 s1.2.2.1 s1.2.2.2 Q) (k2 : ¬ c → Ev E d I s2.1 s2.2.1 s2.2.2.1 s2.2.2.2 Q) : Ev E d I ip ls st M Q := by
  by_cases hc : c
  · exact Ev.one h1 h2 h3 (h4.trans (if_pos hc)) (k1 hc)
  · exact Ev.one h1 h2 h3 (h4.trans (if_neg hc)) (k2 hc)
/-- a step that wants something (a place that is there, a divisor that is not 0) -/
theorem Ev.want {E : mEv} {d : Nat} {I : mI} {ip : Nat} {ls : List (Option mV)} {st : List mV} {M : mM} {Q : Option mV → mM → Prop} {o : mO} {c : Prop} {dc : Decidable c} {s2 : mS} (h1 : nth I.2.2.2.2.2.2.2.1 ip = some o) (h2 : mRet I.2.2.2.2.1 o.1 st = none) (h3 : mCall o.1 st = none) (h4 : mstep E.1 E.2.1 o.1 o.2 ip ls st M = @ite _ c dc none (some s2)) (hc : ¬ c) (k2 : Ev E d I s2.1 s2.2.1 s2.2.2.1 s2.2.2.2 Q) : Ev E d I ip ls st M Q :=
  Ev.one h1 h2 h3 (h4.trans (if_neg hc)) k2
theorem Ev.wantP {E : mEv} {d : Nat} {I : mI} {ip : Nat} {ls : List (Option mV)} {st : List mV} {M : mM} {Q : Option mV → mM → Prop} {o : mO} {c : Prop} {dc : Decidable c} {s2 : mS} (h1 : nth I.2.2.2.2.2.2.2.1 ip = some o) (h2 : mRet I.2.2.2.2.1 o.1 st = none) (h3 : mCall o.1 st = none) (h4 : mstep E.1 E.2.1 o.1 o.2 ip ls st M = @ite _ c dc (some s2) none) (hc : c) (k2 : Ev E d I s2.1 s2.2.1 s2.2.2.1 s2.2.2.2 Q) : Ev E d I ip ls st M Q :=
  Ev.one h1 h2 h3 (h4.trans (if_pos hc)) k2
section EVC
variable {E : mEv} {d : Nat} {I : mI} {ip : Nat} {ls : List (Option mV)} {st : List mV} {Q : Option mV → mM → Prop} {o : mO} {J : mI} {as rest : List mV} {mu : fMu} {la : fLa}
theorem Ev.cv (h1 : nth I.2.2.2.2.2.2.2.1 ip = some o) (h2 : mRet I.2.2.2.2.1 o.1 st = none) (h3 : mCall o.1 st = some (J, as, rest)) (h4 : (mEnt as).length ≤ J.2.2.2.1) {Qc : fMu → fLa → Prop} (k : FnV E d J as mu la Qc) (kk : ∀ mu' la', Qc mu' la' → Ev E (d + 1) I (ip + 1) ls rest (mem E mu' la') Q) : Ev E (d + 1) I ip ls st (mem E mu la) Q := by
  refine Ev.call h1 h2 h3 h4 (Ev.mono k (fun r M hq => ?_))
  obtain ⟨mu', la', rfl, rfl, q⟩ := hq
  exact kk mu' la' q
theorem Ev.ci (h1 : nth I.2.2.2.2.2.2.2.1 ip = some o) (h2 : mRet I.2.2.2.2.1 o.1 st = none) (h3 : mCall o.1 st = some (J, as, rest)) (h4 : (mEnt as).length ≤ J.2.2.2.1) {Qc : Int32 → fMu → fLa → Prop} (k : FnI E d J as mu la Qc) (kk : ∀ x mu' la', Qc x mu' la' → Ev E (d + 1) I (ip + 1) ls (.inl x :: rest) (mem E mu' la') Q) : Ev E (d + 1) I ip ls st (mem E mu la) Q := by
  refine Ev.call h1 h2 h3 h4 (Ev.mono k (fun r M hq => ?_))
  obtain ⟨x, mu', la', rfl, rfl, q⟩ := hq
  exact kk x mu' la' q
theorem Ev.cl (h1 : nth I.2.2.2.2.2.2.2.1 ip = some o) (h2 : mRet I.2.2.2.2.1 o.1 st = none) (h3 : mCall o.1 st = some (J, as, rest)) (h4 : (mEnt as).length ≤ J.2.2.2.1) {Qc : Int64 → fMu → fLa → Prop} (k : FnL E d J as mu la Qc) (kk : ∀ x mu' la', Qc x mu' la' → Ev E (d + 1) I (ip + 1) ls (.inr (.inl x) :: rest) (mem E mu' la') Q) : Ev E (d + 1) I ip ls st (mem E mu la) Q := by
  refine Ev.call h1 h2 h3 h4 (Ev.mono k (fun r M hq => ?_))
  obtain ⟨x, mu', la', rfl, rfl, q⟩ := hq
  exact kk x mu' la' q
theorem Ev.cr (kd : Nat) (h1 : nth I.2.2.2.2.2.2.2.1 ip = some o) (h2 : mRet I.2.2.2.2.1 o.1 st = none) (h3 : mCall o.1 st = some (J, as, rest)) (h4 : (mEnt as).length ≤ J.2.2.2.1) {Qn : fMu → fLa → Prop} {Qs : Nat → fMu → fLa → Prop} (k : FnR E d J as mu la kd Qn Qs) (kn : ∀ mu' la', Qn mu' la' → Ev E (d + 1) I (ip + 1) ls (.inr (.inr none) :: rest) (mem E mu' la') Q) (ks : ∀ i mu' la', Qs i mu' la' → Ev E (d + 1) I (ip + 1) ls (.inr (.inr (some (kd, i))) :: rest) (mem E mu' la') Q) : Ev E (d + 1) I ip ls st (mem E mu la) Q := by
  refine Ev.call h1 h2 h3 h4 (Ev.mono k (fun r M hq => ?_))
  obtain ⟨mu', la', rfl, ⟨rfl, q⟩ | ⟨i, rfl, q⟩⟩ := hq
  · exact kn mu' la' q
  · exact ks i mu' la' q
end EVC
theorem FnV.mono {E : mEv} {d : Nat} {J : mI} {as : List mV} {mu : fMu} {la : fLa} {Q Q' : fMu → fLa → Prop} (h : FnV E d J as mu la Q) (hq : ∀ a b, Q a b → Q' a b) : FnV E d J as mu la Q' := Ev.mono h (fun r M ⟨a, b, h1, h2, h3⟩ => ⟨a, b, h1, h2, hq a b h3⟩)
theorem FnI.mono {E : mEv} {d : Nat} {J : mI} {as : List mV} {mu : fMu} {la : fLa} {Q Q' : Int32 → fMu → fLa → Prop} (h : FnI E d J as mu la Q) (hq : ∀ x a b, Q x a b → Q' x a b) : FnI E d J as mu la Q' := Ev.mono h (fun r M ⟨x, a, b, h1, h2, h3⟩ => ⟨x, a, b, h1, h2, hq x a b h3⟩)
theorem FnL.mono {E : mEv} {d : Nat} {J : mI} {as : List mV} {mu : fMu} {la : fLa} {Q Q' : Int64 → fMu → fLa → Prop} (h : FnL E d J as mu la Q) (hq : ∀ x a b, Q x a b → Q' x a b) : FnL E d J as mu la Q' := Ev.mono h (fun r M ⟨x, a, b, h1, h2, h3⟩ => ⟨x, a, b, h1, h2, hq x a b h3⟩)
theorem FnV.deep {E : mEv} {d d' : Nat} {J : mI} {as : List mV} {mu : fMu} {la : fLa} {Q : fMu → fLa → Prop} (h : FnV E d J as mu la Q) (hd : d ≤ d') : FnV E d' J as mu la Q := Ev.deep h hd
theorem FnI.deep {E : mEv} {d d' : Nat} {J : mI} {as : List mV} {mu : fMu} {la : fLa} {Q : Int32 → fMu → fLa → Prop} (h : FnI E d J as mu la Q) (hd : d ≤ d') : FnI E d' J as mu la Q := Ev.deep h hd
theorem FnL.deep {E : mEv} {d d' : Nat} {J : mI} {as : List mV} {mu : fMu} {la : fLa} {Q : Int64 → fMu → fLa → Prop} (h : FnL E d J as mu la Q) (hd : d ≤ d') : FnL E d' J as mu la Q := Ev.deep h hd
theorem FnR.deep {E : mEv} {d d' : Nat} {J : mI} {as : List mV} {mu : fMu} {la : fLa} {kd : Nat} {Qn : fMu → fLa → Prop} {Qs : Nat → fMu → fLa → Prop} (h : FnR E d J as mu la kd Qn Qs) (hd : d ≤ d') : FnR E d' J as mu la kd Qn Qs := Ev.deep h hd
