/-! what holds between the two objects; what keeps it -/
def Fr (S : Nat → Nat → Nat → Bool) (mu mu' : fMu) : Prop := ∀ k i j, S k i j = true → mu' k i j = mu k i j
theorem Fr.rf {S : Nat → Nat → Nat → Bool} {mu : fMu} : Fr S mu mu := fun _ _ _ _ => rfl
theorem Fr.tr {S : Nat → Nat → Nat → Bool} {a b c : fMu} (h1 : Fr S a b) (h2 : Fr S b c) : Fr S a c := fun k i j h => (h2 k i j h).trans (h1 k i j h)
theorem Fr.u3 {S : Nat → Nat → Nat → Bool} {a mu : fMu} {k i j : Nat} {v : Int32} (h1 : Fr S a mu) (h : S k i j = false) : Fr S a (up3 mu k i j v) := fun k' i' j' hs => by
  rw [← h1 k' i' j' hs]
  exact if_neg (fun q => by rw [q.1, q.2.1, q.2.2, h] at hs; cases hs)
theorem Fr.u2 {S : Nat → Nat → Nat → Bool} {a mu : fMu} {k i : Nat} {f : Nat → Int32} (h1 : Fr S a mu) (h : ∀ j, S k i j = false) : Fr S a (up2 mu k i f) := fun k' i' j' hs => by
  rw [← h1 k' i' j' hs]
  exact if_neg (fun q => by rw [q.1, q.2, h] at hs; cases hs)
/-- rows -/
def sR (k _ _ : Nat) : Bool := match k with
  | 3 => true
  | 21 => true
  | 29 => true
  | 30 => true
  | _ => false
def IR (mu : fMu) : Prop := ∀ r : Nat, r < 6 → mu 29 0 r = mu 3 r 0 ∧ (mu 3 r 0 = -1 ∨ ∃ s : Nat, s ≤ 40 ∧ mu 3 r 0 = nI s ∧ ∀ j : Nat, j < s → mu 30 0 (40 * r + j) = mu 21 r j)
theorem IR.fr {mu mu' : fMu} (h : IR mu) (f : Fr sR mu mu') : IR mu' := by
  intro r hr
  obtain ⟨h1, h2⟩ := h r hr
  rw [f 29 0 r rfl, f 3 r 0 rfl]
  refine ⟨h1, ?_⟩
  rcases h2 with h2 | ⟨s, hs, e, h2⟩
  · exact Or.inl h2
  · exact Or.inr ⟨s, hs, e, fun j hj => by rw [f 30 0 _ rfl, f 21 r j rfl]; exact h2 j hj⟩
/-- texts -/
def sT (k _ _ : Nat) : Bool := match k with
  | 5 => true
  | 24 => true
  | 31 => true
  | 32 => true
  | _ => false
def IT (mu : fMu) : Prop := ∀ r : Nat, r < 4 → mu 31 0 r = mu 5 r 0 ∧ (mu 5 r 0 = -1 ∨ ∃ s : Nat, s ≤ 60 ∧ mu 5 r 0 = nI s ∧ ∀ j : Nat, j < s → mu 32 0 (60 * r + j) = mu 24 r j)
theorem IT.fr {mu mu' : fMu} (h : IT mu) (f : Fr sT mu mu') : IT mu' := by
  intro r hr
  obtain ⟨h1, h2⟩ := h r hr
  rw [f 31 0 r rfl, f 5 r 0 rfl]
  refine ⟨h1, ?_⟩
  rcases h2 with h2 | ⟨s, hs, e, h2⟩
  · exact Or.inl h2
  · exact Or.inr ⟨s, hs, e, fun j hj => by rw [f 32 0 _ rfl, f 24 r j rfl]; exact h2 j hj⟩
/-- what is told -/
def sS (k _ j : Nat) : Bool := match k with
  | 6 => true
  | 7 => match j with
    | 17 => true
    | 20 => true
    | _ => false
  | 28 => true
  | 43 => true
  | _ => false
def IS (mu : fMu) (la : fLa) : Prop := mu 6 0 11 = mu 7 0 17 ∧ mu 6 0 10 = mu 7 0 20 ∧ (∀ w : Nat, w < 6 → mu 28 0 w = mu 43 0 w) ∧ la 6 0 12 = la 7 0 18 ∧ la 6 0 13 = la 7 0 19
theorem IS.fr {mu mu' : fMu} {la : fLa} (h : IS mu la) (f : Fr sS mu mu') : IS mu' la := by
  obtain ⟨h1, h2, h3, h4⟩ := h
  exact ⟨by rw [f 6 0 11 rfl, f 7 0 17 rfl]; exact h1, by rw [f 6 0 10 rfl, f 7 0 20 rfl]; exact h2, fun w hw => by rw [f 28 0 w rfl, f 43 0 w rfl]; exact h3 w hw, h4⟩
/-- the bar's cells, on either side (not the draft, not the trial) -/
def sB (k i j : Nat) : Bool := match k with
  | 0 => i == 0
  | 1 => i == 0
  | 2 => true
  | 7 => match j with
    | 4 => true
    | 5 => true
    | 13 => true
    | _ => false
  | 8 => i == 0
  | 9 => i == 0
  | 10 => i == 0
  | 11 => i == 0
  | 12 => i == 0
  | 13 => i == 0
  | 14 => i == 0
  | 15 => i == 0
  | 16 => i == 0
  | 17 => i == 0
  | 18 => true
  | 19 => true
  | 20 => true
  | 33 => true
  | 34 => true
  | 35 => true
  | 36 => true
  | 37 => true
  | 38 => true
  | 40 => true
  | 41 => true
  | 42 => true
  | _ => false
/-- the whole, over what holds of the bar -/
def Inv (IB : fMu → Prop) (mu : fMu) (la : fLa) : Prop := IR mu ∧ IT mu ∧ IS mu la ∧ IB mu
def IBf (IB : fMu → Prop) : Prop := ∀ mu mu', Fr sB mu mu' → IB mu → IB mu'
theorem Inv.fd {IB : fMu → Prop} (hB : IBf IB) {mu : fMu} {la : fLa} (h : Inv IB mu la) {w : Nat} (hw : w < 6) : Inv IB (fdM (fdX mu w) w) la := by
  obtain ⟨h1, h2, h3, h4⟩ := h
  refine ⟨h1.fr ((((Fr.rf.u3 rfl).u3 rfl).u3 rfl).u3 rfl), h2.fr ((((Fr.rf.u3 rfl).u3 rfl).u3 rfl).u3 rfl), ?_, hB _ _ ((((Fr.rf.u3 rfl).u3 rfl).u3 rfl).u3 rfl) h4⟩
  obtain ⟨e1, e2, e3, e4⟩ := h3
  refine ⟨?_, ?_, fun v hv => ?_, e4⟩
  · show up3 (up3 (up3 (up3 mu 6 0 10 (nI w)) 28 0 w _) 7 0 20 (nI w)) 43 0 w _ 6 0 11 = up3 (up3 (up3 (up3 mu 6 0 10 (nI w)) 28 0 w _) 7 0 20 (nI w)) 43 0 w _ 7 0 17
    unfold up3
    simpa using e1
  · show up3 (up3 (up3 (up3 mu 6 0 10 (nI w)) 28 0 w _) 7 0 20 (nI w)) 43 0 w _ 6 0 10 = up3 (up3 (up3 (up3 mu 6 0 10 (nI w)) 28 0 w _) 7 0 20 (nI w)) 43 0 w _ 7 0 20
    unfold up3
    simp
  · show up3 (up3 (up3 (up3 mu 6 0 10 (nI w)) 28 0 w (mu 28 0 w + 1)) 7 0 20 (nI w)) 43 0 w (up3 (up3 mu 6 0 10 (nI w)) 28 0 w (mu 28 0 w + 1) 43 0 w + 1) 28 0 v = up3 (up3 (up3 (up3 mu 6 0 10 (nI w)) 28 0 w (mu 28 0 w + 1)) 7 0 20 (nI w)) 43 0 w (up3 (up3 mu 6 0 10 (nI w)) 28 0 w (mu 28 0 w + 1) 43 0 w + 1) 43 0 v
    unfold up3
    by_cases hvw : v = w
    · subst hvw
      simp [e3 v hv]
    · simp [hvw, e3 v hv]
/-- one call on either object: the same answer, and all holds again -/
def Pair (IB : fMu → Prop) (E : mEv) (d : Nat) (JX JM : mI) (as : List mV) (mu : fMu) (la : fLa) : Prop :=
  FnI E d JX (.inr (.inr (some (6, 0))) :: as) mu la (fun r1 mu1 la1 => FnI E d JM (.inr (.inr (some (7, 0))) :: as) mu1 la1 (fun r2 mu2 la2 => r1 = r2 ∧ Inv IB mu2 la2))
def PairL (IB : fMu → Prop) (E : mEv) (d : Nat) (JX JM : mI) (as : List mV) (mu : fMu) (la : fLa) : Prop :=
  FnL E d JX (.inr (.inr (some (6, 0))) :: as) mu la (fun r1 mu1 la1 => FnL E d JM (.inr (.inr (some (7, 0))) :: as) mu1 la1 (fun r2 mu2 la2 => r1 = r2 ∧ Inv IB mu2 la2))
/-! the calls that only tell -/
theorem p_asked {IB : fMu → Prop} {E : mEv} {d : Nat} {mu : fMu} {la : fLa} (h : Inv IB mu la) : Pair IB E d mi_88 mi_218 [] mu la := vc_X6_asked (vc_X7_asked ⟨h.2.2.1.1, h⟩)
theorem p_finding {IB : fMu → Prop} {E : mEv} {d : Nat} {mu : fMu} {la : fLa} (h : Inv IB mu la) : Pair IB E d mi_92 mi_224 [] mu la := vc_X6_finding (vc_X7_finding ⟨h.2.2.1.2.1, h⟩)
theorem p_upper {IB : fMu → Prop} {E : mEv} {d : Nat} {mu : fMu} {la : fLa} (h : Inv IB mu la) : PairL IB E d mi_89 mi_219 [] mu la := vc_X6_upper (vc_X7_upper ⟨h.2.2.1.2.2.2.1, h⟩)
theorem p_lower {IB : fMu → Prop} {E : mEv} {d : Nat} {mu : fMu} {la : fLa} (h : Inv IB mu la) : PairL IB E d mi_90 mi_220 [] mu la := vc_X6_lower (vc_X7_lower ⟨h.2.2.1.2.2.2.2, h⟩)
