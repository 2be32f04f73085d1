/-! yes and no -/
theorem yes {c A B : Prop} (hc : c) (a : A) : (c → A) ∧ (¬ c → B) := ⟨fun _ => a, fun h => absurd hc h⟩
theorem noo {c A B : Prop} (hc : ¬ c) (b : B) : (c → A) ∧ (¬ c → B) := ⟨fun h => absurd h hc, fun _ => b⟩
theorem b_x20 : ¬ (2 : Int32) = 0 := by decide
def bI (b : Bool) : Int32 := if b then 1 else 0
theorem bnz {b : Bool} {A B : Prop} (h1 : b = true → A) (h0 : b = false → B) : (¬ bI b = 0 → A) ∧ (¬ (¬ bI b = 0) → B) := by
  cases b
  · exact ⟨fun h => absurd rfl h, fun _ => h0 rfl⟩
  · exact ⟨fun _ => h1 rfl, fun h => absurd b_x10 h⟩
theorem bzz {b : Bool} {A B : Prop} (h0 : b = false → A) (h1 : b = true → B) : (bI b = 0 → A) ∧ (¬ bI b = 0 → B) := by
  cases b
  · exact ⟨fun _ => h0 rfl, fun h => absurd rfl h⟩
  · exact ⟨fun h => absurd h b_x10, fun _ => h1 rfl⟩
theorem lpU {P : Nat → Prop} {n : Nat} (hn : P n) (hs : ∀ i, i < n → P (i + 1) → P i) : ∀ i, i ≤ n → P i := by
  have key : ∀ z i, i + z = n → P i := by
    intro z
    induction z with
    | zero => intro i h; rw [show i = n by omega]; exact hn
    | succ z ih => intro i h; exact hs i (by omega) (ih (i + 1) (by omega))
  exact fun i h => key (n - i) i (by omega)
theorem pT (P : Prop) (h : P) : P = True := propext ⟨fun _ => trivial, fun _ => h⟩
/-! sets of at most six, as numbers -/
def pop (h : Nat) : Nat := bif h.testBit 0 then 1 + (if h.testBit 1 then 1 else 0) + (if h.testBit 2 then 1 else 0) + (if h.testBit 3 then 1 else 0) + (if h.testBit 4 then 1 else 0) + (if h.testBit 5 then 1 else 0) else (if h.testBit 1 then 1 else 0) + (if h.testBit 2 then 1 else 0) + (if h.testBit 3 then 1 else 0) + (if h.testBit 4 then 1 else 0) + (if h.testBit 5 then 1 else 0)
def low (h : Nat) : Nat := if h.testBit 0 then 0 else if h.testBit 1 then 1 else if h.testBit 2 then 2 else if h.testBit 3 then 3 else if h.testBit 4 then 4 else 5
def lowB (h : Nat) : Int32 := if h = 0 then -9 else nI (low h)
theorem pop_le : ∀ h : Nat, h < 64 → pop h ≤ 6 := by decide +kernel
theorem s_bitCount {E : mEv} {d : Nat} {mu : fMu} {la : fLa} {Q : Int32 → fMu → fLa → Prop} (h : Nat) (hh : h < 64) (q : Q (nI (pop h)) mu la) : FnI E d mi_227 [.inl (nI h)] mu la Q := by
  refine vc_J6_bitCount_0f7a4 (nI h) ?_
  refine (congrArg (fun x => Q x mu la) ?_).mpr q
  clear q
  revert h
  decide +kernel
theorem b_bit : ∀ h : Nat, h < 64 → ∀ p : Nat, p < 6 → ((nI h &&& ((1 : Int32) <<< (nI p &&& 31))) = 0 ↔ h.testBit p = false) := by decide +kernel
theorem b_low1 : ∀ h : Nat, h < 64 → h ≠ 0 → (nI h &&& (-(nI h))) - 1 = nI (2 ^ low h - 1) ∧ pop (2 ^ low h - 1) = low h ∧ 2 ^ low h - 1 < 64 ∧ nI h ≠ 0 := by decide +kernel
theorem b_low2 : ∀ h : Nat, h < 64 → h ≠ 0 → low h < 6 ∧ h.testBit (low h) = true ∧ ∀ j : Nat, j < 6 → j < low h → h.testBit j = false := by decide +kernel
theorem b_andN : ∀ a : Nat, a < 64 → ∀ b : Nat, b < 64 → nI a &&& (nI b ^^^ (-1)) = nI (a &&& (63 ^^^ b)) ∧ a &&& (63 ^^^ b) < 64 := by decide +kernel
theorem b_and1 : ∀ h : Nat, h < 64 → h ≠ 0 → nI h &&& (nI h - 1) = nI (h &&& (h - 1)) ∧ h &&& (h - 1) < h ∧ pop (h &&& (h - 1)) + 1 = pop h ∧ nI h ≠ 0 := by decide +kernel
theorem s_firstOf {E : mEv} {d : Nat} {mu : fMu} {la : fLa} {Q : Int32 → fMu → fLa → Prop} (h : Nat) (hh : h < 64) (q : Q (lowB h) mu la) : FnI E (d + 1) mi_103 [.inl (nI h)] mu la Q := by
  refine vc_X6_firstOf (nI h) ?_
  by_cases h0 : h = 0
  · subst h0
    exact noo (fun z => z rfl) q
  · obtain ⟨e1, e2, e3, e4⟩ := b_low1 h hh h0
    refine yes e4 ?_
    rw [e1]
    refine s_bitCount _ e3 ?_
    unfold lowB at q
    rw [if_neg h0] at q
    rw [e2]
    exact q
theorem s_setOf {E : mEv} {d : Nat} {mu : fMu} {la : fLa} {Q : Int32 → fMu → fLa → Prop} (r : Option Nat) (hr : ∀ p, r = some p → p < 6) (q : Q (nI (match r with | none => 0 | some p => 2 ^ p)) mu la) : FnI E d mi_104 [.inl (oI r)] mu la Q := by
  refine vc_X6_setOf (oI r) ?_
  cases r with
  | none => exact noo (fun z => z rfl) q
  | some p =>
    have hp := hr p rfl
    have : ∀ p : Nat, p < 6 → nI p ≠ -9 := by decide +kernel
    refine yes (this p hp) ?_
    show Q ((1 : Int32) <<< (nI p &&& 31)) mu la
    rw [b_sh p (by omega)]
    exact q
theorem s_bits {E : mEv} {d : Nat} {mu : fMu} {la : fLa} {Q : Int32 → fMu → fLa → Prop} (h : Nat) (hh : h < 64) (q : Q (nI (pop h)) mu la) : FnI E d mi_131 [.inl (nI h)] mu la Q := by
  have key : ∀ z x c : Nat, x ≤ z → x < 64 → c + pop x = pop h → Ev E d mi_131 4 [none, some (.inl (nI c)), some (.inl (nI x))] [] (mem E mu la) (qI E Q) := by
    intro z
    induction z with
    | zero =>
      intro x c hx hx2 he
      refine vc_X7_bits_4 (nI c) (nI x) (yes (by rw [show x = 0 by omega]; rfl) ?_)
      rw [show x = 0 by omega] at he
      have h1 : c = pop h := he
      rw [h1]
      exact q
    | succ z ih =>
      intro x c hx hx2 he
      by_cases h0 : x = 0
      · exact ih x c (by omega) hx2 he
      · obtain ⟨e1, e2, e3, e4⟩ := b_and1 x hx2 h0
        refine vc_X7_bits_4 (nI c) (nI x) (noo e4 ?_)
        rw [e1, ← nI_succ]
        exact ih _ _ (by omega) (by omega) (by omega)
  exact vc_X7_bits (nI h) (key h h 0 (Nat.le_refl h) hh (Nat.zero_add _))
theorem low_first (f : Nat → Bool) (n : Nat) (hn : n ≤ 6) : lowB (bitsOf f n) = oI (firstN f 0 n) := by
  have hlt : bitsOf f n < 64 := Nat.lt_of_lt_of_le (bitsOf_lt f n) (Nat.pow_le_pow_right (n := 2) (by decide) hn)
  unfold lowB
  cases hf : firstN f 0 n with
  | none =>
    have h0 : bitsOf f n = 0 := by
      apply Nat.eq_of_testBit_eq
      intro i
      rw [bitsOf_bit, Nat.zero_testBit]
      by_cases hi : i < n
      · rw [firstN_none hf i (Nat.zero_le _) (by omega)]
        simp
      · simp [hi]
    rw [if_pos h0]
    rfl
  | some p =>
    obtain ⟨-, h2, h3, h4⟩ := firstN_some hf
    have hb : (bitsOf f n).testBit p = true := by
      rw [bitsOf_bit, h3]
      simp
      omega
    have h0 : ¬ bitsOf f n = 0 := fun z => by rw [z, Nat.zero_testBit] at hb; cases hb
    rw [if_neg h0]
    obtain ⟨g1, g2, g3⟩ := b_low2 _ hlt h0
    have e : low (bitsOf f n) = p := by
      rcases Nat.lt_trichotomy (low (bitsOf f n)) p with z | z | z
      · rw [bitsOf_bit, h4 _ (Nat.zero_le _) z] at g2
        simp at g2
      · exact z
      · rw [g3 p (by omega) z] at hb
        cases hb
    rw [e]
    rfl
theorem bits64 (f : Nat → Bool) {n : Nat} (hn : n ≤ 6) : bitsOf f n < 64 := Nat.lt_of_lt_of_le (bitsOf_lt f n) (Nat.pow_le_pow_right (n := 2) (by decide) hn)
theorem bits_andN (f : Nat → Bool) {n : Nat} (hn : n ≤ 6) (b : Nat) : bitsOf f n &&& (63 ^^^ b) = bitsOf (fun p => f p && !b.testBit p) n := by
  apply Nat.eq_of_testBit_eq
  intro i
  rw [Nat.testBit_and, Nat.testBit_xor, bitsOf_bit, bitsOf_bit]
  by_cases hi : i < n
  · have h6 : (63 : Nat).testBit i = true := by
      have : ∀ j : Nat, j < 6 → (63 : Nat).testBit j = true := by decide +kernel
      exact this i (by omega)
    rw [h6]
    cases b.testBit i <;> simp
  · simp [hi]
theorem bits_congr {f g : Nat → Bool} {n : Nat} (h : ∀ i, i < n → f i = g i) : bitsOf f n = bitsOf g n := by
  apply Nat.eq_of_testBit_eq
  intro i
  rw [bitsOf_bit, bitsOf_bit]
  by_cases hi : i < n
  · rw [h i hi]
  · simp [hi]
theorem first_congr {f g : Nat → Bool} {p z : Nat} (h : ∀ i, p ≤ i → i < p + z → f i = g i) : firstN f p z = firstN g p z := by
  induction z generalizing p with
  | zero => rfl
  | succ z ih =>
    unfold firstN
    rw [h p (Nat.le_refl p) (by omega), ih (fun i h1 h2 => h i (by omega) (by omega))]
/-! times, kinds, names that are alike -/
theorem s_timeOf {E : mEv} {d : Nat} {mu : fMu} {la : fLa} {Q : Int32 → fMu → fLa → Prop} (k s : Nat) (m : Bool) (hk : k < 6) (h1 : 1 ≤ s) (h9 : s < 10) (q : Q (nI (takes k s m)) mu la) : FnI E (d + 1) mi_106 [.inl (nI k), .inl (nI s), .inl (bI m)] mu la Q := by
  have hj : FnI E d mi_107 [.inl (nI s), .inl (bI m)] mu la (fun x a b => x = nI (if m then (if 1 < s then s / 2 else 1) else s) ∧ a = mu ∧ b = la) := by
    refine vc_X6_jugTime _ _ ?_
    simp only [and_true]
    clear q
    revert m h1
    revert s
    decide +kernel
  have ht : FnI E d mi_108 [.inl (nI s)] mu la (fun x a b => x = nI (if 2 < s then s - 2 else 1) ∧ a = mu ∧ b = la) := by
    refine vc_X6_teaTime _ ?_
    simp only [and_true]
    clear q hj
    revert h1
    revert s
    decide +kernel
  refine vc_X6_timeOf (nI k) (nI s) (bI m) ?_
  have hc : k = 0 ∨ k = 1 ∨ k = 2 ∨ k = 3 ∨ k = 4 ∨ k = 5 := by omega
  rcases hc with rfl | rfl | rfl | rfl | rfl | rfl
  · exact noo (by decide) (noo (by decide) (noo (by decide) (noo (by decide) (noo (by decide) q))))
  · exact yes (by decide) (hj.mono (fun x a b ⟨e1, e2, e3⟩ => by rw [e1, e2, e3]; exact q))
  · exact noo (by decide) (yes (by decide) (ht.mono (fun x a b ⟨e1, e2, e3⟩ => by rw [e1, e2, e3]; exact q)))
  · exact noo (by decide) (noo (by decide) (yes (by decide) q))
  · refine noo (by decide) (noo (by decide) (noo (by decide) (yes (by decide) (hj.mono (fun x a b ⟨e1, e2, e3⟩ => ?_)))))
    rw [e1, e2, e3, show (2 : Int32) = nI 2 from rfl, pk_mul]
    exact q
  · refine noo (by decide) (noo (by decide) (noo (by decide) (noo (by decide) (yes (by decide) (ht.mono (fun x a b ⟨e1, e2, e3⟩ => ?_))))))
    rw [e1, e2, e3, show (3 : Int32) = nI 3 from rfl, nI_add]
    exact q
theorem s_teaTime {E : mEv} {d : Nat} {mu : fMu} {la : fLa} {Q : Int32 → fMu → fLa → Prop} (s : Nat) (h1 : 1 ≤ s) (h9 : s < 10) (q : Q (nI (takes 2 s false)) mu la) : FnI E d mi_108 [.inl (nI s)] mu la Q := by
  refine vc_X6_teaTime _ ?_
  refine (congrArg (fun x => Q x mu la) ?_).mpr q
  clear q
  revert h1
  revert s
  decide +kernel
theorem s_takesAs {E : mEv} {d : Nat} {mu : fMu} {la : fLa} {Q : Int32 → fMu → fLa → Prop} (k s : Nat) (m : Bool) (hk : k < 6) (h1 : 1 ≤ s) (h9 : s < 10) (q : Q (nI (takes k s m)) mu la) : FnI E d mi_157 [.inl (nI k), .inl (nI s), .inl (bI m)] mu la Q := by
  have ht : FnI E d mi_157 [.inl (nI k), .inl (nI s), .inl (bI m)] mu la (fun x a b => x = nI (takes k s m) ∧ a = mu ∧ b = la) := by
    refine vc_X7_takesAs _ _ _ ?_
    simp only [and_true]
    clear q
    obtain ⟨k, rfl⟩ : ∃ k' : Fin 6, k = k'.val := ⟨⟨k, hk⟩, rfl⟩
    obtain ⟨s, rfl⟩ : ∃ s' : Fin 10, s = s'.val := ⟨⟨s, h9⟩, rfl⟩
    repeat' (first | exact b_x20 | apply And.intro | intro _)
    all_goals (revert k s m; decide +kernel)
  exact ht.mono (fun x a b ⟨e1, e2, e3⟩ => by rw [e1, e2, e3]; exact q)
theorem b_alkX : ∀ a : Nat, a < 10 → ∀ b : Nat, b < 10 → ∀ e : Nat, e < 10 → ((nI e < (if 0 ≤ (nI a - nI b) then (nI a - nI b) else 0 - (nI a - nI b))) ↔ alk a b e = false) := by decide +kernel
theorem b_alkM : ∀ a : Nat, a < 10 → ∀ b : Nat, b < 10 → ∀ e : Nat, e < 10 → ((nI e < (if 0 ≤ (nI a - nI b) then (nI a - nI b) else -(nI a - nI b))) ↔ alk a b e = false) := by decide +kernel
theorem s_areAlike {E : mEv} {d : Nat} {mu : fMu} {la : fLa} {Q : Int32 → fMu → fLa → Prop} (a b e : Nat) (ha : a ≤ 9) (hb : b ≤ 9) (he : e ≤ 9) (q : Q (bI (alk a b e)) mu la) : FnI E d mi_102 [.inl (nI a), .inl (nI b), .inl (nI e)] mu la Q := by
  refine vc_X6_areAlike _ _ _ ?_
  have h := b_alkX a (by omega) b (by omega) e (by omega)
  cases hh : alk a b e
  · rw [hh] at q
    exact yes (h.mpr hh) q
  · rw [hh] at q
    exact noo (fun z => by rw [h.mp z] at hh; cases hh) q
theorem s_abs {E : mEv} {d : Nat} {mu : fMu} {la : fLa} {Q : Int32 → fMu → fLa → Prop} (x : Int32) (q : Q (if 0 ≤ x then x else -x) mu la) : FnI E d mi_159 [.inl x] mu la Q := by
  refine vc_X7_abs x ?_
  by_cases h : 0 ≤ x
  · rw [if_pos h] at q
    exact yes h q
  · rw [if_neg h] at q
    exact noo h q
theorem alkM {A B : Prop} (a b e : Nat) (ha : a ≤ 9) (hb : b ≤ 9) (he : e ≤ 9) (h0 : alk a b e = false → A) (h1 : alk a b e = true → B) : (nI e < (if 0 ≤ (nI a - nI b) then (nI a - nI b) else -(nI a - nI b)) → A) ∧ (¬ (nI e < (if 0 ≤ (nI a - nI b) then (nI a - nI b) else -(nI a - nI b))) → B) := by
  have h := b_alkM a (by omega) b (by omega) e (by omega)
  cases hh : alk a b e
  · exact yes (h.mpr hh) (h0 hh)
  · exact noo (fun z => by rw [h.mp z] at hh; cases hh) (h1 hh)
/-- of a kind, or of one that is of it -/
def ofK (k w : Nat) : Bool := match w with
  | 1 => k == 1 || k == 4
  | 2 => k == 2 || k == 5
  | _ => k == w
theorem s_isOfX {E : mEv} {d : Nat} {mu : fMu} {la : fLa} {Q : Int32 → fMu → fLa → Prop} (k w : Nat) (hk : k < 6) (h1 : 1 ≤ w) (hw : w < 6) (q : Q (bI (ofK k w)) mu la) : FnI E d mi_105 [.inl (nI k), .inl (nI w)] mu la Q := by
  have ht : FnI E d mi_105 [.inl (nI k), .inl (nI w)] mu la (fun x a b => x = bI (ofK k w) ∧ a = mu ∧ b = la) := by
    refine vc_X6_isOf _ _ ?_
    simp only [and_true]
    clear q
    obtain ⟨k, rfl⟩ : ∃ k' : Fin 6, k = k'.val := ⟨⟨k, hk⟩, rfl⟩
    obtain ⟨w, rfl⟩ : ∃ s' : Fin 6, w = s'.val := ⟨⟨w, hw⟩, rfl⟩
    repeat' (first | apply And.intro | intro _)
    all_goals (revert k w; decide +kernel)
  exact ht.mono (fun x a b ⟨e1, e2, e3⟩ => by rw [e1, e2, e3]; exact q)
theorem s_isOfM {E : mEv} {d : Nat} {mu : fMu} {la : fLa} {Q : Int32 → fMu → fLa → Prop} (k w : Nat) (hk : k < 6) (h1 : 1 ≤ w) (hw : w < 6) (q : Q (bI (ofK k w)) mu la) : FnI E d mi_169 [.inl (nI k), .inl (nI w)] mu la Q := by
  have ht : FnI E d mi_169 [.inl (nI k), .inl (nI w)] mu la (fun x a b => x = bI (ofK k w) ∧ a = mu ∧ b = la) := by
    refine vc_X7_isOf _ _ ?_
    simp only [and_true]
    clear q
    obtain ⟨k, rfl⟩ : ∃ k' : Fin 6, k = k'.val := ⟨⟨k, hk⟩, rfl⟩
    obtain ⟨w, rfl⟩ : ∃ s' : Fin 6, w = s'.val := ⟨⟨w, hw⟩, rfl⟩
    repeat' (first | apply And.intro | intro _)
    all_goals (revert k w; decide +kernel)
  exact ht.mono (fun x a b ⟨e1, e2, e3⟩ => by rw [e1, e2, e3]; exact q)
theorem s_hasM {E : mEv} {d : Nat} {mu : fMu} {la : fLa} {Q : Int32 → fMu → fLa → Prop} (h p : Nat) (hh : h < 64) (hp : p < 6) (q : Q (bI (h.testBit p)) mu la) : FnI E d mi_130 [.inl (nI h), .inl (nI p)] mu la Q := by
  refine vc_X7_has _ _ ?_
  have e := b_has h hh p hp
  cases hb : h.testBit p
  · rw [hb] at q
    exact yes (fun z => by rw [e.mp z] at hb; cases hb) q
  · rw [hb] at q
    exact noo (fun z => z (e.mpr hb)) q
