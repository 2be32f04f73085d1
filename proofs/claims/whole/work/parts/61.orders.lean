theorem eqL_eq : ∀ {a b : List Nat}, eqL a b = true → a = b
  | [], [], _ => rfl
  | x :: a, y :: b, h => by
    unfold eqL at h
    rw [Bool.and_eq_true] at h
    rw [Nat.eq_of_beq_eq_true h.1, eqL_eq h.2]
  | [], _ :: _, h => by cases h
  | _ :: _, [], h => by cases h
theorem ch_use {n mq : Nat} (hn : n ≤ 6) (hm : mq < 2 ^ n) : ∃ r, lpO n 6 mq = foL mq 0 n :: r ∧ (foL mq 0 n).length ≤ 6 ∧ chC (foL mq 0 n).length (foL mq 0 n) r = true ∧ ∀ l ∈ foL mq 0 n :: r, l.length = (foL mq 0 n).length ∧ ∀ i ∈ l, i < n := by
  have h := ch_all
  rw [List.all_eq_true] at h
  have h1 := h n (List.mem_range.mpr (by omega))
  rw [List.all_eq_true] at h1
  have h2 := h1 mq (List.mem_range.mpr hm)
  unfold chA at h2
  cases hl : lpO n 6 mq with
  | nil => rw [hl] at h2; cases h2
  | cons l r =>
    rw [hl] at h2
    dsimp only at h2
    rw [Bool.and_eq_true, Bool.and_eq_true, Bool.and_eq_true] at h2
    obtain ⟨⟨⟨a1, a2⟩, a3⟩, a4⟩ := h2
    have e := eqL_eq a1
    subst e
    refine ⟨r, rfl, Nat.le_of_ble_eq_true a2, a3, fun l' hl' => ?_⟩
    rw [List.all_eq_true] at a4
    have h3 := a4 l' hl'
    rw [Bool.and_eq_true] at h3
    refine ⟨Nat.eq_of_beq_eq_true h3.1, fun i hi => ?_⟩
    have h4 := h3.2
    rw [List.all_eq_true] at h4
    exact Nat.le_of_ble_eq_true (h4 i hi)
theorem gtD_app1 {a b : List Nat} {j : Nat} (h : j < a.length) : gtD (a ++ b) j = gtD a j := by
  unfold gtD
  rw [List.getD_eq_getElem?_getD, List.getD_eq_getElem?_getD, List.getElem?_append_left h]
theorem gtD_app2 (a : List Nat) (i : Nat) (b : List Nat) : gtD (a ++ i :: b) a.length = i := by
  unfold gtD
  rw [List.getD_eq_getElem?_getD, List.getElem?_append_right (Nat.le_refl _), Nat.sub_self]
  rfl
theorem gtD_mem {l : List Nat} {j : Nat} (h : j < l.length) : gtD l j ∈ l := by
  unfold gtD
  rw [List.getD_eq_getElem?_getD, List.getElem?_eq_getElem h]
  exact List.getElem_mem h
/-- the model's order -/
def OR (l : List Nat) (mu : fMu) : Prop := mu 7 0 29 = nI l.length ∧ ∀ j : Nat, j < l.length → mu 45 0 j = nI (gtD l j)
def cW (k _ j : Nat) : Bool := !(k == 39 || k == 45 || k == 46 || (k == 7 && j == 29))
theorem cW_I : ∀ k i j, sI k i j = true → cW k i j = true := by
  refine sI_or ?_ ?_ ?_ ?_
  · intro k i j h
    unfold sR at h
    split at h <;> first | rfl | cases h
  · intro k i j h
    unfold sT at h
    split at h <;> first | rfl | cases h
  · intro k i j h
    unfold sS at h
    split at h
    · rfl
    · split at h <;> first | rfl | cases h
    · rfl
    · rfl
    · cases h
  · intro k i j h
    unfold sB at h
    split at h <;> first | rfl | cases h | (split at h <;> first | rfl | cases h)
theorem cW_MB : ∀ k i j, sMB k i j = true → cW k i j = true := by
  intro k i j h
  unfold sMB at h
  split at h
  · split at h <;> first | rfl | cases h
  all_goals first | rfl | cases h
theorem cW_38 : ∀ k i j, sK 38 k i j = true → cW k i j = true := by
  intro k i j h
  unfold sK at h
  rw [beq_iff_eq] at h
  subst h
  rfl
theorem cW_39 : ∀ k i j, cW k i j = true → cK 39 k i j = true := by
  intro k i j h
  unfold cW at h
  unfold cK
  cases hk : k == 39 with
  | false => rfl
  | true => rw [hk] at h; simp at h
theorem cW_45 : ∀ k i j, cW k i j = true → cK 45 k i j = true := by
  intro k i j h
  unfold cW at h
  unfold cK
  cases hk : k == 45 with
  | false => rfl
  | true => rw [hk] at h; simp at h
section ORD
variable {E : mEv} {d : Nat} {mu : fMu} {la : fLa} {B : tB} {T : tT} {D : Nat → Nat × Nat × Nat} {m : Nat}
theorem s_firstOrder {Q : fMu → fLa → Prop} (hB : wB B) (hM : MB B mu) (hC : MC 38 0 T mu) (q : ∀ mu' : fMu, Fr cW mu mu' → OR (foL (madeT (bN B) T) 0 (bN B)) mu' → Q mu' la) : FnV E (d + 1) mi_183 [.inr (.inr (some (7, 0)))] mu la Q := by
  have hn := hB.1
  have key : ∀ (w i : Nat) (pre : List Nat) (mu' : fMu), i + w = bN B → pre.length ≤ i → OR pre mu' → Fr cW mu mu' → (∀ mu'' : fMu, Fr cW mu mu'' → OR (pre ++ foL (madeT (bN B) T) i w) mu'' → Q mu'' la) → Ev E (d + 1) mi_183 5 [some (.inr (.inr (some (7, 0)))), some (.inl (nI i))] [] (mem E mu' la) (qV E Q) := by
    intro w
    induction w with
    | zero =>
      intro i pre mu' hi hp hO f q
      refine vc_X7_firstOrder_5 0 _ ?_
      rw [f 7 0 4 rfl, hM.1]
      have h1 := q mu' f
      unfold foL at h1
      rw [List.append_nil] at h1
      exact yes (nI_le (by omega) (by omega)) (h1 hO)
    | succ w ih =>
      intro i pre mu' hi hp hO f q
      refine vc_X7_firstOrder_5 0 _ ?_
      rw [f 7 0 4 rfl, hM.1, ← nI_succ]
      have hb : (madeT (bN B) T).testBit i = decide (tH T i ≠ -9) := by
        unfold madeT
        rw [bitsOf_bit, decide_eq_true (show i < bN B by omega), Bool.true_and]
      unfold foL at q
      refine noo (nI_ge (by omega) (by omega)) (s_isMadeM hk38 (by decide) i (by omega) (by rw [f 38 0 i rfl]; exact hC.w (by omega)) (bnz (fun h9 => ?_) (fun h9 => ?_)))
      · rw [hb, h9] at q
        exact ih (i + 1) pre mu' (by omega) (by omega) hO f q
      · rw [hb, h9] at q
        rw [hO.1, b_cl (by omega)]
        refine ⟨b_in rfl (by omega) (by decide), ?_⟩
        rintro mu2 rfl
        rintro mu3 rfl
        have e29 : up3 mu' 45 0 pre.length (nI i) 7 0 29 = nI pre.length := by rw [← hO.1]; unfold up3; simp
        rw [e29, nI_1]
        refine ih (i + 1) (pre ++ [i]) _ (by omega) (by rw [List.length_append]; simp; omega) ⟨?_, fun j hj => ?_⟩ ((f.u3 rfl).u3 rfl) (fun mu'' f'' o'' => q mu'' f'' (by rw [List.append_assoc] at o''; exact o''))
        · rw [up3_self, List.length_append]
          rfl
        · rw [List.length_append] at hj
          have hj2 : j < pre.length + 1 := hj
          by_cases ej : j = pre.length
          · subst ej
            rw [gtD_app2]
            unfold up3; simp
          · rw [gtD_app1 (by omega), ← hO.2 j (by omega)]
            unfold up3; simp [ej]
  refine vc_X7_firstOrder ?_
  rintro mu1 rfl
  refine key (bN B) 0 [] _ (by omega) (Nat.le_refl 0) ⟨up3_self _ _ _ _ _, fun j hj => absurd hj (Nat.not_lt_zero j)⟩ (Fr.rf.u3 rfl) (fun mu'' f'' o'' => q mu'' f'' o'')
theorem s_exch {Q : fMu → fLa → Prop} (a b m : Nat) (f : Nat → Nat) (ha : a < m) (hb : b < m) (hm : m ≤ 6) (h : ∀ j : Nat, j < m → mu 45 0 j = nI (f j)) (q : ∀ mu' : fMu, Fr (cK 45) mu mu' → (∀ j : Nat, j < m → mu' 45 0 j = nI (exF f a b j)) → Q mu' la) : FnV E d mi_184 [.inr (.inr (some (7, 0))), .inl (nI a), .inl (nI b)] mu la Q := by
  refine vc_X7_exchanges _ _ ⟨b_in rfl (by omega) (by decide), b_in rfl (by omega) (by decide), b_in rfl (by omega) (by decide), ?_⟩
  rw [b_cl (by omega), b_cl (by omega), h b hb, h a ha]
  rintro mu1 rfl
  refine ⟨b_in rfl (by omega) (by decide), ?_⟩
  rintro mu2 rfl
  refine q _ ((Fr.rf.u3 rfl).u3 rfl) (fun j hj => ?_)
  unfold exF
  by_cases e1 : j = b
  · subst e1
    rw [up3_self, if_pos rfl]
  · rw [if_neg e1]
    by_cases e2 : j = a
    · subst e2
      rw [if_pos rfl]
      unfold up3; simp [e1]
    · rw [if_neg e2, ← h j hj]
      unfold up3; simp [e1, e2]
def kI (k : Nat) : Int32 := nI k - 1
theorem kI_s (k : Nat) : kI (k + 1) = nI k := nI_pred k
theorem kI_m (k : Nat) : nI k + (-1) = kI k := by
  cases k with
  | zero => rfl
  | succ k => rw [pk_m1, kI_s]
theorem s_nextOrder {Q : Int32 → fMu → fLa → Prop} (l : List Nat) (hl : l.length ≤ 6) (hv : ∀ j : Nat, j < l.length → gtD l j < 1000) (h : OR l mu) (q0 : nxF l.length (gtD l) = none → Q 0 mu la) (q1 : ∀ g, nxF l.length (gtD l) = some g → ∀ mu' : fMu, Fr (cK 45) mu mu' → (∀ j : Nat, j < l.length → mu' 45 0 j = nI (g j)) → Q 1 mu' la) : FnI E (d + 1) mi_185 [.inr (.inr (some (7, 0)))] mu la Q := by
  obtain ⟨m, hm⟩ : ∃ m, m = l.length := ⟨_, rfl⟩
  obtain ⟨f, hf⟩ : ∃ f, f = gtD l := ⟨_, rfl⟩
  obtain ⟨h29, hO⟩ := h
  rw [← hm] at hl hv h29 hO q0 q1
  rw [← hf] at hv hO q0 q1
  have k3 : ∀ (w : Nat) (f : Nat → Nat) (a b : Nat) (mu' : fMu), b < m → b ≤ a + 2 * w → Fr (cK 45) mu mu' → (∀ j : Nat, j < m → mu' 45 0 j = nI (f j)) → (∀ mu'' : fMu, Fr (cK 45) mu mu'' → (∀ j : Nat, j < m → mu'' 45 0 j = nI (rvF w f a b j)) → Q 1 mu'' la) → a < 1000 → Ev E (d + 1) mi_185 53 [some (.inr (.inr (some (7, 0)))), none, none, some (.inl (nI a)), some (.inl (nI b))] [] (mem E mu' la) (qI E Q) := by
    intro w
    induction w with
    | zero =>
      intro f a b mu' hb hw g hO q ha
      exact vc_X7_nextOrder_53 0 _ _ (yes (nI_le (by omega) (by omega)) (q mu' g hO))
    | succ w ih =>
      intro f a b mu' hb hw g hO q ha
      unfold rvF at q
      refine vc_X7_nextOrder_53 0 _ _ (pk_le b a (fun hba => ?_) (fun hab => ?_))
      · rw [if_neg (by omega)] at q
        exact q mu' g hO
      · rw [if_pos hab] at q
        refine s_exch a b m f (by omega) hb hl hO (fun mu2 g2 o2 => ?_)
        rw [← nI_succ, show b = (b - 1) + 1 by omega, pk_m1]
        refine ih (exF f a (b - 1 + 1)) (a + 1) (b - 1) mu2 (by omega) (by omega) (g.tr g2) (by rw [show b - 1 + 1 = b by omega]; exact o2) ?_ (by omega)
        rw [show b - 1 + 1 = b by omega]
        exact q
  have k2 : ∀ (k : Nat), k + 1 < m → f k ≤ f (k + 1) → ∀ (e : Nat), k + 1 ≤ e → e < m → (∀ mu'' : fMu, Fr (cK 45) mu mu'' → (∀ j : Nat, j < m → mu'' 45 0 j = nI (rvF 6 (exF f k (eeF f (f k) e)) (k + 1) (m - 1) j)) → Q 1 mu'' la) → Ev E (d + 1) mi_185 29 [some (.inr (.inr (some (7, 0)))), some (.inl (nI k)), some (.inl (nI e)), none, none] [] (mem E mu la) (qI E Q) := by
    intro k hk hkk e
    induction e with
    | zero => intro h1 h2; omega
    | succ e ih =>
      intro h1 h2 q
      refine vc_X7_nextOrder_29 0 _ _ ⟨b_in rfl (by omega) (by decide), b_in rfl (by omega) (by decide), ?_⟩
      rw [b_cl (by omega), b_cl (by omega), hO k (by omega), hO (e + 1) h2, pk_m1]
      have v1 := hv k (by omega)
      have v2 := hv (e + 1) h2
      unfold eeF at q
      refine pk_le (f k) (f (e + 1)) (fun hle => ?_) (fun hlt => ?_)
      · rw [if_neg (by omega)] at q
        refine s_exch k (e + 1) m f (by omega) h2 hl hO (fun mu2 g2 o2 => ?_)
        rw [g2 7 0 29 rfl, h29, ← nI_succ, show nI m - 1 = nI (m - 1) from by rw [show m = (m - 1) + 1 by omega, nI_pred]; rfl]
        exact k3 6 _ (k + 1) (m - 1) mu2 (by omega) (by omega) g2 o2 q (by omega)
      · rw [if_pos (by omega)] at q
        by_cases he : e = k
        · subst he
          omega
        · exact ih (by omega) (by omega) q
  have k1 : ∀ (k1 : Nat), k1 < m → (kkF f k1 = 0 → Q 0 mu la) → (∀ k, kkF f k1 = k + 1 → ∀ mu'' : fMu, Fr (cK 45) mu mu'' → (∀ j : Nat, j < m → mu'' 45 0 j = nI (rvF 6 (exF f k (eeF f (f k) (m - 1))) (k + 1) (m - 1) j)) → Q 1 mu'' la) → Ev E (d + 1) mi_185 5 [some (.inr (.inr (some (7, 0)))), some (.inl (kI k1)), none, none, none] [] (mem E mu la) (qI E Q) := by
    intro k1
    induction k1 with
    | zero =>
      intro _ q0 _
      refine vc_X7_nextOrder_5 0 _ (yes (by decide) (noo (by decide) (q0 rfl)))
    | succ k ih =>
      intro hk q0 q1
      rw [kI_s]
      refine vc_X7_nextOrder_5 0 _ (noo (nI_pos (by omega)) ?_)
      rw [nI_1, b_cl (by omega), b_cl (by omega), hO k (by omega), hO (k + 1) hk, h29, kI_m]
      have v1 := hv k (by omega)
      have v2 := hv (k + 1) hk
      unfold kkF at q0 q1
      refine ⟨b_in rfl (by omega) (by decide), b_in rfl (by omega) (by decide), pk_le (f k) (f (k + 1)) (fun hle => yes (nI_pos' (by omega)) ?_) (fun hlt => ?_)⟩
      · rw [if_neg (by omega)] at q0 q1
        rw [show nI m - 1 = nI (m - 1) from by rw [show m = (m - 1) + 1 by omega, nI_pred]; rfl]
        exact k2 k hk hle (m - 1) (by omega) (by omega) (q1 k rfl)
      · rw [if_pos (by omega)] at q0 q1
        exact ih (by omega) q0 q1
  refine vc_X7_nextOrder ?_
  rw [h29]
  cases m with
  | zero => exact vc_X7_nextOrder_5 0 _ (yes (by decide) (noo (by decide) (q0 rfl)))
  | succ m =>
    have e2 : nI (m + 1) - 2 = kI m := by
      cases m with
      | zero => rfl
      | succ w =>
        rw [kI_s, show (2 : Int32) = nI 2 from rfl, pk_sub (by omega)]
        rfl
    rw [e2]
    refine k1 m (by omega) (fun hk => q0 ?_) (fun k hk => q1 _ ?_)
    · unfold nxF
      rw [show m + 1 - 1 = m from rfl, hk]
    · unfold nxF
      rw [show m + 1 - 1 = m from rfl, hk]
end ORD
