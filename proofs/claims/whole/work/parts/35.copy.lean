section COPY
variable {IB : fMu → Prop} {E : mEv} {d : Nat} {mu : fMu} {la : fLa} {Q : Int32 → fMu → fLa → Prop}
theorem s_hasPlaces {c : Nat} (a : Int32) (n s : Nat) (hn : n < 2147483648) (hs : s ≤ 40) (e0 : mu 3 c 0 = nI s) (h1 : ∀ i : Nat, a = nI i → i + n ≤ s → Q 1 mu la) (h0 : (a < 0 ∨ ∃ i : Nat, i < 2147483648 ∧ a = nI i ∧ s < i + n) → Q 0 mu la) : FnI E d mi_29 [.inr (.inr (some (3, c))), .inl a, .inl (nI n)] mu la Q := by
  refine vc_X3_hasPlaces a (nI n) ⟨fun hc => h0 (Or.inl hc), fun hc => ?_⟩
  obtain ⟨i, hi, e⟩ := nI_of hc
  subst e
  rw [e0]
  refine ⟨fun hd => h0 (Or.inr ⟨i, by omega, rfl, ?_⟩), fun hd => ?_⟩
  · have := (nI_ltI (a := s) (b := i) (by omega) (by omega)).mp hd
    omega
  · have hle : i ≤ s := by
      rcases Nat.lt_or_ge s i with z | z
      · exact absurd (nI_lt z (by omega)) hd
      · exact z
    rw [pk_sub hle]
    refine ⟨fun hx => h0 (Or.inr ⟨i, by omega, rfl, ?_⟩), fun hx => h1 i rfl ?_⟩
    · have := (nI_ltI (a := s - i) (b := n) (by omega) (by omega)).mp hx
      omega
    · rcases Nat.lt_or_ge (s - i) n with z | z
      · exact absurd (nI_lt z (by omega)) hx
      · omega
theorem m_copy_bad (a0 a1 a2 a3 a4 : Int32) (h : (∀ j : Nat, j < 6 → a0 ≠ nI j) ∨ (∀ j : Nat, j < 6 → a2 ≠ nI j)) (q : Q (-1) mu la) : FnI E (d + 2) mi_141 [.inr (.inr (some (7, 0))), .inl a0, .inl a1, .inl a2, .inl a3, .inl a4] mu la Q := by
  refine vc_X7_copy a0 a1 a2 a3 a4 (s_isRow a0 (fun j hj e => ⟨fun z => absurd z b_x10, fun _ => s_isRow a2 (fun k hk e2 => ?_) (fun _ => ⟨fun z => absurd rfl z, fun _ => q⟩)⟩) (fun _ => ⟨fun _ => q, fun z => absurd rfl z⟩))
  rcases h with h | h
  · exact absurd e (h j hj)
  · exact absurd e2 (h k hk)
theorem m_copy_neg (r to : Nat) (hr : r < 6) (ht : to < 6) (a1 a3 a4 : Int32) (h : ¬ 0 ≤ a4) (q : Q (-3) (fdM mu 5) la) : FnI E (d + 2) mi_141 [.inr (.inr (some (7, 0))), .inl (nI r), .inl a1, .inl (nI to), .inl a3, .inl a4] mu la Q :=
  vc_X7_copy (nI r) a1 (nI to) a3 a4 (s_isRow (nI r) (fun _ _ _ => ⟨fun z => absurd z b_x10, fun _ => s_isRow (nI to) (fun _ _ _ => ⟨fun _ => ⟨fun z => absurd z h, fun _ => s_foundM 5 (by decide) q⟩, fun z => absurd b_x10 z⟩) (fun hn => absurd rfl (hn to ht))⟩) (fun hn => absurd rfl (hn r hr)))
theorem b_nn (s : Nat) (h : s < 2147483648) : ¬ nI s < 0 := nI_pos (by omega)
theorem m_copy_no (r to : Nat) (hr : r < 6) (ht : to < 6) (a1 a3 a4 : Int32) (h : 0 ≤ a4) (e : mu 29 0 r = -1 ∨ (mu 29 0 to = -1 ∧ ∃ s : Nat, s ≤ 40 ∧ mu 29 0 r = nI s)) (q : Q (-3) (fdM mu 1) la) : FnI E (d + 2) mi_141 [.inr (.inr (some (7, 0))), .inl (nI r), .inl a1, .inl (nI to), .inl a3, .inl a4] mu la Q := by
  refine vc_X7_copy (nI r) a1 (nI to) a3 a4 (s_isRow (nI r) (fun _ _ _ => ⟨fun z => absurd z b_x10, fun _ => s_isRow (nI to) (fun _ _ _ => ⟨fun _ => ⟨fun _ => ⟨b_in rfl hr (by decide), ?_⟩, fun z => absurd h z⟩, fun z => absurd b_x10 z⟩) (fun hn => absurd rfl (hn to ht))⟩) (fun hn => absurd rfl (hn r hr)))
  rw [b_cl (by omega), b_cl (by omega)]
  rcases e with e | ⟨e, s, hs, e2⟩
  · rw [e]
    exact ⟨fun _ => s_foundM 1 (by decide) q, fun z => absurd (show (-1 : Int32) < 0 by decide) z⟩
  · rw [e, e2]
    exact ⟨fun z => absurd z (b_nn s (by omega)), fun _ => ⟨b_in rfl ht (by decide), fun z => absurd z b_n1, fun _ => s_foundM 1 (by decide) q⟩⟩
/-- a place that is not there -/
theorem m_copy_out (r to : Nat) (hr : r < 6) (ht : to < 6) (a1 a3 : Int32) (n s u : Nat) (hn : n < 2147483648) (hs : s ≤ 40) (hu : u ≤ 40) (e : mu 29 0 r = nI s) (e2 : mu 29 0 to = nI u)
    (h : (a1 < 0 ∨ ∃ i : Nat, i < 2147483648 ∧ a1 = nI i ∧ s < i + n) ∨ (a3 < 0 ∨ ∃ i : Nat, i < 2147483648 ∧ a3 = nI i ∧ u < i + n)) (q : Q (-3) (fdM mu 2) la) : FnI E (d + 2) mi_141 [.inr (.inr (some (7, 0))), .inl (nI r), .inl a1, .inl (nI to), .inl a3, .inl (nI n)] mu la Q := by
  refine vc_X7_copy (nI r) a1 (nI to) a3 (nI n) (s_isRow (nI r) (fun _ _ _ => ⟨fun z => absurd z b_x10, fun _ => s_isRow (nI to) (fun _ _ _ => ⟨fun _ => ⟨fun _ => ⟨b_in rfl hr (by decide), ?_⟩, fun z => absurd (b_np n hn) z⟩, fun z => absurd b_x10 z⟩) (fun hn => absurd rfl (hn to ht))⟩) (fun hn => absurd rfl (hn r hr)))
  rw [b_cl (by omega), b_cl (by omega), e, e2]
  have qf := s_foundM (E := E) (d := d + 1) (mu := mu) (la := la) (Q := Q) 2 (by decide) q
  refine ⟨fun z => absurd z (b_nn s (by omega)), fun _ => ⟨b_in rfl ht (by decide), fun _ => ⟨fun _ => qf, fun h1 => ⟨fun _ => qf, fun h3 => ⟨b_in rfl hr (by decide), fun _ => qf, fun h5 => ⟨b_in rfl ht (by decide), fun h6 => ?_, fun _ => qf⟩⟩⟩⟩, fun z => absurd (b_np u (by omega)) z⟩⟩
  exfalso
  obtain ⟨i, hi, ei⟩ := nI_of h1
  obtain ⟨j, hj, ej⟩ := nI_of h3
  subst ei
  subst ej
  rw [lg_cmp_gt, nI_l (by omega), nI_l (by omega), nI_l (by omega), lN_add] at h5
  rw [lg_cmp_le, nI_l (by omega), nI_l (by omega), nI_l (by omega), lN_add, pk_lLE (by omega) (by omega)] at h6
  rcases h with (h | ⟨i', hi', ei', h⟩) | (h | ⟨i', hi', ei', h⟩)
  · exact absurd h (b_nn i (by omega))
  · have := (nI_eq (by omega) (by omega)).mp ei'
    subst this
    exact h5 ((pk_lLT (by omega) (by omega)).mpr h)
  · exact absurd h (b_nn j (by omega))
  · have := (nI_eq (by omega) (by omega)).mp ei'
    subst this
    omega
def cpM (mu : fMu) (S D n : Nat) : fMu := up2 mu 30 0 (fun x => if D ≤ x ∧ x < D + n then mu 30 0 (S + (x - D)) else mu 30 0 x)
theorem m_copy_ok (r to : Nat) (hr : r < 6) (ht : to < 6) (i j n s u : Nat) (hs : s ≤ 40) (hu : u ≤ 40) (e : mu 29 0 r = nI s) (e2 : mu 29 0 to = nI u) (hi : i + n ≤ s) (hj : j + n ≤ u) (q : Q 1 (cpM mu (40 * r + i) (40 * to + j) n) la) : FnI E (d + 2) mi_141 [.inr (.inr (some (7, 0))), .inl (nI r), .inl (nI i), .inl (nI to), .inl (nI j), .inl (nI n)] mu la Q := by
  refine vc_X7_copy (nI r) (nI i) (nI to) (nI j) (nI n) (s_isRow (nI r) (fun _ _ _ => ⟨fun z => absurd z b_x10, fun _ => s_isRow (nI to) (fun _ _ _ => ⟨fun _ => ⟨fun _ => ⟨b_in rfl hr (by decide), ?_⟩, fun z => absurd (b_np n (by omega)) z⟩, fun z => absurd b_x10 z⟩) (fun hn => absurd rfl (hn to ht))⟩) (fun hn => absurd rfl (hn r hr)))
  rw [b_cl (by omega), b_cl (by omega), e, e2]
  refine ⟨fun z => absurd z (b_nn s (by omega)), fun _ => ⟨b_in rfl ht (by decide), fun _ => ⟨fun z => absurd z (b_nn i (by omega)), fun _ => ⟨fun z => absurd z (b_nn j (by omega)), fun _ => ⟨b_in rfl hr (by decide), fun h5 => ?_, fun _ => ⟨b_in rfl ht (by decide), fun _ => ?_, fun h6 => ?_⟩⟩⟩⟩, fun z => absurd (b_np u (by omega)) z⟩⟩
  · rw [lg_cmp_gt, nI_l (by omega), nI_l (by omega), nI_l (by omega), lN_add, pk_lLT (by omega) (by omega)] at h5
    omega
  · by_cases hij : j ≤ i
    · have key : ∀ (z k : Nat), k + z = n → Ev E (d + 2) mi_141 62 [some (.inr (.inr (some (7, 0)))), some (.inl (nI r)), some (.inl (nI i)), some (.inl (nI to)), some (.inl (nI j)), some (.inl (nI n)), some (.inl (nI k)), none] [] (mem E (up2 mu 30 0 (fun x => if 40 * to + j ≤ x ∧ x < 40 * to + j + k then mu 30 0 (40 * r + i + (x - (40 * to + j))) else mu 30 0 x)) la) (qI E Q) := by
        intro z
        induction z with
        | zero =>
          intro k hk
          refine vc_X7_copy_62 0 (nI r) (nI i) (nI to) (nI j) (nI n) (nI k) ⟨fun _ => ?_, fun hc => absurd (nI_le (by omega) (by omega)) hc⟩
          rw [show k = n by omega]
          exact q
        | succ z ih =>
          intro k hk
          refine vc_X7_copy_62 0 (nI r) (nI i) (nI to) (nI j) (nI n) (nI k) ⟨fun hc => absurd hc (nI_ge (by omega) (by omega)), fun _ => ⟨fun _ => ?_, fun hc => absurd (nI_le hij (by omega)) hc⟩⟩
          rw [b_40, b_40, nI_add, nI_add, b_cl (by omega), b_cl (by omega)]
          refine ⟨b_in rfl (by omega) (by decide), b_in rfl (by omega) (by decide), ?_⟩
          rintro mu1 rfl
          rw [up3_up2, ← nI_succ]
          have h1 := ih (k + 1) (by omega)
          rw [up2_congr (g := fun x => if x = 40 * to + j + k then up2 mu 30 0 (fun x => if 40 * to + j ≤ x ∧ x < 40 * to + j + k then mu 30 0 (40 * r + i + (x - (40 * to + j))) else mu 30 0 x) 30 0 (40 * r + i + k) else if 40 * to + j ≤ x ∧ x < 40 * to + j + k then mu 30 0 (40 * r + i + (x - (40 * to + j))) else mu 30 0 x) _ 30 0 ?_] at h1
          · exact h1
          · intro x
            by_cases h1 : x = 40 * to + j + k
            · have hne : ¬ (40 * to + j ≤ 40 * r + i + k ∧ 40 * r + i + k < 40 * to + j + k) := by
                rintro ⟨z1, z2⟩
                rcases Nat.lt_trichotomy r to with z3 | z3 | z3 <;> omega
              have e9 : up2 mu 30 0 (fun x => if 40 * to + j ≤ x ∧ x < 40 * to + j + k then mu 30 0 (40 * r + i + (x - (40 * to + j))) else mu 30 0 x) 30 0 (40 * r + i + k) = mu 30 0 (40 * r + i + k) := by
                rw [up2_eq]
                exact if_neg hne
              rw [if_pos (by omega), if_pos h1, e9]
              congr 1
              omega
            · by_cases h2 : 40 * to + j ≤ x ∧ x < 40 * to + j + k
              · rw [if_pos (by omega), if_neg h1, if_pos h2]
              · rw [if_neg (by omega), if_neg h1, if_neg h2]
      have h0 := key n 0 (by omega)
      rw [up2_id _ 30 0 _ (fun x => if_neg (by omega))] at h0
      exact h0
    · have key : ∀ (z k : Nat), k + z = n → Ev E (d + 2) mi_141 62 [some (.inr (.inr (some (7, 0)))), some (.inl (nI r)), some (.inl (nI i)), some (.inl (nI to)), some (.inl (nI j)), some (.inl (nI n)), some (.inl (nI k)), none] [] (mem E (up2 mu 30 0 (fun x => if 40 * to + j + z ≤ x ∧ x < 40 * to + j + n then mu 30 0 (40 * r + i + (x - (40 * to + j))) else mu 30 0 x)) la) (qI E Q) := by
        intro z
        induction z with
        | zero =>
          intro k hk
          refine vc_X7_copy_62 0 (nI r) (nI i) (nI to) (nI j) (nI n) (nI k) ⟨fun _ => ?_, fun hc => absurd (nI_le (by omega) (by omega)) hc⟩
          exact q
        | succ z ih =>
          intro k hk
          refine vc_X7_copy_62 0 (nI r) (nI i) (nI to) (nI j) (nI n) (nI k) ⟨fun hc => absurd hc (nI_ge (by omega) (by omega)), fun _ => ⟨fun hc => absurd hc (nI_ge (by omega) (by omega)), fun _ => ?_⟩⟩
          rw [b_40, b_40, show (1 : Int32) = nI 1 from rfl, pk_sub (by omega), pk_sub (by omega), nI_add, nI_add, b_cl (by omega), b_cl (by omega), show n - 1 - k = z by omega]
          refine ⟨b_in rfl (by omega) (by decide), b_in rfl (by omega) (by decide), ?_⟩
          rintro mu1 rfl
          rw [up3_up2, nI_add]
          have h1 := ih (k + 1) (by omega)
          rw [up2_congr (g := fun x => if x = 40 * to + j + z then up2 mu 30 0 (fun x => if 40 * to + j + (z + 1) ≤ x ∧ x < 40 * to + j + n then mu 30 0 (40 * r + i + (x - (40 * to + j))) else mu 30 0 x) 30 0 (40 * r + i + z) else if 40 * to + j + (z + 1) ≤ x ∧ x < 40 * to + j + n then mu 30 0 (40 * r + i + (x - (40 * to + j))) else mu 30 0 x) _ 30 0 ?_] at h1
          · exact h1
          · intro x
            by_cases h1 : x = 40 * to + j + z
            · have hne : ¬ (40 * to + j + (z + 1) ≤ 40 * r + i + z ∧ 40 * r + i + z < 40 * to + j + n) := by
                rintro ⟨z1, z2⟩
                rcases Nat.lt_trichotomy r to with z3 | z3 | z3 <;> omega
              have e9 : up2 mu 30 0 (fun x => if 40 * to + j + (z + 1) ≤ x ∧ x < 40 * to + j + n then mu 30 0 (40 * r + i + (x - (40 * to + j))) else mu 30 0 x) 30 0 (40 * r + i + z) = mu 30 0 (40 * r + i + z) := by
                rw [up2_eq]
                exact if_neg hne
              rw [if_pos (by omega), if_pos h1, e9]
              congr 1
              omega
            · by_cases h2 : 40 * to + j + (z + 1) ≤ x ∧ x < 40 * to + j + n
              · rw [if_pos (by omega), if_neg h1, if_pos h2]
              · rw [if_neg (by omega), if_neg h1, if_neg h2]
      have h0 := key n 0 (by omega)
      rw [up2_id _ 30 0 _ (fun x => if_neg (by omega))] at h0
      exact h0
  · rw [lg_cmp_le, nI_l (by omega), nI_l (by omega), nI_l (by omega), lN_add, pk_lLE (by omega) (by omega)] at h6
    omega
theorem p_copy (hB : IBf IB) (h : Inv IB mu la) (a0 a1 a2 a3 a4 : Int32) : Pair IB E (d + 2) mi_54 mi_141 [.inl a0, .inl a1, .inl a2, .inl a3, .inl a4] mu la := by
  refine vc_X6_copy a0 a1 a2 a3 a4 (s_rowOf a0 (fun r hr e => s_rowOf a2 (fun to ht e2 => ⟨fun h0 => ?_, fun h0 => ?_⟩) (fun hn => m_copy_bad a0 a1 a2 a3 a4 (Or.inr hn) ⟨rfl, h⟩)) (fun hn => s_rowOf a2 (fun to ht e2 => m_copy_bad a0 a1 a2 a3 a4 (Or.inl hn) ⟨rfl, h⟩) (fun _ => m_copy_bad a0 a1 a2 a3 a4 (Or.inl hn) ⟨rfl, h⟩)))
  · subst e
    subst e2
    rcases ir_cases h.1 hr with ⟨f1, f2⟩ | ⟨s, hs, f1, f2, hv⟩
    · rw [f2]
      exact ⟨fun _ => s_foundX 1 (by decide) (m_copy_no r to hr ht a1 a3 a4 h0 (Or.inl f1) ⟨rfl, h.fd hB (by decide)⟩), fun z => absurd (show (-1 : Int32) < 0 by decide) z⟩
    · rw [f2]
      refine ⟨fun z => absurd z (b_nn s (by omega)), fun _ => ?_⟩
      rcases ir_cases h.1 ht with ⟨g1, g2⟩ | ⟨u, hu, g1, g2, gv⟩
      · rw [g2]
        exact ⟨fun z => absurd z b_n1, fun _ => s_foundX 1 (by decide) (m_copy_no r to hr ht a1 a3 a4 h0 (Or.inr ⟨g1, s, hs, f1⟩) ⟨rfl, h.fd hB (by decide)⟩)⟩
      · rw [g2]
        refine ⟨fun _ => ?_, fun z => absurd (b_np u (by omega)) z⟩
        obtain ⟨n, hn, en⟩ := nI_of (Int32.not_lt.mpr h0)
        subst en
        refine s_hasPlaces a1 n s (by omega) hs f2 (fun i ei hi => ⟨fun z => absurd z b_x10, fun _ => s_hasPlaces a3 n u (by omega) hu g2 (fun j ej hj => ⟨fun _ => ?_, fun z => absurd b_x10 z⟩) (fun hx => ⟨fun z => absurd rfl z, fun _ => s_foundX 2 (by decide) (m_copy_out r to hr ht a1 a3 n s u (by omega) hs hu f1 g1 (Or.inr hx) ⟨rfl, h.fd hB (by decide)⟩)⟩)⟩) (fun hx => ⟨fun _ => s_foundX 2 (by decide) (m_copy_out r to hr ht a1 a3 n s u (by omega) hs hu f1 g1 (Or.inl hx) ⟨rfl, h.fd hB (by decide)⟩), fun z => absurd rfl z⟩)
        subst ei
        subst ej
        rw [b_cl (by omega), b_cl (by omega), b_cl (by omega)]
        refine ⟨?_, ?_⟩
        · rintro (z | z | z | z | z)
          · exact b_nn n (by omega) z
          · exact b_nn i (by omega) z
          · exact b_nn j (by omega) z
          · omega
          · omega
        · rintro mu1 rfl
          refine m_copy_ok r to hr ht i j n s u hs hu f1 g1 hi hj ⟨rfl, ?_⟩
          obtain ⟨h1, h2, h3, h4⟩ := h
          refine ⟨fun x hx => ?_, h2.fr ((Fr.rf.u2 (fun _ => rfl)).u2 (fun _ => rfl)), h3.fr ((Fr.rf.u2 (fun _ => rfl)).u2 (fun _ => rfl)), hB _ _ ((Fr.rf.u2 (fun _ => rfl)).u2 (fun _ => rfl)) h4⟩
          obtain ⟨p1, p2⟩ := h1 x hx
          unfold cpM up2 va_cpy
          by_cases hxt : x = to
          · subst hxt
            simp only [true_and, and_true, if_true, reduceIte, Nat.reduceEqDiff, false_and, and_false, and_self]
            refine ⟨p1, Or.inr ⟨u, hu, g2, fun y hy => ?_⟩⟩
            by_cases hyj : j ≤ y ∧ y < j + n
            · rw [if_pos (by omega), if_pos hyj, show 40 * r + i + (40 * x + y - (40 * x + j)) = 40 * r + (i + (y - j)) by omega]
              exact hv _ (by omega)
            · rw [if_neg (by omega), if_neg hyj]
              exact gv y hy
          · simp only [hxt, true_and, and_true, if_true, reduceIte, Nat.reduceEqDiff, false_and, and_false, and_self]
            refine ⟨p1, ?_⟩
            rcases p2 with p2 | ⟨s', hs', e', p2⟩
            · exact Or.inl p2
            · refine Or.inr ⟨s', hs', e', fun y hy => ?_⟩
              rw [if_neg (by omega)]
              exact p2 y hy
  · subst e
    subst e2
    exact s_foundX 5 (by decide) (m_copy_neg r to hr ht a1 a3 a4 h0 ⟨rfl, h.fd hB (by decide)⟩)
end COPY
