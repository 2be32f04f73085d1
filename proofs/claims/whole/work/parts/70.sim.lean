/-! two runs whose references agree where they can be seen -/
abbrev gS : Type := Nat → Nat → Prop
abbrev fRh : Type := Nat → Nat → Nat → Option (Nat × Nat)
def gR (G : gS) (r : Option (Nat × Nat)) : Prop := match r with
  | some q => G q.1 q.2
  | none => True
def gV (G : gS) (v : mV) : Prop := match v with
  | .inr (.inr r) => gR G r
  | _ => True
def aG (G : gS) : List mV → Prop
  | [] => True
  | v :: l => gV G v ∧ aG G l
def gL (G : gS) (ls : List (Option mV)) : Prop := ∀ (k : Nat) (v : mV), nth ls k = some (some v) → gV G v
def bnd (k : Nat) : Nat := match nth mKs k with
  | some (.inl _) => mNf k
  | some (.inr (.object _, n)) => n
  | _ => 0
def RelR (G : gS) (ra rc : fRh) : Prop := ∀ k i, G k i → ∀ j, j < bnd k → ra k i j = rc k i j ∧ gR G (rc k i j)
theorem gR.le {G G' : gS} (h : ∀ k i, G k i → G' k i) {r : Option (Nat × Nat)} (g : gR G r) : gR G' r := by
  cases r with
  | none => trivial
  | some q => exact h _ _ g
theorem gV.le {G G' : gS} (h : ∀ k i, G k i → G' k i) {v : mV} (g : gV G v) : gV G' v := by
  rcases v with x | x | r
  · trivial
  · trivial
  · exact gR.le h g
theorem aG.le {G G' : gS} (h : ∀ k i, G k i → G' k i) {st : List mV} (g : aG G st) : aG G' st := by
  induction st with
  | nil => trivial
  | cons v l ih => exact ⟨gV.le h g.1, ih g.2⟩
theorem gL.le {G G' : gS} (h : ∀ k i, G k i → G' k i) {ls : List (Option mV)} (g : gL G ls) : gL G' ls := fun k v e => gV.le h (g k v e)
theorem gL.s1 {G : gS} {ls : List (Option mV)} (g : gL G ls) {n : Nat} {v : mV} (hv : gV G v) : gL G (lst1 ls n v) := by
  intro k w e
  unfold lst1 at e
  rw [nth_set] at e
  split at e
  · cases e; exact hv
  · exact g k w (lkill_nth e).1
theorem gL.s2 {G : gS} {ls : List (Option mV)} (g : gL G ls) {n : Nat} {v : mV} (hv : gV G v) : gL G (lst2 ls n v) := by
  intro k w e
  unfold lst2 at e
  rw [nth_set] at e
  split at e
  · cases e
  · rw [nth_set] at e
    split at e
    · cases e; exact hv
    · exact g k w (lkill_nth e).1
theorem bnd_obj : ∀ ci : Nat, ci < 8 → bnd ci = mNf ci := by decide +kernel
def SimE (G : gS) (L' : Nat) (xs' : Nat → Int32) (i : Instr) (v : Value) (ip : Nat) (ls : List (Option mV)) (st : List mV) (cs : List (Nat × Nat)) (ra : fRh) (mu : fMu) (la : fLa) (ip' : Nat) (ls' : List (Option mV)) (st' : List mV) (M' : mM) : Prop :=
  ∃ (G' : gS) (ra' : fRh) (cs' : List (Nat × Nat)) (rc' : fRh) (mu' : fMu) (la' : fLa), M' = (cs', rc', mu', la') ∧ mstep L' xs' i v ip ls st (cs, ra, mu, la) = some (ip', ls', st', (cs', ra', mu', la')) ∧ (∀ k i, G k i → G' k i) ∧ ((∀ i, ¬ G 100 i) → ∀ i, ¬ G' 100 i) ∧ RelR G' ra' rc' ∧ (∀ c ∈ cs', G' c.1 c.2) ∧ gL G' ls' ∧ aG G' st'
section SIM
variable {L L' : Nat} {xs xs' : Nat → Int32} {v : Value} {ip ip' : Nat} {ls ls' : List (Option mV)} {st st' : List mV} {cs : List (Nat × Nat)} {ra rc : fRh} {mu : fMu} {la : fLa} {M' : mM} {G : gS}
theorem RelR.put (hR : RelR G ra rc) {k i j : Nat} {r : Option (Nat × Nat)} (hr : gR G r) : RelR G (up3 ra k i j r) (up3 rc k i j r) := by
  intro k' i' hg j' hj
  unfold up3
  split
  · exact ⟨rfl, hr⟩
  · exact hR k' i' hg j' hj
theorem RelR.new (hR : RelR G ra rc) {k i : Nat} : RelR (fun k' i' => G k' i' ∨ (k' = k ∧ i' = i)) (up2 ra k i (fun _ => none)) (up2 rc k i (fun _ => none)) := by
  intro k' i' hg j' hj
  unfold up2
  split
  · exact ⟨rfl, trivial⟩
  · rename_i hc
    rcases hg with hg | hg
    · obtain ⟨h1, h2⟩ := hR k' i' hg j' hj
      exact ⟨h1, gR.le (fun _ _ h => Or.inl h) h2⟩
    · exact absurd hg hc
theorem sim_step {i : Instr} (hL : (L = L' ∧ xs = xs') ∨ (∀ i, ¬ G 100 i)) (hG : G 101 0) (hj : ∀ ci j, (i = .invokeinterface ci j ∨ i = .multianewarray ci j) → ci < 8 ∧ j < mNf ci) (hR : RelR G ra rc) (hM : ∀ c ∈ cs, G c.1 c.2) (hl : gL G ls) (hs : aG G st) : mstep L xs i v ip ls st (cs, rc, mu, la) = some (ip', ls', st', M') → SimE G L' xs' i v ip ls st cs ra mu la ip' ls' st' M' := by
  cases i
  case iload n =>
    intro h
    unfold mstep at h
    dsimp only at h
    split at h
    · rename_i x hx
      cases h
      refine ⟨G, ra, _, _, _, _, rfl, ?_, fun _ _ h => h, fun h => h, hR, hM, hl, trivial, hs⟩
      unfold mstep
      dsimp only
      rw [hx]
    · cases h
  case lload n =>
    intro h
    unfold mstep at h
    dsimp only at h
    split at h
    · rename_i x hx
      cases h
      refine ⟨G, ra, _, _, _, _, rfl, ?_, fun _ _ h => h, fun h => h, hR, hM, hl, trivial, hs⟩
      unfold mstep
      dsimp only
      rw [hx]
    · cases h
  case aload n =>
    intro h
    unfold mstep at h
    dsimp only at h
    split at h
    · rename_i x hx
      cases h
      refine ⟨G, ra, _, _, _, _, rfl, ?_, fun _ _ h => h, fun h => h, hR, hM, hl, hl n _ hx, hs⟩
      unfold mstep
      dsimp only
      rw [hx]
    · cases h
  case iinc n z =>
    intro h
    unfold mstep at h
    dsimp only at h
    split at h
    · rename_i y x hx
      cases h
      refine ⟨G, ra, _, _, _, _, rfl, ?_, fun _ _ h => h, fun h => h, hR, hM, hl.s1 trivial, hs⟩
      unfold mstep
      dsimp only
      rw [hx]
    · cases h
  case istore n =>
    unfold mstep
    dsimp only
    split
    · intro h
      cases h
      exact ⟨G, ra, _, _, _, _, rfl, rfl, fun _ _ h => h, fun h => h, hR, hM, hl.s1 trivial, hs.2⟩
    · intro h; cases h
  case astore n =>
    unfold mstep
    dsimp only
    split
    · intro h
      cases h
      exact ⟨G, ra, _, _, _, _, rfl, rfl, fun _ _ h => h, fun h => h, hR, hM, hl.s1 hs.1, hs.2⟩
    · intro h; cases h
  case lstore n =>
    unfold mstep
    dsimp only
    split
    · intro h
      cases h
      exact ⟨G, ra, _, _, _, _, rfl, rfl, fun _ _ h => h, fun h => h, hR, hM, hl.s2 trivial, hs.2⟩
    · intro h; cases h
  case getstatic n =>
    unfold mstep
    dsimp only
    intro h
    cases h
    exact ⟨G, ra, _, _, _, _, rfl, rfl, fun _ _ h => h, fun h => h, hR, hM, hl, hG, hs⟩
  case invokeinterface ci j =>
    obtain ⟨hc, hjn⟩ := hj ci j (Or.inl rfl)
    intro h
    unfold mstep at h
    dsimp only at h
    split at h
    · rename_i k i0 st0
      have hg : G k i0 := hs.1
      split at h
      · rename_i hk
        subst hk
        have hr := hR k i0 hg j (by rw [bnd_obj k hc]; exact hjn)
        split at h
        · rename_i ht
          cases h
          refine ⟨G, ra, _, _, _, _, rfl, ?_, fun _ _ h => h, fun h => h, hR, hM, hl, trivial, hs.2⟩
          unfold mstep
          dsimp only
          rw [if_pos rfl, ht]
        · rename_i ht
          cases h
          refine ⟨G, ra, _, _, _, _, rfl, ?_, fun _ _ h => h, fun h => h, hR, hM, hl, trivial, hs.2⟩
          unfold mstep
          dsimp only
          rw [if_pos rfl, ht]
        · rename_i ht
          cases h
          refine ⟨G, ra, _, _, _, _, rfl, ?_, fun _ _ h => h, fun h => h, hR, hM, hl, trivial, hs.2⟩
          unfold mstep
          dsimp only
          rw [if_pos rfl, ht]
        · rename_i ht
          cases h
          refine ⟨G, ra, _, _, _, _, rfl, ?_, fun _ _ h => h, fun h => h, hR, hM, hl, hr.2, hs.2⟩
          unfold mstep
          dsimp only
          rw [if_pos rfl, ht]
          dsimp only
          rw [hr.1]
        · rename_i ht
          cases h
          refine ⟨G, ra, _, _, _, _, rfl, ?_, fun _ _ h => h, fun h => h, hR, hM, hl, hr.2, hs.2⟩
          unfold mstep
          dsimp only
          rw [if_pos rfl, ht]
          dsimp only
          rw [hr.1]
        · cases h
      · cases h
    · cases h
  case multianewarray ci j =>
    unfold mstep
    dsimp only
    repeat' split
    all_goals (intro h; first | (cases h; done) | skip)
    · cases h
      exact ⟨G, ra, _, _, _, _, rfl, by simp [mstep, *], fun _ _ h => h, fun h => h, hR, hM, hl, hs.2.2⟩
    · cases h
      exact ⟨G, ra, _, _, _, _, rfl, by simp [mstep, *], fun _ _ h => h, fun h => h, hR, hM, hl, hs.2.2⟩
    · cases h
      exact ⟨G, ra, _, _, _, _, rfl, by simp [mstep, *], fun _ _ h => h, fun h => h, hR, hM, hl, hs.2.2⟩
    · cases h
      exact ⟨G, _, _, _, _, _, rfl, by simp [mstep, *], fun _ _ h => h, fun h => h, hR.put hs.1, hM, hl, hs.2.2⟩
    · cases h
      exact ⟨G, _, _, _, _, _, rfl, by simp [mstep, *], fun _ _ h => h, fun h => h, hR.put hs.1, hM, hl, hs.2.2⟩
  case iaload =>
    unfold mstep
    dsimp only
    repeat' split
    all_goals (intro h; first | (cases h; done) | skip)
    · rename_i x k i0 st0 hk hx
      cases h
      subst hk
      rcases hL with ⟨rfl, rfl⟩ | hL
      · refine ⟨G, ra, _, _, _, _, rfl, ?_, fun _ _ h => h, fun h => h, hR, hM, hl, trivial, hs.2.2⟩
        unfold mstep
        dsimp only
        rw [if_pos rfl, if_neg hx]
      · exact absurd hs.2.1 (hL i0)
    · cases h
      exact ⟨G, ra, _, _, _, _, rfl, by simp [mstep, *], fun _ _ h => h, fun h => h, hR, hM, hl, trivial, hs.2.2⟩
  case arraylength =>
    unfold mstep
    dsimp only
    repeat' split
    all_goals (intro h; first | (cases h; done) | skip)
    · rename_i k i0 st0 hk
      cases h
      subst hk
      rcases hL with ⟨rfl, rfl⟩ | hL
      · exact ⟨G, ra, _, _, _, _, rfl, rfl, fun _ _ h => h, fun h => h, hR, hM, hl, trivial, hs.2⟩
      · exact absurd hs.1 (hL i0)
    · cases h
      exact ⟨G, ra, _, _, _, _, rfl, by simp [mstep, *], fun _ _ h => h, fun h => h, hR, hM, hl, trivial, hs.2⟩
  case aaload =>
    unfold mstep
    dsimp only
    repeat' split
    all_goals (intro h; first | (cases h; done) | skip)
    · rename_i x k i0 st0 oo C n hk hx
      cases h
      have hb : bnd k = n := by unfold bnd; rw [hk]
      have hlt : x.toNatClampNeg < bnd k := by
        rw [hb]
        rcases Nat.lt_or_ge x.toNatClampNeg n with z | z
        · exact z
        · exact absurd (Or.inr z) hx
      have hr := hR k i0 hs.2.1 _ hlt
      refine ⟨G, ra, _, _, _, _, rfl, ?_, fun _ _ h => h, fun h => h, hR, hM, hl, hr.2, hs.2.2⟩
      unfold mstep
      dsimp only
      rw [hk]
      dsimp only
      rw [if_neg hx, hr.1]
  case aastore =>
    unfold mstep
    dsimp only
    repeat' split
    all_goals (intro h; first | (cases h; done) | skip)
    · rename_i k2 i2 x k i0 st0 hel oo C n hk hx
      cases h
      refine ⟨G, _, _, _, _, _, rfl, ?_, fun _ _ h => h, fun h => h, hR.put (r := some (k2, i2)) hs.1, hM, hl, hs.2.2.2⟩
      unfold mstep
      dsimp only
      rw [if_pos hel, hk]
      dsimp only
      rw [if_neg hx]
  case anewarray k =>
    unfold mstep
    dsimp only
    repeat' split
    all_goals (intro h; first | (cases h; done) | skip)
    · rename_i x st0 ty n hk hx
      cases h
      have hk100 : k ≠ 100 := by
        rintro rfl
        cases hk
      refine ⟨fun k' i' => G k' i' ∨ (k' = k ∧ i' = mCnt cs k), _, _, _, _, _, rfl, ?_, fun _ _ h => Or.inl h, fun h i hi => ?_, hR.new, fun c hc => ?_, hl.le (fun _ _ h => Or.inl h), Or.inr ⟨rfl, rfl⟩, aG.le (fun _ _ h => Or.inl h) hs.2⟩
      · unfold mstep
        dsimp only
        rw [hk]
        dsimp only
        rw [if_neg hx]
      · rcases hi with hi | hi
        · exact h i hi
        · exact hk100 hi.1.symm
      · rcases List.mem_append.mp hc with hc | hc
        · exact Or.inl (hM c hc)
        · have : c = (k, mCnt cs k) := by simpa using hc
          rw [this]
          exact Or.inr ⟨rfl, rfl⟩
  case new k =>
    unfold mstep
    dsimp only
    repeat' split
    all_goals (intro h; first | (cases h; done) | skip)
    · rename_i z hk hx
      cases h
      have hk100 : k ≠ 100 := by
        rintro rfl
        cases hk
      refine ⟨fun k' i' => G k' i' ∨ (k' = k ∧ i' = mCnt cs k), _, _, _, _, _, rfl, ?_, fun _ _ h => Or.inl h, fun h i hi => ?_, hR.new, fun c hc => ?_, hl.le (fun _ _ h => Or.inl h), Or.inr ⟨rfl, rfl⟩, aG.le (fun _ _ h => Or.inl h) hs⟩
      · unfold mstep
        dsimp only
        rw [hk]
        dsimp only
        rw [if_neg hx]
      · rcases hi with hi | hi
        · exact h i hi
        · exact hk100 hi.1.symm
      · rcases List.mem_append.mp hc with hc | hc
        · exact Or.inl (hM c hc)
        · have : c = (k, mCnt cs k) := by simpa using hc
          rw [this]
          exact Or.inr ⟨rfl, rfl⟩
  all_goals (unfold mstep; dsimp only)
  all_goals (repeat' split)
  all_goals (intro h; first | (cases h; done) | (cases h; refine ⟨G, ra, _, _, _, _, rfl, ?_, fun _ _ h => h, fun h => h, hR, hM, hl, ?_⟩))
  all_goals (first | exact hs | exact hs.2 | exact hs.2.2 | exact hs.2.2.2 | exact ⟨trivial, hs⟩ | exact ⟨trivial, hs.2⟩ | exact ⟨trivial, hs.2.2⟩ | exact ⟨trivial, trivial, hs.2⟩ | exact ⟨hs.1, hs.1, hs.2⟩ | exact ⟨trivial, hs.2.1, trivial, hs.2.1, hs.2.2⟩ | exact hs.2.2.2.2.2 | rfl | (simp [mstep, *]; done))
end SIM
