/-! LINEAR ALGEBRA over Fin p: leads, tails, ranks -/
abbrev fV (p : Nat) : Type := Nat → Fin p
def fOk {p : Nat} [NeZero p] (W : Nat) (v : fV p) : Prop := ∀ i, W ≤ i → v i = 0
def fAx {p : Nat} [NeZero p] (u : fV p) (c : Fin p) (v : fV p) : fV p := fun i => u i + c * v i
def fZ {p : Nat} [NeZero p] : fV p := fun _ => 0
/-- each number but 0 has an inverse -/
def fInv (p : Nat) [NeZero p] : Prop := (1 : Fin p) ≠ 0 ∧ ∀ a : Fin p, a ≠ 0 → ∃ b : Fin p, a * b = 1
def fSub {p : Nat} [NeZero p] (W : Nat) (V : fV p → Prop) : Prop := (∀ v, V v → fOk W v) ∧ V fZ ∧ ∀ (u v : fV p) (c : Fin p), V u → V v → V (fAx u c v)
def fLead {p : Nat} [NeZero p] (V : fV p → Prop) (i : Nat) : Prop := ∃ v, V v ∧ v i ≠ 0 ∧ ∀ j, j < i → v j = 0
def fTail {p : Nat} [NeZero p] (V : fV p → Prop) (i : Nat) : Prop := ∃ v, V v ∧ v i ≠ 0 ∧ ∀ j, i < j → v j = 0
theorem fInv2 : fInv 2 := by unfold fInv; decide
theorem fInv3 : fInv 3 := by unfold fInv; decide
theorem fInv5 : fInv 5 := by unfold fInv; decide
theorem fMul {p : Nat} [NeZero p] (hI : fInv p) {a b : Fin p} (ha : a ≠ 0) (hb : b ≠ 0) : a * b ≠ 0 := by
  intro h
  obtain ⟨c, hc⟩ := hI.2 a ha
  apply hb
  have : b = (a * c) * b := by rw [hc]; grind
  grind
theorem fElim {p : Nat} [NeZero p] (hI : fInv p) (a : Fin p) {b : Fin p} (hb : b ≠ 0) : ∃ c : Fin p, a + c * b = 0 := by
  obtain ⟨d, hd⟩ := hI.2 b hb
  exact ⟨-(a * d), by grind⟩
theorem fLead_lt {p W : Nat} [NeZero p] {V : fV p → Prop} (hV : fSub W V) {i : Nat} (h : fLead V i) : i < W := by
  obtain ⟨v, h1, h2, -⟩ := h
  exact Nat.not_le.mp fun q => h2 (hV.1 v h1 i q)
theorem fTail_lt {p W : Nat} [NeZero p] {V : fV p → Prop} (hV : fSub W V) {i : Nat} (h : fTail V i) : i < W := by
  obtain ⟨v, h1, h2, -⟩ := h
  exact Nat.not_le.mp fun q => h2 (hV.1 v h1 i q)
/-- the first and the last place that is not 0 -/
theorem fFirst {p : Nat} [NeZero p] {v : fV p} {i : Nat} (h : v i ≠ 0) : ∃ t, t ≤ i ∧ v t ≠ 0 ∧ ∀ j, j < t → v j = 0 := by
  obtain ⟨t, h1, h2⟩ := nLeast (P := fun t => v t ≠ 0) ⟨i, h⟩
  exact ⟨t, Nat.not_lt.mp fun q => h2 i q h, h1, fun j hj => Classical.byContradiction fun q => h2 j hj q⟩
theorem fLast {p W : Nat} [NeZero p] {v : fV p} (hW : fOk W v) {i : Nat} (h : v i ≠ 0) : ∃ t, i ≤ t ∧ t < W ∧ v t ≠ 0 ∧ ∀ j, t < j → v j = 0 := by
  have hiW : i < W := Nat.not_le.mp fun q => h (hW i q)
  obtain ⟨k, ⟨h1, h0⟩, h2⟩ := nLeast (P := fun k => v (W - k) ≠ 0 ∧ k ≤ W) ⟨W - i, by rw [show W - (W - i) = i by omega]; exact h, by omega⟩
  refine ⟨W - k, ?_, ?_, h1, fun j hj => ?_⟩
  · exact Nat.not_lt.mp fun q => h2 (W - i) (by omega) ⟨by rw [show W - (W - i) = i by omega]; exact h, by omega⟩
  · have : k ≠ 0 := fun q => h1 (hW _ (by omega))
    omega
  · refine Classical.byContradiction fun q => ?_
    have hj2 : j < W := Nat.not_le.mp fun z => q (hW j z)
    exact h2 (W - j) (by omega) ⟨by rw [show W - (W - j) = j by omega]; exact q, by omega⟩
/-- as many leads as tails -/
theorem fLT_le {p W : Nat} [NeZero p] (hI : fInv p) {V : fV p → Prop} (hV : fSub W V) : nC (fLead V) W ≤ nC (fTail V) W := by
  have key : ∀ i, ∃ t, fLead V i → ((∃ v, V v ∧ v i ≠ 0 ∧ (∀ j, j < i → v j = 0) ∧ v t ≠ 0 ∧ ∀ j, t < j → v j = 0) ∧ ∀ t', t' < t → ¬ ∃ v, V v ∧ v i ≠ 0 ∧ (∀ j, j < i → v j = 0) ∧ v t' ≠ 0 ∧ ∀ j, t' < j → v j = 0) := by
    intro i
    by_cases h : fLead V i
    · obtain ⟨v, h1, h2, h3⟩ := h
      obtain ⟨t, -, -, h5, h6⟩ := fLast (hV.1 v h1) h2
      obtain ⟨t, h7, h8⟩ := nLeast (P := fun t => ∃ v, V v ∧ v i ≠ 0 ∧ (∀ j, j < i → v j = 0) ∧ v t ≠ 0 ∧ ∀ j, t < j → v j = 0) ⟨t, v, h1, h2, h3, h5, h6⟩
      exact ⟨t, fun _ => ⟨h7, h8⟩⟩
    · exact ⟨0, fun q => absurd q h⟩
  have hne : ∀ i i' t, i < i' → (∃ v, V v ∧ v i ≠ 0 ∧ (∀ j, j < i → v j = 0) ∧ v t ≠ 0 ∧ ∀ j, t < j → v j = 0) → (∀ t', t' < t → ¬ ∃ v, V v ∧ v i ≠ 0 ∧ (∀ j, j < i → v j = 0) ∧ v t' ≠ 0 ∧ ∀ j, t' < j → v j = 0) → (∃ v, V v ∧ v i' ≠ 0 ∧ (∀ j, j < i' → v j = 0) ∧ v t ≠ 0 ∧ ∀ j, t < j → v j = 0) → False := by
    rintro i i' t hii ⟨v, a1, a2, a3, a4, a5⟩ hmin ⟨v', b1, b2, b3, b4, b5⟩
    obtain ⟨c, hc⟩ := fElim hI (v t) b4
    have hu : V (fAx v c v') := hV.2.2 v v' c a1 b1
    have hui : (fAx v c v') i ≠ 0 := by
      show v i + c * v' i ≠ 0
      rw [b3 i hii]; grind
    obtain ⟨t', c1, c2, c3, c4⟩ := fLast (hV.1 _ hu) hui
    refine hmin t' ?_ ⟨_, hu, hui, fun j hj => ?_, c3, c4⟩
    · refine Nat.not_le.mp fun q => c3 ?_
      show v t' + c * v' t' = 0
      rcases Nat.eq_or_lt_of_le q with e | e
      · rw [← e]; exact hc
      · rw [a5 t' e, b5 t' e]; grind
    · show v j + c * v' j = 0
      rw [a3 j hj, b3 j (by omega)]; grind
  refine nC_inj (fun i => Classical.choose (key i)) (fun i hi hl => ?_) (fun i i' _ _ hl hl' he => ?_)
  · obtain ⟨⟨v, h1, h2, h3, h4, h5⟩, -⟩ := Classical.choose_spec (key i) hl
    have ht : fTail V (Classical.choose (key i)) := ⟨v, h1, h4, h5⟩
    exact ⟨fTail_lt hV ht, ht⟩
  · have s1 := Classical.choose_spec (key i) hl
    have s2 := Classical.choose_spec (key i') hl'
    rcases Nat.lt_trichotomy i i' with q | q | q
    · exact (hne i i' _ q s1.1 s1.2 (by rw [he]; exact s2.1)).elim
    · exact q
    · exact (hne i' i _ q s2.1 s2.2 (by rw [← he]; exact s1.1)).elim
/-- a space read backwards -/
def fRev {p : Nat} [NeZero p] (W : Nat) (V : fV p → Prop) (u : fV p) : Prop := fOk W u ∧ ∃ v, V v ∧ ∀ i, i < W → u i = v (W - 1 - i)
theorem fRev_sub {p W : Nat} [NeZero p] {V : fV p → Prop} (hV : fSub W V) : fSub W (fRev W V) := by
  refine ⟨fun v h => h.1, ⟨fun i _ => rfl, fZ, hV.2.1, fun i _ => rfl⟩, ?_⟩
  rintro u v c ⟨h1, a, h2, h3⟩ ⟨h4, b, h5, h6⟩
  refine ⟨fun i hi => ?_, fAx a c b, hV.2.2 a b c h2 h5, fun i hi => ?_⟩
  · show u i + c * v i = 0
    rw [h1 i hi, h4 i hi]; grind
  · show u i + c * v i = a _ + c * b _
    rw [h3 i hi, h6 i hi]
theorem fRev_of {p W : Nat} [NeZero p] {V : fV p → Prop} (hV : fSub W V) {v : fV p} (hv : V v) : fRev W V (fun i => if i < W then v (W - 1 - i) else 0) :=
  ⟨fun i hi => by simp [Nat.not_lt.mpr hi], v, hv, fun i hi => by simp [hi]⟩
theorem fRev_lead {p W : Nat} [NeZero p] {V : fV p → Prop} (hV : fSub W V) {i : Nat} (hi : i < W) : fLead (fRev W V) i ↔ fTail V (W - 1 - i) := by
  constructor
  · rintro ⟨u, ⟨h1, v, h2, h3⟩, h4, h5⟩
    refine ⟨v, h2, by rw [← h3 i hi]; exact h4, fun j hj => ?_⟩
    rcases Nat.lt_or_ge j W with q | q
    · have := h5 (W - 1 - j) (by omega)
      rw [h3 _ (by omega), show W - 1 - (W - 1 - j) = j by omega] at this
      exact this
    · exact hV.1 v h2 j q
  · rintro ⟨v, h1, h2, h3⟩
    refine ⟨_, fRev_of hV h1, by simp [hi]; exact h2, fun j hj => ?_⟩
    simp [show j < W by omega]
    exact h3 _ (by omega)
theorem fRev_tail {p W : Nat} [NeZero p] {V : fV p → Prop} (hV : fSub W V) {i : Nat} (hi : i < W) : fTail (fRev W V) i ↔ fLead V (W - 1 - i) := by
  constructor
  · rintro ⟨u, ⟨h1, v, h2, h3⟩, h4, h5⟩
    refine ⟨v, h2, by rw [← h3 i hi]; exact h4, fun j hj => ?_⟩
    have := h5 (W - 1 - j) (by omega)
    rw [h3 _ (by omega), show W - 1 - (W - 1 - j) = j by omega] at this
    exact this
  · rintro ⟨v, h1, h2, h3⟩
    refine ⟨_, fRev_of hV h1, by simp [hi]; exact h2, fun j hj => ?_⟩
    rcases Nat.lt_or_ge j W with q | q
    · simp [q]
      exact h3 _ (by omega)
    · simp [Nat.not_lt.mpr q]
theorem fLT {p W : Nat} [NeZero p] (hI : fInv p) {V : fV p → Prop} (hV : fSub W V) : nC (fLead V) W = nC (fTail V) W := by
  refine Nat.le_antisymm (fLT_le hI hV) ?_
  have h := fLT_le hI (fRev_sub hV)
  have e1 : nC (fTail V) W ≤ nC (fLead (fRev W V)) W := by
    refine nC_inj (fun i => W - 1 - i) (fun i hi hp => ⟨by omega, ?_⟩) (fun i j hi hj _ _ he => by omega)
    rw [fRev_lead hV (by omega), show W - 1 - (W - 1 - i) = i by omega]
    exact hp
  have e2 : nC (fTail (fRev W V)) W ≤ nC (fLead V) W := by
    refine nC_inj (fun i => W - 1 - i) (fun i hi hp => ⟨by omega, ?_⟩) (fun i j hi hj _ _ he => by omega)
    exact (fRev_tail hV hi).mp hp
  omega
