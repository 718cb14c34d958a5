/-! ROWS THAT LEAD AT PLACES OF THEIR OWN; spans; what is orthogonal -/
def fSpn {p : Nat} [NeZero p] (W : Nat) (Gn : fV p → Prop) (v : fV p) : Prop := ∀ V : fV p → Prop, fSub W V → (∀ g, Gn g → V g) → V v
theorem fSpn_sub {p W : Nat} [NeZero p] {Gn : fV p → Prop} (h : ∀ g, Gn g → fOk W g) : fSub W (fSpn W Gn) := by
  refine ⟨fun v hv => ?_, fun V hV _ => hV.2.1, fun u v c hu hv V hV hg => hV.2.2 u v c (hu V hV hg) (hv V hV hg)⟩
  refine hv (fOk W) ⟨fun _ h => h, fun i _ => rfl, fun u v c hu hv i hi => ?_⟩ h
  show u i + c * v i = 0
  rw [hu i hi, hv i hi]; grind
theorem fSpn_of {p W : Nat} [NeZero p] {Gn : fV p → Prop} {g : fV p} (h : Gn g) : fSpn W Gn g := fun V _ hg => hg g h
theorem fSpn_mono {p W : Nat} [NeZero p] {G1 G2 : fV p → Prop} (h1 : ∀ g, G2 g → fOk W g) (h : ∀ g, G1 g → fSpn W G2 g) {v : fV p} (hv : fSpn W G1 v) : fSpn W G2 v := hv _ (fSpn_sub h1) h
theorem fSub.smul {p W : Nat} [NeZero p] {V : fV p → Prop} (hV : fSub W V) (c : Fin p) {v : fV p} (hv : V v) : V (fun i => c * v i) := by
  have h := hV.2.2 fZ v c hV.2.1 hv
  have e : fAx fZ c v = fun i => c * v i := by funext i; show (0 : Fin p) + c * v i = c * v i; grind
  rw [e] at h; exact h
theorem fSub.add {p W : Nat} [NeZero p] {V : fV p → Prop} (hV : fSub W V) {u v : fV p} (hu : V u) (hv : V v) : V (fun i => u i + v i) := by
  have h := hV.2.2 u v 1 hu hv
  have e : fAx u 1 v = fun i => u i + v i := by funext i; show u i + 1 * v i = _; grind
  rw [e] at h; exact h
theorem fSub.sub {p W : Nat} [NeZero p] {V : fV p → Prop} (hV : fSub W V) {u v : fV p} (hu : V u) (hv : V v) : V (fun i => u i - v i) := by
  have h := hV.2.2 u v (-1) hu hv
  have e : fAx u (-1) v = fun i => u i - v i := by funext i; show u i + -1 * v i = _; grind
  rw [e] at h; exact h
/-- rows in a space, each with a lead of its own; what is 0 at all leads is 0 -/
def fEch {p : Nat} [NeZero p] (V : fV p → Prop) (k : Nat) (R : Nat → fV p) (l : Nat → Nat) : Prop :=
  (∀ s, s < k → V (R s) ∧ R s (l s) ≠ 0 ∧ ∀ j, j < l s → R s j = 0) ∧ (∀ s t, s < k → t < k → l s = l t → s = t) ∧ ∀ v, V v → (∀ s, s < k → v (l s) = 0) → v = fZ
/-- taken from so much of the rows that it is 0 at all leads; the places up to one that is no lead, ahead of which it was 0, stay -/
theorem fRed {p W : Nat} [NeZero p] (hI : fInv p) {V : fV p → Prop} (hV : fSub W V) {k : Nat} {R : Nat → fV p} {l : Nat → Nat} (hR : ∀ s, s < k → V (R s) ∧ R s (l s) ≠ 0 ∧ ∀ j, j < l s → R s j = 0) (U : fV p → Prop) (hU : fSub W U) (hVU : ∀ v, V v → U v) {v : fV p} (hv : U v) :
    ∀ n, ∃ u, U u ∧ V (fun i => u i - v i) ∧ (∀ s, s < k → l s < n → u (l s) = 0) ∧ ∀ i, (∀ j, j ≤ i → (∃ s, s < k ∧ l s = j) → v j = 0) → ∀ j, j ≤ i → u j = v j := by
  intro n
  induction n with
  | zero =>
    refine ⟨v, hv, ?_, fun s _ h => by omega, fun i _ j _ => rfl⟩
    have e : (fun i => v i - v i) = (fZ : fV p) := by funext i; show v i - v i = 0; grind
    rw [e]; exact hV.2.1
  | succ n ih =>
    obtain ⟨u, h1, h2, h3, h4⟩ := ih
    by_cases hl : ∃ s, s < k ∧ l s = n
    · obtain ⟨s, hs, rfl⟩ := hl
      obtain ⟨r1, r2, r3⟩ := hR s hs
      obtain ⟨c, hc⟩ := fElim hI (u (l s)) r2
      refine ⟨fAx u c (R s), hU.2.2 u (R s) c h1 (hVU _ r1), ?_, fun t ht hlt => ?_, fun i hi j hj => ?_⟩
      · have := hV.2.2 _ (R s) c h2 r1
        have e : fAx (fun i => u i - v i) c (R s) = fun i => fAx u c (R s) i - v i := by
          funext i; show u i - v i + c * R s i = u i + c * R s i - v i; grind
        rw [e] at this; exact this
      · rcases Nat.lt_or_ge (l t) (l s) with q | q
        · show u (l t) + c * R s (l t) = 0
          rw [h3 t ht q, r3 _ q]; grind
        · rw [show l t = l s by omega]; exact hc
      · show u j + c * R s j = v j
        rcases Nat.lt_or_ge j (l s) with q | q
        · rw [r3 j q, h4 i hi j hj]; grind
        · have e0 : v (l s) = 0 := hi (l s) (by omega) ⟨s, hs, rfl⟩
          have e1 : u (l s) = 0 := by rw [h4 i hi (l s) (by omega)]; exact e0
          rw [e1] at hc
          have hc0 : c = 0 := Classical.byContradiction fun q => fMul hI q r2 (by grind)
          rw [hc0, h4 i hi j hj]; grind
    · refine ⟨u, h1, h2, fun s hs hlt => h3 s hs ?_, h4⟩
      rcases Nat.lt_or_ge (l s) n with q | q
      · exact q
      · exact (hl ⟨s, hs, by omega⟩).elim
theorem fEch_lead {p W : Nat} [NeZero p] (hI : fInv p) {V : fV p → Prop} (hV : fSub W V) {k : Nat} {R : Nat → fV p} {l : Nat → Nat} (hE : fEch V k R l) (i : Nat) : fLead V i ↔ ∃ s, s < k ∧ l s = i := by
  constructor
  · rintro ⟨v, h1, h2, h3⟩
    refine Classical.byContradiction fun hn => ?_
    obtain ⟨u, a1, a2, a3, a4⟩ := fRed hI hV hE.1 V hV (fun _ h => h) h1 W
    have hu := hE.2.2 u a1 (fun s hs => a3 s hs (fLead_lt hV ⟨R s, (hE.1 s hs).1, (hE.1 s hs).2.1, (hE.1 s hs).2.2⟩))
    have := a4 i (fun j hj hl => by
      rcases Nat.eq_or_lt_of_le hj with e | e
      · subst e; exact (hn hl).elim
      · exact h3 j e) i (Nat.le_refl _)
    rw [hu] at this
    exact h2 this.symm
  · rintro ⟨s, hs, rfl⟩
    exact ⟨R s, (hE.1 s hs).1, (hE.1 s hs).2.1, (hE.1 s hs).2.2⟩
theorem fEch_count {p W : Nat} [NeZero p] (hI : fInv p) {V : fV p → Prop} (hV : fSub W V) {k : Nat} {R : Nat → fV p} {l : Nat → Nat} (hE : fEch V k R l) : k = nC (fLead V) W := by
  have hl := fEch_lead hI hV hE
  refine Nat.le_antisymm ?_ ?_
  · have := nC_inj (P := fun s => s < k) (Q := fLead V) (n := k) (m := W) l (fun s hs _ => ⟨fLead_lt hV ((hl _).mpr ⟨s, hs, rfl⟩), (hl _).mpr ⟨s, hs, rfl⟩⟩) (fun s t hs ht _ _ he => hE.2.1 s t hs ht he)
    rw [nC_all (fun i h => h)] at this
    exact this
  · have key : ∀ i, ∃ s, fLead V i → s < k ∧ l s = i := fun i => by
      by_cases h : fLead V i
      · obtain ⟨s, h1, h2⟩ := (hl i).mp h
        exact ⟨s, fun _ => ⟨h1, h2⟩⟩
      · exact ⟨0, fun q => absurd q h⟩
    refine Nat.le_trans (nC_inj (P := fLead V) (Q := fun _ => True) (n := W) (m := k) (fun i => Classical.choose (key i)) (fun i _ h => ⟨(Classical.choose_spec (key i) h).1, trivial⟩) (fun i j _ _ hi hj he => ?_)) (nC_le _ _)
    have s1 := Classical.choose_spec (key i) hi
    have s2 := Classical.choose_spec (key j) hj
    rw [← s1.2, ← s2.2]
    show l (Classical.choose (key i)) = l (Classical.choose (key j))
    rw [he]
/-- a space and a greater one: what the greater one has that is 0 at the leads of the less -/
def fAway {p : Nat} [NeZero p] (U V : fV p → Prop) (u : fV p) : Prop := U u ∧ ∀ i, fLead V i → u i = 0
theorem fAway_sub {p W : Nat} [NeZero p] {U V : fV p → Prop} (hU : fSub W U) : fSub W (fAway U V) := by
  refine ⟨fun v h => hU.1 v h.1, ⟨hU.2.1, fun _ _ => rfl⟩, fun u v c hu hv => ⟨hU.2.2 u v c hu.1 hv.1, fun i hi => ?_⟩⟩
  show u i + c * v i = 0
  rw [hu.2 i hi, hv.2 i hi]; grind
theorem fAway_count {p W : Nat} [NeZero p] (hI : fInv p) {U V : fV p → Prop} (hU : fSub W U) (hV : fSub W V) (hVU : ∀ v, V v → U v) {k : Nat} {R : Nat → fV p} {l : Nat → Nat} (hE : fEch V k R l) :
    (∀ i, fLead U i ↔ fLead V i ∨ fLead (fAway U V) i) ∧ nC (fLead U) W = nC (fLead V) W + nC (fLead (fAway U V)) W := by
  have hl := fEch_lead hI hV hE
  have h1 : ∀ i, fLead U i ↔ fLead V i ∨ fLead (fAway U V) i := by
    intro i
    constructor
    · rintro ⟨v, a1, a2, a3⟩
      by_cases hvi : fLead V i
      · exact Or.inl hvi
      · obtain ⟨u, b1, b2, b3, b4⟩ := fRed hI hV hE.1 U hU hVU a1 W
        have e := b4 i (fun j hj hls => by
          rcases Nat.eq_or_lt_of_le hj with q | q
          · subst q; exact (hvi ((hl _).mpr hls)).elim
          · exact a3 j q)
        refine Or.inr ⟨u, ⟨b1, fun j hj => ?_⟩, by rw [e i (Nat.le_refl _)]; exact a2, fun j hj => by rw [e j (by omega)]; exact a3 j hj⟩
        obtain ⟨s, hs, rfl⟩ := (hl j).mp hj
        exact b3 s hs (fLead_lt hV hj)
    · rintro (⟨v, a1, a2, a3⟩ | ⟨v, a1, a2, a3⟩)
      · exact ⟨v, hVU v a1, a2, a3⟩
      · exact ⟨v, a1.1, a2, a3⟩
  refine ⟨h1, ?_⟩
  have dis : ∀ i, fLead (fAway U V) i → ¬ fLead V i := fun i ⟨v, a1, a2, a3⟩ q => a2 (a1.2 i q)
  have : ∀ n, nC (fLead U) n = nC (fLead V) n + nC (fLead (fAway U V)) n := by
    intro n
    induction n with
    | zero => rfl
    | succ n ih =>
      by_cases q1 : fLead V n
      · rw [nC_t q1, nC_t ((h1 n).mpr (Or.inl q1)), nC_f (fun q => dis n q q1), ih]; omega
      · by_cases q2 : fLead (fAway U V) n
        · rw [nC_f q1, nC_t q2, nC_t ((h1 n).mpr (Or.inr q2)), ih]; omega
        · rw [nC_f q1, nC_f q2, nC_f (fun q => ((h1 n).mp q).elim q1 q2), ih]
  exact this W
/-- rows that are reduced and in order are the space's own -/
def fRref {p : Nat} [NeZero p] (V : fV p → Prop) (k : Nat) (R : Nat → fV p) (l : Nat → Nat) : Prop := fEch V k R l ∧ (∀ s t, s < k → t < k → R s (l t) = if s = t then 1 else 0) ∧ ∀ s t, s < t → t < k → l s < l t
theorem fSort_eq {P : Nat → Prop} {k : Nat} {l l' : Nat → Nat} (h1 : ∀ i, P i ↔ ∃ s, s < k ∧ l s = i) (h2 : ∀ i, P i ↔ ∃ s, s < k ∧ l' s = i) (m1 : ∀ s t, s < t → t < k → l s < l t) (m2 : ∀ s t, s < t → t < k → l' s < l' t) : ∀ s, s < k → l s = l' s := by
  intro s
  induction s using Nat.strongRecOn with
  | ind s ih =>
    intro hs
    obtain ⟨t, ht, e1⟩ := (h2 (l s)).mp ((h1 _).mpr ⟨s, hs, rfl⟩)
    obtain ⟨t', ht', e2⟩ := (h1 (l' s)).mp ((h2 _).mpr ⟨s, hs, rfl⟩)
    have a1 : s ≤ t := Nat.not_lt.mp fun q => by
      have := ih t q ht
      have := m1 t s q hs
      omega
    have a2 : s ≤ t' := Nat.not_lt.mp fun q => by
      have := ih t' q ht'
      have := m2 t' s q hs
      omega
    rcases Nat.eq_or_lt_of_le a1 with q | q
    · rw [← e1, q]
    · rcases Nat.eq_or_lt_of_le a2 with q2 | q2
      · rw [← e2, q2]
      · have := m2 s t q ht
        have := m1 s t' q2 ht'
        omega
theorem fRref_one {p W : Nat} [NeZero p] (hI : fInv p) {V : fV p → Prop} (hV : fSub W V) {k k' : Nat} {R R' : Nat → fV p} {l l' : Nat → Nat} (h : fRref V k R l) (h' : fRref V k' R' l') : k = k' ∧ (∀ s, s < k → l s = l' s) ∧ ∀ s, s < k → R s = R' s := by
  have ek : k = k' := (fEch_count hI hV h.1).trans (fEch_count hI hV h'.1).symm
  subst ek
  have el := fSort_eq (fEch_lead hI hV h.1) (fEch_lead hI hV h'.1) h.2.2 h'.2.2
  refine ⟨rfl, el, fun s hs => ?_⟩
  have hd := hV.sub (h.1.1 s hs).1 (h'.1.1 s hs).1
  have hz := h.1.2.2 _ hd (fun t ht => by
    show R s (l t) - R' s (l t) = 0
    rw [h.2.1 s t hs ht, el t ht, h'.2.1 s t hs ht]; grind)
  funext i
  have := congrFun hz i
  have e : R s i - R' s i = 0 := this
  grind
