/-! WHAT OBEYS THE EQUATIONS: the cocycles that are 0 at all leads of bound ones -/
section NAW
variable {n r L kb : Nat} {T : Nat → Nat → Nat} {M : Nat → Nat → Nat → Int} {gm lb : Nat → Nat}
theorem gL_ok {p W m : Nat} [NeZero p] {lb : Nat → Nat} (h : ∀ s, s < m → lb s < W) {g : fV p} (hg : gL W lb m g) : fOk W g := by
  obtain ⟨s, hs, rfl⟩ := hg
  have := h s hs
  exact fun i hi => if_neg (by omega)
theorem gQ_ok {p : Nat} [NeZero p] {G1 : fV p → Prop} (h1 : ∀ g, G1 g → fOk ((n - 1) * (n - 1) * r) g) {a y z i : Nat} {g : fV p} (hg : gQ n r L T M gm G1 a y z i g) : fOk ((n - 1) * (n - 1) * r) g := by
  rcases hg with hg | ⟨a', y', z', i', -, -, -, -, -, -, -, rfl⟩
  · exact h1 g hg
  · exact fun j hj => if_neg (by omega)
/-- standards are of this space -/
def NS {p : Nat} [NeZero p] (n r : Nat) (T : Nat → Nat → Nat) (M : Nat → Nat → Nat → Int) : fV p → Prop := fAway (Z2 n r T M) (fSpn ((n - 1) * (n - 1) * r) (gB n r T M))
theorem NS_iff {p : Nat} [NeZero p] (hI : fInv p) (G : zGrp n T) (hM : sdM (p := p) n r T M) (hr : r = 1 ∨ r = 2) (hg : ∀ i, i < L → 1 ≤ gm i ∧ gm i < n) (hall : zAll n T L gm) {Rb : Nat → fV p} (hE : fEch (fSpn ((n - 1) * (n - 1) * r) (gB (p := p) n r T M)) kb Rb lb) (f : fV p) : NS n r T M f ↔ fOk ((n - 1) * (n - 1) * r) f ∧ fNul ((n - 1) * (n - 1) * r) (gQ n r L T M gm (gL ((n - 1) * (n - 1) * r) lb kb) L 0 0 0) (rv ((n - 1) * (n - 1) * r) f) := by
  have hS := fSpn_sub (fun g (hg : gB (p := p) n r T M g) => gB_ok hg)
  have hl := fEch_lead hI hS hE
  have hlb : ∀ s, s < kb → lb s < (n - 1) * (n - 1) * r := fun s hs => fLead_lt hS ((hl _).mpr ⟨s, hs, rfl⟩)
  have hZ := Z2_makers (M := M) G hM hr hg hall f
  constructor
  · rintro ⟨h1, h2⟩
    refine ⟨h1.1, fun i hi => if_neg (by omega), ?_⟩
    rintro g (⟨s, hs, rfl⟩ | ⟨a', y', z', i', b1, b2, b3, b4, b5, b6, -, rfl⟩)
    · have := hlb s hs
      rw [fDot_unit (by omega)]
      unfold rv
      rw [if_pos (by omega), show (n - 1) * (n - 1) * r - 1 - ((n - 1) * (n - 1) * r - 1 - lb s) = lb s by omega]
      exact h2 _ ((hl _).mpr ⟨s, hs, rfl⟩)
    · rw [fDot_rv]
      exact (hZ.mpr h1).2 _ ⟨gm a', y', z', i', ⟨a', b1, rfl⟩, (hg a' b1).1, (hg a' b1).2, b2, b3, b4, b5, b6, rfl⟩
  · rintro ⟨h1, h2⟩
    refine ⟨hZ.mp ⟨h1, ?_⟩, fun i hi => ?_⟩
    · rintro g ⟨x, y, z, i, ⟨a, ha, rfl⟩, hx, hxn, hy, hyn, hz, hzn, hi, rfl⟩
      rw [← fDot_rv]
      exact h2.2 _ (Or.inr ⟨a, y, z, i, ha, hy, hyn, hz, hzn, hi, Or.inl ha, rfl⟩)
    · obtain ⟨s, hs, rfl⟩ := (hl i).mp hi
      have hlt := hlb s hs
      have := h2.2 _ (Or.inl ⟨s, hs, rfl⟩)
      rw [fDot_unit (by omega)] at this
      unfold rv at this
      rw [if_pos (by omega), show (n - 1) * (n - 1) * r - 1 - ((n - 1) * (n - 1) * r - 1 - lb s) = lb s by omega] at this
      exact this
/-- a free place is a lead of it -/
theorem NS_free {p W k fr : Nat} [NeZero p] (hI : fInv p) {GE : fV p → Prop} (hGE : ∀ g, GE g → fOk W g) {R : Nat → fV p} {l : Nat → Nat} (hE : fEch (fSpn W GE) k R l) {N : fV p → Prop} (hN : ∀ f, N f ↔ fOk W f ∧ fNul W GE (rv W f)) {u : fV p} (hu : stF W k R l fr u) : fLead N fr := by
  refine ⟨u, (hN u).mpr ⟨hu.1, fun i hi => if_neg (by omega), fun g hg => ?_⟩, by rw [hu.2.1]; exact hI.1, hu.2.2.1⟩
  have hRok : ∀ s, s < k → fOk W (R s) := fun s hs => (fSpn_sub hGE).1 _ (hE.1 s hs).1
  have h3 : fNul W (fun g => ∃ s, s < k ∧ g = R s) (rv W u) := ⟨fun i hi => if_neg (by omega), by
    rintro g ⟨s, hs, rfl⟩
    rw [dB_dot]; exact hu.2.2.2.2 s hs⟩
  exact fNul_spn (by rintro g ⟨s, hs, rfl⟩; exact hRok s hs) h3 (fEch_gen hI (fSpn_sub hGE) hE (fSpn_of hg))
end NAW
