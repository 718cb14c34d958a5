/-! THE MODEL: classOf, twist -/
section MCO
variable {F m g n r row : Nat} {Z Z' : zS} {T : Nat → Nat → Nat} {M : Nat → Nat → Nat → Int} {D : Nat → Int}
theorem nB_congr {p : Nat} : ∀ {k : Nat} {a b : Nat → Nat}, (∀ s, s < k → a s = b s) → nB p k a = nB p k b
  | 0, _, _, _ => rfl
  | k + 1, a, b, h => by
    show a 0 + p * nB p k (fun s => a (s + 1)) = b 0 + p * nB p k (fun s => b (s + 1))
    rw [h 0 (by omega), nB_congr (k := k) (a := fun s => a (s + 1)) (b := fun s => b (s + 1)) fun s hs => h (s + 1) (by omega)]
theorem mKn.wA {p : Nat} [NeZero p] (h : mKn (p := p) n r T M Z) (f : Int → Int) : mKn (p := p) n r T M (zwA Z 25 f) := h
theorem mBo.wA {p : Nat} (h : mBo Z m g n T p r M) (f : Int → Int) : mBo (zwA Z 25 f) m g n T p r M := by rw [zw_m]; exact h.s _ _ _ _
theorem mOk.wA {p : Nat} [NeZero p] (h : mOk p Z m g n T r M) (f : Int → Int) : mOk p (zwA Z 25 f) m g n T r M := ⟨h.1.k (kF.rf.wA (by omega) f), h.2.1, h.2.2.1, fun e => (h.2.2.2 e).wA f⟩
/-- the class that a row has, as the model says it -/
def clV (p : Nat) [NeZero p] (n r : Nat) (T : Nat → Nat → Nat) (M : Nat → Nat → Nat → Int) (v : fV p) (c : Int) : Prop := ∃ u, fOk ((n - 1) * (n - 1) * r) u ∧ (∀ i, fLead (fSpn ((n - 1) * (n - 1) * r) (gB (p := p) n r T M)) i → u i = 0) ∧ fSpn ((n - 1) * (n - 1) * r) (gB (p := p) n r T M) (fun i => u i - v i) ∧ ∀ k R l, fRref (NS (p := p) n r T M) k R l → c = (nB p k (fun s => (u (l s)).val) : Nat)
theorem m_cl {p : Nat} [NeZero p] (hF : fF F) (hI : fInv p) (h : mBo Z m g n T p r M) (h24 : zI Z 24 = ((n - 1) * (n - 1) * r : Nat)) (hKn : mKn (p := p) n r T M Z) {v : fV p} (hv : fRow ((n - 1) * (n - 1) * r) (zA Z 25) v) (hvo : fOk ((n - 1) * (n - 1) * r) v) : ∃ f c, zX7_classOfLine F Z = some (c, zwA Z 25 f) ∧ clV p n r T M v c := by
  obtain ⟨kB, k, k0, RB, R, R0, lB, l, l0, y1, y2, y3, y4, y5, y6, z0, z2, z1, z3, z4⟩ := hKn
  obtain ⟨f, u, a1, a2, a3, a4⟩ := m_classOfLine (F := F) hF hI h h24 y1 y2 z4 y3 y4 y5 hv hvo
  have hSB := fSpn_sub (fun g (hg : gB (p := p) n r T M g) => gB_ok hg)
  refine ⟨f, _, a1, u, a2, fun i hi => ?_, a4, fun k' R' l' h' => ?_⟩
  · obtain ⟨s, hs, rfl⟩ := (fEch_lead hI hSB y2.1 i).mp hi
    exact a3 s hs
  · obtain ⟨e1, e2, e3⟩ := fRref_one hI (fAway_sub (fNul_sub _)) y3 h'
    rw [← e1, nB_congr fun s hs => by rw [e2 s hs]]
theorem m_classOf3 {p : Nat} [NeZero p] {t c : Int} (hF : fF F) (hI : fInv p) (h : mOk p Z m g n T r M) (hs : sdV n p r T M = 0) (hrow : row < 4) (ht : 0 ≤ t ∧ t ≤ 1) (hft : ∀ Z1, kF Z Z1 → zX7_faultOf F (row : Nat) t (((r : Nat) : Int) * (n : Nat) * (n : Nat)) Z1 = some (c, Z1)) (hc : -2147483648 ≤ c ∧ c < 2147483648) (hD : 0 ≤ c → ∀ q, q < r * (n * n) → zA Z 6 (144 * (row : Int) + q) = D q ∧ -2147483648 ≤ D q ∧ D q < 2147483648) : ∃ Z1 a, zX7_classOf F (m : Nat) (row : Nat) t Z = some (a, Z1) ∧ kF Z Z1 ∧ mOk p Z1 m g n T r M ∧ (c < 0 → a = c) ∧ (0 ≤ c → ¬ (nrm (p := p) n r D ∧ Z2 (p := p) n r T M (ldV n r D)) → a = -4) ∧ (0 ≤ c → nrm (p := p) n r D → Z2 (p := p) n r T M (ldV n r D) → clV p n r T M (ldV n r D) a) := by
  have hm := h.1.1
  have h7 := h.2.1
  obtain ⟨Z1, a1, a2, a3, a4, a5, a6⟩ := m_go (F := F) hF hI h hs
  unfold zX7_classOf
  rw [zC1_o (m_isModule (by omega) (by omega)), if_pos (by omega), zEq_f (by omega), zC1_o (y_in (a := (row : Nat)) (b := 0) (c := 3) (by decide) (by decide) (by omega)), if_pos (by omega), zEq_f (by omega), zC1_o (y_in (a := t) (b := 0) (c := 1) (by decide) (by decide) (by omega)), if_pos ht, zEq_f (by omega), zC1_o (m_sound hF h.1 h.2.1), zEq_t (by omega), zC0_o a1, a2.2.2.2.1, a2.2.2.2.2.1, zC1_o (hft Z1 a5)]
  by_cases c1 : c < 0
  · rw [zLe_f (by omega)]
    exact ⟨Z1, c, rfl, a5, a6, fun _ => rfl, fun q => by omega, fun q => by omega⟩
  · obtain ⟨f0, b1, b2⟩ := m_clear0 (F := F) hF Z1
    have hD' : ∀ q, q < r * (n * n) → zA Z1 6 (144 * (row : Int) + q) = D q ∧ -2147483648 ≤ D q ∧ D q < 2147483648 := by
      rw [a5.1 6 (by omega)]; exact hD (by omega)
    rw [zLe_t (by omega), zC0_o b1]
    rcases m_load (F := F) (p := p) (D := D) hF a2 hrow hD' (fun (w : zS) => zC1 (zX7_isCocycle F w) fun q230_1 q230_2 => zEq q230_1 (0 : Int) (some ((-4 : Int), q230_2)) (zC1 (zX7_classOfLine F q230_2) fun q237_1 q237_2 => some (q237_1, q237_2))) f0 with ⟨q1, f, q2, q3⟩ | ⟨q1, f, q3⟩
    · rw [q3]
      have hv : fRow ((n - 1) * (n - 1) * r) (zA (zwA Z1 25 f) 25) (ldV (p := p) n r D) := by rw [zwA_s]; exact q2
      obtain ⟨i1, i2⟩ := m_isCocycle (F := F) hF (a2.wA f) ldV_ok hv
      by_cases c2 : Z2 (p := p) n r T M (ldV n r D)
      · obtain ⟨f', a, o1, o2⟩ := m_cl (F := F) hF hI (a2.wA f) a3 (a4.wA f) hv ldV_ok
        rw [zC1_o (i1 c2), zEq_f (by omega), zC1_o o1]
        exact ⟨_, a, rfl, (a5.wA (by omega) f).wA (by omega) f', (a6.wA f).wA f', fun q => by omega, fun _ q => (q ⟨q1, c2⟩).elim, fun _ _ _ => o2⟩
      · rw [zC1_o (i2 c2), zEq_t (by omega)]
        exact ⟨_, -4, rfl, a5.wA (by omega) f, a6.wA f, fun q => by omega, fun _ _ => rfl, fun _ _ q => (c2 q).elim⟩
    · rw [q3]
      exact ⟨_, -4, rfl, a5.wA (by omega) f, a6.wA f, fun q => by omega, fun _ _ => rfl, fun _ q => (q1 q).elim⟩
/-- a twist: so many standards, read at a pair -/
theorem m_sumOk {p : Nat} [NeZero p] {v : Nat} (hF : fF F) (hI : fInv p) (h : mBo Z m g n T p r M) (h24 : zI Z 24 = ((n - 1) * (n - 1) * r : Nat)) (hKn : mKn (p := p) n r T M Z) (hv : v < 2147483648) : ∃ f, zX7_sumOf F (v : Nat) Z = some (zwA Z 25 f) ∧ ∀ k R l, fRref (NS (p := p) n r T M) k R l → fRow ((n - 1) * (n - 1) * r) f (cmb R v k) := by
  obtain ⟨hr1, hr2⟩ := h.1.2.2.2.2.2.1
  have hp := h.1.2.2.2.2.1
  have h98 := pl_98 h.1.2.2.1 hr2
  obtain ⟨kB, k, k0, RB, R, R0, lB, l, l0, y1, y2, y3, y4, y5, y6, z0, z2, z1, z3, z4⟩ := hKn
  have hN : fSub ((n - 1) * (n - 1) * r) (NS (p := p) n r T M) := fAway_sub (fNul_sub _)
  have hk98 : k ≤ 98 := by
    have := fEch_count hI hN y3.1
    have h9 := nC_le (fLead (NS (p := p) n r T M)) ((n - 1) * (n - 1) * r)
    omega
  obtain ⟨f, a1, a2⟩ := m_sumOf (F := F) (Z := Z) (p := p) (k := k) (R := R) (v := v) hF h.2.2.2.2.2 hp h24 y5 hk98 h98 y4 hv
  refine ⟨f, a1, fun k' R' l' h' => ?_⟩
  obtain ⟨e1, e2, e3⟩ := fRref_one hI hN y3 h'
  rw [← e1]
  intro j hj
  rw [a2 j hj]
  congr 2
  exact fSum_congr fun s hs => by rw [e3 s hs]
end MCO
