/-! THE MODEL: which module is known after a question -/
/-- nothing but scratch has changed, but that module m may be known now -/
def kM (Z Z1 : zS) (m : Nat) : Prop := kF Z Z1 ∧ (zI Z1 29 = (m : Nat) ∨ ((∀ k, 26 ≤ k → zA Z1 k = zA Z k) ∧ ∀ k, zI Z1 k = zI Z k))
theorem kM.rf {Z : zS} {m : Nat} : kM Z Z m := ⟨kF.rf, Or.inr ⟨fun _ _ => rfl, fun _ => rfl⟩⟩
theorem kM.tr {Z Z1 Z2 : zS} {m : Nat} (h1 : kM Z Z1 m) (h2 : kM Z1 Z2 m) : kM Z Z2 m := by
  refine ⟨h1.1.tr h2.1, ?_⟩
  rcases h2.2 with e | ⟨e1, e2⟩
  · exact Or.inl e
  · rcases h1.2 with f | ⟨f1, f2⟩
    · exact Or.inl ((e2 29).trans f)
    · exact Or.inr ⟨fun k hk => (e1 k hk).trans (f1 k hk), fun k => (e2 k).trans (f2 k)⟩
theorem kM.wA {Z Z1 : zS} {m : Nat} (h : kM Z Z1 m) (_ : 25 ≤ 25) (f : Int → Int) : kM Z (zwA Z1 25 f) m := by
  refine h.tr ⟨kF.rf.wA (by omega) f, Or.inr ⟨fun k hk => if_neg (by omega), fun _ => rfl⟩⟩
section MKM
variable {F m g n r row g1 : Nat} {Z Z' : zS} {T : Nat → Nat → Nat} {M : Nat → Nat → Nat → Int} {D : Nat → Int}
theorem m_goK {p : Nat} [NeZero p] (hF : fF F) (hI : fInv p) (h : mOk p Z m g n T r M) (hs : sdV n p r T M = 0) : ∃ Z1, zX7_know F (m : Nat) Z = some Z1 ∧ mBo Z1 m g n T p r M ∧ zI Z1 24 = ((n - 1) * (n - 1) * r : Nat) ∧ mKn (p := p) n r T M Z1 ∧ kM Z Z1 m ∧ mOk p Z1 m g n T r M := by
  obtain ⟨Z1, a1, a2, a3, a4, a5, a6⟩ := m_know (F := F) hF hI h.1 (sdM_of h.1.2.1.G hs) h.2.2.1 h.2.2.2
  exact ⟨Z1, a1, a2, a3, a5, ⟨a6, Or.inl a4⟩, h.k a6 a4 a5⟩
theorem m_dim3K {p : Nat} [NeZero p] {v : Int} (hF : fF F) (hI : fInv p) (h : mOk p Z m g n T r M) (hv : 0 ≤ v ∧ v ≤ 6) (hs : sdV n p r T M = 0) : ∃ Z1, zX7_dimension F (m : Nat) v Z = some (dmV p n r T M v, Z1) ∧ kM Z Z1 m ∧ mOk p Z1 m g n T r M ∧ mBo Z1 m g n T p r M := by
  have hm := h.1.1
  have h7 := h.2.1
  obtain ⟨Z1, a1, a2, a3, a4, a5, a6⟩ := m_goK (F := F) hF hI h hs
  obtain ⟨e5, e0, e2, e1, e3, e4⟩ := a4.d hI
  refine ⟨Z1, ?_, a5, a6, a2⟩
  unfold zX7_dimension
  rw [zC1_o (m_isModule (by omega) (by omega)), if_pos (by omega), zEq_f (by omega), zC1_o (y_in (a := v) (b := 0) (c := 6) (by decide) (by decide) (by omega)), if_pos hv, zEq_f (by omega), zC1_o (m_sound hF h.1 h.2.1), zEq_t (by omega), zC0_o a1]
  unfold dmV
  by_cases c5 : 5 ≤ v
  · rw [zLe_t (by omega), if_neg (show ¬ v = 0 by omega), if_neg (show ¬ v = 1 by omega), if_neg (show ¬ v = 2 by omega), if_neg (show ¬ v = 3 by omega), if_neg (show ¬ v = 4 by omega)]
    by_cases c6 : v = 5
    · rw [zEq_t (by omega), if_pos c6, e5]
    · rw [zEq_f (by omega), if_neg c6, zLd_o (by omega), zLd_o (by omega), e1, e2]
  · rw [zLe_f (by omega), zLd_o (by omega)]
    by_cases c0 : v = 0
    · rw [if_pos c0, c0, e0]
    · by_cases c1 : v = 1
      · rw [if_neg c0, if_pos c1, c1, e1]
      · by_cases c2 : v = 2
        · rw [if_neg c0, if_neg c1, if_pos c2, c2, e2]
        · by_cases c3 : v = 3
          · rw [if_neg c0, if_neg c1, if_neg c2, if_pos c3, c3, e3]
          · have c4 : v = 4 := by omega
            rw [if_neg c0, if_neg c1, if_neg c2, if_neg c3, if_pos c4, c4, e4]
theorem m_lacks3K {p : Nat} [NeZero p] {v : Int} (hF : fF F) (hI : fInv p) (h : mOk p Z m g n T r M) (hv : 0 ≤ v ∧ v < 2147483648) (hs : sdV n p r T M = 0) : ∃ Z1, zX7_lacks F (m : Nat) v Z = some (if v < ((p ^ dmH p n r T M : Nat) : Int) then 0 else -1, Z1) ∧ kM Z Z1 m ∧ mOk p Z1 m g n T r M ∧ mBo Z1 m g n T p r M ∧ zI Z1 24 = ((n - 1) * (n - 1) * r : Nat) ∧ mKn (p := p) n r T M Z1 := by
  have hm := h.1.1
  have h7 := h.2.1
  obtain ⟨hp1, hp2⟩ := h.1.2.2.2.2.1
  obtain ⟨Z1, a1, a2, a3, a4, a5, a6⟩ := m_goK (F := F) hF hI h hs
  have hH := dH_12 hI h.1 (sdM_of h.1.2.1.G hs) a4
  obtain ⟨e5, -⟩ := a4.d hI
  refine ⟨Z1, ?_, a5, a6, a2, a3, a4⟩
  have hpw : p ^ dmH p n r T M ≤ 5 ^ 12 := Nat.le_trans (Nat.pow_le_pow_left hp2 _) (Nat.pow_le_pow_right (by omega) hH)
  have hpw0 : 0 < p ^ dmH p n r T M := Nat.pow_pos (by omega)
  have h5 : (5 : Nat) ^ 12 = 244140625 := by decide
  rw [h5] at hpw
  generalize hq : p ^ dmH p n r T M = q at *
  unfold zX7_lacks
  rw [zC1_o (m_isModule (by omega) (by omega)), if_pos (by omega), zEq_f (by omega), zLe_t (by omega), zC1_o (m_sound hF h.1 h.2.1), zEq_t (by omega), zC0_o a1, a2.2.2.2.2.2, e5, zC1_o (m_power hF (by omega)), hq, zC1_o (y_in (a := v) (b := 0) (c := (q : Int) - 1) (by decide) rfl (by omega))]
  by_cases c : v < q
  · rw [if_pos (show 0 ≤ v ∧ v ≤ (q : Int) - 1 by omega), zEq_f (by omega), if_pos c]
  · rw [if_neg (show ¬ (0 ≤ v ∧ v ≤ (q : Int) - 1) by omega), zEq_t (by omega), if_neg c]
theorem m_lacksK {p : Nat} [NeZero p] {v : Int} (hF : fF F) (hI : fInv p) (h : mOk p Z m g n T r M) (hv : -2147483648 ≤ v ∧ v < 2147483648) : ∃ Z1, zX7_lacks F (m : Nat) v Z = some (lkV p n r T M v, Z1) ∧ kM Z Z1 m ∧ mOk p Z1 m g n T r M ∧ (lkV p n r T M v = 0 → sdV n p r T M = 0 ∧ (0 ≤ v ∧ v < ((p ^ dmH p n r T M : Nat) : Int)) ∧ mBo Z1 m g n T p r M ∧ zI Z1 24 = ((n - 1) * (n - 1) * r : Nat) ∧ mKn (p := p) n r T M Z1) ∧ (lkV p n r T M v = 0 ∨ lkV p n r T M v = -1 ∨ lkV p n r T M v = -2) := by
  have hsb := sdV_b (p := p) (r := r) (T := T) (M := M) h.1.2.2.1
  by_cases c1 : v < 0
  · have e : lkV p n r T M v = -1 := if_pos c1
    rw [e]
    exact ⟨Z, m_lacks1 h (by omega), kM.rf, h, fun q => by omega, by omega⟩
  · by_cases c2 : sdV n p r T M = 0
    · obtain ⟨Z1, a1, a2, a3, a4, a5, a6⟩ := m_lacks3K (F := F) (v := v) hF hI h (by omega) c2
      have e : lkV p n r T M v = if v < ((p ^ dmH p n r T M : Nat) : Int) then 0 else -1 := by
        unfold lkV; rw [if_neg c1, if_pos c2]
      rw [e]
      refine ⟨Z1, a1, a2, a3, fun q => ⟨c2, ⟨by omega, ?_⟩, a4, a5, a6⟩, ?_⟩
      · by_cases c3 : v < ((p ^ dmH p n r T M : Nat) : Int)
        · exact c3
        · rw [if_neg c3] at q; omega
      · by_cases c3 : v < ((p ^ dmH p n r T M : Nat) : Int)
        · rw [if_pos c3]; omega
        · rw [if_neg c3]; omega
    · have e : lkV p n r T M v = -2 := by unfold lkV; rw [if_neg c1, if_neg c2]
      rw [e]
      exact ⟨Z, m_lacks2 hF h (by omega) c2 (by omega), kM.rf, h, fun q => by omega, by omega⟩
theorem m_sumK {p : Nat} [NeZero p] {v w : Int} (hF : fF F) (hI : fInv p) (h : mOk p Z m g n T r M) (hv : -2147483648 ≤ v ∧ v < 2147483648) (hw : -2147483648 ≤ w ∧ w < 2147483648) : ∃ Z1, zX7_sum F (m : Nat) v w Z = some (smV p n r T M v w, Z1) ∧ kM Z Z1 m ∧ mOk p Z1 m g n T r M := by
  obtain ⟨Z1, a1, a2, a3, a4, a5⟩ := m_lacksK (F := F) hF hI h hv
  unfold zX7_sum zX7_sum_b24
  rw [zC1_o a1]
  by_cases c1 : 0 ≤ lkV p n r T M v
  · obtain ⟨Z2, b1, b2, b3, b4, b5⟩ := m_lacksK (F := F) hF hI a3 hw
    rw [zLe_t (by omega), zC1_o b1]
    by_cases c2 : 0 ≤ lkV p n r T M w
    · obtain ⟨s1, s2, -⟩ := a4 (by omega)
      obtain ⟨-, t2, t3, t4, t5⟩ := b4 (by omega)
      have hH := dH_12 hI h.1 (sdM_of h.1.2.1.G s1) t5
      have hsm := m_sumL (F := F) (Z := Z2) (p := p) (v := v.toNat) (w := w.toNat) hF t3.2.2.2.2.2 h.1.2.2.2.2.1 (t5.d hI).1 hH (by omega) (by omega)
      rw [show ((v.toNat : Nat) : Int) = v by omega, show ((w.toNat : Nat) : Int) = w by omega] at hsm
      rw [zLe_t (by omega), hsm]
      refine ⟨Z2, ?_, a2.tr b2, b3⟩
      unfold smV
      rw [if_pos c1, if_pos c2]
    · rw [zLe_f (by omega)]
      refine ⟨Z2, ?_, a2.tr b2, b3⟩
      unfold smV
      rw [if_pos c1, if_neg c2]
  · rw [zLe_f (by omega), zLe_f (by omega)]
    refine ⟨Z1, ?_, a2, a3⟩
    unfold smV
    rw [if_neg c1]
theorem m_timesK {p : Nat} [NeZero p] {v c : Int} (hF : fF F) (hI : fInv p) (h : mOk p Z m g n T r M) (hv : -2147483648 ≤ v ∧ v < 2147483648) (hc : -2147483648 ≤ c ∧ c < 2147483648) : ∃ Z1, zX7_times F (m : Nat) v c Z = some (tmV p n r T M v c, Z1) ∧ kM Z Z1 m ∧ mOk p Z1 m g n T r M := by
  have hm := h.1.1
  have h7 := h.2.1
  have hp := h.1.2.2.2.2.1
  unfold zX7_times tmV
  rw [zC1_o (m_isModule (by omega) (by omega)), if_pos (show 0 ≤ (m : Int) ∧ (m : Int) < zI Z 7 by omega), zEq_f (by omega), zLd_o (by omega), h.1.2.2.2.1.2.1, zC1_o (y_in (a := c) (b := 1) (c := (p : Int) - 1) (by decide) rfl (by omega))]
  by_cases c1 : 1 ≤ c ∧ c < p
  · rw [if_pos (show 1 ≤ c ∧ c ≤ (p : Int) - 1 by omega), zEq_f (by omega), if_pos c1]
    obtain ⟨Z1, a1, a2, a3, a4, a5⟩ := m_lacksK (F := F) hF hI h hv
    rw [zC1_o a1]
    by_cases c2 : 0 ≤ lkV p n r T M v
    · obtain ⟨s1, s2, t3, t4, t5⟩ := a4 (by omega)
      have hH := dH_12 hI h.1 (sdM_of h.1.2.1.G s1) t5
      have hsm := m_timesL (F := F) (Z := Z1) (p := p) (v := v.toNat) (c := c.toNat) hF t3.2.2.2.2.2 hp (t5.d hI).1 hH (by omega) (by omega)
      rw [show ((v.toNat : Nat) : Int) = v by omega, show ((c.toNat : Nat) : Int) = c by omega] at hsm
      rw [zLe_t (by omega), hsm, if_pos c2]
      exact ⟨Z1, rfl, a2, a3⟩
    · rw [zLe_f (by omega), if_neg c2]
      exact ⟨Z1, rfl, a2, a3⟩
  · rw [if_neg (show ¬ (1 ≤ c ∧ c ≤ (p : Int) - 1) by omega), zEq_t (by omega), if_neg c1]
    exact ⟨Z, rfl, kM.rf, h⟩
theorem m_partsK {p : Nat} [NeZero p] {v : Int} (hF : fF F) (hI : fInv p) (h : mOk p Z m g n T r M) (hv : -2147483648 ≤ v ∧ v < 2147483648) : ∃ Z1, zX7_parts F (m : Nat) v Z = some (ptV p n r T M v, Z1) ∧ kM Z Z1 m ∧ mOk p Z1 m g n T r M := by
  have hr' := h.1.2.2.2.2.2.1
  have h14 : (n - 1) * r ≤ 14 := Nat.le_trans (Nat.mul_le_mul (show n - 1 ≤ 7 by have := h.1.2.2.1; omega) hr'.2) (by omega)
  obtain ⟨Z1, a1, a2, a3, a4, a5⟩ := m_lacksK (F := F) hF hI h hv
  unfold zX7_parts ptV
  rw [zC1_o a1]
  by_cases c1 : 0 ≤ lkV p n r T M v
  · obtain ⟨s1, s2, t3, t4, t5⟩ := a4 (by omega)
    rw [zLe_t (by omega), if_pos c1]
    by_cases c2 : v = 0
    · have hB := dmB_le hI t5
      obtain ⟨e5, e0, e2, e1, e3, e4⟩ := t5.d hI
      have ee : (((n - 1) * r : Nat) : Int) - (dmB p n r T M : Nat) = (((n - 1) * r - dmB p n r T M : Nat) : Int) := by omega
      rw [zEq_t (by omega), if_pos c2, zLd_o (by omega), e1, ee, t3.2.2.2.2.2, zC1_o (m_power hF (by omega))]
      exact ⟨Z1, rfl, a2, a3⟩
    · rw [zEq_f (by omega), if_neg c2]
      exact ⟨Z1, rfl, a2, a3⟩
  · rw [zLe_f (by omega), if_neg c1]
    exact ⟨Z1, rfl, a2, a3⟩
theorem m_twist1K {p : Nat} [NeZero p] {v : Int} {x y i : Nat} (hF : fF F) (hI : fInv p) (hG : mGs Z) (h : mOk p Z m g n T r M) (hg : (g : Int) < zI Z 0) (hv : -2147483648 ≤ v ∧ v < 2147483648) (hx : x < n) (hy : y < n) (hi : i < r) : ∃ Z1 a, zX7_twist F (m : Nat) v x y i Z = some (a, Z1) ∧ kM Z Z1 m ∧ mOk p Z1 m g n T r M ∧ (lkV p n r T M v ≠ 0 → a = lkV p n r T M v) ∧ (lkV p n r T M v = 0 → ∀ k R l, fRref (NS (p := p) n r T M) k R l → a = (((pv n r (cmb R v.toNat k) x y i).val : Nat) : Int)) := by
  have hm := h.1.1
  have h7 := h.2.1
  have hr' := h.1.2.2.2.2.2.1
  have hn8 := h.1.2.2.1
  have e1 : zA Z 1 (g : Nat) = n := h.1.2.1.2.1
  have hg0 := h.1.2.1.1
  obtain ⟨Z1, a1, a2, a3, a4, a5⟩ := m_lacksK (F := F) hF hI h hv
  unfold zX7_twist
  rw [zC1_o (m_isModule (by omega) (by omega)), if_pos (show 0 ≤ (m : Int) ∧ (m : Int) < zI Z 7 by omega), zEq_f (by omega), zLd_o (by omega), h.1.2.2.2.1.1, zC1_o (y_isElement (a := (g : Nat)) (x := (x : Nat)) (by omega) (by omega) hG.1 (hG.2 _)), e1, if_pos (by omega), zEq_f (by omega), zLd_o (by omega), h.1.2.2.2.1.1, zC1_o (y_isElement (a := (g : Nat)) (x := (y : Nat)) (by omega) (by omega) hG.1 (hG.2 _)), e1, if_pos (by omega), zEq_f (by omega), zLd_o (by omega), h.1.2.2.2.1.2.2, zC1_o (y_in (a := (i : Nat)) (b := 0) (c := (r : Int) - 1) (by decide) rfl (by omega)), if_pos (by omega), zEq_f (by omega), zC1_o a1]
  by_cases c1 : 0 ≤ lkV p n r T M v
  · obtain ⟨s1, s2, t3, t4, t5⟩ := a4 (by omega)
    obtain ⟨f, b1, b2⟩ := m_sumOk (F := F) (v := v.toNat) hF hI t3 t4 t5 (by omega)
    rw [show ((v.toNat : Nat) : Int) = v by omega] at b1
    obtain ⟨kB, k, k0, RB, R, R0, lB, l, l0, y1, y2, y3, -⟩ := t5
    have hv' : fRow ((n - 1) * (n - 1) * r) (zA (zwA Z1 25 f) 25) (cmb R v.toNat k) := by rw [zwA_s]; exact b2 k R l y3
    rw [zLe_t (by omega), zC0_o b1, zC1_o (m_twisted (t3.wA f) hv' hx hy hi)]
    refine ⟨_, _, rfl, a2.wA (by omega) f, a3.wA f, fun q => by omega, fun _ k' R' l' h' => ?_⟩
    obtain ⟨q1, q2, q3⟩ := fRref_one hI (fAway_sub (fNul_sub _)) y3 h'
    have e : cmb R v.toNat k = cmb R' v.toNat k' := by
      rw [← q1]
      funext j
      exact fSum_congr fun s hs => by rw [q3 s hs]
    rw [e]
  · rw [zLe_f (by omega)]
    exact ⟨Z1, _, rfl, a2, a3, fun _ => rfl, fun q => by omega⟩
theorem m_classOf3K {p : Nat} [NeZero p] {t c : Int} (hF : fF F) (hI : fInv p) (h : mOk p Z m g n T r M) (hs : sdV n p r T M = 0) (hrow : row < 4) (ht : 0 ≤ t ∧ t ≤ 1) (hft : ∀ Z1, kF Z Z1 → zX7_faultOf F (row : Nat) t (((r : Nat) : Int) * (n : Nat) * (n : Nat)) Z1 = some (c, Z1)) (hc : -2147483648 ≤ c ∧ c < 2147483648) (hD : 0 ≤ c → ∀ q, q < r * (n * n) → zA Z 6 (144 * (row : Int) + q) = D q ∧ -2147483648 ≤ D q ∧ D q < 2147483648) : ∃ Z1 a, zX7_classOf F (m : Nat) (row : Nat) t Z = some (a, Z1) ∧ kM Z Z1 m ∧ mOk p Z1 m g n T r M ∧ (c < 0 → a = c) ∧ (0 ≤ c → ¬ (nrm (p := p) n r D ∧ Z2 (p := p) n r T M (ldV n r D)) → a = -4) ∧ (0 ≤ c → nrm (p := p) n r D → Z2 (p := p) n r T M (ldV n r D) → clV p n r T M (ldV n r D) a) := by
  have hm := h.1.1
  have h7 := h.2.1
  obtain ⟨Z1, a1, a2, a3, a4, a5, a6⟩ := m_goK (F := F) hF hI h hs
  unfold zX7_classOf
  rw [zC1_o (m_isModule (by omega) (by omega)), if_pos (by omega), zEq_f (by omega), zC1_o (y_in (a := (row : Nat)) (b := 0) (c := 3) (by decide) (by decide) (by omega)), if_pos (by omega), zEq_f (by omega), zC1_o (y_in (a := t) (b := 0) (c := 1) (by decide) (by decide) (by omega)), if_pos ht, zEq_f (by omega), zC1_o (m_sound hF h.1 h.2.1), zEq_t (by omega), zC0_o a1, a2.2.2.2.1, a2.2.2.2.2.1, zC1_o (hft Z1 a5.1)]
  by_cases c1 : c < 0
  · rw [zLe_f (by omega)]
    exact ⟨Z1, c, rfl, a5, a6, fun _ => rfl, fun q => by omega, fun q => by omega⟩
  · obtain ⟨f0, b1, b2⟩ := m_clear0 (F := F) hF Z1
    have hD' : ∀ q, q < r * (n * n) → zA Z1 6 (144 * (row : Int) + q) = D q ∧ -2147483648 ≤ D q ∧ D q < 2147483648 := by
      rw [a5.1.1 6 (by omega)]; exact hD (by omega)
    rw [zLe_t (by omega), zC0_o b1]
    rcases m_load (F := F) (p := p) (D := D) hF a2 hrow hD' (fun (w : zS) => zC1 (zX7_isCocycle F w) fun q230_1 q230_2 => zEq q230_1 (0 : Int) (some ((-4 : Int), q230_2)) (zC1 (zX7_classOfLine F q230_2) fun q237_1 q237_2 => some (q237_1, q237_2))) f0 with ⟨q1, f, q2, q3⟩ | ⟨q1, f, q3⟩
    · rw [q3]
      have hv : fRow ((n - 1) * (n - 1) * r) (zA (zwA Z1 25 f) 25) (ldV (p := p) n r D) := by rw [zwA_s]; exact q2
      obtain ⟨i1, i2⟩ := m_isCocycle (F := F) hF (a2.wA f) ldV_ok hv
      by_cases c2 : Z2 (p := p) n r T M (ldV n r D)
      · obtain ⟨f', a, o1, o2⟩ := m_cl (F := F) hF hI (a2.wA f) a3 (a4.wA f) hv ldV_ok
        rw [zC1_o (i1 c2), zEq_f (by omega), zC1_o o1]
        exact ⟨_, a, rfl, (a5.wA (by omega) f).wA (by omega) f', (a6.wA f).wA f', fun q => by omega, fun _ q => (q ⟨q1, c2⟩).elim, fun _ _ _ => o2⟩
      · rw [zC1_o (i2 c2), zEq_t (by omega)]
        exact ⟨_, -4, rfl, a5.wA (by omega) f, a6.wA f, fun q => by omega, fun _ _ => rfl, fun _ _ q => (c2 q).elim⟩
    · rw [q3]
      exact ⟨_, -4, rfl, a5.wA (by omega) f, a6.wA f, fun q => by omega, fun _ _ => rfl, fun _ q => (q1 q).elim⟩
theorem m_overK {p : Nat} [NeZero p] {v : Int} (hF : fF F) (hI : fInv p) (h : mOk p Z m g n T r M) (hv : -2147483648 ≤ v ∧ v < 2147483648) (h0 : zI Z 0 = g1) (hg : g < g1) (hg1 : g1 ≤ 8) : ∃ Z1, kM Z Z1 m ∧ mOk p Z1 m g n T r M ∧ (lkV p n r T M v ≠ 0 → zX7_over F (m : Nat) v Z = some (lkV p n r T M v, Z1)) ∧ (lkV p n r T M v = 0 → (g1 = 8 ∨ 48 < p ^ r * n) → zX7_over F (m : Nat) v Z = some (-3, Z1)) ∧ (lkV p n r T M v = 0 → g1 < 8 → p ^ r * n ≤ 48 → ∃ f, zX7_over F (m : Nat) v Z = some ((g1 : Int), gNew Z1 f g1 (p ^ r * n : Nat)) ∧ ∀ k R l, fRref (NS (p := p) n r T M) k R l → tbF Z1 g1 (p ^ r * n) (ovT n r T M (cmb R v.toNat k)) (p ^ r * n) 0 f) := by
  obtain ⟨Z1, a1, a2, a3, a4, a5⟩ := m_lacksK (F := F) hF hI h hv
  by_cases c1 : lkV p n r T M v = 0
  · obtain ⟨s1, s2, t3, t4, t5⟩ := a4 c1
    obtain ⟨f5, b1, b2⟩ := m_sumOk (F := F) (v := v.toNat) hF hI t3 t4 t5 (by omega)
    rw [show ((v.toNat : Nat) : Int) = v by omega] at b1
    obtain ⟨e39, e38, e36, e37, e23⟩ := t3.2
    have hr := t3.1.2.2.2.2.2.1
    have hpp := t3.1.2.2.2.2.1
    have hn8 := t3.1.2.2.1
    obtain ⟨q1, q2⟩ := ov_pw (r := r) hpp hr
    have hq48 : p ^ r * n ≤ 25 * 8 := Nat.mul_le_mul q2 hn8
    have eN : ((p ^ r : Nat) : Int) * (n : Nat) = ((p ^ r * n : Nat) : Int) := (Int.natCast_mul _ _).symm
    have i0 : zI Z1 0 = g1 := by rw [a2.1.2.1 0 (by omega)]; exact h0
    have hd : zX7_over F (m : Nat) v Z = (zEq (zI Z1 0) (8 : Int) (some ((-3 : Int), Z1)) (zLe ((p ^ r * n : Nat) : Int) (48 : Int) (zC0 (zX7_sumOf F v Z1) fun q52 => zX7_over_l58 F (fun (v4 : Int) (w : zS) => zC1 (zX7_added F (v4 * (zI w 36)) w) fun q304_1 q304_2 => some (q304_1, q304_2)) F ((p ^ r : Nat) : Int) (0 : Int) q52) (some ((-3 : Int), Z1)))) := by
      unfold zX7_over
      rw [zC1_o a1, c1, zLe_t (by omega), e23, e37, zC1_o (m_power hF (by omega)), e36, eN]
    by_cases c2 : g1 < 8 ∧ p ^ r * n ≤ 48
    · refine ⟨zwA Z1 25 f5, a2.wA (by omega) f5, a3.wA f5, fun t => (t c1).elim, fun _ t => by omega, fun _ _ _ => ?_⟩
      have hd2 : zX7_over F (m : Nat) v Z = zX7_over_l58 F (fun (v4 : Int) (w : zS) => zC1 (zX7_added F (v4 * (zI w 36)) w) fun q304_1 q304_2 => some (q304_1, q304_2)) F ((p ^ r : Nat) : Int) (0 : Int) (zwA Z1 25 f5) := by
        rw [hd, zEq_f (by omega), zLe_t (by omega), zC0_o b1]
      obtain ⟨kB, k, k0, RB, R, R0, lB, l, l0, y1, y2, y3, -⟩ := t5
      have hv' : fRow ((n - 1) * (n - 1) * r) (zA (zwA Z1 25 f5) 25) (cmb R v.toNat k) := by rw [zwA_s]; exact b2 k R l y3
      obtain ⟨f, w1, w2⟩ := ov_58 (g1 := g1) hF (t3.wA f5) hv' i0 c2.1 hg c2.2
      refine ⟨f, by rw [hd2, w1], fun k' R' l' h' => ?_⟩
      obtain ⟨q1, q2, q3⟩ := fRref_one hI (fAway_sub (fNul_sub _)) y3 h'
      have e : cmb R v.toNat k = cmb R' v.toNat k' := by
        rw [← q1]
        funext j
        exact fSum_congr fun s hs => by rw [q3 s hs]
      rw [← e]; exact w2
    · refine ⟨Z1, a2, a3, fun t => (t c1).elim, fun _ _ => ?_, fun _ t1 t2 => (c2 ⟨t1, t2⟩).elim⟩
      rw [hd]
      by_cases c3 : g1 = 8
      · rw [zEq_t (by omega)]
      · rw [zEq_f (by omega), zLe_f (by omega)]
  · refine ⟨Z1, a2, a3, fun _ => ?_, fun t => (c1 t).elim, fun t => (c1 t).elim⟩
    unfold zX7_over
    rw [zC1_o a1, zLe_f (by omega)]
end MKM
