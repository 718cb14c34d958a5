/-! THE MODEL: questions about a module -/
/-- a module of the model, and what is kept of it -/
def mOk (p : Nat) [NeZero p] (Z : zS) (m g n : Nat) (T : Nat → Nat → Nat) (r : Nat) (M : Nat → Nat → Nat → Int) : Prop := mMd Z m g n T p r M ∧ ((m : Int) < zI Z 7 ∧ zI Z 7 ≤ 6) ∧ (-2147483648 ≤ zI Z 29 ∧ zI Z 29 < 2147483648) ∧ (zI Z 29 = (m : Nat) → mKn (p := p) n r T M Z)
/-- how many dimensions: unmoved's rows, bounds, standards -/
noncomputable def dm0 (p : Nat) [NeZero p] (n r : Nat) (M : Nat → Nat → Nat → Int) : Nat := nC (fLead (fSpn r (gVu (p := p) n r M))) r
noncomputable def dmB (p : Nat) [NeZero p] (n r : Nat) (T : Nat → Nat → Nat) (M : Nat → Nat → Nat → Int) : Nat := nC (fLead (fSpn ((n - 1) * (n - 1) * r) (gB (p := p) n r T M))) ((n - 1) * (n - 1) * r)
noncomputable def dmH (p : Nat) [NeZero p] (n r : Nat) (T : Nat → Nat → Nat) (M : Nat → Nat → Nat → Int) : Nat := nC (fLead (NS (p := p) n r T M)) ((n - 1) * (n - 1) * r)
noncomputable def dmV (p : Nat) [NeZero p] (n r : Nat) (T : Nat → Nat → Nat) (M : Nat → Nat → Nat → Int) (v : Int) : Int := if v = 0 then (r : Int) - dm0 p n r M else if v = 1 then (((n - 1) * r : Nat) : Int) - dmB p n r T M else if v = 2 then dm0 p n r M else if v = 3 then (dmB p n r T M : Int) + dmH p n r T M else if v = 4 then dmB p n r T M else if v = 5 then dmH p n r T M else (((n - 1) * r : Nat) : Int) - dmB p n r T M - dm0 p n r M
section MQU
variable {F m g n r : Nat} {Z Z' : zS} {T : Nat → Nat → Nat} {M : Nat → Nat → Nat → Int}
theorem dH_12 {p : Nat} [NeZero p] (hI : fInv p) (h : mMd Z m g n T p r M) (hsd : sdM (p := p) n r T M) (hk : mKn (p := p) n r T M Z') : dmH p n r T M ≤ 12 := by
  have hr' := h.2.2.2.2.2.1
  have hr : r = 1 ∨ r = 2 := by omega
  obtain ⟨kB, k, k0, RB, R, R0, lB, l, l0, y1, y2, y3, -⟩ := hk
  obtain ⟨m', a1, a2⟩ := Ctl_all (p := p) h.2.1.G h.2.2.1 hsd hr
  have h1 := Ctl_few hI h.2.1.G hsd a2 y3 y2.1
  have h2 := fEch_count hI (fAway_sub (fNul_sub _)) y3.1
  have h3 : k = dmH p n r T M := h2
  omega
theorem m_power {a b : Nat} (hF : fF F) (hb : b < 100) : zX7_power F (a : Nat) (b : Nat) Z = some (((a ^ b : Nat) : Int), Z) := by
  unfold zX7_power
  refine iX7_power_l4 (I := fun v0 v1 v2 v3 w => a = v0 ∧ b = v1 ∧ ∃ j : Nat, ((a ^ j : Nat) : Int) = v2 ∧ j = v3 ∧ j ≤ b ∧ Z = w) (μ := fun _ _ _ v3 _ => (b - v3).toNat) (P := fun x => x = some (((a ^ b : Nat) : Int), Z)) ?_ F _ _ _ _ _ ⟨rfl, rfl, 0, rfl, rfl, by omega, rfl⟩ (by unfold fF at hF; omega)
  rintro ra _ _ _ _ _ ⟨rfl, rfl, j, rfl, rfl, hj, rfl⟩ ih
  unfold zX7_power_h4
  by_cases c1 : j = b
  · rw [zLe_t (by omega), c1]
  · rw [zLe_f (by omega)]
    exact ih _ _ _ _ _ ⟨rfl, rfl, j + 1, by rw [Nat.pow_succ, Int.natCast_mul], by omega, by omega, rfl⟩ (by omega)
theorem mOk.k {p : Nat} [NeZero p] {Z1 : zS} (h : mOk p Z m g n T r M) (hk : kF Z Z1) (h29 : zI Z1 29 = (m : Nat)) (hKn : mKn (p := p) n r T M Z1) : mOk p Z1 m g n T r M := by
  have := h.1.1
  exact ⟨h.1.k hk, by rw [hk.2.1 7 (by omega)]; exact h.2.1, by omega, fun _ => hKn⟩
theorem m_go {p : Nat} [NeZero p] (hF : fF F) (hI : fInv p) (h : mOk p Z m g n T r M) (hs : sdV n p r T M = 0) : ∃ Z1, zX7_know F (m : Nat) Z = some Z1 ∧ mBo Z1 m g n T p r M ∧ zI Z1 24 = ((n - 1) * (n - 1) * r : Nat) ∧ mKn (p := p) n r T M Z1 ∧ kF Z Z1 ∧ mOk p Z1 m g n T r M := by
  obtain ⟨Z1, a1, a2, a3, a4, a5, a6⟩ := m_know (F := F) hF hI h.1 (sdM_of h.1.2.1.G hs) h.2.2.1 h.2.2.2
  exact ⟨Z1, a1, a2, a3, a5, a6, h.k a6 a4 a5⟩
theorem mKn.d {p : Nat} [NeZero p] (hI : fInv p) (h : mKn (p := p) n r T M Z) : zI Z 35 = (dmH p n r T M : Nat) ∧ zA Z 30 0 = (r : Int) - dm0 p n r M ∧ zA Z 30 2 = dm0 p n r M ∧ zA Z 30 1 = (((n - 1) * r : Nat) : Int) - dmB p n r T M ∧ zA Z 30 3 = (dmB p n r T M : Int) + dmH p n r T M ∧ zA Z 30 4 = dmB p n r T M := by
  obtain ⟨kB, k, k0, RB, R, R0, lB, l, l0, y1, y2, y3, y4, y5, y6, z0, z2, z1, z3, z4⟩ := h
  have hgU : ∀ g, gVu (p := p) n r M g → fOk r g := by
    rintro g ⟨x, i, -, -, -, rfl⟩ j hj
    exact if_neg (by omega)
  have q1 : k0 = dm0 p n r M := fEch_count hI (fSpn_sub hgU) y6.1
  have q2 : kB = dmB p n r T M := fEch_count hI (fSpn_sub (fun g (hg : gB (p := p) n r T M g) => gB_ok hg)) y2.1
  have q3 : k = dmH p n r T M := fEch_count hI (fAway_sub (fNul_sub _)) y3.1
  rw [← q1, ← q2, ← q3]
  exact ⟨y5, z0, z2, z1, z3, z4⟩
theorem m_dim1 {p : Nat} [NeZero p] {v : Int} (hF : fF F) (h : mOk p Z m g n T r M) (hv : -2147483648 ≤ v ∧ v < 2147483648) (hbad : ¬ (0 ≤ v ∧ v ≤ 6)) : zX7_dimension F (m : Nat) v Z = some (-1, Z) := by
  have hm := h.1.1
  have h7 := h.2.1
  unfold zX7_dimension
  rw [zC1_o (m_isModule (by omega) (by omega)), if_pos (by omega), zEq_f (by omega), zC1_o (y_in (a := v) (b := 0) (c := 6) (by decide) (by decide) (by omega)), if_neg hbad, zEq_t (by omega)]
theorem m_dim2 {p : Nat} [NeZero p] {v : Int} (hF : fF F) (h : mOk p Z m g n T r M) (hv : 0 ≤ v ∧ v ≤ 6) (hs : sdV n p r T M ≠ 0) (hsb : -2147483648 ≤ sdV n p r T M ∧ sdV n p r T M < 2147483648) : zX7_dimension F (m : Nat) v Z = some (-2, Z) := by
  have hm := h.1.1
  have h7 := h.2.1
  unfold zX7_dimension
  rw [zC1_o (m_isModule (by omega) (by omega)), if_pos (by omega), zEq_f (by omega), zC1_o (y_in (a := v) (b := 0) (c := 6) (by decide) (by decide) (by omega)), if_pos hv, zEq_f (by omega), zC1_o (m_sound hF h.1 h.2.1), zEq_f (by omega)]
theorem m_dim3 {p : Nat} [NeZero p] {v : Int} (hF : fF F) (hI : fInv p) (h : mOk p Z m g n T r M) (hv : 0 ≤ v ∧ v ≤ 6) (hs : sdV n p r T M = 0) : ∃ Z1, zX7_dimension F (m : Nat) v Z = some (dmV p n r T M v, Z1) ∧ kF Z Z1 ∧ mOk p Z1 m g n T r M ∧ mBo Z1 m g n T p r M := by
  have hm := h.1.1
  have h7 := h.2.1
  obtain ⟨Z1, a1, a2, a3, a4, a5, a6⟩ := m_go (F := F) hF hI h hs
  obtain ⟨e5, e0, e2, e1, e3, e4⟩ := a4.d hI
  refine ⟨Z1, ?_, a5, a6, a2⟩
  unfold zX7_dimension
  rw [zC1_o (m_isModule (by omega) (by omega)), if_pos (by omega), zEq_f (by omega), zC1_o (y_in (a := v) (b := 0) (c := 6) (by decide) (by decide) (by omega)), if_pos hv, zEq_f (by omega), zC1_o (m_sound hF h.1 h.2.1), zEq_t (by omega), zC0_o a1]
  unfold dmV
  by_cases c5 : 5 ≤ v
  · rw [zLe_t (by omega), if_neg (show ¬ v = 0 by omega), if_neg (show ¬ v = 1 by omega), if_neg (show ¬ v = 2 by omega), if_neg (show ¬ v = 3 by omega), if_neg (show ¬ v = 4 by omega)]
    by_cases c6 : v = 5
    · rw [zEq_t (by omega), if_pos c6, e5]
    · rw [zEq_f (by omega), if_neg c6, zLd_o (by omega), zLd_o (by omega), e1, e2]
  · rw [zLe_f (by omega), zLd_o (by omega)]
    by_cases c0 : v = 0
    · rw [if_pos c0, c0, e0]
    · by_cases c1 : v = 1
      · rw [if_neg c0, if_pos c1, c1, e1]
      · by_cases c2 : v = 2
        · rw [if_neg c0, if_neg c1, if_pos c2, c2, e2]
        · by_cases c3 : v = 3
          · rw [if_neg c0, if_neg c1, if_neg c2, if_pos c3, c3, e3]
          · have c4 : v = 4 := by omega
            rw [if_neg c0, if_neg c1, if_neg c2, if_neg c3, if_pos c4, c4, e4]
theorem m_lacks1 {p : Nat} [NeZero p] {v : Int} (h : mOk p Z m g n T r M) (hv : -2147483648 ≤ v ∧ v < 0) : zX7_lacks F (m : Nat) v Z = some (-1, Z) := by
  have hm := h.1.1
  have h7 := h.2.1
  unfold zX7_lacks
  rw [zC1_o (m_isModule (by omega) (by omega)), if_pos (by omega), zEq_f (by omega), zLe_f (by omega)]
theorem m_lacks2 {p : Nat} [NeZero p] {v : Int} (hF : fF F) (h : mOk p Z m g n T r M) (hv : 0 ≤ v ∧ v < 2147483648) (hs : sdV n p r T M ≠ 0) (hsb : -2147483648 ≤ sdV n p r T M ∧ sdV n p r T M < 2147483648) : zX7_lacks F (m : Nat) v Z = some (-2, Z) := by
  have hm := h.1.1
  have h7 := h.2.1
  unfold zX7_lacks
  rw [zC1_o (m_isModule (by omega) (by omega)), if_pos (by omega), zEq_f (by omega), zLe_t (by omega), zC1_o (m_sound hF h.1 h.2.1), zEq_f (by omega)]
theorem m_lacks3 {p : Nat} [NeZero p] {v : Int} (hF : fF F) (hI : fInv p) (h : mOk p Z m g n T r M) (hv : 0 ≤ v ∧ v < 2147483648) (hs : sdV n p r T M = 0) : ∃ Z1, zX7_lacks F (m : Nat) v Z = some (if v < ((p ^ dmH p n r T M : Nat) : Int) then 0 else -1, Z1) ∧ kF Z Z1 ∧ mOk p Z1 m g n T r M ∧ mBo Z1 m g n T p r M ∧ zI Z1 24 = ((n - 1) * (n - 1) * r : Nat) ∧ mKn (p := p) n r T M Z1 := by
  have hm := h.1.1
  have h7 := h.2.1
  obtain ⟨hp1, hp2⟩ := h.1.2.2.2.2.1
  obtain ⟨Z1, a1, a2, a3, a4, a5, a6⟩ := m_go (F := F) hF hI h hs
  have hH := dH_12 hI h.1 (sdM_of h.1.2.1.G hs) a4
  obtain ⟨e5, -⟩ := a4.d hI
  refine ⟨Z1, ?_, a5, a6, a2, a3, a4⟩
  have hpw : p ^ dmH p n r T M ≤ 5 ^ 12 := Nat.le_trans (Nat.pow_le_pow_left hp2 _) (Nat.pow_le_pow_right (by omega) hH)
  have hpw0 : 0 < p ^ dmH p n r T M := Nat.pow_pos (by omega)
  have h5 : (5 : Nat) ^ 12 = 244140625 := by decide
  rw [h5] at hpw
  generalize hq : p ^ dmH p n r T M = q at *
  unfold zX7_lacks
  rw [zC1_o (m_isModule (by omega) (by omega)), if_pos (by omega), zEq_f (by omega), zLe_t (by omega), zC1_o (m_sound hF h.1 h.2.1), zEq_t (by omega), zC0_o a1, a2.2.2.2.2.2, e5, zC1_o (m_power hF (by omega)), hq, zC1_o (y_in (a := v) (b := 0) (c := (q : Int) - 1) (by decide) rfl (by omega))]
  by_cases c : v < q
  · rw [if_pos (show 0 ≤ v ∧ v ≤ (q : Int) - 1 by omega), zEq_f (by omega), if_pos c]
  · rw [if_neg (show ¬ (0 ≤ v ∧ v ≤ (q : Int) - 1) by omega), zEq_t (by omega), if_neg c]
end MQU
