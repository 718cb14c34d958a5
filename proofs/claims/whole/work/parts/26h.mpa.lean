/-! THE MODEL: parts, twist -/
section MPA
variable {F m g n r : Nat} {Z Z' : zS} {T : Nat → Nat → Nat} {M : Nat → Nat → Nat → Int}
theorem dmB_le {p : Nat} [NeZero p] (hI : fInv p) (h : mKn (p := p) n r T M Z) : dmB p n r T M ≤ (n - 1) * r := by
  obtain ⟨kB, k, k0, RB, R, R0, lB, l, l0, y1, y2, -⟩ := h
  have q2 : kB = dmB p n r T M := fEch_count hI (fSpn_sub (fun g (hg : gB (p := p) n r T M g) => gB_ok hg)) y2.1
  have := gB_few hI y2.1
  omega
noncomputable def ptV (p : Nat) [NeZero p] (n r : Nat) (T : Nat → Nat → Nat) (M : Nat → Nat → Nat → Int) (v : Int) : Int := if 0 ≤ lkV p n r T M v then (if v = 0 then ((p ^ ((n - 1) * r - dmB p n r T M) : Nat) : Int) else 0) else lkV p n r T M v
theorem m_parts {p : Nat} [NeZero p] {v : Int} (hF : fF F) (hI : fInv p) (h : mOk p Z m g n T r M) (hv : -2147483648 ≤ v ∧ v < 2147483648) : ∃ Z1, zX7_parts F (m : Nat) v Z = some (ptV p n r T M v, Z1) ∧ kF Z Z1 ∧ mOk p Z1 m g n T r M := by
  have hr' := h.1.2.2.2.2.2.1
  have h14 : (n - 1) * r ≤ 14 := Nat.le_trans (Nat.mul_le_mul (show n - 1 ≤ 7 by have := h.1.2.2.1; omega) hr'.2) (by omega)
  obtain ⟨Z1, a1, a2, a3, a4, a5⟩ := m_lacks (F := F) hF hI h hv
  unfold zX7_parts ptV
  rw [zC1_o a1]
  by_cases c1 : 0 ≤ lkV p n r T M v
  · obtain ⟨s1, s2, t3, t4, t5⟩ := a4 (by omega)
    rw [zLe_t (by omega), if_pos c1]
    by_cases c2 : v = 0
    · have hB := dmB_le hI t5
      obtain ⟨e5, e0, e2, e1, e3, e4⟩ := t5.d hI
      have ee : (((n - 1) * r : Nat) : Int) - (dmB p n r T M : Nat) = (((n - 1) * r - dmB p n r T M : Nat) : Int) := by omega
      rw [zEq_t (by omega), if_pos c2, zLd_o (by omega), e1, ee, t3.2.2.2.2.2, zC1_o (m_power hF (by omega))]
      exact ⟨Z1, rfl, a2, a3⟩
    · rw [zEq_f (by omega), if_neg c2]
      exact ⟨Z1, rfl, a2, a3⟩
  · rw [zLe_f (by omega), if_neg c1]
    exact ⟨Z1, rfl, a2, a3⟩
/-- the groups of the model, as far as a question about an element looks -/
def mGs (Z : zS) : Prop := (0 ≤ zI Z 0 ∧ zI Z 0 ≤ 8) ∧ ∀ a : Int, 0 ≤ a → a < zI Z 0 → 0 < zA Z 1 a ∧ zA Z 1 a ≤ 48
theorem mGs.k (h : mGs Z) (hk : kF Z Z') : mGs Z' := by
  unfold mGs at *
  rw [hk.2.1 0 (by omega), hk.1 1 (by omega)]
  exact h
theorem m_twist0 {p : Nat} [NeZero p] {v x y i : Int} (hG : mGs Z) (h : mOk p Z m g n T r M) (hg : (g : Int) < zI Z 0) (hx : -2147483648 ≤ x ∧ x < 2147483648) (hy : -2147483648 ≤ y ∧ y < 2147483648) (hi : -2147483648 ≤ i ∧ i < 2147483648) (hbad : ¬ ((0 ≤ x ∧ x < n) ∧ (0 ≤ y ∧ y < n) ∧ 0 ≤ i ∧ i < r)) : zX7_twist F (m : Nat) v x y i Z = some (-1, Z) := by
  have hm := h.1.1
  have h7 := h.2.1
  have hr' := h.1.2.2.2.2.2.1
  have e1 : zA Z 1 (g : Nat) = n := h.1.2.1.2.1
  have hg0 := h.1.2.1.1
  unfold zX7_twist
  rw [zC1_o (m_isModule (by omega) (by omega)), if_pos (show 0 ≤ (m : Int) ∧ (m : Int) < zI Z 7 by omega), zEq_f (by omega), zLd_o (by omega), h.1.2.2.2.1.1, zC1_o (y_isElement (a := (g : Nat)) (x := x) (by omega) hx hG.1 (hG.2 _)), e1]
  by_cases c1 : 0 ≤ x ∧ x < n
  · rw [if_pos (by omega), zEq_f (by omega), zLd_o (by omega), h.1.2.2.2.1.1, zC1_o (y_isElement (a := (g : Nat)) (x := y) (by omega) hy hG.1 (hG.2 _)), e1]
    by_cases c2 : 0 ≤ y ∧ y < n
    · rw [if_pos (by omega), zEq_f (by omega), zLd_o (by omega), h.1.2.2.2.1.2.2, zC1_o (y_in (a := i) (b := 0) (c := (r : Int) - 1) (by decide) rfl (by omega)), if_neg (by omega), zEq_t (by omega)]
    · rw [if_neg (by omega), zEq_t (by omega)]
  · rw [if_neg (by omega), zEq_t (by omega)]
theorem m_twist1 {p : Nat} [NeZero p] {v : Int} {x y i : Nat} (hF : fF F) (hI : fInv p) (hG : mGs Z) (h : mOk p Z m g n T r M) (hg : (g : Int) < zI Z 0) (hv : -2147483648 ≤ v ∧ v < 2147483648) (hx : x < n) (hy : y < n) (hi : i < r) : ∃ Z1 a, zX7_twist F (m : Nat) v x y i Z = some (a, Z1) ∧ kF Z Z1 ∧ mOk p Z1 m g n T r M ∧ (lkV p n r T M v ≠ 0 → a = lkV p n r T M v) ∧ (lkV p n r T M v = 0 → ∀ k R l, fRref (NS (p := p) n r T M) k R l → a = (((pv n r (cmb R v.toNat k) x y i).val : Nat) : Int)) := by
  have hm := h.1.1
  have h7 := h.2.1
  have hr' := h.1.2.2.2.2.2.1
  have hn8 := h.1.2.2.1
  have e1 : zA Z 1 (g : Nat) = n := h.1.2.1.2.1
  have hg0 := h.1.2.1.1
  obtain ⟨Z1, a1, a2, a3, a4, a5⟩ := m_lacks (F := F) hF hI h hv
  unfold zX7_twist
  rw [zC1_o (m_isModule (by omega) (by omega)), if_pos (show 0 ≤ (m : Int) ∧ (m : Int) < zI Z 7 by omega), zEq_f (by omega), zLd_o (by omega), h.1.2.2.2.1.1, zC1_o (y_isElement (a := (g : Nat)) (x := (x : Nat)) (by omega) (by omega) hG.1 (hG.2 _)), e1, if_pos (by omega), zEq_f (by omega), zLd_o (by omega), h.1.2.2.2.1.1, zC1_o (y_isElement (a := (g : Nat)) (x := (y : Nat)) (by omega) (by omega) hG.1 (hG.2 _)), e1, if_pos (by omega), zEq_f (by omega), zLd_o (by omega), h.1.2.2.2.1.2.2, zC1_o (y_in (a := (i : Nat)) (b := 0) (c := (r : Int) - 1) (by decide) rfl (by omega)), if_pos (by omega), zEq_f (by omega), zC1_o a1]
  by_cases c1 : 0 ≤ lkV p n r T M v
  · obtain ⟨s1, s2, t3, t4, t5⟩ := a4 (by omega)
    obtain ⟨f, b1, b2⟩ := m_sumOk (F := F) (v := v.toNat) hF hI t3 t4 t5 (by omega)
    rw [show ((v.toNat : Nat) : Int) = v by omega] at b1
    obtain ⟨kB, k, k0, RB, R, R0, lB, l, l0, y1, y2, y3, -⟩ := t5
    have hv' : fRow ((n - 1) * (n - 1) * r) (zA (zwA Z1 25 f) 25) (cmb R v.toNat k) := by rw [zwA_s]; exact b2 k R l y3
    rw [zLe_t (by omega), zC0_o b1, zC1_o (m_twisted (t3.wA f) hv' hx hy hi)]
    refine ⟨_, _, rfl, a2.wA (by omega) f, a3.wA f, fun q => by omega, fun _ k' R' l' h' => ?_⟩
    obtain ⟨q1, q2, q3⟩ := fRref_one hI (fAway_sub (fNul_sub _)) y3 h'
    have e : cmb R v.toNat k = cmb R' v.toNat k' := by
      rw [← q1]
      funext j
      exact fSum_congr fun s hs => by rw [q3 s hs]
    rw [e]
  · rw [zLe_f (by omega)]
    exact ⟨Z1, _, rfl, a2, a3, fun _ => rfl, fun q => by omega⟩
end MPA
