/-! THE MODEL: dihedral -/
section MDH
variable {F g n : Nat} {Z : zS} {f : Int → Int}
theorem m_setI {x y v : Int} (h0 : zI Z 0 = g) (hg : g < 8) (hx : 0 ≤ x ∧ x < 72) (hy : 0 ≤ y ∧ y < 72) : zX7_set F x y v (zwA Z 2 f) = some (zwA Z 2 (zup f (5184 * (g : Int) + 72 * x + y) v)) := by
  have e0 : zI (zwA Z 2 f) 0 = g := h0
  unfold zX7_set
  rw [e0, zSt_o (by omega), zwA_u]
def dhO (g n i j : Nat) (f : Int → Int) : Prop := f (5184 * (g : Int) + 72 * i + j) = zDih n i j ∧ f (5184 * (g : Int) + 72 * i + ((n : Int) + j)) = zDih n i (n + j) ∧ f (5184 * (g : Int) + 72 * ((n : Int) + i) + j) = zDih n (n + i) j ∧ f (5184 * (g : Int) + 72 * ((n : Int) + i) + ((n : Int) + j)) = zDih n (n + i) (n + j)
theorem dih_v {i j : Nat} (hi : i < n) (hj : j < n) : (zDih n i j : Int) = ((i : Int) + j) % n ∧ (zDih n i (n + j) : Int) = n + ((i : Int) + j) % n ∧ (zDih n (n + i) j : Int) = n + ((i : Int) - j + n) % n ∧ (zDih n (n + i) (n + j) : Int) = ((i : Int) - j + n) % n := by
  have h0 : 0 < n := by omega
  refine ⟨?_, ?_, ?_, ?_⟩
  · obtain ⟨r, r1, r2, r3⟩ := zDih_at h0 i j
    rw [if_pos hi] at r2
    rw [if_pos (by omega)] at r3
    rw [r3, ← r2]; omega
  · obtain ⟨r, r1, r2, r3⟩ := zDih_at h0 i (n + j)
    rw [if_pos hi] at r2
    rw [if_neg (by omega)] at r3
    have e : (i : Int) + ((n + j : Nat) : Int) = ((i : Int) + j) + n := by omega
    rw [e, Int.add_emod_right] at r2
    rw [r3, ← r2]; omega
  · obtain ⟨r, r1, r2, r3⟩ := zDih_at h0 (n + i) j
    rw [if_neg (by omega)] at r2
    rw [if_neg (by omega)] at r3
    have e : ((n + i : Nat) : Int) - (j : Int) = (i : Int) - j + n := by omega
    rw [e] at r2
    rw [r3, ← r2]; omega
  · obtain ⟨r, r1, r2, r3⟩ := zDih_at h0 (n + i) (n + j)
    rw [if_neg (by omega)] at r2
    rw [if_pos (by omega)] at r3
    have e : ((n + i : Nat) : Int) - ((n + j : Nat) : Int) = (i : Int) - j := by omega
    rw [e] at r2
    rw [r3, Int.add_emod_right, ← r2]; omega
theorem m_dihedral0 {v : Int} (hv : -2147483648 ≤ v ∧ v < 2147483648) (hb : ¬ (1 ≤ v ∧ v ≤ 24)) : zX7_dihedral F v Z = some (-1, Z) := by
  unfold zX7_dihedral
  rw [zC1_o (y_in (a := v) (b := 1) (c := 24) (by decide) (by decide) (by omega)), if_neg hb, zEq_t (by omega)]
theorem m_dihedral8 {v : Int} (hv : 1 ≤ v ∧ v ≤ 24) (h0 : zI Z 0 = 8) : zX7_dihedral F v Z = some (-3, Z) := by
  unfold zX7_dihedral
  rw [zC1_o (y_in (a := v) (b := 1) (c := 24) (by decide) (by decide) (by omega)), if_pos hv, zEq_f (by omega), zEq_t (by omega)]
theorem m_dihedral (hF : fF F) (hn : 1 ≤ n ∧ n ≤ 24) (h0 : zI Z 0 = g) (hg : g < 8) : ∃ f, zX7_dihedral F (n : Nat) Z = some ((g : Int), gNew Z f g ((2 * n : Nat) : Int)) ∧ tbF Z g (2 * n) (zDih n) (2 * n) 0 f := by
  unfold zX7_dihedral
  rw [zC1_o (y_in (a := (n : Nat)) (b := 1) (c := 24) (by decide) (by decide) (by omega)), if_pos (by omega), zEq_f (by omega), zEq_f (by omega)]
  rw [show zX7_dihedral_l28 F _ F (n : Nat) 0 Z = zX7_dihedral_l28 F _ F (n : Nat) 0 (zwA Z 2 (zA Z 2)) from by rw [zwA_e]]
  let P : Option (Int × zS) → Prop := fun q => ∃ f, q = some ((g : Int), gNew Z f g ((2 * n : Nat) : Int)) ∧ tbF Z g (2 * n) (zDih n) (2 * n) 0 f
  let Q : Nat → Nat → (Int → Int) → Prop := fun x y f => (∀ i j : Nat, i < n → j < n → (i < x ∨ (i = x ∧ j < y)) → dhO g n i j f) ∧ ∀ i : Int, i < 5184 * (g : Int) → f i = zA Z 2 i
  refine iX7_dihedral_l28 (I := fun v1 v2 w => n = v1 ∧ ∃ (x : Nat) (f : Int → Int), x = v2 ∧ x ≤ n ∧ zwA Z 2 f = w ∧ Q x 0 f) (μ := fun _ v2 _ => (n - v2).toNat) (P := P) ?_ F _ _ _ ⟨rfl, 0, _, rfl, by omega, rfl, fun i j _ _ h => by omega, fun _ _ => rfl⟩ (by unfold fF at hF; omega)
  rintro ra _ _ _ ⟨rfl, x, f, rfl, hx, rfl, hf⟩ ih
  unfold zX7_dihedral_h28
  by_cases c1 : x = n
  · rw [zLe_t (by omega)]
    dsimp only
    have e2 : (2 : Int) * (n : Nat) = ((2 * n : Nat) : Int) := by omega
    rw [e2, zC1_o (m_added h0 hg)]
    refine ⟨f, rfl, fun x' y' a1 a2 _ => ?_, hf.2⟩
    by_cases b1 : x' < n
    · by_cases b2 : y' < n
      · exact (hf.1 x' y' b1 b2 (by omega)).1
      · obtain ⟨j, rfl⟩ : ∃ j, y' = n + j := ⟨y' - n, by omega⟩
        have := (hf.1 x' j b1 (by omega) (by omega)).2.1
        rw [Int.natCast_add]; exact this
    · obtain ⟨i, rfl⟩ : ∃ i, x' = n + i := ⟨x' - n, by omega⟩
      by_cases b2 : y' < n
      · have := (hf.1 i y' (by omega) b2 (by omega)).2.2.1
        rw [Int.natCast_add]; exact this
      · obtain ⟨j, rfl⟩ : ∃ j, y' = n + j := ⟨y' - n, by omega⟩
        have := (hf.1 i j (by omega) (by omega) (by omega)).2.2.2
        rw [Int.natCast_add, Int.natCast_add]; exact this
  · have hxn : x < n := by omega
    rw [zLe_f (by omega)]
    refine iX7_dihedral_l35 (I := fun v1 v2 v3 w => n = v1 ∧ x = v2 ∧ ∃ (y : Nat) (f : Int → Int), y = v3 ∧ y ≤ n ∧ zwA Z 2 f = w ∧ Q x y f) (μ := fun _ _ v3 _ => (n - v3).toNat) (P := P) ?_ F _ _ _ _ ⟨rfl, rfl, 0, f, rfl, by omega, rfl, hf⟩ (by unfold fF at hF; omega)
    rintro rb _ _ _ _ ⟨rfl, rfl, y, f, rfl, hy, rfl, hf⟩ ih2
    unfold zX7_dihedral_h35
    by_cases c2 : y = n
    · rw [zLe_t (by omega)]
      exact ih _ _ _ ⟨rfl, x + 1, f, by omega, by omega, rfl, fun i j a1 a2 a3 => hf.1 i j a1 a2 (by omega), hf.2⟩ (by omega)
    · have hyn : y < n := by omega
      obtain ⟨d1, d2, d3, d4⟩ := dih_v hxn hyn
      rw [zLe_f (by omega), zRem_p (by omega), zC0_o (m_setI h0 hg (by omega) (by omega)), zRem_p (by omega), zC0_o (m_setI h0 hg (by omega) (by omega)), zRem_p (by omega), zC0_o (m_setI h0 hg (by omega) (by omega)), zRem_p (by omega), zC0_o (m_setI h0 hg (by omega) (by omega))]
      refine ih2 _ _ _ _ ⟨rfl, rfl, y + 1, _, by omega, by omega, rfl, fun i j a1 a2 a3 => ?_, fun i hi => ?_⟩ (by omega)
      · unfold dhO
        by_cases c3 : i = x ∧ j = y
        · obtain ⟨rfl, rfl⟩ := c3
          refine ⟨?_, ?_, ?_, ?_⟩
          · rw [zup_n (by omega), zup_n (by omega), zup_n (by omega), zup_s, d1]
          · rw [zup_n (by omega), zup_n (by omega), zup_s, d2]
          · rw [zup_n (by omega), zup_s, d3]
          · rw [zup_s, d4]
        · obtain ⟨h1, h2, h3, h4⟩ := hf.1 i j a1 a2 (by omega)
          refine ⟨?_, ?_, ?_, ?_⟩
          · rw [zup_n (by omega), zup_n (by omega), zup_n (by omega), zup_n (by omega), h1]
          · rw [zup_n (by omega), zup_n (by omega), zup_n (by omega), zup_n (by omega), h2]
          · rw [zup_n (by omega), zup_n (by omega), zup_n (by omega), zup_n (by omega), h3]
          · rw [zup_n (by omega), zup_n (by omega), zup_n (by omega), zup_n (by omega), h4]
      · rw [zup_n (by omega), zup_n (by omega), zup_n (by omega), zup_n (by omega)]
        exact hf.2 i hi
end MDH
