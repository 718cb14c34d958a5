/-! THE MODEL: pair -/
section MPR2
variable {F g g1 g2 n m1 m2 : Nat} {Z : zS} {T T1 T2 : Nat → Nat → Nat} {f : Int → Int}
theorem tb_yG {x y : Nat} (h : tbF Z g n T x y f) (h1 : yG Z g1 m1 T1) (hg : g1 < g) : yG (zwA Z 2 f) g1 m1 T1 := by
  obtain ⟨a1, a2, a3, a4, a5⟩ := h1
  refine ⟨a1, a2, a3, a4, fun x' y' hx' hy' => ?_⟩
  show f (5184 * (g1 : Int) + 72 * x' + y') = _
  rw [h.2 _ (by omega)]
  exact a5 x' y' hx' hy'
theorem m_pair (hF : fF F) (hG : mGs Z) (h0 : zI Z 0 = g) (hg : g < 8) (h1 : yG Z g1 m1 T1) (h2 : yG Z g2 m2 T2) (hg1 : g1 < g) (hg2 : g2 < g) (h48 : m1 * m2 ≤ 48) : ∃ f, zX7_pair F (g1 : Nat) (g2 : Nat) Z = some ((g : Int), gNew Z f g ((m1 * m2 : Nat) : Int)) ∧ tbF Z g (m1 * m2) (fun x y => m2 * T1 (x / m2) (y / m2) + T2 (x % m2) (y % m2)) (m1 * m2) 0 f := by
  have hm1 := h1.b
  have hm2 := h2.b
  unfold zX7_pair
  rw [zC1_o (y_isGroup (a := (g1 : Nat)) (by omega) hG.1), if_pos (by omega), zEq_f (by omega), zC1_o (y_isGroup (a := (g2 : Nat)) (by omega) hG.1), if_pos (by omega), zEq_f (by omega), h1.sz, h2.sz, zEq_f (by omega), ← Int.natCast_mul, zLe_t (by omega)]
  let N := m1 * m2
  let Tp : Nat → Nat → Nat := fun x y => m2 * T1 (x / m2) (y / m2) + T2 (x % m2) (y % m2)
  let P : Option (Int × zS) → Prop := fun q => ∃ f, q = some ((g : Int), gNew Z f g ((N : Nat) : Int)) ∧ tbF Z g N Tp N 0 f
  rw [show zX7_pair_l57 F _ F (g1 : Nat) (g2 : Nat) (m1 : Nat) (m2 : Nat) 0 Z = zX7_pair_l57 F _ F (g1 : Nat) (g2 : Nat) (m1 : Nat) (m2 : Nat) 0 (zwA Z 2 (zA Z 2)) from by rw [zwA_e]]
  refine iX7_pair_l57 (I := fun v1 v2 v3 v4 v5 w => g1 = v1 ∧ g2 = v2 ∧ m1 = v3 ∧ m2 = v4 ∧ ∃ (x : Nat) (f : Int → Int), x = v5 ∧ x ≤ N ∧ zwA Z 2 f = w ∧ tbF Z g N Tp x 0 f) (μ := fun _ _ _ _ v5 _ => (N - v5).toNat) (P := P) ?_ F _ _ _ _ _ _ ⟨rfl, rfl, rfl, rfl, 0, _, rfl, by omega, rfl, tb_0⟩ (by have hN : N ≤ 48 := h48; unfold fF at hF; omega)
  rintro ra _ _ _ _ _ _ ⟨rfl, rfl, rfl, rfl, x, f, rfl, hx, rfl, hf⟩ ih
  have hN : N ≤ 48 := h48
  have eN : ((m1 : Nat) : Int) * (m2 : Nat) = (N : Nat) := (Int.natCast_mul m1 m2).symm
  unfold zX7_pair_h57
  rw [eN]
  by_cases c1 : x = N
  · rw [zLe_t (by omega)]
    dsimp only
    rw [eN, zC1_o (m_added h0 hg)]
    exact ⟨f, rfl, by rw [c1] at hf; exact hf⟩
  · have hxn : x < N := by omega
    rw [zLe_f (by omega)]
    refine iX7_pair_l69 (I := fun v1 v2 v3 v4 v5 v6 w => g1 = v1 ∧ g2 = v2 ∧ m1 = v3 ∧ m2 = v4 ∧ x = v5 ∧ ∃ (y : Nat) (f : Int → Int), y = v6 ∧ y ≤ N ∧ zwA Z 2 f = w ∧ tbF Z g N Tp x y f) (μ := fun _ _ _ _ _ v6 _ => (N - v6).toNat) (P := P) ?_ F _ _ _ _ _ _ _ ⟨rfl, rfl, rfl, rfl, rfl, 0, f, rfl, by omega, rfl, hf⟩ (by unfold fF at hF; omega)
    rintro rb _ _ _ _ _ _ _ ⟨rfl, rfl, rfl, rfl, rfl, y, f, rfl, hy, rfl, hf⟩ ih2
    unfold zX7_pair_h69
    rw [eN]
    by_cases c2 : y = N
    · rw [zLe_t (by omega)]
      rw [c2] at hf
      exact ih _ _ _ _ _ _ ⟨rfl, rfl, rfl, rfl, x + 1, f, by omega, by omega, rfl, tb_next hf⟩ (by omega)
    · have hyn : y < N := by omega
      have dx : x / m2 < m1 := Nat.div_lt_of_lt_mul (by rw [Nat.mul_comm]; exact hxn)
      have dy : y / m2 < m1 := Nat.div_lt_of_lt_mul (by rw [Nat.mul_comm]; exact hyn)
      have rx := Nat.mod_lt x hm2.2.1
      have ry := Nat.mod_lt y hm2.2.1
      have e1 : ((x : Nat) : Int) / (m2 : Nat) = ((x / m2 : Nat) : Int) := (Int.natCast_ediv x m2).symm
      have e2 : ((y : Nat) : Int) / (m2 : Nat) = ((y / m2 : Nat) : Int) := (Int.natCast_ediv y m2).symm
      have e3 : ((x : Nat) : Int) % (m2 : Nat) = ((x % m2 : Nat) : Int) := (Int.natCast_emod x m2).symm
      have e4 : ((y : Nat) : Int) % (m2 : Nat) = ((y % m2 : Nat) : Int) := (Int.natCast_emod y m2).symm
      rw [zLe_f (by omega), zDiv_p (by omega), zDiv_p (by omega), e1, e2, zC1_o ((tb_yG hf h1 hg1).mul dx dy), zRem_p (by omega), zRem_p (by omega), e3, e4, zC1_o ((tb_yG hf h2 hg2).mul rx ry), zC0_o (m_setT h0 hg (by omega) (by omega))]
      have e : ((m2 : Nat) : Int) * (T1 (x / m2) (y / m2) : Nat) + (T2 (x % m2) (y % m2) : Nat) = ((Tp x y : Nat) : Int) := by
        show _ = ((m2 * T1 (x / m2) (y / m2) + T2 (x % m2) (y % m2) : Nat) : Int)
        rw [Int.natCast_add, Int.natCast_mul]
      rw [e]
      exact ih2 _ _ _ _ _ _ _ ⟨rfl, rfl, rfl, rfl, rfl, y + 1, _, by omega, by omega, rfl, tb_step hf (by omega) hyn⟩ (by omega)
end MPR2
