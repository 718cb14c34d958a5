/-! THE MODEL: product; pair's bad arguments -/
section MPD
variable {F g g1 g2 n m1 m2 : Nat} {Z : zS} {T T1 T2 : Nat → Nat → Nat}
theorem m_product1 {a x y : Int} (hG : mGs Z) (ha : -2147483648 ≤ a ∧ a < 2147483648) (hx : -2147483648 ≤ x ∧ x < 2147483648) (hy : -2147483648 ≤ y ∧ y < 2147483648) (hb : ¬ ((0 ≤ a ∧ a < zI Z 0) ∧ (0 ≤ x ∧ x < zA Z 1 a) ∧ 0 ≤ y ∧ y < zA Z 1 a)) : zX7_product F a x y Z = some (-1, Z) := by
  unfold zX7_product zX7_product_b28
  rw [zC1_o (y_isElement ha hx hG.1 (hG.2 _))]
  by_cases c : (0 ≤ a ∧ a < zI Z 0) ∧ 0 ≤ x ∧ x < zA Z 1 a
  · rw [if_pos c, zEq_f (by omega), zC1_o (y_isElement ha hy hG.1 (hG.2 _)), if_neg (fun q => hb ⟨q.1, c.2, q.2⟩), zEq_t (by omega)]
  · rw [if_neg c, zEq_t (by omega)]
theorem m_product {x y : Nat} (hG : mGs Z) (h : yG Z g n T) (hg : (g : Int) < zI Z 0) (hx : x < n) (hy : y < n) : zX7_product F (g : Nat) (x : Nat) (y : Nat) Z = some ((T x y : Int), Z) := by
  have hb := h.b
  have e1 : zA Z 1 (g : Nat) = n := h.2.1
  unfold zX7_product
  rw [zC1_o (y_isElement (a := (g : Nat)) (x := (x : Nat)) (by omega) (by omega) hG.1 (hG.2 _)), e1, if_pos (by omega), zEq_f (by omega), zC1_o (y_isElement (a := (g : Nat)) (x := (y : Nat)) (by omega) (by omega) hG.1 (hG.2 _)), e1, if_pos (by omega), zEq_f (by omega), zC1_o (h.mul hx hy)]
theorem m_pair1 {a b : Int} (hG : mGs Z) (ha : -2147483648 ≤ a ∧ a < 2147483648) (hb : -2147483648 ≤ b ∧ b < 2147483648) (hbad : ¬ ((0 ≤ a ∧ a < zI Z 0) ∧ 0 ≤ b ∧ b < zI Z 0)) : zX7_pair F a b Z = some (-1, Z) := by
  unfold zX7_pair
  rw [zC1_o (y_isGroup ha hG.1)]
  by_cases c : 0 ≤ a ∧ a < zI Z 0
  · rw [if_pos c, zEq_f (by omega), zC1_o (y_isGroup hb hG.1), if_neg (fun q => hbad ⟨c, q⟩), zEq_t (by omega)]
  · rw [if_neg c, zEq_t (by omega)]
theorem m_pair3 (hG : mGs Z) (h1 : yG Z g1 m1 T1) (h2 : yG Z g2 m2 T2) (hg1 : (g1 : Int) < zI Z 0) (hg2 : (g2 : Int) < zI Z 0) (hbad : zI Z 0 = 8 ∨ 48 < m1 * m2) : zX7_pair F (g1 : Nat) (g2 : Nat) Z = some (-3, Z) := by
  have hm1 := h1.b
  have hm2 := h2.b
  have hmm : m1 * m2 ≤ 48 * 48 := Nat.mul_le_mul hm1.1 hm2.1
  unfold zX7_pair
  rw [zC1_o (y_isGroup (a := (g1 : Nat)) (by omega) hG.1), if_pos (by omega), zEq_f (by omega), zC1_o (y_isGroup (a := (g2 : Nat)) (by omega) hG.1), if_pos (by omega), zEq_f (by omega), h1.sz, h2.sz]
  have hz := hG.1
  by_cases c : zI Z 0 = 8
  · rw [zEq_t (by omega)]
  · rw [zEq_f (by omega), ← Int.natCast_mul, zLe_f (by omega)]
end MPD
