/-! THE MODEL: element, product, faultOf -/
section MEL
variable {F g n row : Nat} {Z : zS} {T : Nat → Nat → Nat}
theorem m_element1 {a x k : Int} (hG : mGs Z) (ha : -2147483648 ≤ a ∧ a < 2147483648) (hx : -2147483648 ≤ x ∧ x < 2147483648) (hb : ¬ ((0 ≤ a ∧ a < zI Z 0) ∧ 0 ≤ x ∧ x < zA Z 1 a)) : zX7_element F a x k Z = some (-1, Z) := by
  unfold zX7_element
  rw [zC1_o (y_isElement ha hx hG.1 (hG.2 _)), if_neg hb, zEq_t (by omega)]
theorem m_element {k : Int} {x : Nat} (hF : fF F) (hG : mGs Z) (h : yG Z g n T) (hg : (g : Int) < zI Z 0) (hx : x < n) (hk : -2147483648 ≤ k ∧ k < 2147483648) : zX7_element F (g : Nat) (x : Nat) k Z = some (if k = 0 then (zInv n T x : Int) else if k = 1 then (zOr n T x : Int) else if k = 2 then (nC (fun y => T x y = T y x) n : Int) else if k = 3 then (zTurn n T x : Int) else -1, Z) := by
  have hb := h.b
  have e1 : zA Z 1 (g : Nat) = n := h.2.1
  unfold zX7_element
  rw [zC1_o (y_isElement (a := (g : Nat)) (x := (x : Nat)) (by omega) (by omega) hG.1 (hG.2 _)), e1, if_pos (by omega), zEq_f (by omega)]
  by_cases c0 : k = 0
  · rw [zEq_t (by omega), if_pos c0, zC1_o (y_inverse hF h hx)]
  · by_cases c1 : k = 1
    · rw [zEq_f (by omega), zEq_t (by omega), if_neg c0, if_pos c1, zC1_o (y_orderOf hF h hx)]
    · by_cases c2 : k = 2
      · rw [zEq_f (by omega), zEq_f (by omega), zEq_t (by omega), if_neg c0, if_neg c1, if_pos c2, zC1_o (y_friends hF h hx)]
      · by_cases c3 : k = 3
        · rw [zEq_f (by omega), zEq_f (by omega), zEq_f (by omega), zEq_t (by omega), if_neg c0, if_neg c1, if_neg c2, if_pos c3, zC1_o (y_leastTurned hF h hx)]
        · rw [zEq_f (by omega), zEq_f (by omega), zEq_f (by omega), zEq_f (by omega), if_neg c0, if_neg c1, if_neg c2, if_neg c3]
theorem m_faultOf {t v len : Int} (hr : row < 4) (h4 : zA Z 4 row = t) (ht : t = -4 ∨ t = 0 ∨ t = 1) (hv : -2147483648 ≤ v ∧ v < 2147483648) (h5 : -2147483648 ≤ zA Z 5 row ∧ zA Z 5 row < 2147483648) (hl : -2147483648 ≤ len ∧ len < 2147483648) : zX7_faultOf F (row : Nat) v len Z = some (if t = -4 then -11 else if t = v then (if len ≤ zA Z 5 row then 0 else -12) else -13, Z) := by
  unfold zX7_faultOf
  rw [zLd_o (by omega), h4]
  by_cases c1 : t = -4
  · rw [zEq_t (by omega), if_pos c1]
  · rw [zEq_f (by omega), if_neg c1, zLd_o (by omega), h4]
    by_cases c2 : t = v
    · rw [zEq_t (by omega), if_pos c2, zLd_o (by omega)]
      by_cases c3 : len ≤ zA Z 5 row
      · rw [zLe_t (by omega), if_pos c3]
      · rw [zLe_f (by omega), if_neg c3]
    · rw [zEq_f (by omega), if_neg c2]
end MEL
