/-! THE MODEL: lay -/
section MLY
variable {F row : Nat} {Z : zS}
/-- a letter as a byte, as the model makes it -/
def lyB (v : Int) : Int := (Int32.ofInt (Int32.ofInt v <<< Int32.ofInt (Int32.ofInt (24 : Int) &&& Int32.ofInt (31 : Int)).toInt).toInt >>> Int32.ofInt (Int32.ofInt (24 : Int) &&& Int32.ofInt (31 : Int)).toInt).toInt
theorem m_lay1 {a i v : Int} (ha : -2147483648 ≤ a ∧ a < 2147483648) (hb : ¬ (0 ≤ a ∧ a ≤ 3)) : zX7_lay F a i v Z = some (-1, Z) := by
  unfold zX7_lay
  rw [zC1_o (y_in (a := a) (b := 0) (c := 3) (by decide) (by decide) (by omega)), if_neg hb, zEq_t (by omega)]
theorem m_lay11 {i v : Int} (hr : row < 4) (h4 : zA Z 4 row = -4) : zX7_lay F (row : Nat) i v Z = some (-11, Z) := by
  unfold zX7_lay
  rw [zC1_o (y_in (a := (row : Nat)) (b := 0) (c := 3) (by decide) (by decide) (by omega)), if_pos (by omega), zEq_f (by omega), zLd_o (by omega), zEq_t (by omega)]
theorem m_lay12 {i v t len : Int} (hr : row < 4) (h4 : zA Z 4 row = t) (ht : 0 ≤ t ∧ t ≤ 1) (h5 : zA Z 5 row = len) (hl : 0 ≤ len ∧ len ≤ 144) (hi : -2147483648 ≤ i ∧ i < 2147483648) (hb : ¬ (0 ≤ i ∧ i < len)) : zX7_lay F (row : Nat) i v Z = some (-12, Z) := by
  unfold zX7_lay
  rw [zC1_o (y_in (a := (row : Nat)) (b := 0) (c := 3) (by decide) (by decide) (by omega)), if_pos (by omega), zEq_f (by omega), zLd_o (by omega), zEq_f (by omega), zLd_o (by omega), h5, zC1_o (y_in (a := i) (b := 0) (c := len - 1) (by decide) rfl (by omega)), if_neg (by omega), zEq_t (by omega)]
theorem m_lay {i v t len : Int} (hr : row < 4) (h4 : zA Z 4 row = t) (ht : 0 ≤ t ∧ t ≤ 1) (h5 : zA Z 5 row = len) (hl : 0 ≤ len ∧ len ≤ 144) (hi : 0 ≤ i ∧ i < len) : zX7_lay F (row : Nat) i v Z = some (1, zuA Z 6 (144 * (row : Int) + i) (if t = 0 then lyB v else v)) := by
  unfold zX7_lay zX7_lay_b80
  rw [zC1_o (y_in (a := (row : Nat)) (b := 0) (c := 3) (by decide) (by decide) (by omega)), if_pos (by omega), zEq_f (by omega), zLd_o (by omega), zEq_f (by omega), zLd_o (by omega), h5, zC1_o (y_in (a := i) (b := 0) (c := len - 1) (by decide) rfl (by omega)), if_pos (by omega), zEq_f (by omega), zLd_o (by omega)]
  by_cases c : t = 0
  · rw [zEq_t (by omega), if_pos c, zSt_o (by omega)]
    rfl
  · rw [zEq_f (by omega), if_neg c, zSt_o (by omega)]
end MLY
