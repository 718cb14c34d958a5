/-! THE MODEL: quaternions -/
section MQT
variable {F g : Nat} {Z : zS} {f : Int → Int}
theorem q_and3 : ∀ x : Nat, x < 8 → (Int32.ofInt (x : Int) &&& Int32.ofInt (3 : Int)).toInt = ((x % 4 : Nat) : Int) := by decide +kernel
theorem q_xor4 : ∀ x : Nat, x < 8 → ∀ y : Nat, y < 8 → (Int32.ofInt (Int32.ofInt (x : Int) ^^^ Int32.ofInt (y : Int)).toInt &&& Int32.ofInt (4 : Int)).toInt = ((((x ^^^ y) &&& 4) : Nat) : Int) := by decide +kernel
theorem q_flip : ∀ x : Nat, x < 8 → ∀ y : Nat, y < 8 → (Int32.ofInt ((((x ^^^ y) &&& 4) : Nat) : Int) ^^^ Int32.ofInt (4 : Int)).toInt = (((((x ^^^ y) &&& 4) ^^^ 4) : Nat) : Int) ∧ ((x ^^^ y) &&& 4) ≤ 4 ∧ (((x ^^^ y) &&& 4) ^^^ 4) ≤ 4 := by decide +kernel
def qTh (a b : Nat) : Nat := if a = 0 then b else if b = 0 then a else if a = b then 0 else 6 - a - b
theorem q_val : ∀ x : Nat, x < 8 → ∀ y : Nat, y < 8 → qTh (x % 4) (y % 4) + (if 0 < x % 4 ∧ 0 < y % 4 ∧ (x % 4 = y % 4 ∨ (y % 4 + 3 - x % 4) % 3 = 2) then (((x ^^^ y) &&& 4) ^^^ 4) else ((x ^^^ y) &&& 4)) = zQua x y := by decide +kernel
theorem q_step {x y : Nat} (h0 : zI Z 0 = g) (hg : g < 8) (hx : x < 8) (hy : y < 8) {ra : Int → Int → zS → Option (Int × zS)} {k : Int → zS → Option (Int × zS)} (P : Option (Int × zS) → Prop) (fin : P (ra x ((y : Int) + 1) (zwA Z 2 (zup f (5184 * (g : Int) + 72 * x + y) (zQua x y))))) : P (zX7_quaternions_h22 F ra k x y (zwA Z 2 f)) := by
  have hv := q_val x hx y hy
  obtain ⟨c1, c2, c3⟩ := q_flip x hx y hy
  unfold zX7_quaternions_h22
  rw [zLe_f (by omega), q_and3 x hx, q_and3 y hy, q_xor4 x hx y hy]
  generalize hs : ((x ^^^ y) &&& 4) = s at *
  generalize hs4 : (s ^^^ 4) = s4 at *
  have ha : x % 4 < 4 := by omega
  have hb : y % 4 < 4 := by omega
  generalize x % 4 = a at *
  generalize y % 4 = b at *
  have put : ∀ (t e : Nat), t + e = zQua x y → P (zX7_quaternions_b134 F ra k (x : Nat) (y : Nat) (x : Nat) (y : Nat) (t : Nat) (e : Nat) (zwA Z 2 f)) := by
    intro t e h
    unfold zX7_quaternions_b134
    rw [zC0_o (m_setI h0 hg (by omega) (by omega)), ← Int.natCast_add, h]
    exact fin
  have b79 : ∀ t : Int, t = (qTh a b : Nat) → P (zX7_quaternions_b79 F ra k (x : Nat) (y : Nat) (a : Nat) (b : Nat) (s : Nat) t (zwA Z 2 f)) := by
    rintro t rfl
    unfold zX7_quaternions_b79 zX7_quaternions_b112 zX7_quaternions_b108 zX7_quaternions_b113
    by_cases d1 : a = 0
    · rw [zLe_t (by omega), zEq_t (by omega)]
      exact put _ _ (by rw [← hv, if_neg (by omega)])
    · by_cases d2 : b = 0
      · rw [zLe_f (by omega), zLe_t (by omega), zEq_t (by omega)]
        exact put _ _ (by rw [← hv, if_neg (by omega)])
      · rw [zLe_f (by omega), zLe_f (by omega)]
        by_cases d3 : a = b
        · rw [zEq_t (by omega), zEq_f (by omega), c1]
          exact put _ _ (by rw [← hv, if_pos (by omega)])
        · rw [zEq_f (by omega), zRem_p (by omega)]
          by_cases d4 : (b + 3 - a) % 3 = 2
          · rw [zEq_t (by omega), zEq_f (by omega), c1]
            exact put _ _ (by rw [← hv, if_pos (by omega)])
          · rw [zEq_f (by omega), zEq_t (by omega)]
            exact put _ _ (by rw [← hv, if_neg (by omega)])
  by_cases d1 : a = 0
  · rw [zEq_t (by omega)]
    exact b79 _ (by unfold qTh; rw [if_pos d1])
  · by_cases d2 : b = 0
    · rw [zEq_f (by omega), zEq_t (by omega)]
      exact b79 _ (by unfold qTh; rw [if_neg d1, if_pos d2])
    · by_cases d3 : a = b
      · rw [zEq_f (by omega), zEq_f (by omega), zEq_t (by omega)]
        exact b79 _ (by unfold qTh; rw [if_neg d1, if_neg d2, if_pos d3]; rfl)
      · rw [zEq_f (by omega), zEq_f (by omega), zEq_f (by omega)]
        exact b79 _ (by unfold qTh; rw [if_neg d1, if_neg d2, if_neg d3]; omega)
theorem m_quaternions8 (h0 : zI Z 0 = 8) : zX7_quaternions F Z = some (-3, Z) := by
  unfold zX7_quaternions
  rw [zEq_t (by omega)]
theorem m_quaternions (hF : fF F) (h0 : zI Z 0 = g) (hg : g < 8) : ∃ f, zX7_quaternions F Z = some ((g : Int), gNew Z f g 8) ∧ tbF Z g 8 zQua 8 0 f := by
  unfold zX7_quaternions
  rw [zEq_f (by omega)]
  rw [show zX7_quaternions_l14 F _ F 0 Z = zX7_quaternions_l14 F _ F 0 (zwA Z 2 (zA Z 2)) from by rw [zwA_e]]
  let P : Option (Int × zS) → Prop := fun q => ∃ f, q = some ((g : Int), gNew Z f g 8) ∧ tbF Z g 8 zQua 8 0 f
  refine iX7_quaternions_l14 (I := fun v1 w => ∃ (x : Nat) (f : Int → Int), x = v1 ∧ x ≤ 8 ∧ zwA Z 2 f = w ∧ tbF Z g 8 zQua x 0 f) (μ := fun v1 _ => (8 - v1).toNat) (P := P) ?_ F _ _ ⟨0, _, rfl, by omega, rfl, tb_0⟩ (by unfold fF at hF; omega)
  rintro ra _ _ ⟨x, f, rfl, hx, rfl, hf⟩ ih
  unfold zX7_quaternions_h14
  by_cases c1 : x = 8
  · rw [zLe_t (by omega)]
    dsimp only
    rw [zC1_o (m_added h0 hg)]
    exact ⟨f, rfl, by rw [c1] at hf; exact hf⟩
  · have hxn : x < 8 := by omega
    rw [zLe_f (by omega)]
    refine iX7_quaternions_l22 (I := fun v1 v2 w => x = v1 ∧ ∃ (y : Nat) (f : Int → Int), y = v2 ∧ y ≤ 8 ∧ zwA Z 2 f = w ∧ tbF Z g 8 zQua x y f) (μ := fun _ v2 _ => (8 - v2).toNat) (P := P) ?_ F _ _ _ ⟨rfl, 0, f, rfl, by omega, rfl, hf⟩ (by unfold fF at hF; omega)
    rintro rb _ _ _ ⟨rfl, y, f, rfl, hy, rfl, hf⟩ ih2
    by_cases c2 : y = 8
    · unfold zX7_quaternions_h22
      rw [zLe_t (by omega)]
      rw [c2] at hf
      exact ih _ _ ⟨x + 1, f, by omega, by omega, rfl, tb_next hf⟩ (by omega)
    · have hyn : y < 8 := by omega
      refine q_step h0 hg hxn hyn P ?_
      exact ih2 _ _ _ ⟨rfl, y + 1, _, by omega, by omega, rfl, tb_step hf (by omega) hyn⟩ (by omega)
end MQT
