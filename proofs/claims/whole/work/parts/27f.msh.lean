/-! THE MODEL: sheet, count -/
section MSH
variable {F row : Nat} {Z : zS} {f : Int → Int}
theorem m_sheet1 {a t len : Int} (ha : -2147483648 ≤ a ∧ a < 2147483648) (ht : -2147483648 ≤ t ∧ t < 2147483648) (hl : -2147483648 ≤ len ∧ len < 2147483648) (hb : ¬ ((0 ≤ a ∧ a ≤ 3) ∧ (0 ≤ t ∧ t ≤ 1) ∧ len ≤ 144)) : zX7_sheet F a t len Z = some (-1, Z) := by
  unfold zX7_sheet
  rw [zC1_o (y_in (a := a) (b := 0) (c := 3) (by decide) (by decide) (by omega))]
  by_cases c1 : 0 ≤ a ∧ a ≤ 3
  · rw [if_pos c1, zEq_f (by omega), zC1_o (y_in (a := t) (b := 0) (c := 1) (by decide) (by decide) (by omega))]
    by_cases c2 : 0 ≤ t ∧ t ≤ 1
    · rw [if_pos c2, zEq_f (by omega), zLe_f (by omega)]
    · rw [if_neg c2, zEq_t (by omega)]
  · rw [if_neg c1, zEq_t (by omega)]
theorem m_sheet14 {t len : Int} (hr : row < 4) (ht : 0 ≤ t ∧ t ≤ 1) (hl : -2147483648 ≤ len ∧ len < 0) : zX7_sheet F (row : Nat) t len Z = some (-14, Z) := by
  unfold zX7_sheet
  rw [zC1_o (y_in (a := (row : Nat)) (b := 0) (c := 3) (by decide) (by decide) (by omega)), if_pos (by omega), zEq_f (by omega), zC1_o (y_in (a := t) (b := 0) (c := 1) (by decide) (by decide) (by omega)), if_pos ht, zEq_f (by omega), zLe_t (by omega), zLe_f (by omega)]
theorem m_sheet {t len : Int} (hF : fF F) (hr : row < 4) (ht : 0 ≤ t ∧ t ≤ 1) (hl : 0 ≤ len ∧ len ≤ 144) : ∃ f, zX7_sheet F (row : Nat) t len Z = some (1, zwA (zuA (zuA Z 4 row t) 5 row len) 6 f) ∧ (∀ q : Nat, q < 144 → f (144 * (row : Int) + q) = 0) ∧ ∀ i : Int, (i < 144 * (row : Int) ∨ 144 * (row : Int) + 144 ≤ i) → f i = zA Z 6 i := by
  unfold zX7_sheet
  rw [zC1_o (y_in (a := (row : Nat)) (b := 0) (c := 3) (by decide) (by decide) (by omega)), if_pos (by omega), zEq_f (by omega), zC1_o (y_in (a := t) (b := 0) (c := 1) (by decide) (by decide) (by omega)), if_pos ht, zEq_f (by omega), zLe_t (by omega), zLe_t (by omega), zSt_o (by omega), zSt_o (by omega)]
  generalize hS : zuA (zuA Z 4 (row : Nat) t) 5 (row : Nat) len = S
  have h6 : zA S 6 = zA Z 6 := by rw [← hS]; rfl
  have e : zwA S 6 (zA S 6) = S := zwA_e _ _
  rw [← e]
  have key : (fun x => ∃ f, x = some ((1 : Int), zwA S 6 f) ∧ (∀ q : Nat, q < 144 → f (144 * (row : Int) + q) = 0) ∧ ∀ i : Int, (i < 144 * (row : Int) ∨ 144 * (row : Int) + 144 ≤ i) → f i = zA Z 6 i) (zX7_sheet_l55 F F (row : Nat) 0 (zwA S 6 (zA S 6))) := by
    refine iX7_sheet_l55 (I := fun v1 v4 w => row = v1 ∧ ∃ (q : Nat) (f : Int → Int), q = v4 ∧ q ≤ 144 ∧ zwA S 6 f = w ∧ (∀ q' : Nat, q' < q → f (144 * (row : Int) + q') = 0) ∧ ∀ i : Int, (i < 144 * (row : Int) ∨ 144 * (row : Int) + 144 ≤ i) → f i = zA Z 6 i) (μ := fun _ v4 _ => (144 - v4).toNat) (P := fun x => ∃ f, x = some ((1 : Int), zwA S 6 f) ∧ (∀ q : Nat, q < 144 → f (144 * (row : Int) + q) = 0) ∧ ∀ i : Int, (i < 144 * (row : Int) ∨ 144 * (row : Int) + 144 ≤ i) → f i = zA Z 6 i) ?_ F _ _ _ ⟨rfl, 0, _, rfl, by omega, rfl, fun q' h => by omega, fun i _ => by rw [h6]⟩ (by unfold fF at hF; omega)
    rintro ra _ _ _ ⟨rfl, q, f, rfl, hq, rfl, u1, u2⟩ ih
    unfold zX7_sheet_h55
    by_cases c1 : q = 144
    · rw [zLe_t (by omega)]
      exact ⟨f, rfl, fun q' h => u1 q' (by omega), u2⟩
    · rw [zLe_f (by omega), zSt_o (by omega), zwA_u]
      refine ih _ _ _ ⟨rfl, q + 1, _, by omega, by omega, rfl, fun q' h => ?_, fun i hi => ?_⟩ (by omega)
      · by_cases c2 : q' = q
        · rw [c2, zup_s]
        · rw [zup_n (by omega)]; exact u1 q' (by omega)
      · rw [zup_n (by omega)]; exact u2 i hi
  rw [e] at key
  obtain ⟨f, a1, a2, a3⟩ := key
  rw [e]
  exact ⟨f, a1, a2, a3⟩
theorem m_count {v : Int} (hv : -2147483648 ≤ v ∧ v < 2147483648) (h4 : -2147483648 ≤ zA Z 4 0 ∧ zA Z 4 0 < 2147483648) : zX7_count F v Z = some (if v = 0 then zI Z 0 else if v = 1 then zI Z 7 else if v = 2 then (if zA Z 4 0 = -4 then -4 else zA Z 5 0) else -1, Z) := by
  unfold zX7_count
  by_cases c0 : v = 0
  · rw [zEq_t (by omega), if_pos c0]
  · by_cases c1 : v = 1
    · rw [zEq_f (by omega), zEq_t (by omega), if_neg c0, if_pos c1]
    · by_cases c2 : v = 2
      · rw [zEq_f (by omega), zEq_f (by omega), zEq_t (by omega), if_neg c0, if_neg c1, if_pos c2, zLd_o (by omega)]
        by_cases c3 : zA Z 4 0 = -4
        · rw [zEq_t (by omega), if_pos c3]
        · rw [zEq_f (by omega), if_neg c3, zLd_o (by omega)]
      · rw [zEq_f (by omega), zEq_f (by omega), zEq_f (by omega), if_neg c0, if_neg c1, if_neg c2]
end MSH
