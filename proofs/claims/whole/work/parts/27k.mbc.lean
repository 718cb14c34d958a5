/-! THE MODEL: classOf, bad arguments -/
section MBC
variable {F m g n r : Nat} {Z : zS} {T : Nat → Nat → Nat} {M : Nat → Nat → Nat → Int}
theorem m_classOf1 {p : Nat} [NeZero p] {b t : Int} (h : mOk p Z m g n T r M) (hb : -2147483648 ≤ b ∧ b < 2147483648) (ht : -2147483648 ≤ t ∧ t < 2147483648) (hbad : ¬ ((0 ≤ b ∧ b ≤ 3) ∧ 0 ≤ t ∧ t ≤ 1)) : zX7_classOf F (m : Nat) b t Z = some (-1, Z) := by
  have hm := h.1.1
  have h7 := h.2.1
  unfold zX7_classOf
  rw [zC1_o (m_isModule (by omega) (by omega)), if_pos (by omega), zEq_f (by omega), zC1_o (y_in (a := b) (b := 0) (c := 3) (by decide) (by decide) (by omega))]
  by_cases c1 : 0 ≤ b ∧ b ≤ 3
  · rw [if_pos c1, zEq_f (by omega), zC1_o (y_in (a := t) (b := 0) (c := 1) (by decide) (by decide) (by omega)), if_neg (fun q => hbad ⟨c1, q⟩), zEq_t (by omega)]
  · rw [if_neg c1, zEq_t (by omega)]
theorem m_classOf2 {p : Nat} [NeZero p] {b t : Int} (hF : fF F) (h : mOk p Z m g n T r M) (hb : 0 ≤ b ∧ b ≤ 3) (ht : 0 ≤ t ∧ t ≤ 1) (hs : sdV n p r T M ≠ 0) : zX7_classOf F (m : Nat) b t Z = some (-2, Z) := by
  have hm := h.1.1
  have h7 := h.2.1
  have hsb := sdV_b (p := p) (r := r) (T := T) (M := M) h.1.2.2.1
  unfold zX7_classOf
  rw [zC1_o (m_isModule (by omega) (by omega)), if_pos (by omega), zEq_f (by omega), zC1_o (y_in (a := b) (b := 0) (c := 3) (by decide) (by decide) (by omega)), if_pos hb, zEq_f (by omega), zC1_o (y_in (a := t) (b := 0) (c := 1) (by decide) (by decide) (by omega)), if_pos ht, zEq_f (by omega), zC1_o (m_sound hF h.1 h.2.1), zEq_f (by omega)]
end MBC
