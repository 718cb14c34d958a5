/-! THE MODEL: questions about a module, bad arguments -/
section MBA
variable {F m g n r row : Nat} {Z : zS} {T : Nat → Nat → Nat} {M : Nat → Nat → Nat → Int}
theorem m_noMod {a : Int} (ha : -2147483648 ≤ a ∧ a < 2147483648) (h7 : 0 ≤ zI Z 7 ∧ zI Z 7 ≤ 6) (hb : ¬ (0 ≤ a ∧ a < zI Z 7)) : (∀ v, zX7_dimension F a v Z = some (-1, Z)) ∧ (∀ v, zX7_lacks F a v Z = some (-1, Z)) ∧ (∀ v c, zX7_times F a v c Z = some (-1, Z)) ∧ (∀ v x y i, zX7_twist F a v x y i Z = some (-1, Z)) ∧ (∀ b t, zX7_classOf F a b t Z = some (-1, Z)) ∧ zX7_sound F a Z = some (-1, Z) := by
  have e : zX7_isModule F a Z = some (0, Z) := by rw [m_isModule ha h7, if_neg hb]
  refine ⟨fun v => ?_, fun v => ?_, fun v c => ?_, fun v x y i => ?_, fun b t => ?_, ?_⟩
  · unfold zX7_dimension; rw [zC1_o e, zEq_t (by omega)]
  · unfold zX7_lacks; rw [zC1_o e, zEq_t (by omega)]
  · unfold zX7_times; rw [zC1_o e, zEq_t (by omega)]
  · unfold zX7_twist; rw [zC1_o e, zEq_t (by omega)]
  · unfold zX7_classOf; rw [zC1_o e, zEq_t (by omega)]
  · unfold zX7_sound; rw [zC1_o e, zEq_t (by omega)]
theorem m_noMod2 {a : Int} (ha : -2147483648 ≤ a ∧ a < 2147483648) (h7 : 0 ≤ zI Z 7 ∧ zI Z 7 ≤ 6) (hb : ¬ (0 ≤ a ∧ a < zI Z 7)) : (∀ v, zX7_parts F a v Z = some (-1, Z)) ∧ (∀ v w, zX7_sum F a v w Z = some (-1, Z)) ∧ (∀ v, zX7_over F a v Z = some (-1, Z)) := by
  have e := (m_noMod (F := F) ha h7 hb).2.1
  refine ⟨fun v => ?_, fun v w => ?_, fun v => ?_⟩
  · unfold zX7_parts; rw [zC1_o (e v), zLe_f (by omega)]
  · unfold zX7_sum zX7_sum_b24; rw [zC1_o (e v), zLe_f (by omega), zLe_f (by omega)]
  · unfold zX7_over; rw [zC1_o (e v), zLe_f (by omega)]
end MBA
