/-! THE MODEL'S GROUPS: what is read of them -/
section YA
variable {α : Type} {F g n : Nat} {T : Nat → Nat → Nat} {Z : zS}
theorem j64_le {a b : Int} (ha : -2147483648 ≤ a ∧ a < 2147483648) (hb : -2147483648 ≤ b ∧ b < 2147483648) : (Int32.ofInt a).toInt64 < (Int32.ofInt b).toInt64 ↔ a < b := by
  rw [Int64.lt_iff_toInt_lt, Int32.toInt_toInt64, Int32.toInt_toInt64, iO_toInt ha.1 ha.2, iO_toInt hb.1 hb.2]
theorem y_in {a b c : Int} {l h : Int64} (hl : l = (Int32.ofInt b).toInt64) (hh : h = (Int32.ofInt c).toInt64) (ha : (-2147483648 ≤ a ∧ a < 2147483648) ∧ (-2147483648 ≤ b ∧ b < 2147483648) ∧ (-2147483648 ≤ c ∧ c < 2147483648)) : zX7_in F (Int32.ofInt a).toInt64 l h Z = some (if b ≤ a ∧ a ≤ c then 1 else 0, Z) := by
  unfold zX7_in zX7_in_b17
  rw [hl, hh]
  by_cases q : a < b
  · rw [if_pos ((lg_cmp_lt _ _).mpr ((j64_le ha.1 ha.2.1).mpr q)), if_neg (by omega)]
  · rw [if_neg (fun u => q ((j64_le ha.1 ha.2.1).mp ((lg_cmp_lt _ _).mp u)))]
    by_cases t : c < a
    · rw [if_pos ((lg_cmp_gt _ _).mpr ((j64_le ha.2.2 ha.1).mpr t)), if_neg (by omega)]
    · rw [if_neg (fun u => t ((j64_le ha.2.2 ha.1).mp ((lg_cmp_gt _ _).mp u))), if_pos (by omega)]
theorem y_isGroup {a : Int} (ha : -2147483648 ≤ a ∧ a < 2147483648) (h0 : 0 ≤ zI Z 0 ∧ zI Z 0 ≤ 8) : zX7_isGroup F a Z = some (if 0 ≤ a ∧ a < zI Z 0 then 1 else 0, Z) := by
  unfold zX7_isGroup
  rw [zC1_o (y_in (a := a) (b := 0) (c := zI Z 0 - 1) (by decide) rfl (by omega)), zBo_o (by split <;> omega)]
  congr 2
  by_cases q : 0 ≤ a ∧ a < zI Z 0
  · rw [if_pos q, if_pos (by omega)]
  · rw [if_neg q, if_neg (by omega)]
theorem y_isElement {a x : Int} (ha : -2147483648 ≤ a ∧ a < 2147483648) (hx : -2147483648 ≤ x ∧ x < 2147483648) (h0 : 0 ≤ zI Z 0 ∧ zI Z 0 ≤ 8) (h1 : 0 ≤ a → a < zI Z 0 → 0 < zA Z 1 a ∧ zA Z 1 a ≤ 48) : zX7_isElement F a x Z = some (if (0 ≤ a ∧ a < zI Z 0) ∧ 0 ≤ x ∧ x < zA Z 1 a then 1 else 0, Z) := by
  unfold zX7_isElement zX7_isElement_b30
  rw [zC1_o (y_isGroup ha h0)]
  by_cases q : 0 ≤ a ∧ a < zI Z 0
  · have := h1 q.1 q.2
    rw [if_pos q, zEq_f (by omega), zLd_o (by omega), zC1_o (y_in (a := x) (b := 0) (c := zA Z 1 a - 1) (by decide) rfl (by omega))]
    by_cases t : 0 ≤ x ∧ x < zA Z 1 a
    · rw [if_pos (c := 0 ≤ x ∧ x ≤ zA Z 1 a - 1) (by omega), if_pos ⟨q, t⟩, zEq_f (by omega)]
    · rw [if_neg (c := 0 ≤ x ∧ x ≤ zA Z 1 a - 1) (by omega), if_neg (fun u => t u.2), zEq_t (by omega)]
  · rw [if_neg q, if_neg (fun u => q u.1), zEq_t (by omega)]
/-- group number g of the model: so many elements, this table -/
def yG (Z : zS) (g n : Nat) (T : Nat → Nat → Nat) : Prop := g < 8 ∧ zA Z 1 g = n ∧ n ≤ 48 ∧ zGrp n T ∧ ∀ x y : Nat, x < n → y < n → zA Z 2 (5184 * g + 72 * x + y) = T x y
theorem yG.G (h : yG Z g n T) : zGrp n T := h.2.2.2.1
theorem yG.b (h : yG Z g n T) : n ≤ 48 ∧ 0 < n ∧ g < 8 := ⟨h.2.2.1, h.G.1, h.1⟩
theorem yG.lt (h : yG Z g n T) {x y : Nat} (hx : x < n) (hy : y < n) : T x y < n := h.G.2.1 x y hx hy
theorem yG.sz (h : yG Z g n T) {K : Int → Option α} : zLd 8 (zA Z 1) g K = K n := by
  have := h.b
  rw [zLd_o (by omega), h.2.1]
theorem yG.mul (h : yG Z g n T) {x y : Nat} (hx : x < n) (hy : y < n) : zX7_prod F g x y Z = some ((T x y : Int), Z) := by
  have := h.b
  unfold zX7_prod
  rw [zLd_o (by omega), h.2.2.2.2 x y hx hy]
theorem y_inverse (hF : fF F) (h : yG Z g n T) {x : Nat} (hx : x < n) : zX7_inverse F g x Z = some ((zInv n T x : Int), Z) := by
  have hn := h.b
  have hi := zInv_sp h.G hx
  refine iX7_inverse_l2 (I := fun v1 v2 v3 w => v1 = g ∧ v2 = x ∧ w = Z ∧ ∃ j : Nat, v3 = j ∧ j ≤ zInv n T x) (μ := fun _ _ v3 _ => (n - v3).toNat) (P := fun r => r = some ((zInv n T x : Int), Z)) ?_ F _ _ _ _ ⟨rfl, rfl, rfl, 0, rfl, by omega⟩ (by unfold fF at hF; omega)
  rintro r _ _ _ _ ⟨rfl, rfl, rfl, j, rfl, hj⟩ ih
  unfold zX7_inverse_h2
  have hl := h.lt hx (show j < n by omega)
  rw [zC1_o (h.mul hx (by omega))]
  by_cases q : j = zInv n T x
  · subst q
    rw [zEq_t (by omega)]
  · have hne : T x j ≠ 0 := fun e => by
      have := nF_of (P := fun y => T x y = 0) (n := n) (i := zInv n T x) hi.1 hi.2 (fun y hy e2 => by
        have := nF_sp (P := fun y => T x y = 0) (n := n) ⟨_, hi.1, hi.2⟩
        exact this.2.2 y hy e2)
      have := nF_sp (P := fun y => T x y = 0) (n := n) ⟨_, hi.1, hi.2⟩
      exact this.2.2 j (by show j < zInv n T x; omega) e
    rw [zEq_f (by omega)]
    exact ih _ _ _ _ ⟨rfl, rfl, rfl, j + 1, rfl, by omega⟩ (by omega)
theorem y_orderOf (hF : fF F) (h : yG Z g n T) {x : Nat} (hx : x < n) : zX7_orderOf F g x Z = some ((zOr n T x : Int), Z) := by
  have hn := h.b
  obtain ⟨ho1, ho2⟩ := zOr_sp h.G hx
  refine iX7_orderOf_l5 (I := fun v1 v2 v3 v4 w => v1 = g ∧ v2 = x ∧ w = Z ∧ ∃ k : Nat, v3 = k ∧ v4 = zPow T x k ∧ 1 ≤ k ∧ k ≤ zOr n T x) (μ := fun _ _ v3 _ _ => (n - v3).toNat) (P := fun r => r = some ((zOr n T x : Int), Z)) ?_ F _ _ _ _ _ ⟨rfl, rfl, rfl, 1, rfl, by rw [zPow_one h.G hx], by omega, ho2.1⟩ (by unfold fF at hF; omega)
  rintro r _ _ _ _ _ ⟨rfl, rfl, rfl, k, rfl, rfl, h1, h2⟩ ih
  unfold zX7_orderOf_h5
  have hp := zPow_lt h.G hx k
  by_cases q : k = zOr n T x
  · have e : zPow T x k = 0 := by rw [q]; exact ho2.2.1
    rw [zEq_t (by omega), q]
  · have hne := ho2.2.2 k h1 (by omega)
    rw [zEq_f (by omega), zC1_o (h.mul hp hx)]
    exact ih _ _ _ _ _ ⟨rfl, rfl, rfl, k + 1, rfl, rfl, by omega, by omega⟩ (by omega)
theorem y_friends (hF : fF F) (h : yG Z g n T) {x : Nat} (hx : x < n) : zX7_friends F g x Z = some ((nC (fun y => T x y = T y x) n : Int), Z) := by
  have hn := h.b
  refine iX7_friends_l5 (I := fun v1 v2 v3 v4 w => v1 = g ∧ v2 = x ∧ w = Z ∧ ∃ y : Nat, v3 = nC (fun y => T x y = T y x) y ∧ v4 = y ∧ y ≤ n) (μ := fun _ _ _ v4 _ => (n - v4).toNat) (P := fun r => r = some ((nC (fun y => T x y = T y x) n : Int), Z)) ?_ F _ _ _ _ _ ⟨rfl, rfl, rfl, 0, rfl, rfl, by omega⟩ (by unfold fF at hF; omega)
  rintro r _ _ _ _ _ ⟨rfl, rfl, rfl, y, rfl, rfl, hy⟩ ih
  unfold zX7_friends_h5 zX7_friends_b41
  rw [h.sz]
  by_cases q : y = n
  · subst q
    rw [zLe_t (by omega)]
  · have hy : y < n := by omega
    have t1 := h.lt hx hy
    have t2 := h.lt hy hx
    rw [zLe_f (by omega), zC1_o (h.mul hx hy), zC1_o (h.mul hy hx)]
    by_cases e : T x y = T y x
    · rw [zEq_t (by omega)]
      exact ih _ _ _ _ _ ⟨rfl, rfl, rfl, y + 1, by rw [nC_t (P := fun y => T x y = T y x) e]; rfl, rfl, by omega⟩ (by omega)
    · rw [zEq_f (by omega)]
      exact ih _ _ _ _ _ ⟨rfl, rfl, rfl, y + 1, by rw [nC_f (P := fun y => T x y = T y x) e]; omega, rfl, by omega⟩ (by omega)
theorem y_leastTurned (hF : fF F) (h : yG Z g n T) {x : Nat} (hx : x < n) : zX7_leastTurned F g x Z = some ((zTurn n T x : Int), Z) := by
  have hn := h.b
  have hl : ∀ y, y < n → T (T y x) (zInv n T y) < n := fun y hy => h.lt (h.lt hy hx) (zInv_sp h.G hy).1
  refine iX7_leastTurned_l5 (I := fun v1 v2 v3 v4 w => v1 = g ∧ v2 = x ∧ w = Z ∧ ∃ y : Nat, v3 = nMin (fun y => T (T y x) (zInv n T y)) x y ∧ v4 = y ∧ y ≤ n) (μ := fun _ _ _ v4 _ => (n - v4).toNat) (P := fun r => r = some ((zTurn n T x : Int), Z)) ?_ F _ _ _ _ _ ⟨rfl, rfl, rfl, 0, rfl, rfl, by omega⟩ (by unfold fF at hF; omega)
  rintro r _ _ _ _ _ ⟨rfl, rfl, rfl, y, rfl, rfl, hy⟩ ih
  unfold zX7_leastTurned_h5 zX7_leastTurned_b50
  rw [h.sz]
  by_cases q : y = n
  · subst q
    rw [zLe_t (by omega)]; rfl
  · have hy : y < n := by omega
    have hm : nMin (fun y => T (T y x) (zInv n T y)) x y < n := nMin_lt hx fun i hi => hl i (by omega)
    have := hl y hy
    rw [zLe_f (by omega), zC1_o (h.mul hy hx), zC1_o (y_inverse hF h hy), zC1_o (h.mul (h.lt hy hx) (zInv_sp h.G hy).1)]
    by_cases e : nMin (fun y => T (T y x) (zInv n T y)) x y ≤ T (T y x) (zInv n T y)
    · rw [zLe_t (by omega)]
      exact ih _ _ _ _ _ ⟨rfl, rfl, rfl, y + 1, by show _ = ((min _ _ : Nat) : Int); rw [Nat.min_eq_left e], rfl, by omega⟩ (by omega)
    · rw [zLe_f (by omega)]
      exact ih _ _ _ _ _ ⟨rfl, rfl, rfl, y + 1, by show _ = ((min _ _ : Nat) : Int); rw [Nat.min_eq_right (show T (T y x) (zInv n T y) ≤ _ by omega)], rfl, by omega⟩ (by omega)
theorem y_ofOrder (hF : fF F) (h : yG Z g n T) {k : Nat} (hk : k ≤ 48) : zX7_ofOrder F g k Z = some ((zPn n T k n : Int), Z) := by
  have hn := h.b
  refine iX7_ofOrder_l5 (I := fun v1 v2 v3 v4 w => v1 = g ∧ v2 = k ∧ w = Z ∧ ∃ y : Nat, v3 = zPn n T k y ∧ v4 = y ∧ y ≤ n) (μ := fun _ _ _ v4 _ => (n - v4).toNat) (P := fun r => r = some ((zPn n T k n : Int), Z)) ?_ F _ _ _ _ _ ⟨rfl, rfl, rfl, 0, rfl, rfl, by omega⟩ (by unfold fF at hF; omega)
  rintro r _ _ _ _ _ ⟨rfl, rfl, rfl, y, rfl, rfl, hy⟩ ih
  unfold zX7_ofOrder_h5 zX7_ofOrder_b33
  rw [h.sz]
  by_cases q : y = n
  · subst q
    rw [zLe_t (by omega)]
  · have hy : y < n := by omega
    have ho := (zOr_sp h.G hy).1
    rw [zLe_f (by omega), zC1_o (y_orderOf hF h hy)]
    by_cases e : zOr n T y = k
    · rw [zEq_t (by omega)]
      exact ih _ _ _ _ _ ⟨rfl, rfl, rfl, y + 1, by rw [zPn_s, if_pos e]; rfl, rfl, by omega⟩ (by omega)
    · rw [zEq_f (by omega)]
      exact ih _ _ _ _ _ ⟨rfl, rfl, rfl, y + 1, by rw [zPn_s, if_neg e]; rfl, rfl, by omega⟩ (by omega)
end YA
