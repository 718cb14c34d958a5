/-! THE MODEL: new groups -/
/-- a table written so far -/
def tbF (Z : zS) (g n : Nat) (T : Nat → Nat → Nat) (x y : Nat) (f : Int → Int) : Prop := (∀ x' y' : Nat, x' < n → y' < n → (x' < x ∨ (x' = x ∧ y' < y)) → f (5184 * (g : Int) + 72 * x' + y') = T x' y') ∧ ∀ i : Int, i < 5184 * (g : Int) → f i = zA Z 2 i
/-- the model with one group more -/
def gNew (Z : zS) (f : Int → Int) (g : Nat) (n : Int) : zS := zuI (zuA (zuA (zwA Z 2 f) 1 g n) 3 g (-4)) 0 ((g : Int) + 1)
section MNG
variable {F g n : Nat} {Z : zS} {T : Nat → Nat → Nat} {f : Int → Int}
theorem tb_0 : tbF Z g n T 0 0 (zA Z 2) := ⟨fun x' y' _ _ h => by omega, fun _ _ => rfl⟩
theorem tb_step {x y : Nat} (h : tbF Z g n T x y f) (hn : n ≤ 72) (hy : y < n) : tbF Z g n T x (y + 1) (zup f (5184 * (g : Int) + 72 * x + y) (T x y)) := by
  refine ⟨fun x' y' h1 h2 h3 => ?_, fun i hi => by rw [zup_n (by omega)]; exact h.2 i hi⟩
  by_cases c : x' = x ∧ y' = y
  · obtain ⟨rfl, rfl⟩ := c; rw [zup_s]
  · rw [zup_n (by omega)]; exact h.1 x' y' h1 h2 (by omega)
theorem tb_next {x : Nat} (h : tbF Z g n T x n f) : tbF Z g n T (x + 1) 0 f := ⟨fun x' y' h1 h2 h3 => h.1 x' y' h1 h2 (by omega), h.2⟩
theorem m_setT {x y : Nat} {v : Int} (h0 : zI Z 0 = g) (hg : g < 8) (hx : x < 72) (hy : y < 72) : zX7_set F x y v (zwA Z 2 f) = some (zwA Z 2 (zup f (5184 * (g : Int) + 72 * x + y) v)) := by
  have e0 : zI (zwA Z 2 f) 0 = g := h0
  unfold zX7_set
  rw [e0, zSt_o (by omega), zwA_u]
theorem m_added {n : Int} (h0 : zI Z 0 = g) (hg : g < 8) : zX7_added F n (zwA Z 2 f) = some ((g : Int), gNew Z f g n) := by
  have e0 : zI (zwA Z 2 f) 0 = g := h0
  have e1 : zI (zuA (zwA Z 2 f) 1 (g : Int) n) 0 = g := h0
  have e2 : zI (zuA (zuA (zwA Z 2 f) 1 (g : Int) n) 3 (g : Int) (-4)) 0 = g := h0
  unfold zX7_added
  rw [e0, zSt_o (by omega), zSt_o (by omega), zPI_o]
  show some ((g : Int) + 1 - 1, gNew Z f g n) = _
  rw [show (g : Int) + 1 - 1 = g by omega]
theorem gNew_I {n : Int} {j : Nat} (hj : j ≠ 0) : zI (gNew Z f g n) j = zI Z j := if_neg hj
theorem gNew_0 {n : Int} : zI (gNew Z f g n) 0 = (g : Int) + 1 := rfl
theorem gNew_A {n : Int} {j : Nat} (h1 : j ≠ 1) (h2 : j ≠ 2) (h3 : j ≠ 3) : zA (gNew Z f g n) j = zA Z j := by
  show (if j = 3 then _ else if j = 1 then _ else if j = 2 then f else zA Z j) = zA Z j
  rw [if_neg h3, if_neg h1, if_neg h2]
theorem gNew_1 {n : Int} : zA (gNew Z f g n) 1 = zup (zA Z 1) g n := rfl
theorem gNew_2 {n : Int} : zA (gNew Z f g n) 2 = f := rfl
theorem gNew_3 {n : Int} : zA (gNew Z f g n) 3 = zup (zA Z 3) g (-4) := rfl
theorem m_cyclic0 {v : Int} (hv : -2147483648 ≤ v ∧ v < 2147483648) (hb : ¬ (1 ≤ v ∧ v ≤ 48)) : zX7_cyclic F v Z = some (-1, Z) := by
  unfold zX7_cyclic
  rw [zC1_o (y_in (a := v) (b := 1) (c := 48) (by decide) (by decide) (by omega)), if_neg hb, zEq_t (by omega)]
theorem m_cyclic8 {v : Int} (hv : 1 ≤ v ∧ v ≤ 48) (h0 : zI Z 0 = 8) : zX7_cyclic F v Z = some (-3, Z) := by
  unfold zX7_cyclic
  rw [zC1_o (y_in (a := v) (b := 1) (c := 48) (by decide) (by decide) (by omega)), if_pos hv, zEq_f (by omega), zEq_t (by omega)]
theorem m_cyclic (hF : fF F) (hn : 1 ≤ n ∧ n ≤ 48) (h0 : zI Z 0 = g) (hg : g < 8) : ∃ f, zX7_cyclic F (n : Nat) Z = some ((g : Int), gNew Z f g n) ∧ tbF Z g n (fun x y => (x + y) % n) n 0 f := by
  unfold zX7_cyclic
  rw [zC1_o (y_in (a := (n : Nat)) (b := 1) (c := 48) (by decide) (by decide) (by omega)), if_pos (by omega), zEq_f (by omega), zEq_f (by omega)]
  have hZ : Z = zwA Z 2 (zA Z 2) := (zwA_e Z 2).symm
  rw [show zX7_cyclic_l28 F _ F (n : Nat) 0 Z = zX7_cyclic_l28 F _ F (n : Nat) 0 (zwA Z 2 (zA Z 2)) from by rw [zwA_e]]
  let P : Option (Int × zS) → Prop := fun q => ∃ f, q = some ((g : Int), gNew Z f g n) ∧ tbF Z g n (fun x y => (x + y) % n) n 0 f
  refine iX7_cyclic_l28 (I := fun v1 v2 w => n = v1 ∧ ∃ (x : Nat) (f : Int → Int), x = v2 ∧ x ≤ n ∧ zwA Z 2 f = w ∧ tbF Z g n (fun x y => (x + y) % n) x 0 f) (μ := fun _ v2 _ => (n - v2).toNat) (P := P) ?_ F _ _ _ ⟨rfl, 0, _, rfl, by omega, rfl, tb_0⟩ (by unfold fF at hF; omega)
  rintro ra _ _ _ ⟨rfl, x, f, rfl, hx, rfl, hf⟩ ih
  unfold zX7_cyclic_h28
  by_cases c1 : x = n
  · rw [zLe_t (by omega)]
    dsimp only
    rw [zC1_o (m_added h0 hg)]
    exact ⟨f, rfl, by rw [c1] at hf; exact hf⟩
  · have hxn : x < n := by omega
    rw [zLe_f (by omega)]
    refine iX7_cyclic_l35 (I := fun v1 v2 v3 w => n = v1 ∧ x = v2 ∧ ∃ (y : Nat) (f : Int → Int), y = v3 ∧ y ≤ n ∧ zwA Z 2 f = w ∧ tbF Z g n (fun x y => (x + y) % n) x y f) (μ := fun _ _ v3 _ => (n - v3).toNat) (P := P) ?_ F _ _ _ _ ⟨rfl, rfl, 0, f, rfl, by omega, rfl, hf⟩ (by unfold fF at hF; omega)
    rintro rb _ _ _ _ ⟨rfl, rfl, y, f, rfl, hy, rfl, hf⟩ ih2
    unfold zX7_cyclic_h35
    by_cases c2 : y = n
    · rw [zLe_t (by omega)]
      rw [c2] at hf
      exact ih _ _ _ ⟨rfl, x + 1, f, by omega, by omega, rfl, tb_next hf⟩ (by omega)
    · have hyn : y < n := by omega
      rw [zLe_f (by omega), zRem_p (by omega), zC0_o (m_setT h0 hg (by omega) (by omega))]
      have e : (((x : Nat) : Int) + (y : Nat)) % (n : Nat) = (((x + y) % n : Nat) : Int) := by rw [Int.natCast_emod, Int.natCast_add]
      rw [e]
      exact ih2 _ _ _ _ ⟨rfl, rfl, y + 1, _, by omega, by omega, rfl, tb_step hf (by omega) hyn⟩ (by omega)
/-- the last module goes -/
theorem m_leave0 (h7 : zI Z 7 = 0) : zX7_leave F Z = some (-4, Z) := by
  unfold zX7_leave
  rw [zEq_t (by omega)]
theorem m_leave {k : Nat} (h7 : zI Z 7 = (k : Int) + 1) (hk : k < 6) : zX7_leave F Z = some ((k : Int), zuI (zuI Z 7 k) 29 (-4)) := by
  unfold zX7_leave
  rw [zEq_f (by omega), zPI_o, zPI_o, h7]
  have e : (k : Int) + 1 - 1 = k := by omega
  rw [e]
end MNG
