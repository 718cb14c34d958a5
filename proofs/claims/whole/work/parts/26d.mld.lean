/-! THE MODEL: a row of the sheet as a line; classOf -/
section MLD
variable {F m g n p r W k row : Nat} {Z Z' : zS} {T : Nat → Nat → Nat} {M : Nat → Nat → Nat → Int} {D : Nat → Int}
def nrm {p : Nat} [NeZero p] (n r : Nat) (D : Nat → Int) : Prop := ∀ x y i, x < n → y < n → i < r → x = 0 ∨ y = 0 → (fC (D (r * (n * x + y) + i)) : Fin p) = 0
def ldV {p : Nat} [NeZero p] (n r : Nat) (D : Nat → Int) : fV p := fun q => if q < (n - 1) * (n - 1) * r then fC (D (r * (n * (q / r / (n - 1) + 1) + (q / r % (n - 1) + 1)) + q % r)) else 0
theorem ldV_ok {p : Nat} [NeZero p] : fOk ((n - 1) * (n - 1) * r) (ldV (p := p) n r D) := fun i hi => if_neg (by omega)
theorem ldV_at {p : Nat} [NeZero p] {x y i : Nat} (hx : 1 ≤ x) (hxn : x < n) (hy : 1 ≤ y) (hyn : y < n) (hi : i < r) : (ldV n r D : fV p) (pl n r x y i) = fC (D (r * (n * x + y) + i)) := by
  obtain ⟨a1, a2, a3⟩ := pl_inv hx hxn hy hyn hi
  show (if pl n r x y i < (n - 1) * (n - 1) * r then _ else 0) = _
  rw [if_pos (pl_lt hx hxn hy hyn hi), a1, a2, a3]
theorem t_res {d : Int} {p : Nat} (hp : 0 < p) (h : 0 ≤ d.tmod p) : d.tmod p = d % p := by
  have h1 := t_mod2 (a := d) (p := (p : Int)) (by omega)
  have h2 : d.tmod p < p := Int.tmod_lt_of_pos _ (by omega)
  rw [Int.tmod_eq_emod_of_nonneg (by omega), Int.add_emod_right, Int.emod_eq_of_lt h h2] at h1
  exact h1
theorem t_res2 {d : Int} {p : Nat} (hp : 0 < p) (h : d.tmod p < 0) : d.tmod p + p = d % p := by
  have h1 := t_mod2 (a := d) (p := (p : Int)) (by omega)
  have h2 : -(p : Int) < d.tmod p := Int.lt_tmod_of_pos _ (by omega)
  rw [Int.tmod_eq_emod_of_nonneg (by omega), Int.emod_eq_of_lt (by omega) (by omega)] at h1
  exact h1
theorem m_load {p : Nat} [NeZero p] (hF : fF F) (h : mBo Z m g n T p r M) (hrow : row < 4) (hD : ∀ q, q < r * (n * n) → zA Z 6 (144 * (row : Int) + q) = D q ∧ -2147483648 ≤ D q ∧ D q < 2147483648) (K : zS → Option (Int × zS)) (f0 : Int → Int) : ((nrm (p := p) n r D ∧ ∃ f, fRow ((n - 1) * (n - 1) * r) f (ldV (p := p) n r D) ∧ zX7_classOf_l85 F K F (row : Nat) 0 (zwA Z 25 f0) = K (zwA Z 25 f)) ∨ (¬ nrm (p := p) n r D ∧ ∃ f, zX7_classOf_l85 F K F (row : Nat) 0 (zwA Z 25 f0) = some (-4, zwA Z 25 f))) := by
  obtain ⟨hr1, hr2⟩ := h.1.2.2.2.2.2.1
  obtain ⟨hp1, hp2⟩ := h.1.2.2.2.2.1
  have hn := h.1.2.2.1
  have hn0 := h.G.1
  have h98 := pl_98 hn hr2
  have hB : ∀ f, mBo (zwA Z 25 f) m g n T p r M := fun f => by rw [zw_m]; exact h.s _ _ _ _
  have e36 : ∀ f, zI (zwA Z 25 f) 36 = n := fun _ => h.2.2.2.1
  have e37 : ∀ f, zI (zwA Z 25 f) 37 = r := fun _ => h.2.2.2.2.1
  have e23 : ∀ f, zI (zwA Z 25 f) 23 = p := fun _ => h.2.2.2.2.2
  have e6 : ∀ f, zA (zwA Z 25 f) 6 = zA Z 6 := fun _ => rfl
  let P : Option (Int × zS) → Prop := fun z => (nrm (p := p) n r D ∧ ∃ f, fRow ((n - 1) * (n - 1) * r) f (ldV (p := p) n r D) ∧ z = K (zwA Z 25 f)) ∨ (¬ nrm (p := p) n r D ∧ ∃ f, z = some (-4, zwA Z 25 f))
  let Q : Nat → Nat → Nat → (Int → Int) → Prop := fun x y i f => ∀ x' y' i', x' < n → y' < n → i' < r → gM4 x y i 0 x' y' i' 0 → (x' = 0 ∨ y' = 0 → (fC (D (r * (n * x' + y') + i')) : Fin p) = 0) ∧ (1 ≤ x' → 1 ≤ y' → f (pl n r x' y' i' : Nat) = (((fC (D (r * (n * x' + y') + i')) : Fin p).val : Nat) : Int))
  have Qcg : ∀ {x y i x2 y2 i2 f}, Q x y i f → (∀ x' y' i', x' < n → y' < n → i' < r → (gM4 x2 y2 i2 0 x' y' i' 0 → gM4 x y i 0 x' y' i' 0)) → Q x2 y2 i2 f := fun q hh x' y' i' a1 a2 a3 a4 => q x' y' i' a1 a2 a3 (hh x' y' i' a1 a2 a3 a4)
  refine iX7_classOf_l85 (I := fun v2 v5 w => row = v2 ∧ ∃ (x : Nat) (f : Int → Int), x = v5 ∧ x ≤ n ∧ zwA Z 25 f = w ∧ Q x 0 0 f) (μ := fun _ v5 _ => (n - v5).toNat) (P := P) ?_ F _ _ _ ⟨rfl, 0, f0, rfl, by omega, rfl, fun x' y' i' _ _ _ a => by unfold gM4 at a; omega⟩ (by unfold fF at hF; omega)
  rintro ra _ _ _ ⟨rfl, x, f, rfl, hx, rfl, hQ⟩ ih
  unfold zX7_classOf_h85
  rw [e36]
  by_cases c1 : x = n
  · rw [zLe_t (by omega)]
    refine Or.inl ⟨fun x' y' i' a1 a2 a3 a4 => (hQ x' y' i' a1 a2 a3 (by unfold gM4; omega)).1 a4, f, fun j hj => ?_, rfl⟩
    obtain ⟨a1, a2, a3, a4, a5, a6⟩ := pl_ex hj
    have e1 := (hQ _ _ _ a2 a4 a5 (by unfold gM4; omega)).2 a1 a3
    have e2 := ldV_at (p := p) (D := D) a1 a2 a3 a4 a5
    rw [a6] at e1 e2
    rw [e1, e2]
  · have hxn : x < n := by omega
    rw [zLe_f (by omega)]
    refine iX7_classOf_l97 (I := fun v2 v5 v6 w => row = v2 ∧ x = v5 ∧ ∃ (y : Nat) (f : Int → Int), y = v6 ∧ y ≤ n ∧ zwA Z 25 f = w ∧ Q x y 0 f) (μ := fun _ _ v6 _ => (n - v6).toNat) (P := P) ?_ F _ _ _ _ ⟨rfl, rfl, 0, f, rfl, by omega, rfl, hQ⟩ (by unfold fF at hF; omega)
    rintro rb _ _ _ _ ⟨rfl, rfl, y, f, rfl, hy, rfl, hQ⟩ ih2
    unfold zX7_classOf_h97
    rw [e36]
    by_cases c2 : y = n
    · rw [zLe_t (by omega)]
      exact ih _ _ _ ⟨rfl, x + 1, f, by omega, by omega, rfl, Qcg hQ fun x' y' i' a1 a2 a3 => by unfold gM4; omega⟩ (by omega)
    · have hyn : y < n := by omega
      rw [zLe_f (by omega)]
      refine iX7_classOf_l109 (I := fun v2 v5 v6 v7 w => row = v2 ∧ x = v5 ∧ y = v6 ∧ ∃ (i : Nat) (f : Int → Int), i = v7 ∧ i ≤ r ∧ zwA Z 25 f = w ∧ Q x y i f) (μ := fun _ _ _ v7 _ => (r - v7).toNat) (P := P) ?_ F _ _ _ _ _ ⟨rfl, rfl, rfl, 0, f, rfl, by omega, rfl, hQ⟩ (by unfold fF at hF; omega)
      rintro rc _ _ _ _ _ ⟨rfl, rfl, rfl, i, f, rfl, hi, rfl, hQ⟩ ih3
      unfold zX7_classOf_h109
      rw [e37]
      by_cases c3 : i = r
      · rw [zLe_t (by omega)]
        exact ih2 _ _ _ _ ⟨rfl, rfl, y + 1, f, by omega, by omega, rfl, Qcg hQ fun x' y' i' a1 a2 a3 => by unfold gM4; omega⟩ (by omega)
      · have hir : i < r := by omega
        have hnn : n * n ≤ 64 := by have := Nat.mul_le_mul hn hn; omega
        have hq1 : n * x + y < n * n := by
          have : n * (x + 1) ≤ n * n := Nat.mul_le_mul_left _ hxn
          rw [Nat.mul_succ] at this; omega
        have hq2 : r * (n * x + y) + i < r * (n * n) := by
          have : r * (n * x + y + 1) ≤ r * (n * n) := Nat.mul_le_mul_left _ hq1
          rw [Nat.mul_succ] at this; omega
        have hq3 : r * (n * n) ≤ 128 := by have := Nat.mul_le_mul hr2 hnn; omega
        obtain ⟨d1, d2, d3⟩ := hD _ hq2
        have eq : (((144 : Int) * (row : Nat)) + ((r : Nat) * (((n : Nat) * (x : Nat)) + (y : Nat)))) + (i : Nat) = 144 * (row : Int) + ((r * (n * x + y) + i : Nat) : Int) := by
          have e : ((r * (n * x + y) + i : Nat) : Int) = (r : Int) * ((n : Int) * (x : Int) + (y : Int)) + i := by
            rw [Int.natCast_add, Int.natCast_mul, Int.natCast_add, Int.natCast_mul]
          rw [e, Int.add_assoc]
        rw [zLe_f (by omega), e36, e6, eq, zLd_o (by omega), d1, e23, zRem_o (by omega)]
        have step : ∀ t : Int, t = (((fC (D (r * (n * x + y) + i)) : Fin p).val : Nat) : Int) → P (zX7_classOf_b171 F rc (fun v2 v5 v6 w => rb v2 v5 (v6 + 1) w) (row : Nat) (x : Nat) (y : Nat) (i : Nat) t (zwA Z 25 f)) := by
          intro t ht
          have hb := fV_lt (fC (D (r * (n * x + y) + i)) : Fin p)
          unfold zX7_classOf_b171 zX7_classOf_b203 zX7_classOf_b211
          have zero : x = 0 ∨ y = 0 → P (zEq t 0 (rc (row : Nat) (x : Nat) (y : Nat) ((i : Int) + 1) (zwA Z 25 f)) (some (-4, zwA Z 25 f))) := by
            intro c4
            by_cases c5 : (fC (D (r * (n * x + y) + i)) : Fin p) = 0
            · rw [zEq_t (by rw [ht, fV_0.mpr c5]; omega)]
              refine ih3 _ _ _ _ _ ⟨rfl, rfl, rfl, i + 1, f, by omega, by omega, rfl, fun x' y' i' a1 a2 a3 a4 => ?_⟩ (by omega)
              by_cases c6 : x' = x ∧ y' = y ∧ i' = i
              · obtain ⟨rfl, rfl, rfl⟩ := c6
                exact ⟨fun _ => c5, fun q1 q2 => by omega⟩
              · exact hQ x' y' i' a1 a2 a3 (by unfold gM4 at *; omega)
            · have : t ≠ 0 := fun e => c5 (fV_0.mp (by omega))
              rw [zEq_f (by omega)]
              exact Or.inr ⟨fun q => c5 (q x y i hxn hyn hir c4), f, rfl⟩
          by_cases c4 : x = 0
          · rw [zLe_t (by omega)]
            exact zero (Or.inl c4)
          · by_cases c5 : y = 0
            · rw [zLe_f (by omega), zLe_t (by omega)]
              exact zero (Or.inr c5)
            · have hl := pl_lt (r := r) (show 1 ≤ x by omega) hxn (show 1 ≤ y by omega) hyn hir
              rw [zLe_f (by omega), zLe_f (by omega), zC1_o ((hB f).place (by omega) (by omega)), zSt_o (by omega), zwA_u]
              refine ih3 _ _ _ _ _ ⟨rfl, rfl, rfl, i + 1, _, by omega, by omega, rfl, fun x' y' i' a1 a2 a3 a4 => ?_⟩ (by omega)
              by_cases c6 : x' = x ∧ y' = y ∧ i' = i
              · obtain ⟨rfl, rfl, rfl⟩ := c6
                exact ⟨fun q => by omega, fun _ _ => by rw [zup_s]; exact ht⟩
              · have := hQ x' y' i' a1 a2 a3 (by unfold gM4 at *; omega)
                refine ⟨this.1, fun q1 q2 => ?_⟩
                rw [zup_n (fun e => c6 (pl_eq q1 a1 q2 a2 a3 (by omega) hxn (by omega) hyn hir (by omega)))]
                exact this.2 q1 q2
        have hb1 : (D (r * (n * x + y) + i)).tmod p < p := Int.tmod_lt_of_pos _ (by omega)
        have hb2 : -(p : Int) < (D (r * (n * x + y) + i)).tmod p := Int.lt_tmod_of_pos _ (by omega)
        by_cases c4 : 0 ≤ (D (r * (n * x + y) + i)).tmod p
        · rw [zLe_t (by omega)]
          exact step _ (by rw [t_res (by omega) c4, fC_e])
        · rw [zLe_f (by omega)]
          exact step _ (by rw [t_res2 (by omega) (by omega), fC_e])
end MLD
