/-! THE MODEL: sound, dimension -/
section MSD
variable {F m g n p r : Nat} {Z Z' : zS} {T : Nat → Nat → Nat} {M : Nat → Nat → Nat → Int}
theorem m_isModule {a : Int} (ha : -2147483648 ≤ a ∧ a < 2147483648) (h7 : 0 ≤ zI Z 7 ∧ zI Z 7 ≤ 6) : zX7_isModule F a Z = some (if 0 ≤ a ∧ a < zI Z 7 then 1 else 0, Z) := by
  unfold zX7_isModule
  rw [zC1_o (y_in (a := a) (b := 0) (c := zI Z 7 - 1) (by decide) rfl (by omega)), zBo_o (by split <;> omega)]
  congr 2
  by_cases q : 0 ≤ a ∧ a < zI Z 7
  · rw [if_pos q, if_pos (by omega)]
  · rw [if_neg q, if_neg (by omega)]
theorem mMd.mat (h : mMd Z m g n T p r M) {x i j : Nat} (hx : x < n) (hi : i < 2) (hj : j < 2) : zX7_matrix F (m : Nat) x i j Z = some (M x i j, Z) := by
  have := h.1
  have := h.2.2.1
  unfold zX7_matrix
  rw [zLd_o (by omega), (h.2.2.2.2.2.2 x i j hx hi hj).1]
theorem i25 {a b : Int} (ha : 0 ≤ a ∧ a < 5) (hb : 0 ≤ b ∧ b < 5) : 0 ≤ a * b ∧ a * b ≤ 25 := by
  refine ⟨Int.mul_nonneg ha.1 hb.1, ?_⟩
  have := Int.mul_le_mul (show a ≤ 5 by omega) (show b ≤ 5 by omega) hb.1 (by omega)
  omega
theorem m_sound (hF : fF F) (h : mMd Z m g n T p r M) (h7 : (m : Int) < zI Z 7 ∧ zI Z 7 ≤ 6) : zX7_sound F (m : Nat) Z = some (sdV n p r T M, Z) := by
  have hm := h.1
  have hg := h.2.1.1
  obtain ⟨hr1, hr2⟩ := h.2.2.2.2.2.1
  obtain ⟨hp1, hp2⟩ := h.2.2.2.2.1
  have hn := h.2.2.1
  have G := h.2.1.G
  have hn0 := G.1
  have hMb : ∀ x i j, x < n → i < 2 → j < 2 → 0 ≤ M x i j ∧ M x i j < 5 := fun x i j a b c => by
    have := (h.2.2.2.2.2.2 x i j a b c).2; omega
  unfold zX7_sound
  rw [zC1_o (m_isModule (by omega) (by omega)), if_pos (by omega), zEq_f (by omega), zLd_o (by omega), h.2.2.2.1.1, zLd_o (by omega), h.2.2.2.1.2.2]
  let P : Option (Int × zS) → Prop := fun x => x = some (sdV n p r T M, Z)
  refine iX7_sound_l27 (I := fun v1 v2 v3 v4 w => ∃ i : Nat, m = v1 ∧ g = v2 ∧ r = v3 ∧ i = v4 ∧ Z = w ∧ i ≤ r ∧ ∀ i' j, i' < i → j < r → M 0 i' j = if i' = j then 1 else 0) (μ := fun _ _ _ v4 _ => (r - v4).toNat) (P := P) ?_ F _ _ _ _ _ ⟨0, rfl, rfl, rfl, rfl, rfl, by omega, fun i' j a _ => by omega⟩ (by unfold fF at hF; omega)
  rintro ra _ _ _ _ _ ⟨i, rfl, rfl, rfl, rfl, rfl, hi, hgi⟩ ih
  unfold zX7_sound_h27
  by_cases c1 : i = r
  · rw [zLe_t (by omega)]
    dsimp only
    have hz : sdZero r M := by rw [c1] at hgi; exact hgi
    refine iX7_sound_l86 (I := fun v1 v2 v3 v4 w => ∃ x : Nat, m = v1 ∧ g = v2 ∧ r = v3 ∧ x = v4 ∧ Z = w ∧ x ≤ n ∧ ∀ q, q < n * x → ¬ sdBad n p r T M q) (μ := fun _ _ _ v4 _ => (n - v4).toNat) (P := P) ?_ F _ _ _ _ _ ⟨0, rfl, rfl, rfl, rfl, rfl, by omega, fun q hq => by omega⟩ (by unfold fF at hF; omega)
    rintro rb _ _ _ _ _ ⟨x, rfl, rfl, rfl, rfl, rfl, hx, hgx⟩ ih2
    unfold zX7_sound_h86
    rw [h.2.1.sz]
    by_cases c2 : x = n
    · rw [zLe_t (by omega)]
      rw [c2] at hgx
      show some (0, Z) = some (sdV n p r T M, Z)
      rw [sdV_3 hz hgx]
    · have hxn : x < n := by omega
      rw [zLe_f (by omega)]
      refine iX7_sound_l100 (I := fun v1 v2 v3 v4 v5 w => x = v4 ∧ ∃ y : Nat, m = v1 ∧ g = v2 ∧ r = v3 ∧ y = v5 ∧ Z = w ∧ y ≤ n ∧ ∀ q, q < n * x + y → ¬ sdBad n p r T M q) (μ := fun _ _ _ _ v5 _ => (n - v5).toNat) (P := P) ?_ F _ _ _ _ _ _ ⟨rfl, 0, rfl, rfl, rfl, rfl, rfl, by omega, fun q hq => hgx q (by omega)⟩ (by unfold fF at hF; omega)
      rintro rc _ _ _ _ _ _ ⟨rfl, y, rfl, rfl, rfl, rfl, rfl, hy, hgy⟩ ih3
      unfold zX7_sound_h100
      rw [h.2.1.sz]
      by_cases c3 : y = n
      · rw [zLe_t (by omega)]
        exact ih2 _ _ _ _ _ ⟨x + 1, rfl, rfl, rfl, by omega, rfl, by omega, fun q hq => hgy q (by rw [Nat.mul_succ] at hq; omega)⟩ (by omega)
      · have hyn : y < n := by omega
        have hxy := G.2.1 x y hxn hyn
        have hat := z2_at (n := n) (x := x) hyn
        have hlt : n * x + y < n * n := by
          have : n * (x + 1) ≤ n * n := Nat.mul_le_mul_left _ hxn
          rw [Nat.mul_succ] at this; omega
        have hb : sdBad n p r T M (n * x + y) ↔ ¬ ∀ i' j, i' < r → j < r → sdGood p r T M x y i' j := by
          unfold sdBad; rw [hat.1, hat.2]
        rw [zLe_f (by omega)]
        refine iX7_sound_l114 (I := fun v1 v2 v3 v4 v5 v6 w => x = v4 ∧ y = v5 ∧ ∃ a : Nat, m = v1 ∧ g = v2 ∧ r = v3 ∧ a = v6 ∧ Z = w ∧ a ≤ r ∧ ∀ a' b, a' < a → b < r → sdGood p r T M x y a' b) (μ := fun _ _ _ _ _ v6 _ => (r - v6).toNat) (P := P) ?_ F _ _ _ _ _ _ _ ⟨rfl, rfl, 0, rfl, rfl, rfl, rfl, rfl, by omega, fun a' b hq => by omega⟩ (by unfold fF at hF; omega)
        rintro rd _ _ _ _ _ _ _ ⟨rfl, rfl, a, rfl, rfl, rfl, rfl, rfl, ha, hga⟩ ih4
        unfold zX7_sound_h114
        by_cases c4 : a = r
        · rw [zLe_t (by omega)]
          rw [c4] at hga
          exact ih3 _ _ _ _ _ _ ⟨rfl, y + 1, rfl, rfl, rfl, by omega, rfl, by omega, fun q hq => by
            rcases Nat.lt_or_ge q (n * x + y) with z | z
            · exact hgy q z
            · rw [show q = n * x + y by omega, hb]; exact fun u => u fun a' b h1 h2 => hga a' b h1 h2⟩ (by omega)
        · have har : a < r := by omega
          rw [zLe_f (by omega)]
          refine iX7_sound_l123 (I := fun v1 v2 v3 v4 v5 v6 v7 w => x = v4 ∧ y = v5 ∧ a = v6 ∧ ∃ b : Nat, m = v1 ∧ g = v2 ∧ r = v3 ∧ b = v7 ∧ Z = w ∧ b ≤ r ∧ ∀ b', b' < b → sdGood p r T M x y a b') (μ := fun _ _ _ _ _ _ v7 _ => (r - v7).toNat) (P := P) ?_ F _ _ _ _ _ _ _ _ ⟨rfl, rfl, rfl, 0, rfl, rfl, rfl, rfl, rfl, by omega, fun b' hq => by omega⟩ (by unfold fF at hF; omega)
          rintro re _ _ _ _ _ _ _ _ ⟨rfl, rfl, rfl, b, rfl, rfl, rfl, rfl, rfl, hb1, hgb⟩ ih5
          unfold zX7_sound_h123
          by_cases c5 : b = r
          · rw [zLe_t (by omega)]
            rw [c5] at hgb
            exact ih4 _ _ _ _ _ _ _ ⟨rfl, rfl, a + 1, rfl, rfl, rfl, by omega, rfl, by omega, fun a' b' h1 h2 => by
              rcases Nat.lt_or_ge a' a with z | z
              · exact hga a' b' z h2
              · rw [show a' = a by omega]; exact hgb b' h2⟩ (by omega)
          · have hbr : b < r := by omega
            rw [zLe_f (by omega)]
            have m1 : zX7_matrix F (m : Nat) x a (0 : Int) Z = some (M x a 0, Z) := h.mat (j := 0) hxn (by omega) (by omega)
            have m2 : zX7_matrix F (m : Nat) y (0 : Int) b Z = some (M y 0 b, Z) := h.mat (i := 0) hyn (by omega) (by omega)
            have m3 : zX7_matrix F (m : Nat) x a (1 : Int) Z = some (M x a 1, Z) := h.mat (j := 1) hxn (by omega) (by omega)
            have m4 : zX7_matrix F (m : Nat) y (1 : Int) b Z = some (M y 1 b, Z) := h.mat (i := 1) hyn (by omega) (by omega)
            have m5 := h.mat (F := F) (i := a) (j := b) hxy (by omega) (by omega)
            have n1 := i25 (hMb x a 0 hxn (by omega) (by omega)) (hMb y 0 b hyn (by omega) (by omega))
            have n2 := i25 (hMb x a 1 hxn (by omega) (by omega)) (hMb y 1 b hyn (by omega) (by omega))
            have n3 := hMb (T x y) a b hxy (by omega) (by omega)
            rw [zC1_o m1, zC1_o m2]
            have fin : ∀ s1 : Int, (0 ≤ s1 ∧ s1 ≤ 25) → iSum (fun k => M x a k * M y k b) r = M x a 0 * M y 0 b + s1 → P (zX7_sound_b180 F re (fun v1 v2 v3 v4 v5 v6 w => rd v1 v2 v3 v4 v5 (v6 + 1) w) (fun v2 v4 v5 w => zLd 8 (zA w 1) v2 fun t219 => some ((((1 : Int) + (t219 * v4)) + v5), w)) (m : Nat) (g : Nat) (r : Nat) (x : Nat) (y : Nat) (a : Nat) (b : Nat) (M x a 0 * M y 0 b) s1 Z) := by
              intro s1 hs1 hsum
              unfold zX7_sound_b180
              have hmo := Int.emod_nonneg (M x a 0 * M y 0 b + s1) (show (p : Int) ≠ 0 by omega)
              have hmo2 := Int.emod_lt_of_pos (M x a 0 * M y 0 b + s1) (show (0 : Int) < p by omega)
              rw [zLd_o (by omega), h.2.2.2.1.2.1, zRem_p (by omega), zC1_o (h.2.1.mul hxn hyn), zC1_o m5]
              by_cases c6 : sdGood p r T M x y a b
              · rw [zEq_t (by unfold sdGood at c6; rw [hsum] at c6; omega)]
                exact ih5 _ _ _ _ _ _ _ _ ⟨rfl, rfl, rfl, b + 1, rfl, rfl, rfl, by omega, rfl, by omega, fun b' h1 => by
                  rcases Nat.lt_or_ge b' b with z | z
                  · exact hgb b' z
                  · rw [show b' = b by omega]; exact c6⟩ (by omega)
              · rw [zEq_f (by unfold sdGood at c6; rw [hsum] at c6; omega)]
                dsimp only
                rw [h.2.1.sz]
                show some ((1 : Int) + (n : Int) * x + y, Z) = some (sdV n p r T M, Z)
                rw [sdV_2 hz hlt (hb.mpr fun q => c6 (q a b har hbr)) hgy]
                have e : (1 : Int) + (n : Int) * x + y = 1 + ((n * x + y : Nat) : Int) := by rw [Int.natCast_add, Int.natCast_mul]; omega
                rw [e]
            by_cases c6 : r = 2
            · rw [zEq_t (by omega), zC1_o m3, zC1_o m4]
              exact fin _ (by omega) (by rw [c6]; show (0 + M x a 0 * M y 0 b) + M x a 1 * M y 1 b = _; omega)
            · rw [zEq_f (by omega)]
              exact fin 0 (by omega) (by rw [show r = 1 by omega]; show 0 + M x a 0 * M y 0 b = _; omega)
  · have hir : i < r := by omega
    rw [zLe_f (by omega)]
    refine iX7_sound_l36 (I := fun v1 v2 v3 v4 v5 w => i = v4 ∧ ∃ j : Nat, m = v1 ∧ g = v2 ∧ r = v3 ∧ j = v5 ∧ Z = w ∧ j ≤ r ∧ ∀ j', j' < j → M 0 i j' = if i = j' then 1 else 0) (μ := fun _ _ _ _ v5 _ => (r - v5).toNat) (P := P) ?_ F _ _ _ _ _ _ ⟨rfl, 0, rfl, rfl, rfl, rfl, rfl, by omega, fun j' hq => by omega⟩ (by unfold fF at hF; omega)
    rintro rb _ _ _ _ _ _ ⟨rfl, j, rfl, rfl, rfl, rfl, rfl, hj, hgj⟩ ih2
    unfold zX7_sound_h36
    by_cases c2 : j = r
    · rw [zLe_t (by omega)]
      rw [c2] at hgj
      exact ih _ _ _ _ _ ⟨i + 1, rfl, rfl, rfl, by omega, rfl, by omega, fun i' j' h1 h2 => by
        rcases Nat.lt_or_ge i' i with z | z
        · exact hgi i' j' z h2
        · rw [show i' = i by omega]; exact hgj j' h2⟩ (by omega)
    · have hb := hMb 0 i j hn0 (by omega) (by omega)
      have hent : zX7_matrix F (m : Nat) (0 : Int) i j Z = some (M 0 i j, Z) := h.mat (x := 0) hn0 (by omega) (by omega)
      have go : (M 0 i j = if i = j then 1 else 0) → P (rb (m : Nat) (g : Nat) (r : Nat) (i : Nat) ((j : Int) + 1) Z) := fun e => ih2 _ _ _ _ _ _ ⟨rfl, j + 1, rfl, rfl, rfl, by omega, rfl, by omega, fun j' h1 => by
        rcases Nat.lt_or_ge j' j with z | z
        · exact hgj j' z
        · rw [show j' = j by omega]; exact e⟩ (by omega)
      have bad : ¬ (M 0 i j = if i = j then 1 else 0) → P (some ((1000 : Int), Z)) := fun e => by
        show some ((1000 : Int), Z) = some (sdV n p r T M, Z)
        rw [sdV_1 (fun z => e (z i j hir (by omega)))]
      rw [zLe_f (by omega), zC1_o hent]
      unfold zX7_sound_b64
      by_cases q3 : i = j
      · rw [zEq_t (by omega)]
        by_cases q4 : M 0 i j = 1
        · rw [zEq_t (by omega)]
          exact go (by rw [if_pos q3]; exact q4)
        · rw [zEq_f (by omega)]
          exact bad (by rw [if_pos q3]; exact q4)
      · rw [zEq_f (by omega)]
        by_cases q4 : M 0 i j = 0
        · rw [zEq_t (by omega)]
          exact go (by rw [if_neg q3]; exact q4)
        · rw [zEq_f (by omega)]
          exact bad (by rw [if_neg q3]; exact q4)
end MSD
