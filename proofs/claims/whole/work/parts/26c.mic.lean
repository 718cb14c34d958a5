/-! THE MODEL: is a line a cocycle? -/
section MIC
variable {F m g n p r W k : Nat} {Z Z' : zS} {T : Nat → Nat → Nat} {M : Nat → Nat → Nat → Int}
theorem m_twisted {p : Nat} [NeZero p] (h : mBo Z m g n T p r M) {v : fV p} (hv : fRow ((n - 1) * (n - 1) * r) (zA Z 25) v) {x y i : Nat} (hx : x < n) (hy : y < n) (hi : i < r) : zX7_twisted F x y i Z = some ((((pv n r v x y i).val : Nat) : Int), Z) := by
  obtain ⟨hr1, hr2⟩ := h.1.2.2.2.2.2.1
  have hn := h.1.2.2.1
  have h98 := pl_98 hn hr2
  unfold zX7_twisted zX7_twisted_b8
  by_cases c1 : x = 0
  · rw [zEq_t (by omega)]
    have e : pv n r v x y i = 0 := if_pos (Or.inl c1)
    rw [e, fV_0.mpr rfl]
  · by_cases c2 : y = 0
    · rw [zEq_f (by omega), zEq_t (by omega)]
      have e : pv n r v x y i = 0 := if_pos (Or.inr c2)
      rw [e, fV_0.mpr rfl]
    · have hl := pl_lt (r := r) (show 1 ≤ x by omega) hx (show 1 ≤ y by omega) hy hi
      rw [zEq_f (by omega), zEq_f (by omega), zC1_o (h.place (by omega) (by omega)), zLd_o (by omega), hv _ hl]
      have e : pv n r v x y i = v (pl n r x y i) := if_neg (by omega)
      rw [e]
theorem t0_iff {p : Nat} [NeZero p] {s : Int} : s.tmod p = 0 ↔ (fC s : Fin p) = 0 := by
  rw [← fV_0, fC_val, ← Int.dvd_iff_tmod_eq_zero, Int.dvd_iff_emod_eq_zero]
theorem m_isCocycle {p : Nat} [NeZero p] (hF : fF F) (h : mBo Z m g n T p r M) {v : fV p} (hvo : fOk ((n - 1) * (n - 1) * r) v) (hv : fRow ((n - 1) * (n - 1) * r) (zA Z 25) v) : (Z2 n r T M v → zX7_isCocycle F Z = some (1, Z)) ∧ (¬ Z2 n r T M v → zX7_isCocycle F Z = some (0, Z)) := by
  classical
  obtain ⟨hr1, hr2⟩ := h.1.2.2.2.2.2.1
  obtain ⟨hp1, hp2⟩ := h.1.2.2.2.2.1
  have hn := h.1.2.2.1
  have G := h.G
  have hn0 := G.1
  obtain ⟨e39, e38, e36, e37, e23⟩ := h.2
  let bad : Nat → Nat → Nat → Nat → Prop := fun x y z i => ∃ x' y' z' i', D4 n r x' y' z' i' ∧ gM4 x y z i x' y' z' i' ∧ cL n r T M v x' y' z' i' ≠ 0
  have bcg : ∀ {x y z i x2 y2 z2 i2}, (∀ x' y' z' i', D4 n r x' y' z' i' → (gM4 x y z i x' y' z' i' ↔ gM4 x2 y2 z2 i2 x' y' z' i')) → (bad x y z i ↔ bad x2 y2 z2 i2) := by
    intro x y z i x2 y2 z2 i2 hh
    constructor
    · rintro ⟨x', y', z', i', a1, a2, a3⟩; exact ⟨x', y', z', i', a1, (hh _ _ _ _ a1).mp a2, a3⟩
    · rintro ⟨x', y', z', i', a1, a2, a3⟩; exact ⟨x', y', z', i', a1, (hh _ _ _ _ a1).mpr a2, a3⟩
  let fl : Nat → Nat → Nat → Nat → Int := fun x y z i => if bad x y z i then 0 else 1
  have flc : ∀ {x y z i x2 y2 z2 i2}, (∀ x' y' z' i', D4 n r x' y' z' i' → (gM4 x y z i x' y' z' i' ↔ gM4 x2 y2 z2 i2 x' y' z' i')) → fl x y z i = fl x2 y2 z2 i2 := by
    intro x y z i x2 y2 z2 i2 hh
    show (if bad x y z i then 0 else 1) = if bad x2 y2 z2 i2 then 0 else 1
    by_cases c : bad x y z i
    · rw [if_pos c, if_pos ((bcg hh).mp c)]
    · rw [if_neg c, if_neg (fun q => c ((bcg hh).mpr q))]
  have flb : ∀ x y z i, fl x y z i = 0 ∨ fl x y z i = 1 := fun x y z i => by
    show (if bad x y z i then (0 : Int) else 1) = 0 ∨ (if bad x y z i then (0 : Int) else 1) = 1
    by_cases c : bad x y z i
    · rw [if_pos c]; exact Or.inl rfl
    · rw [if_neg c]; exact Or.inr rfl
  have key : zX7_isCocycle F Z = some (fl n 1 1 0, Z) := by
    let P : Option (Int × zS) → Prop := fun q => q = some (fl n 1 1 0, Z)
    have f0 : fl 1 1 1 0 = 1 := if_neg (by rintro ⟨x', y', z', i', a1, a2, a3⟩; unfold D4 at a1; unfold gM4 at a2; omega)
    unfold zX7_isCocycle
    refine iX7_isCocycle_l4 (I := fun v1 v2 w => ∃ x : Nat, x = v2 ∧ fl x 1 1 0 = v1 ∧ 1 ≤ x ∧ x ≤ n ∧ Z = w) (μ := fun _ v2 _ => (n - v2).toNat) (P := P) ?_ F _ _ _ ⟨1, rfl, f0, by omega, hn0, rfl⟩ (by unfold fF at hF; omega)
    rintro ra _ _ _ ⟨x, rfl, rfl, hx1, hx, rfl⟩ ih
    unfold zX7_isCocycle_h4
    rw [e36]
    by_cases c1 : x = n
    · rw [zLe_t (by omega), zBo_o (flb _ _ _ _), c1]
    · have hxn : x < n := by omega
      rw [zLe_f (by omega)]
      refine iX7_isCocycle_l14 (I := fun v1 v2 v3 w => x = v2 ∧ ∃ y : Nat, y = v3 ∧ fl x y 1 0 = v1 ∧ 1 ≤ y ∧ y ≤ n ∧ Z = w) (μ := fun _ _ v3 _ => (n - v3).toNat) (P := P) ?_ F _ _ _ _ ⟨rfl, 1, rfl, rfl, by omega, hn0, rfl⟩ (by unfold fF at hF; omega)
      rintro rb _ _ _ _ ⟨rfl, y, rfl, rfl, hy1, hy, rfl⟩ ih2
      unfold zX7_isCocycle_h14
      rw [e36]
      by_cases c2 : y = n
      · rw [zLe_t (by omega)]
        exact ih _ _ _ ⟨x + 1, by omega, flc fun x' y' z' i' a => by unfold D4 at a; unfold gM4; omega, by omega, by omega, rfl⟩ (by omega)
      · have hyn : y < n := by omega
        rw [zLe_f (by omega)]
        refine iX7_isCocycle_l25 (I := fun v1 v2 v3 v4 w => x = v2 ∧ y = v3 ∧ ∃ z : Nat, z = v4 ∧ fl x y z 0 = v1 ∧ 1 ≤ z ∧ z ≤ n ∧ Z = w) (μ := fun _ _ _ v4 _ => (n - v4).toNat) (P := P) ?_ F _ _ _ _ _ ⟨rfl, rfl, 1, rfl, rfl, by omega, hn0, rfl⟩ (by unfold fF at hF; omega)
        rintro rc _ _ _ _ _ ⟨rfl, rfl, z, rfl, rfl, hz1, hz, rfl⟩ ih3
        unfold zX7_isCocycle_h25
        rw [e36]
        by_cases c3 : z = n
        · rw [zLe_t (by omega)]
          exact ih2 _ _ _ _ ⟨rfl, y + 1, by omega, flc fun x' y' z' i' a => by unfold D4 at a; unfold gM4; omega, by omega, by omega, rfl⟩ (by omega)
        · have hzn : z < n := by omega
          have hyz := G.2.1 y z hyn hzn
          have hxy := G.2.1 x y hxn hyn
          rw [zLe_f (by omega)]
          refine iX7_isCocycle_l37 (I := fun v1 v2 v3 v4 v5 w => x = v2 ∧ y = v3 ∧ z = v4 ∧ ∃ i : Nat, i = v5 ∧ fl x y z i = v1 ∧ i ≤ r ∧ Z = w) (μ := fun _ _ _ _ v5 _ => (r - v5).toNat) (P := P) ?_ F _ _ _ _ _ _ ⟨rfl, rfl, rfl, 0, rfl, rfl, by omega, rfl⟩ (by unfold fF at hF; omega)
          rintro rd _ _ _ _ _ _ ⟨rfl, rfl, rfl, i, rfl, rfl, hi, rfl⟩ ih4
          unfold zX7_isCocycle_h37
          rw [e37]
          by_cases c4 : i = r
          · rw [zLe_t (by omega)]
            exact ih3 _ _ _ _ _ ⟨rfl, rfl, z + 1, by omega, flc fun x' y' z' i' a => by unfold D4 at a; unfold gM4; omega, by omega, by omega, rfl⟩ (by omega)
          · have hir : i < r := by omega
            rw [zLe_f (by omega), e38, zC1_o (h.mulG hyn hzn), zC1_o (m_twisted h hv hxn hyz hir), e38, zC1_o (h.mulG hxn hyn), zC1_o (m_twisted h hv hxy hzn hir), zC1_o (m_twisted h hv hxn hyn hir)]
            have b1 := fV_lt (pv n r v x (T y z) i)
            have b2 := fV_lt (pv n r v (T x y) z i)
            have b3 := fV_lt (pv n r v x y i)
            generalize hs0 : (((pv n r v x (T y z) i).val : Nat) : Int) - (((pv n r v (T x y) z i).val : Nat) : Int) - (((pv n r v x y i).val : Nat) : Int) = s0
            have hstep : fl x y z (i + 1) = if fl x y z i = 0 then 0 else if cL n r T M v x y z i = 0 then 1 else 0 := by
              have hD : D4 n r x y z i := ⟨⟨hx1, hxn⟩, ⟨hy1, hyn⟩, ⟨hz1, hzn⟩, hir⟩
              have hb : bad x y z (i + 1) ↔ bad x y z i ∨ cL n r T M v x y z i ≠ 0 := by
                constructor
                · rintro ⟨x', y', z', i', a1, a2, a3⟩
                  by_cases c : x' = x ∧ y' = y ∧ z' = z ∧ i' = i
                  · obtain ⟨rfl, rfl, rfl, rfl⟩ := c; exact Or.inr a3
                  · exact Or.inl ⟨x', y', z', i', a1, by unfold gM4 at *; omega, a3⟩
                · rintro (⟨x', y', z', i', a1, a2, a3⟩ | a3)
                  · exact ⟨x', y', z', i', a1, by unfold gM4 at *; omega, a3⟩
                  · exact ⟨x, y, z, i, hD, by unfold gM4; omega, a3⟩
              show (if bad x y z (i + 1) then (0 : Int) else 1) = if (if bad x y z i then (0 : Int) else 1) = 0 then 0 else if cL n r T M v x y z i = 0 then 1 else 0
              by_cases c : bad x y z i
              · rw [if_pos (hb.mpr (Or.inl c)), if_pos (by rw [if_pos c])]
              · rw [if_neg (show ¬ (if bad x y z i then (0 : Int) else 1) = 0 by rw [if_neg c]; omega)]
                by_cases c' : cL n r T M v x y z i = 0
                · rw [if_pos c', if_neg (fun q => (hb.mp q).elim c (fun z => z c'))]
                · rw [if_neg c', if_pos (hb.mpr (Or.inr c'))]
            have nx : ∀ v0 : Int, v0 = fl x y z (i + 1) → P (rd v0 x y z ((i : Int) + 1) Z) := fun v0 e => ih4 _ _ _ _ _ _ ⟨rfl, rfl, rfl, i + 1, by omega, e.symm, by omega, rfl⟩ (by omega)
            have hfb := flb x y z i
            refine iX7_isCocycle_l97 (I := fun v1 v2 v3 v4 v5 v6 v7 w => fl x y z i = v1 ∧ x = v2 ∧ y = v3 ∧ z = v4 ∧ i = v5 ∧ ∃ (j : Nat) (s : Int), j = v7 ∧ s = v6 ∧ j ≤ r ∧ Z = w ∧ (-10 ≤ s ∧ s ≤ 10 + 25 * j) ∧ (fC s : Fin p) = fC s0 + fSum (fun j => mC M x i j * pv n r v y z j) j) (μ := fun _ _ _ _ _ _ v7 _ => (r - v7).toNat) (P := P) ?_ F _ _ _ _ _ _ _ _ ⟨rfl, rfl, rfl, rfl, rfl, 0, s0, rfl, rfl, by omega, rfl, by omega, by show _ = fC s0 + (0 : Fin p); grind⟩ (by unfold fF at hF; omega)
            rintro re _ _ _ _ _ _ _ _ ⟨rfl, rfl, rfl, rfl, rfl, j, s, rfl, rfl, hj, rfl, hs, hfs⟩ ih5
            unfold zX7_isCocycle_h97
            rw [e37]
            by_cases c5 : j = r
            · rw [zLe_t (by omega)]
              dsimp only
              have hcl : (fC s : Fin p) = cL n r T M v x y z i := by
                rw [hfs, c5, ← hs0, fC_sub, fC_sub, fC_v, fC_v, fC_v]
                unfold cL
                grind
              unfold zX7_isCocycle_b158 zX7_isCocycle_b159
              rcases hfb with c6 | c6
              · rw [zEq_t (by omega)]
                exact nx 0 (by rw [hstep, if_pos c6])
              · have ht := t0_iff (p := p) (s := s)
                have hb1 : s.tmod p < p := Int.tmod_lt_of_pos _ (by omega)
                have hb2 : -(p : Int) < s.tmod p := Int.lt_tmod_of_pos _ (by omega)
                rw [zEq_f (by omega), e23, zRem_o (by omega)]
                by_cases c7 : cL n r T M v x y z i = 0
                · have := ht.mpr (by rw [hcl]; exact c7)
                  rw [zEq_t (by omega)]
                  exact nx 1 (by rw [hstep, if_neg (by omega), if_pos c7])
                · have : s.tmod p ≠ 0 := fun e => c7 (by rw [← hcl]; exact ht.mp e)
                  rw [zEq_f (by omega)]
                  exact nx 0 (by rw [hstep, if_neg (by omega), if_neg c7])
            · have hjr : j < r := by omega
              have hMb := (h.1.2.2.2.2.2.2 x i j hxn (by omega) (by omega)).2
              have b4 := fV_lt (pv n r v y z j)
              have b5 := i25 (a := M x i j) (b := (((pv n r v y z j).val : Nat) : Int)) (by omega) (by omega)
              rw [zLe_f (by omega), e39, zC1_o (h.mat hxn (by omega) (by omega)), zC1_o (m_twisted h hv hyn hzn hjr)]
              refine ih5 _ _ _ _ _ _ _ _ ⟨rfl, rfl, rfl, rfl, rfl, j + 1, _, by omega, rfl, by omega, rfl, by omega, ?_⟩ (by omega)
              rw [fC_add, fC_mul, fC_v, hfs]
              show fC s0 + fSum (fun j => mC M x i j * pv n r v y z j) j + _ = fC s0 + (fSum (fun j => mC M x i j * pv n r v y z j) j + mC M x i j * pv n r v y z j)
              unfold mC
              grind
  have hZ : Z2 n r T M v ↔ ¬ bad n 1 1 0 := by
    unfold Z2
    rw [Z2_iff G (fun _ => True)]
    constructor
    · rintro ⟨-, q⟩ ⟨x', y', z', i', a1, a2, a3⟩
      exact a3 (q x' y' z' i' trivial a1.1.1 a1.1.2 a1.2.1.1 a1.2.1.2 a1.2.2.1.1 a1.2.2.1.2 a1.2.2.2)
    · intro q
      refine ⟨hvo, fun x y z i _ h1 h2 h3 h4 h5 h6 h7 => Classical.byContradiction fun c => q ⟨x, y, z, i, ⟨⟨h1, h2⟩, ⟨h3, h4⟩, ⟨h5, h6⟩, h7⟩, by unfold gM4; omega, c⟩⟩
  constructor
  · intro q
    rw [key]
    show some ((if bad n 1 1 0 then (0 : Int) else 1), Z) = _
    rw [if_neg (hZ.mp q)]
  · intro q
    rw [key]
    show some ((if bad n 1 1 0 then (0 : Int) else 1), Z) = _
    rw [if_pos (Classical.byContradiction fun c => q (hZ.mpr c))]
end MIC
