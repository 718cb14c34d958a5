/-! THE MODEL: over -/
section MOV
variable {F m g g1 n r N : Nat} {Z : zS} {T Tn : Nat → Nat → Nat} {M : Nat → Nat → Nat → Int} {f : Int → Int}
theorem mBo.tb {p x y : Nat} (h : mBo Z m g n T p r M) (hf : tbF Z g1 N Tn x y f) (hg : g < g1) : mBo (zwA Z 2 f) m g n T p r M := by
  obtain ⟨⟨a1, a2, a3⟩, a4⟩ := h
  exact ⟨⟨a1, tb_yG hf a2 hg, a3⟩, a4⟩
theorem ov_pw {p : Nat} (hp : 1 < p ∧ p ≤ 5) (hr : 1 ≤ r ∧ r ≤ 2) : 0 < p ^ r ∧ p ^ r ≤ 25 := by
  rcases (show r = 1 ∨ r = 2 by omega) with rfl | rfl
  · rw [Nat.pow_one]; omega
  · rw [Nat.pow_two]
    have := Nat.mul_le_mul hp.2 hp.2
    exact ⟨Nat.mul_pos (by omega) (by omega), by omega⟩
theorem ov_digit {p : Nat} [NeZero p] {v i : Nat} (hp : 1 < p ∧ p ≤ 5) (hr : 1 ≤ r ∧ r ≤ 2) (hv : v < p ^ r) (hi : i < r) : ∃ d : Nat, d < p ∧ (fC (d : Int) : Fin p) = dgF p v i ∧ (i = 0 → v % p = d) ∧ (i ≠ 0 → v / p = d) := by
  by_cases c : i = 0
  · refine ⟨v % p, Nat.mod_lt _ (by omega), ?_, fun _ => rfl, fun t => (t c).elim⟩
    unfold dgF
    rw [c, Nat.pow_zero, Nat.div_one]
    exact fC_nat (Nat.mod_mod v p)
  · have e2 : r = 2 := by omega
    have e1 : i = 1 := by omega
    rw [e2, Nat.pow_two] at hv
    refine ⟨v / p, Nat.div_lt_of_lt_mul hv, ?_, fun t => (c t).elim, fun _ => rfl⟩
    unfold dgF
    rw [e1, Nat.pow_one]
theorem ov_108 {p : Nat} [NeZero p] {P : Option (Int × zS) → Prop} {k258 : Int → Int → Int → Int → Int → Int → zS → Option (Int × zS)} {a b : Nat} {v : fV p} (hF : fF F) (h : mBo Z m g n T p r M) (hv : fRow ((n - 1) * (n - 1) * r) (zA Z 25) v) (ha : a < p ^ r * n) (hb : b < p ^ r * n) (K : P (k258 (p ^ r : Nat) a b (a / p ^ r : Nat) (b / p ^ r : Nat) (nB p r (fun i => (ovU n r M v (a / p ^ r) (a % p ^ r) (b / p ^ r) (b % p ^ r) i).val) : Nat) Z)) : P (zX7_over_l108 F k258 F (p ^ r : Nat) (a : Nat) (b : Nat) (a / p ^ r : Nat) (b / p ^ r : Nat) 0 1 0 Z) := by
  have hr := h.1.2.2.2.2.2.1
  have hpp := h.1.2.2.2.2.1
  have hn8 := h.1.2.2.1
  have hm6 := h.1.1
  obtain ⟨e39, e38, e36, e37, e23⟩ := h.2
  obtain ⟨q1, q2⟩ := ov_pw (r := r) hpp hr
  have hq48 : p ^ r * n ≤ 25 * 8 := Nat.mul_le_mul q2 hn8
  generalize hQ : p ^ r = Q at *
  have xa : a / Q < n := Nat.div_lt_of_lt_mul ha
  have yb : b / Q < n := Nat.div_lt_of_lt_mul hb
  have ma : a % Q < Q := Nat.mod_lt _ q1
  have mb : b % Q < Q := Nat.mod_lt _ q1
  have hp31 : ∀ i, i < r → p ^ i ≤ 5 := fun i hi => by
    rcases (show i = 0 ∨ i = 1 by omega) with rfl | rfl
    · rw [Nat.pow_zero]; omega
    · rw [Nat.pow_one]; omega
  refine iX7_over_l108 (I := fun v4 v5 v6 v7 v8 v9 v10 v11 w => (Q : Int) = v4 ∧ (a : Int) = v5 ∧ (b : Int) = v6 ∧ ((a / Q : Nat) : Int) = v7 ∧ ((b / Q : Nat) : Int) = v8 ∧ Z = w ∧ ∃ i : Nat, (i : Int) = v11 ∧ i ≤ r ∧ ((nB p i (fun i => (ovU n r M v (a / Q) (a % Q) (b / Q) (b % Q) i).val) : Nat) : Int) = v9 ∧ ((p ^ i : Nat) : Int) = v10) (μ := fun _ _ _ _ _ _ _ v11 _ => (r - v11).toNat) (P := P) ?_ F _ _ _ _ _ _ _ _ _ ⟨rfl, rfl, rfl, rfl, rfl, rfl, 0, rfl, by omega, rfl, by rw [Nat.pow_zero]; rfl⟩ (by unfold fF at hF; omega)
  rintro ra _ _ _ _ _ _ _ _ _ ⟨rfl, rfl, rfl, rfl, rfl, rfl, i, rfl, hi, rfl, rfl⟩ ih
  unfold zX7_over_h108
  rw [e37]
  by_cases c1 : i = r
  · rw [zLe_t (by omega)]
    rw [c1]; exact K
  · have hir : i < r := by omega
    have hi2 : i < 2 := by omega
    obtain ⟨d, d1, d2, d3, d4⟩ := ov_digit (v := a % Q) hpp hr (by rw [hQ]; exact ma) hir
    obtain ⟨w0, w1, w2, w3, -⟩ := ov_digit (v := b % Q) (i := 0) hpp hr (by rw [hQ]; exact mb) (by omega)
    have ca : ((a : Nat) : Int) % (Q : Nat) = ((a % Q : Nat) : Int) := (Int.natCast_emod a Q).symm
    have cb : ((b : Nat) : Int) % (Q : Nat) = ((b % Q : Nat) : Int) := (Int.natCast_emod b Q).symm
    have ca0 : ((a % Q : Nat) : Int) % (p : Nat) = ((a % Q % p : Nat) : Int) := (Int.natCast_emod _ _).symm
    have ca1 : ((a % Q : Nat) : Int) / (p : Nat) = ((a % Q / p : Nat) : Int) := (Int.natCast_ediv _ _).symm
    have cb0 : ((b % Q : Nat) : Int) % (p : Nat) = ((b % Q % p : Nat) : Int) := (Int.natCast_emod _ _).symm
    have cb1 : ((b % Q : Nat) : Int) / (p : Nat) = ((b % Q / p : Nat) : Int) := (Int.natCast_ediv _ _).symm
    have tw := m_twisted (F := F) h hv (x := a / Q) (y := b / Q) xa yb hir
    have tb := fV_lt (pv n r v (a / Q) (b / Q) i)
    obtain ⟨-, m01, m02⟩ := h.1.2.2.2.2.2.2 (a / Q) i 0 xa hi2 (by omega)
    obtain ⟨-, m11, m12⟩ := h.1.2.2.2.2.2.2 (a / Q) i 1 xa hi2 (by omega)
    have pr0 := i25 (a := M (a / Q) i 0) (b := (w0 : Int)) (by omega) (by omega)
    -- the step, once the sum is known
    have fin : ∀ s0 s1 : Int, (0 ≤ s0 ∧ s0 ≤ 100) → (0 ≤ s1 ∧ s1 ≤ 100) → (fC (s0 + s1) : Fin p) = ovU n r M v (a / Q) (a % Q) (b / Q) (b % Q) i → P (zX7_over_b225 F ra k258 (Q : Nat) (a : Nat) (b : Nat) (a / Q : Nat) (b / Q : Nat) (nB p i (fun i => (ovU n r M v (a / Q) (a % Q) (b / Q) (b % Q) i).val) : Nat) (p ^ i : Nat) (i : Nat) s0 s1 Z) := fun s0 s1 hs0 hs1 hs => by
      unfold zX7_over_b225
      rw [e23, zRem_p (by omega), ← fC_val (p := p), hs]
      refine ih _ _ _ _ _ _ _ _ _ ⟨rfl, rfl, rfl, rfl, rfl, rfl, i + 1, by omega, by omega, ?_, ?_⟩ (by omega)
      · rw [nB_snoc, Int.natCast_add, Int.natCast_mul, Int.mul_comm]
      · rw [Nat.pow_succ, Int.natCast_mul]
    have rest : P (zX7_over_b145 F ra k258 (Q : Nat) (a : Nat) (b : Nat) (a / Q : Nat) (b / Q : Nat) (nB p i (fun i => (ovU n r M v (a / Q) (a % Q) (b / Q) (b % Q) i).val) : Nat) (p ^ i : Nat) (i : Nat) (d : Nat) Z) := by
      have hm0 : zX7_matrix F (m : Nat) (a / Q : Nat) (i : Nat) 0 Z = some (M (a / Q) i 0, Z) := h.mat (j := 0) xa hi2 (by omega)
      unfold zX7_over_b145
      rw [zC1_o tw, e39, zC1_o hm0, zRem_p (by omega), cb, e23, zRem_p (by omega), cb0, w3 rfl, e37]
      by_cases c2 : r = 2
      · obtain ⟨u0, u1, u2, -, u4⟩ := ov_digit (v := b % Q) (i := 1) hpp hr (by rw [hQ]; exact mb) (by omega)
        have pr1 := i25 (a := M (a / Q) i 1) (b := (u0 : Int)) (by omega) (by omega)
        have hm1 : zX7_matrix F (m : Nat) (a / Q : Nat) (i : Nat) 1 Z = some (M (a / Q) i 1, Z) := h.mat (j := 1) xa hi2 (by omega)
        rw [zEq_t (by omega), e39, zC1_o hm1, zRem_p (by omega), cb, e23, zDiv_p (by omega), cb1, u4 (by omega)]
        refine fin _ _ (by omega) (by omega) ?_
        rw [fC_add, fC_add, fC_add, fC_mul, fC_mul, fC_v, d2, w2, u2]
        unfold ovU
        subst c2
        show _ = _ + (0 + mC M (a / Q) i 0 * dgF p (b % Q) 0 + mC M (a / Q) i 1 * dgF p (b % Q) 1) + _
        unfold mC
        grind
      · have c2' : r = 1 := by omega
        rw [zEq_f (by omega)]
        refine fin _ _ (by omega) (by omega) ?_
        rw [fC_add, fC_add, fC_add, fC_mul, fC_v, d2, w2, fC_0]
        unfold ovU
        subst c2'
        show _ = _ + (0 + mC M (a / Q) i 0 * dgF p (b % Q) 0) + _
        unfold mC
        grind
    rw [zLe_f (by omega)]
    by_cases c3 : i = 0
    · rw [zEq_t (by omega), zRem_p (by omega), ca, e23, zRem_p (by omega), ca0, d3 c3]
      exact rest
    · rw [zEq_f (by omega), zRem_p (by omega), ca, e23, zDiv_p (by omega), ca1, d4 c3]
      exact rest
theorem ov_58 {p : Nat} [NeZero p] {v : fV p} (hF : fF F) (h : mBo Z m g n T p r M) (hv : fRow ((n - 1) * (n - 1) * r) (zA Z 25) v) (h0 : zI Z 0 = g1) (hg1 : g1 < 8) (hg : g < g1) (h48 : p ^ r * n ≤ 48) : ∃ f, zX7_over_l58 F (fun (v4 : Int) (w : zS) => zC1 (zX7_added F (v4 * (zI w 36)) w) fun q304_1 q304_2 => some (q304_1, q304_2)) F (p ^ r : Nat) 0 Z = some ((g1 : Int), gNew Z f g1 (p ^ r * n : Nat)) ∧ tbF Z g1 (p ^ r * n) (ovT n r T M v) (p ^ r * n) 0 f := by
  obtain ⟨e39, e38, e36, e37, e23⟩ := h.2
  have hr := h.1.2.2.2.2.2.1
  have hpp := h.1.2.2.2.2.1
  obtain ⟨q1, q2⟩ := ov_pw (r := r) hpp hr
  have hG := h.G
  let P : Option (Int × zS) → Prop := fun o => ∃ f, o = some ((g1 : Int), gNew Z f g1 (p ^ r * n : Nat)) ∧ tbF Z g1 (p ^ r * n) (ovT n r T M v) (p ^ r * n) 0 f
  have eN : ((p ^ r : Nat) : Int) * (n : Nat) = ((p ^ r * n : Nat) : Int) := (Int.natCast_mul _ _).symm
  rw [show zX7_over_l58 F _ F (p ^ r : Nat) 0 Z = zX7_over_l58 F _ F (p ^ r : Nat) 0 (zwA Z 2 (zA Z 2)) from by rw [zwA_e]]
  refine iX7_over_l58 (I := fun v4 v5 w => ((p ^ r : Nat) : Int) = v4 ∧ ∃ (x : Nat) (f : Int → Int), (x : Int) = v5 ∧ x ≤ p ^ r * n ∧ zwA Z 2 f = w ∧ tbF Z g1 (p ^ r * n) (ovT n r T M v) x 0 f) (μ := fun _ v5 _ => (((p ^ r * n : Nat) : Int) - v5).toNat) (P := P) ?_ F _ _ _ ⟨rfl, 0, _, rfl, by omega, rfl, tb_0⟩ (by unfold fF at hF; omega)
  rintro ra _ _ _ ⟨rfl, a, f, rfl, ha, rfl, hf⟩ ih
  have i36 : ∀ f, zI (zwA Z 2 f) 36 = n := fun _ => e36
  have i38 : ∀ f, zI (zwA Z 2 f) 38 = g := fun _ => e38
  unfold zX7_over_h58
  rw [i36, eN]
  by_cases c1 : a = p ^ r * n
  · rw [zLe_t (by omega)]
    try dsimp only
    rw [i36, eN, zC1_o (m_added h0 hg1)]
    exact ⟨f, rfl, by rw [c1] at hf; exact hf⟩
  · have han : a < p ^ r * n := by omega
    rw [zLe_f (by omega)]
    refine iX7_over_l73 (I := fun v4 v5 v6 w => ((p ^ r : Nat) : Int) = v4 ∧ (a : Int) = v5 ∧ ∃ (y : Nat) (f : Int → Int), (y : Int) = v6 ∧ y ≤ p ^ r * n ∧ zwA Z 2 f = w ∧ tbF Z g1 (p ^ r * n) (ovT n r T M v) a y f) (μ := fun _ _ v6 _ => (((p ^ r * n : Nat) : Int) - v6).toNat) (P := P) ?_ F _ _ _ _ ⟨rfl, rfl, 0, f, rfl, by omega, rfl, hf⟩ (by unfold fF at hF; omega)
    rintro rb _ _ _ _ ⟨rfl, rfl, b, f, rfl, hb, rfl, hf⟩ ih2
    unfold zX7_over_h73
    rw [i36, eN]
    by_cases c2 : b = p ^ r * n
    · rw [zLe_t (by omega)]
      try dsimp only
      rw [c2] at hf
      exact ih _ _ _ ⟨rfl, a + 1, f, by omega, by omega, rfl, tb_next hf⟩ (by omega)
    · have hbn : b < p ^ r * n := by omega
      have xa : a / p ^ r < n := Nat.div_lt_of_lt_mul han
      have yb : b / p ^ r < n := Nat.div_lt_of_lt_mul hbn
      have k1 : ((a : Nat) : Int) / ((p ^ r : Nat) : Int) = ((a / p ^ r : Nat) : Int) := (Int.natCast_ediv _ _).symm
      have k2 : ((b : Nat) : Int) / ((p ^ r : Nat) : Int) = ((b / p ^ r : Nat) : Int) := (Int.natCast_ediv _ _).symm
      have hB := h.tb hf hg
      rw [zLe_f (by omega), zDiv_p (by omega), k1, zDiv_p (by omega), k2]
      refine ov_108 (P := P) (v := v) hF hB (by rw [show zA (zwA Z 2 f) 25 = zA Z 25 from zwA_n (by decide)]; exact hv) han hbn ?_
      try dsimp only
      rw [i38, zC1_o (hB.mulG xa yb), zC0_o (m_setT h0 hg1 (by omega) (by omega))]
      have ev : ((p ^ r : Nat) : Int) * ((T (a / p ^ r) (b / p ^ r) : Nat) : Int) + ((nB p r (fun i => (ovU n r M v (a / p ^ r) (a % p ^ r) (b / p ^ r) (b % p ^ r) i).val) : Nat) : Int) = ((ovT n r T M v a b : Nat) : Int) := by
        rw [← Int.natCast_mul, ← Int.natCast_add]; rfl
      rw [ev]
      exact ih2 _ _ _ _ ⟨rfl, rfl, b + 1, _, by omega, by omega, rfl, tb_step hf (by omega) hbn⟩ (by omega)
theorem m_over {p : Nat} [NeZero p] {v : Int} (hF : fF F) (hI : fInv p) (h : mOk p Z m g n T r M) (hv : -2147483648 ≤ v ∧ v < 2147483648) (h0 : zI Z 0 = g1) (hg : g < g1) (hg1 : g1 ≤ 8) : ∃ Z1, kF Z Z1 ∧ mOk p Z1 m g n T r M ∧ (lkV p n r T M v ≠ 0 → zX7_over F (m : Nat) v Z = some (lkV p n r T M v, Z1)) ∧ (lkV p n r T M v = 0 → (g1 = 8 ∨ 48 < p ^ r * n) → zX7_over F (m : Nat) v Z = some (-3, Z1)) ∧ (lkV p n r T M v = 0 → g1 < 8 → p ^ r * n ≤ 48 → ∃ f, zX7_over F (m : Nat) v Z = some ((g1 : Int), gNew Z1 f g1 (p ^ r * n : Nat)) ∧ ∀ k R l, fRref (NS (p := p) n r T M) k R l → tbF Z1 g1 (p ^ r * n) (ovT n r T M (cmb R v.toNat k)) (p ^ r * n) 0 f) := by
  obtain ⟨Z1, a1, a2, a3, a4, a5⟩ := m_lacks (F := F) hF hI h hv
  by_cases c1 : lkV p n r T M v = 0
  · obtain ⟨s1, s2, t3, t4, t5⟩ := a4 c1
    obtain ⟨f5, b1, b2⟩ := m_sumOk (F := F) (v := v.toNat) hF hI t3 t4 t5 (by omega)
    rw [show ((v.toNat : Nat) : Int) = v by omega] at b1
    obtain ⟨e39, e38, e36, e37, e23⟩ := t3.2
    have hr := t3.1.2.2.2.2.2.1
    have hpp := t3.1.2.2.2.2.1
    have hn8 := t3.1.2.2.1
    obtain ⟨q1, q2⟩ := ov_pw (r := r) hpp hr
    have hq48 : p ^ r * n ≤ 25 * 8 := Nat.mul_le_mul q2 hn8
    have eN : ((p ^ r : Nat) : Int) * (n : Nat) = ((p ^ r * n : Nat) : Int) := (Int.natCast_mul _ _).symm
    have i0 : zI Z1 0 = g1 := by rw [a2.2.1 0 (by omega)]; exact h0
    have hd : zX7_over F (m : Nat) v Z = (zEq (zI Z1 0) (8 : Int) (some ((-3 : Int), Z1)) (zLe ((p ^ r * n : Nat) : Int) (48 : Int) (zC0 (zX7_sumOf F v Z1) fun q52 => zX7_over_l58 F (fun (v4 : Int) (w : zS) => zC1 (zX7_added F (v4 * (zI w 36)) w) fun q304_1 q304_2 => some (q304_1, q304_2)) F ((p ^ r : Nat) : Int) (0 : Int) q52) (some ((-3 : Int), Z1)))) := by
      unfold zX7_over
      rw [zC1_o a1, c1, zLe_t (by omega), e23, e37, zC1_o (m_power hF (by omega)), e36, eN]
    by_cases c2 : g1 < 8 ∧ p ^ r * n ≤ 48
    · refine ⟨zwA Z1 25 f5, a2.wA (by omega) f5, a3.wA f5, fun t => (t c1).elim, fun _ t => by omega, fun _ _ _ => ?_⟩
      have hd2 : zX7_over F (m : Nat) v Z = zX7_over_l58 F (fun (v4 : Int) (w : zS) => zC1 (zX7_added F (v4 * (zI w 36)) w) fun q304_1 q304_2 => some (q304_1, q304_2)) F ((p ^ r : Nat) : Int) (0 : Int) (zwA Z1 25 f5) := by
        rw [hd, zEq_f (by omega), zLe_t (by omega), zC0_o b1]
      obtain ⟨kB, k, k0, RB, R, R0, lB, l, l0, y1, y2, y3, -⟩ := t5
      have hv' : fRow ((n - 1) * (n - 1) * r) (zA (zwA Z1 25 f5) 25) (cmb R v.toNat k) := by rw [zwA_s]; exact b2 k R l y3
      obtain ⟨f, w1, w2⟩ := ov_58 (g1 := g1) hF (t3.wA f5) hv' i0 c2.1 hg c2.2
      refine ⟨f, by rw [hd2, w1], fun k' R' l' h' => ?_⟩
      obtain ⟨q1, q2, q3⟩ := fRref_one hI (fAway_sub (fNul_sub _)) y3 h'
      have e : cmb R v.toNat k = cmb R' v.toNat k' := by
        rw [← q1]
        funext j
        exact fSum_congr fun s hs => by rw [q3 s hs]
      rw [← e]; exact w2
    · refine ⟨Z1, a2, a3, fun t => (t c1).elim, fun _ _ => ?_, fun _ t1 t2 => (c2 ⟨t1, t2⟩).elim⟩
      rw [hd]
      by_cases c3 : g1 = 8
      · rw [zEq_t (by omega)]
      · rw [zEq_f (by omega), zLe_f (by omega)]
  · refine ⟨Z1, a2, a3, fun _ => ?_, fun t => (c1 t).elim, fun t => (c1 t).elim⟩
    unfold zX7_over
    rw [zC1_o a1, zLe_f (by omega)]
end MOV
