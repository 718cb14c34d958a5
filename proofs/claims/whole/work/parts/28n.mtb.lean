/-! THE MODEL: a table read of a sheet -/
section MTB
variable {F g n row : Nat} {Z : zS} {T : Nat → Nat → Nat} {f c : Int → Int} {P : Option (Int × zS) → Prop}
theorem tb_mul (h : tbF Z g n T n 0 f) (hg : g < 8) (hn : n ≤ 48) {x y : Nat} (hx : x < n) (hy : y < n) : zX7_prod F (g : Nat) (x : Nat) (y : Nat) (zwA Z 2 f) = some ((T x y : Int), zwA Z 2 f) := by
  unfold zX7_prod
  rw [zLd_o (by omega), zwA_s, h.1 x y hx hy (by omega)]
/-- a new group or the first thing that is not so -/
def tbR (Z : zS) (g n : Nat) (C : Nat → Int32) (o : Option (Int × zS)) : Prop := ∃ f : Int → Int, (∀ i : Int, i < 5184 * (g : Int) → f i = zA Z 2 i) ∧ ((zRdR n C < 0 ∧ o = some ((g : Int), gNew Z f g n) ∧ tbF Z g n (zRdT n C) n 0 f) ∨ (¬ zRdR n C < 0 ∧ o = some (-100 - (zRdR n C).toInt, zwA Z 2 f)))
theorem nI_tI {k : Nat} (h : k < 2147483648) : (nI k).toInt = k := by rw [← iO_nat, iO_toInt (by omega) (by omega)]
/-- the cells, as the class holds them -/
def clC (c : Int → Int) (i : Nat) : Int32 := Int32.ofInt (c i)
theorem clC_T {i : Nat} (hb : -2147483648 ≤ c i ∧ c i < 2147483648) : (clC c i).toInt = c i := iO_toInt hb.1 hb.2
theorem clC_has (hn : n ≤ 12) {i : Nat} (hb : -2147483648 ≤ c i ∧ c i < 2147483648) : zHas n (clC c i) ↔ 0 ≤ c i ∧ c i < n := by
  unfold zHas
  rw [Int32.lt_iff_toInt_lt, Int32.le_iff_toInt_le, clC_T hb, nI_tI (by omega), Int32.toInt_zero]
  omega
theorem clC_eq {i k : Nat} (hk : k < 2147483648) (hb : -2147483648 ≤ c i ∧ c i < 2147483648) : clC c i = nI k ↔ c i = k := by
  rw [← Int32.toInt_inj, clC_T hb, nI_tI hk]
theorem clC_bad (hn : n ≤ 12) (h0 : 0 < n) {i : Nat} (hi : i < n * n) (hb : -2147483648 ≤ c i ∧ c i < 2147483648) : zBad n (clC c) i ↔ (¬ (0 ≤ c i ∧ c i < n) ∨ (i / n = 0 ∧ c i ≠ (i % n : Nat)) ∨ (i % n = 0 ∧ c i ≠ (i / n : Nat))) := by
  have h1 : i / n < n := Nat.div_lt_of_lt_mul hi
  have h2 := Nat.mod_lt i h0
  unfold zBad
  rw [clC_has hn hb, ne_eq, clC_eq (by omega) hb, ne_eq, clC_eq (by omega) hb]
theorem rd_bad {C : Nat → Int32} (hn : n ≤ 12) {i : Nat} (hi : i < n * n) (hb : zBad n C i) (hm : ∀ j, j < i → ¬ zBad n C j) : ¬ zRdR n C < 0 ∧ (zRdR n C).toInt = i := by
  have h144 : n * n ≤ 12 * 12 := Nat.mul_le_mul hn hn
  have e : zRdR n C = nI i := by
    unfold zRdR
    rw [if_pos ⟨i, hi, hb⟩, nF_of hi hb hm]
  rw [e]
  exact ⟨nI_pos (by omega), nI_tI (by omega)⟩
theorem rd_ok {C : Nat → Int32} (h : ∀ i, i < n * n → ¬ zBad n C i) : zRdR n C = (if zUlR n (zRdT n C) < 0 then (if zNoR n (zRdT n C) < 0 then -1 else 3000 + zNoR n (zRdT n C)) else 1000 + zUlR n (zRdT n C)) := by
  unfold zRdR
  rw [if_neg fun ⟨i, hi, hb⟩ => h i hi hb]
theorem nI_addk {a k : Nat} : (nI a + nI k) = nI (a + k) := (Int32.ofNat_add a k).symm
/-- the search for unlike products, then for one without inverse -/
theorem tb_185 (hF : fF F) (hn : 1 ≤ n ∧ n ≤ 12) (h0 : zI Z 0 = g) (hg : g < 8) {C : Nat → Int32} (hok : ∀ i, i < n * n → ¬ zBad n C i) (hlt : ∀ x y, x < n → y < n → zRdT n C x y < n) (hf : tbF Z g n (zRdT n C) n 0 f) : tbR Z g n C (zX7_table_l185 F (fun (v3 : Int) (v5 : Int) (w : zS) => zX7_table_l272 F (fun (v3 : Int) (w : zS) => zC1 (zX7_added F v3 w) fun q341_1 q341_2 => some (q341_1, q341_2)) F v3 v5 (0 : Int) w) F (n : Nat) (g : Nat) 0 (zwA Z 2 f)) := by
  have hR := rd_ok hok
  have h1728 : n * n * n ≤ 12 * 12 * 12 := Nat.mul_le_mul (Nat.mul_le_mul hn.2 hn.2) hn.2
  have h144 : n * n ≤ 12 * 12 := Nat.mul_le_mul hn.2 hn.2
  have hnn : 0 < n * n := Nat.mul_pos (by omega) (by omega)
  refine iX7_table_l185 (I := fun v3 v5 v6 w => (n : Int) = v3 ∧ (g : Int) = v5 ∧ zwA Z 2 f = w ∧ ∃ i : Nat, (i : Int) = v6 ∧ i ≤ n * n * n ∧ ∀ j, j < i → ¬ zUl n (zRdT n C) j) (μ := fun _ _ v6 _ => (((n * n * n : Nat) : Int) - v6).toNat) (P := tbR Z g n C) ?_ F _ _ _ _ ⟨rfl, rfl, rfl, 0, rfl, by omega, fun j hj => by omega⟩ (by unfold fF at hF; omega)
  rintro ra _ _ _ _ ⟨rfl, rfl, rfl, i, rfl, hi, hu⟩ ih
  have e3 : ((n : Nat) : Int) * (n : Nat) * (n : Nat) = ((n * n * n : Nat) : Int) := by rw [Int.natCast_mul, Int.natCast_mul]
  have e2 : ((n : Nat) : Int) * (n : Nat) = ((n * n : Nat) : Int) := (Int.natCast_mul n n).symm
  unfold zX7_table_h185
  rw [e3]
  by_cases c1 : i = n * n * n
  · rw [zLe_t (by omega)]
    try dsimp only
    have hU : zUlR n (zRdT n C) = -1 := by
      unfold zUlR
      rw [if_neg fun ⟨j, hj, hb⟩ => hu j (by omega) hb]
    rw [hU, if_pos (by decide)] at hR
    refine iX7_table_l272 (I := fun v3 v5 v6 w => (n : Int) = v3 ∧ (g : Int) = v5 ∧ zwA Z 2 f = w ∧ ∃ x : Nat, (x : Int) = v6 ∧ x ≤ n ∧ ∀ x', x' < x → ∃ y, y < n ∧ zRdT n C x' y = 0) (μ := fun _ _ v6 _ => (n - v6).toNat) (P := tbR Z g n C) ?_ F _ _ _ _ ⟨rfl, rfl, rfl, 0, rfl, by omega, fun j hj => by omega⟩ (by unfold fF at hF; omega)
    rintro rb _ _ _ _ ⟨rfl, rfl, rfl, x, rfl, hx, hx2⟩ ih2
    unfold zX7_table_h272
    by_cases c2 : x = n
    · rw [zLe_t (by omega)]
      try dsimp only
      rw [zC1_o (m_added h0 hg)]
      have hN : zNoR n (zRdT n C) = -1 := by
        unfold zNoR
        rw [if_neg fun ⟨j, hj, hb⟩ => hb (hx2 j (by omega))]
      rw [hN, if_pos (by decide)] at hR
      exact ⟨f, hf.2, Or.inl ⟨by rw [hR]; decide, rfl, hf⟩⟩
    · have hxn : x < n := by omega
      rw [zLe_f (by omega)]
      refine iX7_table_l284 (I := fun v3 v5 v6 v7 v8 w => (n : Int) = v3 ∧ (g : Int) = v5 ∧ (x : Int) = v6 ∧ zwA Z 2 f = w ∧ ∃ y : Nat, (y : Int) = v8 ∧ y ≤ n ∧ ((v7 = 0 ∧ ∀ y', y' < y → zRdT n C x y' ≠ 0) ∨ (v7 = 1 ∧ ∃ y', y' < n ∧ zRdT n C x y' = 0))) (μ := fun _ _ _ _ v8 _ => (n - v8).toNat) (P := tbR Z g n C) ?_ F _ _ _ _ _ _ ⟨rfl, rfl, rfl, rfl, 0, rfl, by omega, Or.inl ⟨rfl, fun y' hy' => by omega⟩⟩ (by unfold fF at hF; omega)
      rintro rc _ _ _ v7 _ _ ⟨rfl, rfl, rfl, rfl, y, rfl, hy, hI⟩ ih3
      unfold zX7_table_h284 zX7_table_b308 zX7_table_b313
      by_cases c3 : y = n
      · rw [zLe_t (by omega)]
        try dsimp only
        rcases hI with ⟨rfl, hI⟩ | ⟨rfl, hI⟩
        · rw [zEq_t (by omega)]
          have no : ¬ ∃ y, y < n ∧ zRdT n C x y = 0 := fun ⟨y', s1, s2⟩ => hI y' (by omega) s2
          have hN : zNoR n (zRdT n C) = nI x := by
            unfold zNoR
            rw [if_pos ⟨x, hxn, no⟩, nF_of hxn no fun j hj t => t (hx2 j hj)]
          rw [hN, if_neg (nI_pos (by omega)), show (3000 : Int32) = nI 3000 from rfl, nI_addk] at hR
          refine ⟨f, hf.2, Or.inr ⟨by rw [hR]; exact nI_pos (by omega), ?_⟩⟩
          rw [hR, nI_tI (by omega)]
          congr 2
          omega
        · rw [zEq_f (by omega)]
          refine ih2 _ _ _ _ ⟨rfl, rfl, rfl, x + 1, by omega, by omega, fun x' hx' => ?_⟩ (by omega)
          by_cases t : x' = x
          · rw [t]; exact hI
          · exact hx2 x' (by omega)
      · have hyn : y < n := by omega
        rw [zLe_f (by omega)]
        rcases hI with ⟨rfl, hI⟩ | ⟨rfl, hI⟩
        · rw [zEq_t (by omega), zC1_o (tb_mul hf hg (by omega) hxn hyn)]
          have := hlt x y hxn hyn
          by_cases t : zRdT n C x y = 0
          · rw [zEq_t (by omega)]
            exact ih3 _ _ _ _ _ _ ⟨rfl, rfl, rfl, rfl, y + 1, by omega, by omega, Or.inr ⟨rfl, y, hyn, t⟩⟩ (by omega)
          · rw [zEq_f (by omega)]
            refine ih3 _ _ _ _ _ _ ⟨rfl, rfl, rfl, rfl, y + 1, by omega, by omega, Or.inl ⟨rfl, fun y' hy' => ?_⟩⟩ (by omega)
            by_cases u : y' = y
            · rw [u]; exact t
            · exact hI y' (by omega)
        · rw [zEq_f (by omega)]
          exact ih3 _ _ _ _ _ _ ⟨rfl, rfl, rfl, rfl, y + 1, by omega, by omega, Or.inr ⟨rfl, hI⟩⟩ (by omega)
  · have hin : i < n * n * n := by omega
    have d1 : i / (n * n) < n := Nat.div_lt_of_lt_mul hin
    have d2 := Nat.mod_lt (i / n) (show 0 < n by omega)
    have d3 := Nat.mod_lt i (show 0 < n by omega)
    have k1 : ((i : Nat) : Int) / ((n * n : Nat) : Int) = ((i / (n * n) : Nat) : Int) := (Int.natCast_ediv i (n * n)).symm
    have k2 : ((i : Nat) : Int) / ((n : Nat) : Int) = ((i / n : Nat) : Int) := (Int.natCast_ediv i n).symm
    have k3 : ((i / n : Nat) : Int) % ((n : Nat) : Int) = ((i / n % n : Nat) : Int) := (Int.natCast_emod (i / n) n).symm
    have k4 : ((i : Nat) : Int) % ((n : Nat) : Int) = ((i % n : Nat) : Int) := (Int.natCast_emod i n).symm
    have din : i / n ≤ i := Nat.div_le_self i n
    have dnn : (0 : Int) ≤ ((i / n : Nat) : Int) := Int.natCast_nonneg _
    have t1 := hlt _ _ d1 d2
    have t2 := hlt _ _ d2 d3
    have t3 := hlt _ _ t1 d3
    have t4 := hlt _ _ d1 t2
    rw [zLe_f (by omega), e2, zDiv_p (by omega), k1, zDiv_p (by omega), k2, zRem_p (by omega), k3, zRem_p (by omega), k4, zC1_o (tb_mul hf hg (by omega) d1 d2), zC1_o (tb_mul hf hg (by omega) t1 d3), zC1_o (tb_mul hf hg (by omega) d2 d3), zC1_o (tb_mul hf hg (by omega) d1 t2)]
    by_cases u : zUl n (zRdT n C) i
    · have u' := u
      unfold zUl at u'
      rw [zEq_f (by omega)]
      have hU : zUlR n (zRdT n C) = nI i := by
        unfold zUlR
        rw [if_pos ⟨i, hin, u⟩, nF_of hin u hu]
      rw [hU, if_neg (nI_pos (by omega)), show (1000 : Int32) = nI 1000 from rfl, nI_addk] at hR
      refine ⟨f, hf.2, Or.inr ⟨by rw [hR]; exact nI_pos (by omega), ?_⟩⟩
      rw [hR, nI_tI (by omega)]
      congr 2
      omega
    · have u' : zRdT n C (zRdT n C (i / (n * n)) (i / n % n)) (i % n) = zRdT n C (i / (n * n)) (zRdT n C (i / n % n) (i % n)) := Classical.byContradiction fun t => u t
      rw [zEq_t (by omega)]
      refine ih _ _ _ _ ⟨rfl, rfl, rfl, i + 1, by omega, by omega, fun j hj => ?_⟩ (by omega)
      by_cases t : j = i
      · rw [t]; exact u
      · exact hu j (by omega)
theorem m_table0 {a t v : Int} (ha : -2147483648 ≤ a ∧ a < 2147483648) (ht : -2147483648 ≤ t ∧ t < 2147483648) (hv : -2147483648 ≤ v ∧ v < 2147483648) (hbad : ¬ ((0 ≤ a ∧ a ≤ 3) ∧ (0 ≤ t ∧ t ≤ 1) ∧ 1 ≤ v ∧ v ≤ 12)) : zX7_table F a t v Z = some (-1, Z) := by
  unfold zX7_table
  rw [zC1_o (y_in (a := a) (b := 0) (c := 3) (by decide) (by decide) (by omega))]
  by_cases c1 : 0 ≤ a ∧ a ≤ 3
  · rw [if_pos c1, zEq_f (by omega), zC1_o (y_in (a := t) (b := 0) (c := 1) (by decide) (by decide) (by omega))]
    by_cases c2 : 0 ≤ t ∧ t ≤ 1
    · rw [if_pos c2, zEq_f (by omega), zC1_o (y_in (a := v) (b := 1) (c := 12) (by decide) (by decide) (by omega)), if_neg (fun q => hbad ⟨c1, c2, q⟩), zEq_t (by omega)]
    · rw [if_neg c2, zEq_t (by omega)]
  · rw [if_neg c1, zEq_t (by omega)]
theorem m_table {t e : Int} (hF : fF F) (hrow : row < 4) (ht : 0 ≤ t ∧ t ≤ 1) (hn : 1 ≤ n ∧ n ≤ 12) (hft : zX7_faultOf F (row : Nat) t (((n * n : Nat)) : Int) Z = some (e, Z)) (he : e ≤ 0 ∧ -100 ≤ e) (h0 : zI Z 0 = g) (hg : g ≤ 8) (hc : ∀ i : Nat, i < n * n → zA Z 6 (144 * (row : Int) + i) = c i ∧ -2147483648 ≤ c i ∧ c i < 2147483648) : (e < 0 → zX7_table F (row : Nat) t (n : Nat) Z = some (e, Z)) ∧ (e = 0 → g = 8 → zX7_table F (row : Nat) t (n : Nat) Z = some (-3, Z)) ∧ (e = 0 → g < 8 → tbR Z g n (clC c) (zX7_table F (row : Nat) t (n : Nat) Z)) := by
  have h144 : n * n ≤ 12 * 12 := Nat.mul_le_mul hn.2 hn.2
  have e2 : ((n : Nat) : Int) * (n : Nat) = ((n * n : Nat) : Int) := (Int.natCast_mul n n).symm
  unfold zX7_table
  rw [zC1_o (y_in (a := (row : Nat)) (b := 0) (c := 3) (by decide) (by decide) (by omega)), if_pos (by omega), zEq_f (by omega), zC1_o (y_in (a := t) (b := 0) (c := 1) (by decide) (by decide) (by omega)), if_pos ht, zEq_f (by omega), zC1_o (y_in (a := (n : Nat)) (b := 1) (c := 12) (by decide) (by decide) (by omega)), if_pos (by omega), zEq_f (by omega), e2, zC1_o hft]
  refine ⟨fun q => by rw [zLe_f (by omega)], fun q q2 => by rw [zLe_t (by omega), zEq_t (by omega)], fun q q2 => ?_⟩
  rw [zLe_t (by omega), zEq_f (by omega)]
  have bad : ∀ i, i < n * n → (zBad n (clC c) i ↔ (¬ (0 ≤ c i ∧ c i < n) ∨ (i / n = 0 ∧ c i ≠ (i % n : Nat)) ∨ (i % n = 0 ∧ c i ≠ (i / n : Nat)))) := fun i hi => clC_bad hn.2 (by omega) hi (hc i hi).2
  rw [show zX7_table_l70 F _ _ F (row : Nat) (n : Nat) 0 Z = zX7_table_l70 F _ _ F (row : Nat) (n : Nat) 0 (zwA Z 2 (zA Z 2)) from by rw [zwA_e]]
  refine iX7_table_l70 (I := fun v1 v3 v5 w => (row : Int) = v1 ∧ (n : Int) = v3 ∧ ∃ (x : Nat) (f : Int → Int), (x : Int) = v5 ∧ x ≤ n ∧ zwA Z 2 f = w ∧ tbF Z g n (zRdT n (clC c)) x 0 f ∧ ∀ i, i < n * x → ¬ zBad n (clC c) i) (μ := fun _ _ v5 _ => (n - v5).toNat) (P := tbR Z g n (clC c)) ?_ F _ _ _ _ ⟨rfl, rfl, 0, _, rfl, by omega, rfl, tb_0, fun i hi => by omega⟩ (by unfold fF at hF; omega)
  rintro ra _ _ _ _ ⟨rfl, rfl, x, f, rfl, hx, rfl, hf, hok⟩ ih
  unfold zX7_table_h70
  by_cases c1 : x = n
  · rw [zLe_t (by omega)]
    try dsimp only
    have i0 : zI (zwA Z 2 f) 0 = g := h0
    rw [c1] at hf hok
    rw [i0]
    refine tb_185 hF hn h0 q2 hok (fun x y hx hy => ?_) hf
    have hin : n * x + y < n * n := by
      have := Nat.mul_le_mul_left n (show x + 1 ≤ n from hx)
      rw [Nat.mul_succ] at this; omega
    have nb := hok _ hin
    rw [bad _ hin] at nb
    have cb := (hc _ hin).2
    show (clC c (n * x + y)).toInt.toNat < n
    rw [clC_T cb]
    omega
  · have hxn : x < n := by omega
    rw [zLe_f (by omega)]
    refine iX7_table_l79 (I := fun v1 v3 v5 v6 w => (row : Int) = v1 ∧ (n : Int) = v3 ∧ (x : Int) = v5 ∧ ∃ (y : Nat) (f : Int → Int), (y : Int) = v6 ∧ y ≤ n ∧ zwA Z 2 f = w ∧ tbF Z g n (zRdT n (clC c)) x y f ∧ ∀ i, i < n * x + y → ¬ zBad n (clC c) i) (μ := fun _ _ _ v6 _ => (n - v6).toNat) (P := tbR Z g n (clC c)) ?_ F _ _ _ _ _ ⟨rfl, rfl, rfl, 0, f, rfl, by omega, rfl, hf, hok⟩ (by unfold fF at hF; omega)
    rintro rb _ _ _ _ _ ⟨rfl, rfl, rfl, y, f, rfl, hy, rfl, hf, hok⟩ ih2
    unfold zX7_table_h79
    by_cases c2 : y = n
    · rw [zLe_t (by omega)]
      try dsimp only
      rw [c2] at hf hok
      exact ih _ _ _ _ ⟨rfl, rfl, x + 1, f, by omega, by omega, rfl, tb_next hf, fun i hi => hok i (by rw [Nat.mul_succ] at hi; exact hi)⟩ (by omega)
    · have hyn : y < n := by omega
      have hin : n * x + y < n * n := by
        have := Nat.mul_le_mul_left n (show x + 1 ≤ n from hxn)
        rw [Nat.mul_succ] at this; omega
      obtain ⟨d1, d2⟩ := z2_at (n := n) (x := x) hyn
      obtain ⟨cv, cb1, cb2⟩ := hc _ hin
      have e6 : zA (zwA Z 2 f) 6 = zA Z 6 := zwA_n (by decide)
      have ei : 144 * ((row : Nat) : Int) + ((n : Nat) : Int) * (x : Nat) + (y : Nat) = 144 * (row : Int) + ((n * x + y : Nat) : Int) := by rw [Int.natCast_add, Int.natCast_mul]; omega
      have bi := bad _ hin
      rw [d1, d2] at bi
      have hT : zRdT n (clC c) x y = (c ((n * x + y : Nat) : Int)).toNat := by
        show (clC c (n * x + y)).toInt.toNat = _
        rw [clC_T ⟨cb1, cb2⟩]
      have stop : zBad n (clC c) (n * x + y) → tbR Z g n (clC c) (zX7_table_b143 F (n : Nat) (x : Nat) (y : Nat) (zwA Z 2 f)) := fun hb => by
        obtain ⟨r1, r2⟩ := rd_bad hn.2 hin hb hok
        refine ⟨f, hf.2, Or.inr ⟨r1, ?_⟩⟩
        unfold zX7_table_b143
        rw [r2, Int.natCast_add, Int.natCast_mul]
      have gon : ¬ zBad n (clC c) (n * x + y) → tbR Z g n (clC c) (zX7_table_b154 F rb (fun v1 v3 v5 w => ra v1 v3 (v5 + 1) w) (fun v3 v5 v6 w => zX7_table_b143 F v3 v5 v6 w) (row : Nat) (n : Nat) (x : Nat) (y : Nat) (c ((n * x + y : Nat) : Int)) (zwA Z 2 f)) := fun hb => by
        unfold zX7_table_b154
        rw [zC0_o (m_setT h0 q2 (by omega) (by omega))]
        have hb' := hb
        rw [bi] at hb'
        have ev : c ((n * x + y : Nat) : Int) = ((zRdT n (clC c) x y : Nat) : Int) := by rw [hT]; omega
        rw [ev]
        refine ih2 _ _ _ _ _ ⟨rfl, rfl, rfl, y + 1, _, by omega, by omega, rfl, tb_step hf (by omega) hyn, fun i hi => ?_⟩ (by omega)
        by_cases t : i = n * x + y
        · rw [t]; exact hb
        · exact hok i (by omega)
      rw [zLe_f (by omega), e6, ei, zLd_o (by omega), cv, zC1_o (y_in (a := c ((n * x + y : Nat) : Int)) (b := 0) (c := ((n : Nat) : Int) - 1) (by decide) rfl (by omega))]
      by_cases b1 : 0 ≤ c ((n * x + y : Nat) : Int) ∧ c ((n * x + y : Nat) : Int) < n
      · rw [if_pos (by omega), zEq_f (by omega)]
        have rest : (x = 0 → c ((n * x + y : Nat) : Int) = y) → tbR Z g n (clC c) (zX7_table_b131 F rb (fun v1 v3 v5 w => ra v1 v3 (v5 + 1) w) (fun v3 v5 v6 w => zX7_table_b143 F v3 v5 v6 w) (row : Nat) (n : Nat) (x : Nat) (y : Nat) (c ((n * x + y : Nat) : Int)) (zwA Z 2 f)) := fun hx0 => by
          unfold zX7_table_b131
          by_cases y0 : y = 0
          · rw [zEq_t (by omega)]
            by_cases b3 : c ((n * x + y : Nat) : Int) = x
            · rw [zEq_t (by omega)]
              exact gon fun t => by
                rcases bi.mp t with u | u | u
                · exact u b1
                · exact u.2 (hx0 u.1)
                · exact u.2 b3
            · rw [zEq_f (by omega)]
              exact stop (bi.mpr (Or.inr (Or.inr ⟨y0, b3⟩)))
          · rw [zEq_f (by omega)]
            exact gon fun t => by
              rcases bi.mp t with u | u | u
              · exact u b1
              · exact u.2 (hx0 u.1)
              · exact y0 u.1
        by_cases x0 : x = 0
        · rw [zEq_t (by omega)]
          by_cases b2 : c ((n * x + y : Nat) : Int) = y
          · rw [zEq_t (by omega)]
            exact rest fun _ => b2
          · rw [zEq_f (by omega)]
            exact stop (bi.mpr (Or.inr (Or.inl ⟨x0, b2⟩)))
        · rw [zEq_f (by omega)]
          exact rest fun t => (x0 t).elim
      · rw [if_neg (by omega), zEq_t (by omega)]
        exact stop (bi.mpr (Or.inl b1))
end MTB
