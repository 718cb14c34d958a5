/-! THE CLASS'S MODULES -/
def iSum (f : Nat → Int) : Nat → Int
  | 0 => 0
  | k + 1 => iSum f k + f k
theorem iSum_b {f : Nat → Int} {b : Int} : ∀ n : Nat, (∀ k, k < n → 0 ≤ f k ∧ f k ≤ b) → 0 ≤ iSum f n ∧ iSum f n ≤ n * b
  | 0, _ => ⟨Int.le_refl _, by show (0 : Int) ≤ ((0 : Nat) : Int) * b; rw [show ((0 : Nat) : Int) = 0 from rfl, Int.zero_mul]; exact Int.le_refl _⟩
  | n + 1, h => by
    have h1 := iSum_b n fun k hk => h k (by omega)
    have h2 := h n (by omega)
    have e : (((n + 1 : Nat)) : Int) * b = (n : Int) * b + b := by rw [Int.natCast_succ, Int.add_mul, Int.one_mul]
    show 0 ≤ iSum f n + f n ∧ iSum f n + f n ≤ _
    rw [e]
    omega
/-- a group of the class: so many elements, this table -/
def yGp (S : zS) (n : Nat) (T : Nat → Nat → Nat) : Prop := zI S 7 = n ∧ n ≤ 48 ∧ zGrp n T ∧ ∀ x y : Nat, x < n → y < n → zA S 0 ((x : Int) * 48 + y) = T x y
/-- a module of the class at A: of the group at g, with its rows at t; prime, rank, matrices -/
def yAct (C : yC) (O : zO) (A g t n : Nat) (T : Nat → Nat → Nat) (p r : Nat) (M : Nat → Nat → Nat → Int) : Prop :=
  (C.1 A = some (0, 0) ∧ C.1 g = some (2, 0) ∧ C.1 t = some (5, 0) ∧ C.2 A 1 = some t ∧ C.2 A 2 = some g) ∧ yGp (O g) n T ∧ n ≤ 8 ∧ (zI (O A) 3 = p ∧ zI (O A) 4 = r) ∧ (1 < p ∧ p ≤ 5) ∧ (1 ≤ r ∧ r ≤ 2) ∧ ∀ x i j : Nat, x < n → i < 2 → j < 2 → zA (O A) 0 ((((x : Int) * 2 + i) * 2) + j) = M x i j ∧ 0 ≤ M x i j ∧ M x i j < p
def pl (n r x y i : Nat) : Nat := ((x - 1) * (n - 1) + (y - 1)) * r + i
theorem pl_e {n r x y i : Nat} (hx : 1 ≤ x) (hy : 1 ≤ y) (hn : 1 ≤ n) : ((((((x : Int) - 1) * ((n : Int) - 1)) + y) - 1) * r) + i = ((pl n r x y i : Nat) : Int) := by
  unfold pl
  rw [Int.natCast_add, Int.natCast_mul, Int.natCast_add, Int.natCast_mul, Int.natCast_sub hx, Int.natCast_sub hy, Int.natCast_sub hn, Int.add_sub_assoc]
  rfl
theorem pl_lt {n r x y i : Nat} (hx : 1 ≤ x) (hxn : x < n) (hy : 1 ≤ y) (hyn : y < n) (hi : i < r) : pl n r x y i < (n - 1) * (n - 1) * r := by
  unfold pl
  have h1 : (x - 1) * (n - 1) + (y - 1) + 1 ≤ (n - 1) * (n - 1) := by
    have : (x - 1 + 1) * (n - 1) ≤ (n - 1) * (n - 1) := Nat.mul_le_mul_right _ (by omega)
    rw [Nat.add_mul, Nat.one_mul] at this
    omega
  have h2 : ((x - 1) * (n - 1) + (y - 1) + 1) * r ≤ (n - 1) * (n - 1) * r := Nat.mul_le_mul_right _ h1
  rw [Nat.add_mul, Nat.one_mul] at h2
  omega
theorem pl_98 {n r : Nat} (hn : n ≤ 8) (hr : r ≤ 2) : (n - 1) * (n - 1) * r ≤ 98 := by
  have h1 : (n - 1) * (n - 1) ≤ 7 * 7 := Nat.mul_le_mul (by omega) (by omega)
  have h2 : (n - 1) * (n - 1) * r ≤ 7 * 7 * 2 := Nat.mul_le_mul h1 hr
  omega
section YAC
variable {F A g t n p r : Nat} {C : yC} {O : zO} {T : Nat → Nat → Nat} {M : Nat → Nat → Nat → Int}
theorem yGp.mul {C : yC} (h : yGp (O g) n T) (hK : C.1 g = some (2, 0)) {x y : Nat} (hx : x < n) (hy : y < n) : zX2_mul F C g x y O = some ((T x y : Int), O) := by
  have := h.2.1
  unfold zX2_mul
  rw [yAR_o hK, yLd_o hK (by omega), h.2.2.2 x y hx hy]
theorem yAct.G (h : yAct C O A g t n T p r M) : zGrp n T := h.2.1.2.2.1
theorem yAct.entry (h : yAct C O A g t n T p r M) {x i j : Nat} (hx : x < n) (hi : i < 2) (hj : j < 2) : zX0_entry F C A x i j O = some (M x i j, O) := by
  have := h.2.2.1
  unfold zX0_entry
  rw [yAR_o h.1.1, yLd_o h.1.1 (by omega), (h.2.2.2.2.2.2 x i j hx hi hj).1]
theorem yAct.place (h : yAct C O A g t n T p r M) {x y i : Nat} (hx : 1 ≤ x) (hy : 1 ≤ y) : zX0_place F C A x y i O = some ((pl n r x y i : Int), O) := by
  unfold zX0_place
  rw [yFR_o h.1.1 h.1.2.2.2.2, yFI_o h.1.2.1, yFI_o h.1.1, h.2.1.1, h.2.2.2.1.2, pl_e hx hy h.G.1]
theorem yAct.places (h : yAct C O A g t n T p r M) : zX0_places F C A O = some ((((n - 1) * (n - 1) * r : Nat) : Int), O) := by
  unfold zX0_places
  rw [yFR_o h.1.1 h.1.2.2.2.2, yFI_o h.1.2.1, yFR_o h.1.1 h.1.2.2.2.2, yFI_o h.1.2.1, yFI_o h.1.1, h.2.1.1, h.2.2.2.1.2]
  have := h.G.1
  rw [Int.natCast_mul, Int.natCast_mul, Int.natCast_sub this]
  rfl
def sdGood (p r : Nat) (T : Nat → Nat → Nat) (M : Nat → Nat → Nat → Int) (x y i j : Nat) : Prop := iSum (fun k => M x i k * M y k j) r % p = M (T x y) i j
theorem yAct.goes (hF : fF F) (h : yAct C O A g t n T p r M) {x y : Nat} (hx : x < n) (hy : y < n) : ((∀ i j, i < r → j < r → sdGood p r T M x y i j) → zX0_goesWithProduct F C A x y O = some (1, O)) ∧ (¬ (∀ i j, i < r → j < r → sdGood p r T M x y i j) → zX0_goesWithProduct F C A x y O = some (0, O)) := by
  obtain ⟨hr1, hr2⟩ := h.2.2.2.2.2.1
  obtain ⟨hp1, hp2⟩ := h.2.2.2.2.1
  have hxy := h.G.2.1 x y hx hy
  have hmb : ∀ i j k, i < r → j < r → k < r → 0 ≤ M x i k * M y k j ∧ M x i k * M y k j ≤ 25 := fun i j k hi hj hk => by
    have h1 := (h.2.2.2.2.2.2 x i k hx (by omega) (by omega)).2
    have h2 := (h.2.2.2.2.2.2 y k j hy (by omega) (by omega)).2
    refine ⟨Int.mul_nonneg h1.1 h2.1, ?_⟩
    have := Int.mul_le_mul (show M x i k ≤ 5 by omega) (show M y k j ≤ 5 by omega) h2.1 (by omega)
    omega
  have key : ∀ P : Option (Int × zO) → Prop, ((∀ i j, i < r → j < r → sdGood p r T M x y i j) → P (some (1, O))) → (¬ (∀ i j, i < r → j < r → sdGood p r T M x y i j) → P (some (0, O))) → P (zX0_goesWithProduct F C A x y O) := by
    intro P p1 p0
    unfold zX0_goesWithProduct
    rw [yFR_o h.1.1 h.1.2.2.2.2, yO_o h.1.2.1, yC1_o (h.2.1.mul h.1.2.1 hx hy)]
    refine iX0_goesWithProduct_l13 (I := fun v0 v1 v2 v3 v4 w => A = v0 ∧ x = v1 ∧ y = v2 ∧ T x y = v3 ∧ O = w ∧ ∃ i : Nat, i = v4 ∧ i ≤ r ∧ ∀ i' j, i' < i → j < r → sdGood p r T M x y i' j) (μ := fun _ _ _ _ v4 _ => (r - v4).toNat) (P := P) ?_ F _ _ _ _ _ _ ⟨rfl, rfl, rfl, rfl, rfl, 0, rfl, by omega, fun _ _ q => by omega⟩ (by unfold fF at hF; omega)
    rintro r1 _ _ _ _ _ _ ⟨rfl, rfl, rfl, rfl, rfl, i, rfl, hi, hgood⟩ ih
    unfold zX0_goesWithProduct_h13
    rw [yFI_o h.1.1, h.2.2.2.1.2]
    by_cases q : i = r
    · subst q
      rw [zLe_t (by omega)]
      exact p1 hgood
    · have hi : i < r := by omega
      rw [zLe_f (by omega)]
      refine iX0_goesWithProduct_l25 (I := fun v0 v1 v2 v3 v4 v5 w => x = v1 ∧ y = v2 ∧ T x y = v3 ∧ i = v4 ∧ ∃ j : Nat, A = v0 ∧ O = w ∧ j = v5 ∧ j ≤ r ∧ ∀ j', j' < j → sdGood p r T M x y i j') (μ := fun _ _ _ _ _ v5 _ => (r - v5).toNat) (P := P) ?_ F _ _ _ _ _ _ _ ⟨rfl, rfl, rfl, rfl, 0, rfl, rfl, rfl, by omega, fun _ q => by omega⟩ (by unfold fF at hF; omega)
      rintro r2 _ _ _ _ _ _ _ ⟨rfl, rfl, rfl, rfl, j, rfl, rfl, rfl, hj, hgj⟩ ih2
      unfold zX0_goesWithProduct_h25
      rw [yFI_o h.1.1, h.2.2.2.1.2]
      by_cases q2 : j = r
      · subst q2
        rw [zLe_t (by omega)]
        exact ih _ _ _ _ _ _ ⟨rfl, rfl, rfl, rfl, rfl, i + 1, rfl, by omega, fun i' j' h1 h2 => by
          rcases Nat.lt_or_ge i' i with z | z
          · exact hgood i' j' z h2
          · rw [show i' = i by omega]; exact hgj j' h2⟩ (by omega)
      · have hj : j < r := by omega
        rw [zLe_f (by omega)]
        refine iX0_goesWithProduct_l40 (I := fun v0 v1 v2 v3 v4 v5 v6 v7 w => x = v1 ∧ y = v2 ∧ T x y = v3 ∧ i = v4 ∧ j = v5 ∧ ∃ k : Nat, A = v0 ∧ O = w ∧ k = v7 ∧ iSum (fun k => M x i k * M y k j) k = v6 ∧ k ≤ r) (μ := fun _ _ _ _ _ _ _ v7 _ => (r - v7).toNat) (P := P) ?_ F _ _ _ _ _ _ _ _ _ ⟨rfl, rfl, rfl, rfl, rfl, 0, rfl, rfl, rfl, rfl, by omega⟩ (by unfold fF at hF; omega)
        rintro r3 _ _ _ _ _ _ _ _ _ ⟨rfl, rfl, rfl, rfl, rfl, k, rfl, rfl, rfl, rfl, hk⟩ ih3
        unfold zX0_goesWithProduct_h40
        rw [yFI_o h.1.1, h.2.2.2.1.2]
        by_cases q3 : k = r
        · subst q3
          have hs := iSum_b (f := fun k => M x i k * M y k j) (b := 25) k (fun k' hk' => hmb i j k' (by omega) (by omega) hk')
          have hmo := Int.emod_nonneg (iSum (fun k => M x i k * M y k j) k) (show (p : Int) ≠ 0 by omega)
          have hmo2 := Int.emod_lt_of_pos (iSum (fun k => M x i k * M y k j) k) (show (0 : Int) < p by omega)
          have hm2 := (h.2.2.2.2.2.2 (T x y) i j hxy (by omega) (by omega)).2
          rw [zLe_t (by omega)]
          dsimp only
          rw [yFI_o h.1.1, h.2.2.2.1.1, yC1_o (y_mod (by omega) (by omega)), yO_o h.1.1, yC1_o (h.entry hxy (by omega) (by omega))]
          by_cases q4 : sdGood p k T M x y i j
          · rw [zEq_t (by unfold sdGood at q4; omega)]
            exact ih2 _ _ _ _ _ _ _ ⟨rfl, rfl, rfl, rfl, j + 1, rfl, rfl, rfl, by omega, fun j' h1 => by
              rcases Nat.lt_or_ge j' j with z | z
              · exact hgj j' z
              · rw [show j' = j by omega]; exact q4⟩ (by omega)
          · rw [zEq_f (by unfold sdGood at q4; omega)]
            exact p0 fun q => q4 (q i j hi hj)
        · rw [zLe_f (by omega), yO_o h.1.1, yC1_o (h.entry hx (by omega) (by omega)), yO_o h.1.1, yC1_o (h.entry hy (by omega) (by omega))]
          exact ih3 _ _ _ _ _ _ _ _ _ ⟨rfl, rfl, rfl, rfl, rfl, k + 1, rfl, rfl, rfl, rfl, by omega⟩ (by omega)
  constructor
  · intro hg
    exact key (fun r => r = some (1, O)) (fun _ => rfl) (fun q => (q hg).elim)
  · intro hg
    exact key (fun r => r = some (0, O)) (fun q => (hg q).elim) (fun _ => rfl)
def sdZero (r : Nat) (M : Nat → Nat → Nat → Int) : Prop := ∀ i j, i < r → j < r → M 0 i j = if i = j then 1 else 0
def sdBad (n p r : Nat) (T : Nat → Nat → Nat) (M : Nat → Nat → Nat → Int) (q : Nat) : Prop := ¬ ∀ i j, i < r → j < r → sdGood p r T M (q / n) (q % n) i j
/-- what sound answers -/
noncomputable def sdV (n p r : Nat) (T : Nat → Nat → Nat) (M : Nat → Nat → Nat → Int) : Int := @ite _ (sdZero r M) (Classical.propDecidable _) (@ite _ (∃ q, q < n * n ∧ sdBad n p r T M q) (Classical.propDecidable _) (1 + (nF (sdBad n p r T M) (n * n) : Nat)) 0) 1000
theorem sdV_P {n p r : Nat} {T : Nat → Nat → Nat} {M : Nat → Nat → Nat → Int} (P : Int → Prop) (h1 : ¬ sdZero r M → P 1000) (h2 : sdZero r M → ∀ q, q < n * n → sdBad n p r T M q → (∀ j, j < q → ¬ sdBad n p r T M j) → P (1 + (q : Int))) (h3 : sdZero r M → (∀ q, q < n * n → ¬ sdBad n p r T M q) → P 0) : P (sdV n p r T M) := by
  unfold sdV
  by_cases q : sdZero r M
  · rw [if_pos q]
    by_cases q2 : ∃ q, q < n * n ∧ sdBad n p r T M q
    · rw [if_pos q2]
      have := nF_sp q2
      exact h2 q _ this.1 this.2.1 this.2.2
    · rw [if_neg q2]
      exact h3 q fun i hi hb => q2 ⟨i, hi, hb⟩
  · rw [if_neg q]; exact h1 q
theorem sdV_1 {n p r : Nat} {T : Nat → Nat → Nat} {M : Nat → Nat → Nat → Int} (h : ¬ sdZero r M) : sdV n p r T M = 1000 := by unfold sdV; rw [if_neg h]
theorem sdV_2 {n p r : Nat} {T : Nat → Nat → Nat} {M : Nat → Nat → Nat → Int} (h : sdZero r M) {q : Nat} (hq : q < n * n) (hb : sdBad n p r T M q) (hm : ∀ j, j < q → ¬ sdBad n p r T M j) : sdV n p r T M = 1 + (q : Int) := by
  unfold sdV; rw [if_pos h, if_pos ⟨q, hq, hb⟩, nF_of hq hb hm]
theorem sdV_3 {n p r : Nat} {T : Nat → Nat → Nat} {M : Nat → Nat → Nat → Int} (h : sdZero r M) (hb : ∀ q, q < n * n → ¬ sdBad n p r T M q) : sdV n p r T M = 0 := by
  unfold sdV; rw [if_pos h, if_neg]; rintro ⟨q, a, b⟩; exact hb q a b
theorem yAct.firstUnsound (hF : fF F) (h : yAct C O A g t n T p r M) : zX0_firstUnsound F C A O = some (sdV n p r T M, O) := by
  obtain ⟨hr1, hr2⟩ := h.2.2.2.2.2.1
  have hn := h.2.2.1
  have hn0 := h.G.1
  unfold zX0_firstUnsound
  refine iX0_firstUnsound_l2 (I := fun v0 v1 w => A = v0 ∧ O = w ∧ ∃ i : Nat, i = v1 ∧ i ≤ r ∧ ∀ i' j, i' < i → j < r → M 0 i' j = if i' = j then 1 else 0) (μ := fun _ v1 _ => (r - v1).toNat) (P := fun x => x = some (sdV n p r T M, O)) ?_ F _ _ _ ⟨rfl, rfl, 0, rfl, by omega, fun _ _ q => by omega⟩ (by unfold fF at hF; omega)
  rintro r1 _ _ _ ⟨rfl, rfl, i, rfl, hi, hgi⟩ ih
  unfold zX0_firstUnsound_h2
  rw [yFI_o h.1.1, h.2.2.2.1.2]
  by_cases q : i = r
  · subst q
    rw [zLe_t (by omega)]
    have hz : sdZero i M := hgi
    refine iX0_firstUnsound_l58 (I := fun v0 v1 w => ∃ x : Nat, A = v0 ∧ O = w ∧ x = v1 ∧ x ≤ n ∧ ∀ q, q < n * x → ¬ sdBad n p i T M q) (μ := fun _ v1 _ => (n - v1).toNat) (P := fun x => x = some (sdV n p i T M, O)) ?_ F _ _ _ ⟨0, rfl, rfl, rfl, by omega, fun q hq => by omega⟩ (by unfold fF at hF; omega)
    rintro r2 _ _ _ ⟨x, rfl, rfl, rfl, hx, hgx⟩ ih2
    unfold zX0_firstUnsound_h58
    rw [yFR_o h.1.1 h.1.2.2.2.2, yFI_o h.1.2.1, h.2.1.1]
    by_cases q2 : x = n
    · subst q2
      rw [zLe_t (by omega), sdV_3 hz hgx]
    · have hxn : x < n := by omega
      rw [zLe_f (by omega)]
      refine iX0_firstUnsound_l71 (I := fun v0 v1 v2 w => x = v1 ∧ ∃ y : Nat, A = v0 ∧ O = w ∧ y = v2 ∧ y ≤ n ∧ ∀ q, q < n * x + y → ¬ sdBad n p i T M q) (μ := fun _ _ v2 _ => (n - v2).toNat) (P := fun x => x = some (sdV n p i T M, O)) ?_ F _ _ _ _ ⟨rfl, 0, rfl, rfl, rfl, by omega, fun q hq => hgx q (by omega)⟩ (by unfold fF at hF; omega)
      rintro r3 _ _ _ _ ⟨rfl, y, rfl, rfl, rfl, hy, hgy⟩ ih3
      unfold zX0_firstUnsound_h71
      rw [yFR_o h.1.1 h.1.2.2.2.2, yFI_o h.1.2.1, h.2.1.1]
      by_cases q3 : y = n
      · subst q3
        rw [zLe_t (by omega)]
        exact ih2 _ _ _ ⟨x + 1, rfl, rfl, rfl, by omega, fun q hq => hgy q (by rw [Nat.mul_succ] at hq; omega)⟩ (by omega)
      · have hyn : y < n := by omega
        obtain ⟨g1, g0⟩ := h.goes (F := F) hF hxn hyn
        have hat := z2_at (n := n) (x := x) hyn
        have hb : sdBad n p i T M (n * x + y) ↔ ¬ ∀ i' j, i' < i → j < i → sdGood p i T M x y i' j := by
          unfold sdBad; rw [hat.1, hat.2]
        rw [zLe_f (by omega), yO_o h.1.1]
        by_cases q4 : ∀ i' j, i' < i → j < i → sdGood p i T M x y i' j
        · rw [yC1_o (g1 q4), zEq_f (by omega)]
          exact ih3 _ _ _ _ ⟨rfl, y + 1, rfl, rfl, rfl, by omega, fun q hq => by
            rcases Nat.lt_or_ge q (n * x + y) with z | z
            · exact hgy q z
            · rw [show q = n * x + y by omega, hb]; exact fun u => u q4⟩ (by omega)
        · rw [yC1_o (g0 q4), zEq_t (by omega)]
          dsimp only
          rw [yFR_o h.1.1 h.1.2.2.2.2, yFI_o h.1.2.1, h.2.1.1]
          have hlt : n * x + y < n * n := by
            have : n * (x + 1) ≤ n * n := Nat.mul_le_mul_left _ hxn
            rw [Nat.mul_succ] at this; omega
          rw [sdV_2 hz hlt (hb.mpr q4) hgy]
          congr 2
          rw [Int.natCast_add, Int.natCast_mul]; omega
  · have hir : i < r := by omega
    rw [zLe_f (by omega)]
    refine iX0_firstUnsound_l12 (I := fun v0 v1 v2 w => i = v1 ∧ ∃ j : Nat, A = v0 ∧ O = w ∧ j = v2 ∧ j ≤ r ∧ ∀ j', j' < j → M 0 i j' = if i = j' then 1 else 0) (μ := fun _ _ v2 _ => (r - v2).toNat) (P := fun x => x = some (sdV n p r T M, O)) ?_ F _ _ _ _ ⟨rfl, 0, rfl, rfl, rfl, by omega, fun _ q => by omega⟩ (by unfold fF at hF; omega)
    rintro r2 _ _ _ _ ⟨rfl, j, rfl, rfl, rfl, hj, hgj⟩ ih2
    unfold zX0_firstUnsound_h12 zX0_firstUnsound_b37
    rw [yFI_o h.1.1, h.2.2.2.1.2]
    by_cases q2 : j = r
    · subst q2
      rw [zLe_t (by omega)]
      exact ih _ _ _ ⟨rfl, rfl, i + 1, rfl, by omega, fun i' j' h1 h2 => by
        rcases Nat.lt_or_ge i' i with z | z
        · exact hgi i' j' z h2
        · rw [show i' = i by omega]; exact hgj j' h2⟩ (by omega)
    · have hm := (h.2.2.2.2.2.2 0 i j hn0 (by omega) (by omega)).2
      have hp2 := h.2.2.2.2.1
      have hent := h.entry (F := F) (x := 0) (i := i) (j := j) hn0 (by omega) (by omega)
      have hent' : zX0_entry F C A 0 i j O = some (M 0 i j, O) := hent
      have go : (M 0 i j = if i = j then 1 else 0) → r2 A (i : Int) ((j : Int) + 1) O = some (sdV n p r T M, O) := fun e => ih2 _ _ _ _ ⟨rfl, j + 1, rfl, rfl, rfl, by omega, fun j' h1 => by
        rcases Nat.lt_or_ge j' j with z | z
        · exact hgj j' z
        · rw [show j' = j by omega]; exact e⟩ (by omega)
      have bad : ¬ (M 0 i j = if i = j then 1 else 0) → some ((1000 : Int), O) = some (sdV n p r T M, O) := fun e => by
        rw [sdV_1 (fun z => e (z i j hir (by omega)))]
      rw [zLe_f (by omega), yO_o h.1.1, yC1_o hent']
      by_cases q3 : i = j
      · rw [zEq_t (by omega)]
        by_cases q4 : M 0 i j = 1
        · rw [zEq_t (by omega)]
          exact go (by rw [if_pos q3]; exact q4)
        · rw [zEq_f (by omega)]
          exact bad (by rw [if_pos q3]; exact q4)
      · rw [zEq_f (by omega)]
        by_cases q4 : M 0 i j = 0
        · rw [zEq_t (by omega)]
          exact go (by rw [if_neg q3]; exact q4)
        · rw [zEq_f (by omega)]
          exact bad (by rw [if_neg q3]; exact q4)
end YAC
