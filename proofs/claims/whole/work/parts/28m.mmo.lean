/-! THE MODEL: module, acts -/
/-- the model with one module more -/
def mNew (Z : zS) (f : Int → Int) (L : Nat) (g p r : Int) : zS := zuI (zuI (zwA (zuA (zuA (zuA Z 8 L g) 9 L p) 10 L r) 11 f) 29 (-4)) 7 ((L : Int) + 1)
def unM (r : Nat) (_ i j : Nat) : Int := if i = j ∧ (i = 0 ∨ r = 2) then 1 else 0
def mAct (Z : zS) (t a b c d : Int) : zS := zuI (zuA (zuA (zuA (zuA Z 11 t a) 11 (t + 1) b) 11 (t + 2) c) 11 (t + 3) d) 29 (-4)
def acM (M : Nat → Nat → Nat → Int) (x : Nat) (a b c d : Int) (x' i j : Nat) : Int := if x' = x then (if i = 0 then (if j = 0 then a else b) else (if j = 0 then c else d)) else M x' i j
section MMO
variable {F g n m L p r : Nat} {Z : zS} {T : Nat → Nat → Nat} {M : Nat → Nat → Nat → Int} {f : Int → Int}
theorem m_module1 {a p r : Int} (hG : mGs Z) (ha : -2147483648 ≤ a ∧ a < 2147483648) (hp : -2147483648 ≤ p ∧ p < 2147483648) (hr : -2147483648 ≤ r ∧ r < 2147483648) (hb : ¬ ((0 ≤ a ∧ a < zI Z 0 ∧ zA Z 1 a ≤ 8) ∧ (p = 2 ∨ p = 3 ∨ p = 5) ∧ 1 ≤ r ∧ r ≤ 2)) : zX7_module F a p r Z = some (-1, Z) := by
  have hz := hG.1
  have q34 : ¬ (1 ≤ r ∧ r ≤ 2) → zX7_module_b34 F a p r Z = some (-1, Z) := fun t => by
    unfold zX7_module_b34
    rw [zC1_o (y_in (a := r) (b := 1) (c := 2) (by decide) (by decide) (by omega)), if_neg t, zEq_t (by omega)]
  unfold zX7_module
  rw [zC1_o (y_isGroup ha hG.1)]
  by_cases c1 : 0 ≤ a ∧ a < zI Z 0
  · have := hG.2 a c1.1 c1.2
    rw [if_pos c1, zEq_f (by omega), zLd_o (by omega)]
    by_cases c2 : zA Z 1 a ≤ 8
    · rw [zLt_f (by omega)]
      by_cases p2 : p = 2
      · rw [zEq_t (by omega)]; exact q34 fun t => hb ⟨⟨c1.1, c1.2, c2⟩, Or.inl p2, t⟩
      · rw [zEq_f (by omega)]
        by_cases p3 : p = 3
        · rw [zEq_t (by omega)]; exact q34 fun t => hb ⟨⟨c1.1, c1.2, c2⟩, Or.inr (Or.inl p3), t⟩
        · rw [zEq_f (by omega)]
          by_cases p5 : p = 5
          · rw [zEq_t (by omega)]; exact q34 fun t => hb ⟨⟨c1.1, c1.2, c2⟩, Or.inr (Or.inr p5), t⟩
          · rw [zEq_f (by omega)]
    · rw [zLt_t (by omega)]
  · rw [if_neg c1, zEq_t (by omega)]
theorem m_module_in (hG : mGs Z) (h : yG Z g n T) (hg : (g : Int) < zI Z 0) (hn : n ≤ 8) (hp : p = 2 ∨ p = 3 ∨ p = 5) (hr : 1 ≤ r ∧ r ≤ 2) : zX7_module F (g : Nat) (p : Nat) (r : Nat) Z = (zEq (zI Z 7) (6 : Int) (some ((-3 : Int), Z)) (zSt 8 6 (zI Z 7) (g : Nat) Z fun w73 => zSt 9 6 (zI Z 7) (p : Nat) w73 fun w81 => zSt 10 6 (zI Z 7) (r : Nat) w81 fun w89 => zX7_module_l93 F (fun (v4 : Int) (w : zS) => zPI 29 (-4 : Int) w fun w147 => zPI 7 ((zI w 7) + (1 : Int)) w147 fun w157 => some (v4, w157)) F (r : Nat) (zI Z 7) (0 : Int) w89)) := by
  have hb := h.b
  have hz := hG.1
  have q34 : zX7_module_b34 F (g : Nat) (p : Nat) (r : Nat) Z = (zEq (zI Z 7) (6 : Int) (some ((-3 : Int), Z)) (zSt 8 6 (zI Z 7) (g : Nat) Z fun w73 => zSt 9 6 (zI Z 7) (p : Nat) w73 fun w81 => zSt 10 6 (zI Z 7) (r : Nat) w81 fun w89 => zX7_module_l93 F (fun (v4 : Int) (w : zS) => zPI 29 (-4 : Int) w fun w147 => zPI 7 ((zI w 7) + (1 : Int)) w147 fun w157 => some (v4, w157)) F (r : Nat) (zI Z 7) (0 : Int) w89)) := by
    unfold zX7_module_b34
    rw [zC1_o (y_in (a := (r : Nat)) (b := 1) (c := 2) (by decide) (by decide) (by omega)), if_pos (by omega), zEq_f (by omega)]
  unfold zX7_module
  rw [zC1_o (y_isGroup (a := (g : Nat)) (by omega) hG.1), if_pos (by omega), zEq_f (by omega), h.sz, zLt_f (by omega)]
  by_cases p2 : p = 2
  · rw [zEq_t (by omega)]; exact q34
  · rw [zEq_f (by omega)]
    by_cases p3 : p = 3
    · rw [zEq_t (by omega)]; exact q34
    · rw [zEq_f (by omega), zEq_t (by omega)]; exact q34
theorem m_module6 (hG : mGs Z) (h : yG Z g n T) (hg : (g : Int) < zI Z 0) (hn : n ≤ 8) (hp : p = 2 ∨ p = 3 ∨ p = 5) (hr : 1 ≤ r ∧ r ≤ 2) (h7 : zI Z 7 = 6) : zX7_module F (g : Nat) (p : Nat) (r : Nat) Z = some (-3, Z) := by
  rw [m_module_in hG h hg hn hp hr, zEq_t (by omega)]
theorem m_module (hF : fF F) (hG : mGs Z) (h : yG Z g n T) (hg : (g : Int) < zI Z 0) (hn : n ≤ 8) (hp : p = 2 ∨ p = 3 ∨ p = 5) (hr : 1 ≤ r ∧ r ≤ 2) (h7 : zI Z 7 = L) (hL : L < 6) : ∃ f, zX7_module F (g : Nat) (p : Nat) (r : Nat) Z = some ((L : Int), mNew Z f L g p r) ∧ (∀ x i j : Nat, x < 8 → i < 2 → j < 2 → f (32 * (L : Int) + 4 * x + 2 * i + j) = unM r x i j) ∧ ∀ j : Int, j < 32 * (L : Int) → f j = zA Z 11 j := by
  rw [m_module_in hG h hg hn hp hr, zEq_f (by omega), h7, zSt_o (by omega), zSt_o (by omega), zSt_o (by omega)]
  let P : Option (Int × zS) → Prop := fun o => ∃ f, o = some ((L : Int), mNew Z f L g p r) ∧ (∀ x i j : Nat, x < 8 → i < 2 → j < 2 → f (32 * (L : Int) + 4 * x + 2 * i + j) = unM r x i j) ∧ ∀ j : Int, j < 32 * (L : Int) → f j = zA Z 11 j
  have e11 : zA (zuA (zuA (zuA Z 8 (L : Nat) (g : Nat)) 9 (L : Nat) (p : Nat)) 10 (L : Nat) (r : Nat)) 11 = zA Z 11 := rfl
  rw [show zX7_module_l93 F _ F (r : Nat) (L : Nat) 0 (zuA (zuA (zuA Z 8 (L : Nat) (g : Nat)) 9 (L : Nat) (p : Nat)) 10 (L : Nat) (r : Nat)) = zX7_module_l93 F _ F (r : Nat) (L : Nat) 0 (zwA (zuA (zuA (zuA Z 8 (L : Nat) (g : Nat)) 9 (L : Nat) (p : Nat)) 10 (L : Nat) (r : Nat)) 11 (zA (zuA (zuA (zuA Z 8 (L : Nat) (g : Nat)) 9 (L : Nat) (p : Nat)) 10 (L : Nat) (r : Nat)) 11)) from by rw [zwA_e], e11]
  refine iX7_module_l93 (I := fun v3 v4 v5 w => (r : Int) = v3 ∧ (L : Int) = v4 ∧ ∃ (k : Nat) (f : Int → Int), (k : Int) = v5 ∧ k ≤ 32 ∧ zwA (zuA (zuA (zuA Z 8 (L : Nat) (g : Nat)) 9 (L : Nat) (p : Nat)) 10 (L : Nat) (r : Nat)) 11 f = w ∧ (∀ k' : Nat, k' < k → f (32 * (L : Int) + k') = if k' % 4 = 0 ∨ (k' % 4 = 3 ∧ r = 2) then 1 else 0) ∧ ∀ j : Int, j < 32 * (L : Int) → f j = zA Z 11 j) (μ := fun _ _ v5 _ => (32 - v5).toNat) (P := P) ?_ F _ _ _ _ ⟨rfl, rfl, 0, _, rfl, by omega, rfl, fun k' hk => by omega, fun _ _ => rfl⟩ (by unfold fF at hF; omega)
  rintro ra _ _ _ _ ⟨rfl, rfl, k, f, rfl, hk, rfl, hf, hf2⟩ ih
  unfold zX7_module_h93
  by_cases c : k = 32
  · rw [zLe_t (by omega)]
    try dsimp only
    rw [zPI_o, zPI_o]
    have i7 : zI (zwA (zuA (zuA (zuA Z 8 (L : Nat) (g : Nat)) 9 (L : Nat) (p : Nat)) 10 (L : Nat) (r : Nat)) 11 f) 7 = L := h7
    rw [i7]
    refine ⟨f, rfl, fun x i j hx hi hj => ?_, hf2⟩
    have := hf (4 * x + 2 * i + j) (by omega)
    rw [show 32 * (L : Int) + 4 * x + 2 * i + j = 32 * (L : Int) + ((4 * x + 2 * i + j : Nat) : Int) by omega, this]
    unfold unM
    have i2 : i = 0 ∨ i = 1 := by omega
    have j2 : j = 0 ∨ j = 1 := by omega
    rcases i2 with rfl | rfl <;> rcases j2 with rfl | rfl
    · rw [if_pos (by omega), if_pos (by omega)]
    · rw [if_neg (by omega), if_neg (by omega)]
    · rw [if_neg (by omega), if_neg (by omega)]
    · by_cases q : r = 2
      · rw [if_pos (by omega), if_pos (by omega)]
      · rw [if_neg (by omega), if_neg (by omega)]
  · unfold zX7_module_b132 zX7_module_b136 zX7_module_b137
    have nx : ∀ b : Int, (b = if k % 4 = 0 ∨ (k % 4 = 3 ∧ r = 2) then 1 else 0) → P (ra r L ((k : Int) + 1) (zwA (zuA (zuA (zuA Z 8 (L : Nat) (g : Nat)) 9 (L : Nat) (p : Nat)) 10 (L : Nat) (r : Nat)) 11 (zup f (32 * (L : Int) + k) b))) := fun b hb2 => by
      refine ih _ _ _ _ ⟨rfl, rfl, k + 1, _, by omega, by omega, rfl, fun k' hk' => ?_, fun j hj => ?_⟩ (by omega)
      · by_cases t : k' = k
        · rw [t, zup_s]; exact hb2
        · rw [zup_n (by omega)]; exact hf k' (by omega)
      · rw [zup_n (by omega)]; exact hf2 j hj
    rw [zLe_f (by omega), zRem_p (by omega)]
    by_cases q0 : k % 4 = 0
    · rw [zEq_t (by omega), zSt_o (by omega), zwA_u]
      exact nx 1 (by rw [if_pos (Or.inl q0)])
    · rw [zEq_f (by omega), zRem_p (by omega)]
      by_cases q3 : k % 4 = 3
      · rw [zEq_t (by omega)]
        by_cases qr : r = 2
        · rw [zEq_t (by omega), zSt_o (by omega), zwA_u]
          exact nx 1 (by rw [if_pos (Or.inr ⟨q3, qr⟩)])
        · rw [zEq_f (by omega), zSt_o (by omega), zwA_u]
          exact nx 0 (by rw [if_neg (by omega)])
      · rw [zEq_f (by omega), zSt_o (by omega), zwA_u]
        exact nx 0 (by rw [if_neg (by omega)])
theorem mMd_new (h : yG Z g n T) (hn : n ≤ 8) (hp : p = 2 ∨ p = 3 ∨ p = 5) (hr : 1 ≤ r ∧ r ≤ 2) (hL : L < 6) (hf : ∀ x i j : Nat, x < 8 → i < 2 → j < 2 → f (32 * (L : Int) + 4 * x + 2 * i + j) = unM r x i j) : mMd (mNew Z f L g p r) L g n T p r (unM r) := by
  have hb := h.b
  refine ⟨hL, h.of rfl rfl, hn, ⟨?_, ?_, ?_⟩, by omega, hr, fun x i j hx hi hj => ⟨hf x i j (by omega) hi hj, ?_⟩⟩
  · show zup (zA Z 8) L g L = g
    exact zup_s _ _ _
  · show zup (zA Z 9) L p L = p
    exact zup_s _ _ _
  · show zup (zA Z 10) L r L = r
    exact zup_s _ _ _
  · unfold unM
    split <;> omega
theorem mMd_kept {g' p' r' : Int} (h : mMd Z m g n T p r M) (hm : m < L) (hf : ∀ j : Int, j < 32 * (L : Int) → f j = zA Z 11 j) : mMd (mNew Z f L g' p' r') m g n T p r M := by
  obtain ⟨a1, a2, a3, ⟨b1, b2, b3⟩, a5, a6, a7⟩ := h
  refine ⟨a1, a2.of rfl rfl, a3, ⟨?_, ?_, ?_⟩, a5, a6, fun x i j hx hi hj => ⟨?_, (a7 x i j hx hi hj).2⟩⟩
  · show zup (zA Z 8) L g' m = g
    rw [zup_n (by omega)]; exact b1
  · show zup (zA Z 9) L p' m = p
    rw [zup_n (by omega)]; exact b2
  · show zup (zA Z 10) L r' m = r
    rw [zup_n (by omega)]; exact b3
  · show f _ = _
    rw [hf _ (by omega)]; exact (a7 x i j hx hi hj).1
theorem m_acts_no {a x y1 y2 y3 y4 : Int} (ha : -2147483648 ≤ a ∧ a < 2147483648) (h7 : 0 ≤ zI Z 7 ∧ zI Z 7 ≤ 6) (hb : ¬ (0 ≤ a ∧ a < zI Z 7)) : zX7_acts F a x y1 y2 y3 y4 Z = some (-1, Z) := by
  unfold zX7_acts
  rw [zC1_o (m_isModule ha h7), if_neg hb, zEq_t (by omega)]
theorem m_acts {x a b c d : Int} (hG : mGs Z) (h : mMd Z m g n T p r M) (hg : (g : Int) < zI Z 0) (h7 : (m : Int) < zI Z 7 ∧ zI Z 7 ≤ 6) (hx : -2147483648 ≤ x ∧ x < 2147483648) (ha : -2147483648 ≤ a ∧ a < 2147483648) (hb : -2147483648 ≤ b ∧ b < 2147483648) (hc : -2147483648 ≤ c ∧ c < 2147483648) (hd : -2147483648 ≤ d ∧ d < 2147483648) : (((0 ≤ x ∧ x < n) ∧ ((0 ≤ a ∧ a < p) ∧ (0 ≤ b ∧ b < p) ∧ (0 ≤ c ∧ c < p) ∧ 0 ≤ d ∧ d < p) ∧ (r = 1 → b = 0 ∧ c = 0 ∧ d = 0)) → zX7_acts F (m : Nat) x a b c d Z = some (1, mAct Z (32 * (m : Int) + 4 * x) a b c d)) ∧ (¬ ((0 ≤ x ∧ x < n) ∧ ((0 ≤ a ∧ a < p) ∧ (0 ≤ b ∧ b < p) ∧ (0 ≤ c ∧ c < p) ∧ 0 ≤ d ∧ d < p) ∧ (r = 1 → b = 0 ∧ c = 0 ∧ d = 0)) → zX7_acts F (m : Nat) x a b c d Z = some (-1, Z)) := by
  obtain ⟨a1, a2, a3, ⟨b1, b2, b3⟩, a5, a6, a7⟩ := h
  have hb2 := a2.b
  have key : ∀ Q : Prop, ∀ e : Int, 0 ≤ e → e < p → (((0 ≤ a ∧ a < p) ∧ (0 ≤ b ∧ b ≤ e) ∧ (0 ≤ c ∧ c ≤ e) ∧ 0 ≤ d ∧ d ≤ e) ↔ Q) → (0 ≤ x ∧ x < n) → (Q → zX7_acts_b50 F (m : Nat) x a b c d ((p : Int) - 1) e Z = some (1, mAct Z (32 * (m : Int) + 4 * x) a b c d)) ∧ (¬ Q → zX7_acts_b50 F (m : Nat) x a b c d ((p : Int) - 1) e Z = some (-1, Z)) := fun Q e e0 e1 hQ hx2 => by
    unfold zX7_acts_b50
    rw [zC1_o (y_in (a := a) (b := 0) (c := (p : Int) - 1) (by decide) rfl (by omega))]
    by_cases c1 : 0 ≤ a ∧ a ≤ (p : Int) - 1
    · rw [if_pos c1, zEq_f (by omega), zC1_o (y_in (a := b) (b := 0) (c := e) (by decide) rfl (by omega))]
      by_cases c2 : 0 ≤ b ∧ b ≤ e
      · rw [if_pos c2, zEq_f (by omega), zC1_o (y_in (a := c) (b := 0) (c := e) (by decide) rfl (by omega))]
        by_cases c3 : 0 ≤ c ∧ c ≤ e
        · rw [if_pos c3, zEq_f (by omega), zC1_o (y_in (a := d) (b := 0) (c := e) (by decide) rfl (by omega))]
          by_cases c4 : 0 ≤ d ∧ d ≤ e
          · rw [if_pos c4, zEq_f (by omega), zSt_o (by omega), zSt_o (by omega), zSt_o (by omega), zSt_o (by omega), zPI_o]
            exact ⟨fun _ => rfl, fun t => (t (hQ.mp ⟨by omega, c2, c3, c4⟩)).elim⟩
          · rw [if_neg c4, zEq_t (by omega)]
            exact ⟨fun t => (c4 (hQ.mpr t).2.2.2).elim, fun _ => rfl⟩
        · rw [if_neg c3, zEq_t (by omega)]
          exact ⟨fun t => (c3 (hQ.mpr t).2.2.1).elim, fun _ => rfl⟩
      · rw [if_neg c2, zEq_t (by omega)]
        exact ⟨fun t => (c2 (hQ.mpr t).2.1).elim, fun _ => rfl⟩
    · rw [if_neg c1, zEq_t (by omega)]
      exact ⟨fun t => by have := (hQ.mpr t).1; omega, fun _ => rfl⟩
  have e1 : zA Z 1 (g : Nat) = n := a2.2.1
  unfold zX7_acts
  rw [zC1_o (m_isModule (by omega) (by omega)), if_pos (by omega), zEq_f (by omega), zLd_o (by omega), b1, zC1_o (y_isElement (a := (g : Nat)) (by omega) hx hG.1 (hG.2 _)), e1]
  by_cases c0 : 0 ≤ x ∧ x < n
  · rw [if_pos (by omega), zEq_f (by omega), zLd_o (by omega), zLd_o (by omega), b2, b3]
    by_cases c1 : r = 1
    · rw [zEq_t (by omega)]
      have k := key (((0 ≤ a ∧ a < p) ∧ (0 ≤ b ∧ b < p) ∧ (0 ≤ c ∧ c < p) ∧ 0 ≤ d ∧ d < p) ∧ (r = 1 → b = 0 ∧ c = 0 ∧ d = 0)) 0 (by omega) (by omega) (by omega) c0
      exact ⟨fun t => k.1 t.2, fun t => k.2 fun u => t ⟨c0, u⟩⟩
    · rw [zEq_f (by omega)]
      have k := key (((0 ≤ a ∧ a < p) ∧ (0 ≤ b ∧ b < p) ∧ (0 ≤ c ∧ c < p) ∧ 0 ≤ d ∧ d < p) ∧ (r = 1 → b = 0 ∧ c = 0 ∧ d = 0)) ((p : Int) - 1) (by omega) (by omega) (by omega) c0
      exact ⟨fun t => k.1 t.2, fun t => k.2 fun u => t ⟨c0, u⟩⟩
  · rw [if_neg (fun t => c0 t.2), zEq_t (by omega)]
    exact ⟨fun t => (c0 t.1).elim, fun _ => rfl⟩
theorem mAct_at {t a b c d j : Int} : zA (mAct Z t a b c d) 11 j = if j = t + 3 then d else if j = t + 2 then c else if j = t + 1 then b else if j = t then a else zA Z 11 j := rfl
theorem mMd_act {x : Nat} {a b c d : Int} (h : mMd Z m g n T p r M) (hx : x < n) (ha : 0 ≤ a ∧ a < p) (hb : 0 ≤ b ∧ b < p) (hc : 0 ≤ c ∧ c < p) (hd : 0 ≤ d ∧ d < p) : mMd (mAct Z (32 * (m : Int) + 4 * x) a b c d) m g n T p r (acM M x a b c d) := by
  obtain ⟨a1, a2, a3, a4, a5, a6, a7⟩ := h
  refine ⟨a1, a2.of rfl rfl, a3, a4, a5, a6, fun x' i j hx' hi hj => ?_⟩
  rw [mAct_at]
  unfold acM
  by_cases q : x' = x
  · have i2 : i = 0 ∨ i = 1 := by omega
    have j2 : j = 0 ∨ j = 1 := by omega
    rw [if_pos q, q]
    rcases i2 with rfl | rfl <;> rcases j2 with rfl | rfl
    · rw [if_neg (by omega), if_neg (by omega), if_neg (by omega), if_pos (by omega), if_pos rfl, if_pos rfl]; exact ⟨rfl, ha⟩
    · rw [if_neg (by omega), if_neg (by omega), if_pos (by omega), if_pos rfl, if_neg (by omega)]; exact ⟨rfl, hb⟩
    · rw [if_neg (by omega), if_pos (by omega), if_neg (by omega), if_pos rfl]; exact ⟨rfl, hc⟩
    · rw [if_pos (by omega), if_neg (by omega), if_neg (by omega)]; exact ⟨rfl, hd⟩
  · rw [if_neg q, if_neg (by omega), if_neg (by omega), if_neg (by omega), if_neg (by omega)]
    exact a7 x' i j hx' hi hj
theorem mMd_act2 {m' x : Nat} {a b c d : Int} (h : mMd Z m g n T p r M) (hx : x < 8) (hm : m ≠ m') : mMd (mAct Z (32 * (m' : Int) + 4 * x) a b c d) m g n T p r M := by
  obtain ⟨a1, a2, a3, a4, a5, a6, a7⟩ := h
  refine ⟨a1, a2.of rfl rfl, a3, a4, a5, a6, fun x' i j hx' hi hj => ?_⟩
  rw [mAct_at, if_neg (by omega), if_neg (by omega), if_neg (by omega), if_neg (by omega)]
  exact a7 x' i j hx' hi hj
end MMO
