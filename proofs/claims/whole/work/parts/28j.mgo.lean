/-! THE MODEL: whether a row of makers can be another -/
def zGo (n : Nat) (T1 T2 : Nat → Nat → Nat) (L : Nat) (q h : Nat → Nat) (φ : Nat → Nat) : Prop := (∀ x, x < n → φ x < n) ∧ (∀ x y, x < n → y < n → φ x = φ y → x = y) ∧ (∀ x y, x < n → y < n → φ (T1 x y) = T2 (φ x) (φ y)) ∧ ∀ i, i < L → φ (q i) = h i
def goF (Z Z1 : zS) : Prop := (∀ k, k ≠ 13 → k ≠ 22 → zA Z1 k = zA Z k) ∧ ∀ k, k ≠ 14 → zI Z1 k = zI Z k
section MGO
variable {F a b n L : Nat} {T1 T2 : Nat → Nat → Nat} {Z w : zS} {q h : Nat → Nat}
theorem goF.rf : goF Z Z := ⟨fun _ _ _ => rfl, fun _ _ => rfl⟩
theorem goF.tr {Z Z1 Z2 : zS} (h1 : goF Z Z1) (h2 : goF Z1 Z2) : goF Z Z2 := ⟨fun k hk hk2 => (h2.1 k hk hk2).trans (h1.1 k hk hk2), fun k hk => (h2.2 k hk).trans (h1.2 k hk)⟩
theorem goF.sc (h : goF Z w) : scF Z w := ⟨fun k hk => h.1 k (by omega) (by omega), h.2⟩
theorem goF.A (hw : goF Z w) {j : Nat} (hj : j = 13 ∨ j = 22) (i x : Int) : goF Z (zuA w j i x) := hw.tr ⟨fun k hk hk2 => if_neg (by omega), fun _ _ => rfl⟩
theorem goF.I (hw : goF Z w) (x : Int) : goF Z (zuI w 14 x) := hw.tr ⟨fun _ _ _ => rfl, fun k hk => if_neg hk⟩
/-- a way that goes takes 0 to 0 -/
theorem zGo.zero (G1 : zGrp n T1) (G2 : zGrp n T2) {φ : Nat → Nat} (hφ : zGo n T1 T2 L q h φ) : φ 0 = 0 := by
  have e := hφ.2.2.1 0 0 G1.1 G1.1
  rw [(G1.2.2.1 0 G1.1).1] at e
  refine (G2.canL (hφ.1 0 G1.1) G2.1 (hφ.1 0 G1.1) ?_).symm
  rw [(G2.2.2.1 _ (hφ.1 0 G1.1)).2]; exact e
/-- what goes with the makers goes with all -/
theorem zGo_of (G1 : zGrp n T1) (G2 : zGrp n T2) (hq : ∀ i, i < L → q i < n) (hh : ∀ i, i < L → h i < n) (ha : zAll n T1 L q) {im : Nat → Nat} (i0 : im 0 = 0) (i1 : ∀ x, x < n → im x < n) (i2 : ∀ x y, x < n → y < n → im x = im y → x = y) (i3 : ∀ x j, x < n → j < L → im (T1 x (q j)) = T2 (im x) (h j)) : zGo n T1 T2 L q h im := by
  have hm : ∀ i, i < L → im (q i) = h i := fun i hi => by
    have := i3 0 i G1.1 hi
    rw [(G1.2.2.1 _ (hq i hi)).1, i0, (G2.2.2.1 _ (hh i hi)).1] at this
    exact this
  refine ⟨i1, i2, fun x y hx hy => ?_, hm⟩
  have := ha y hy (fun y => y < n ∧ ∀ x, x < n → im (T1 x y) = T2 (im x) (im y)) ⟨G1.1, fun x hx => by rw [(G1.2.2.1 x hx).2, i0, (G2.2.2.1 _ (i1 x hx)).2]⟩ fun a s ⟨h1, h2⟩ ⟨j, hj, e⟩ => by
    rw [e]
    refine ⟨G1.2.1 _ _ h1 (hq j hj), fun x hx => ?_⟩
    rw [← G1.2.2.2.1 x a (q j) hx h1 (hq j hj), i3 _ j (G1.2.1 _ _ hx h1) hj, h2 x hx, i3 a j h1 hj, G2.2.2.2.1 _ _ _ (i1 x hx) (i1 a h1) (hh j hj)]
  exact this.2 x hx
/-- on the way: what is reached (c in number), what it becomes; done: all before p, of p the first s -/
def goI (n : Nat) (T1 T2 : Nat → Nat → Nat) (L : Nat) (q h : Nat → Nat) (w : zS) (c p s : Nat) : Prop := zI w 14 = c ∧ ∃ (D : Nat → Prop) (m im : Nat → Nat), nC D n = c ∧ (∀ i : Nat, i < c → zA w 13 i = m i ∧ m i < n ∧ D (m i)) ∧ (∀ z, D z → ∃ i, i < c ∧ z = m i) ∧ (∀ z : Nat, z < n → D z → zA w 22 z = im z ∧ im z < n) ∧ (∀ z : Nat, z < n → ¬ D z → zA w 22 z = -4) ∧ D 0 ∧ im 0 = 0 ∧ (∀ φ, zGo n T1 T2 L q h φ → ∀ z, D z → φ z = im z) ∧ p ≤ c ∧ (∀ i j, i < p → j < L → D (T1 (m i) (q j)) ∧ im (T1 (m i) (q j)) = T2 (im (m i)) (h j)) ∧ ∀ j, j < s → j < L → p < c ∧ D (T1 (m p) (q j)) ∧ im (T1 (m p) (q j)) = T2 (im (m p)) (h j)
theorem y_goes (hF : fF F) (h1 : yG Z a n T1) (h2 : yG Z b n T2) (hL : L ≤ 5) (hr : ∀ i : Nat, i < L → zA Z 20 i = q i ∧ q i < n) (hg : ∀ i : Nat, i < L → zA Z 21 i = h i ∧ h i < n) (ha : zAll n T1 L q) : ∃ r Z1, zX7_goes F (a : Nat) (b : Nat) (L : Nat) Z = some (r, Z1) ∧ goF Z Z1 ∧ ((r = 1 ∧ ∃ φ, zGo n T1 T2 L q h φ) ∨ (r = 0 ∧ ¬ ∃ φ, zGo n T1 T2 L q h φ)) := by
  have hb := h1.b
  have hb2 := h2.b
  have G1 := h1.G
  have G2 := h2.G
  let P : Option (Int × zS) → Prop := fun o => ∃ r Z1, o = some (r, Z1) ∧ goF Z Z1 ∧ ((r = 1 ∧ ∃ φ, zGo n T1 T2 L q h φ) ∨ (r = 0 ∧ ¬ ∃ φ, zGo n T1 T2 L q h φ))
  unfold zX7_goes
  rw [h1.sz]
  refine iX7_goes_l11 (I := fun v1 v2 v3 v4 v5 w => (a : Int) = v1 ∧ (b : Int) = v2 ∧ (L : Int) = v3 ∧ (n : Int) = v4 ∧ goF Z w ∧ ∃ x : Nat, (x : Int) = v5 ∧ x ≤ n ∧ ∀ z : Nat, z < x → zA w 22 z = -4) (μ := fun _ _ _ _ v5 _ => (n - v5).toNat) (P := P) ?_ F _ _ _ _ _ _ ⟨rfl, rfl, rfl, rfl, goF.rf, 0, rfl, by omega, fun z hz => by omega⟩ (by unfold fF at hF; omega)
  rintro ra _ _ _ _ _ w ⟨rfl, rfl, rfl, rfl, hw, x, rfl, hx, hx2⟩ ih
  unfold zX7_goes_h11
  by_cases c1 : x = n
  · rw [zLe_t (by omega)]
    try dsimp only
    rw [zSt_o (by omega), zSt_o (by omega), zPI_o]
    have st : goI n T1 T2 L q h (zuI (zuA (zuA w 22 0 0) 13 0 0) 14 1) 1 0 0 := by
      refine ⟨rfl, fun z => z = 0, fun _ => 0, fun _ => 0, ?_, fun i hi => ⟨?_, G1.1, rfl⟩, fun z hz => ⟨0, by omega, hz⟩, fun z hz hd => ⟨?_, G1.1⟩, fun z hz hd => ?_, rfl, rfl, fun φ hφ z hz => ?_, by omega, fun i j hi => by omega, fun j hj => by omega⟩
      · rw [nC_drop (P := fun z => z = 0) G1.1 rfl, nC_none (fun i _ u => u.2 u.1)]
      · show zup (zA w 13) 0 0 i = _
        rw [show (i : Int) = 0 by omega, zup_s]; rfl
      · show zup (zA w 22) 0 0 z = _
        rw [hd]; exact zup_s _ _ _
      · show zup (zA w 22) 0 0 z = _
        rw [zup_n (by omega)]; exact hx2 z (by omega)
      · rw [hz]; exact hφ.zero G1 G2
    refine iX7_goes_l55 (I := fun v1 v2 v3 v4 v5 w => (a : Int) = v1 ∧ (b : Int) = v2 ∧ (L : Int) = v3 ∧ (n : Int) = v4 ∧ goF Z w ∧ ∃ c p : Nat, (p : Int) = v5 ∧ goI n T1 T2 L q h w c p 0) (μ := fun _ _ _ _ v5 _ => (n + 1 - v5).toNat) (P := P) ?_ F _ _ _ _ _ _ ⟨rfl, rfl, rfl, rfl, ((hw.A (Or.inr rfl) _ _).A (Or.inl rfl) _ _).I _, 1, 0, rfl, st⟩ (by unfold fF at hF; omega)
    rintro rb _ _ _ _ _ w ⟨rfl, rfl, rfl, rfl, hw, c, p, rfl, hI⟩ ih2
    unfold zX7_goes_h55
    obtain ⟨i1, D, m, im, i2, i3, i4, i5, i6, i7, i8, i9, i10, i11, i12⟩ := hI
    have hc : c ≤ n := by rw [← i2]; exact nC_le _ _
    by_cases c2 : p = c
    · rw [i1, zLe_t (by omega)]
      try dsimp only
      -- all is reached
      have hD : ∀ z, z < n → D z := fun z hz => ha z hz D i7 fun x s hx ⟨j, hj, e⟩ => by
        obtain ⟨i, hi, e2⟩ := i4 x hx
        rw [e, e2]; exact (i11 i j (by omega) hj).1
      have hm : ∀ x j, x < n → j < L → im (T1 x (q j)) = T2 (im x) (h j) := fun x j hx hj => by
        obtain ⟨i, hi, e2⟩ := i4 x (hD x hx)
        rw [e2]; exact (i11 i j (by omega) hj).2
      have hlt : ∀ x, x < n → im x < n := fun x hx => (i5 x hx (hD x hx)).2
      refine iX7_goes_l200 (I := fun v4 v5 v7 v9 w' => (n : Int) = v4 ∧ (0 : Int64) = v7 ∧ w = w' ∧ ∃ x : Nat, (x : Int) = v9 ∧ x ≤ n ∧ (∀ z, jB v5 z ↔ ∃ x', x' < x ∧ z = im x') ∧ ∀ x' y', x' < x → y' < x → im x' = im y' → x' = y') (μ := fun _ _ _ v9 _ => (n - v9).toNat) (P := P) ?_ F _ _ _ _ _ ⟨rfl, rfl, rfl, 0, rfl, by omega, fun z => ⟨fun u => (jB_0 z u).elim, fun ⟨_, u, _⟩ => by omega⟩, fun x' y' u => by omega⟩ (by unfold fF at hF; omega)
      rintro rc _ v5 _ _ _ ⟨rfl, rfl, rfl, x, rfl, hx, d1, d2⟩ ih3
      unfold zX7_goes_h200
      by_cases c3 : x = n
      · rw [zLe_t (by omega)]
        rw [c3] at d2
        exact ⟨1, w, rfl, hw, Or.inl ⟨rfl, im, zGo_of G1 G2 (fun i hi => (hr i hi).2) (fun i hi => (hg i hi).2) ha i8 hlt d2 hm⟩⟩
      · have hxn : x < n := by omega
        obtain ⟨e1, e2⟩ := i5 x hxn (hD x hxn)
        rw [zLe_f (by omega), zLd_o (by omega), e1, zLe_f (by omega), iO_nat]
        by_cases u : jB v5 (im x)
        · rw [if_pos ((jB_test1 v5 (by omega)).mpr u)]
          refine ⟨0, w, rfl, hw, Or.inr ⟨rfl, fun ⟨φ, hφ⟩ => ?_⟩⟩
          obtain ⟨x', hx', e⟩ := (d1 _).mp u
          have := hφ.2.1 x x' hxn (by omega) (by rw [i9 φ hφ x (hD x hxn), i9 φ hφ x' (hD x' (by omega)), e])
          omega
        · rw [if_neg (fun t => u ((jB_test1 v5 (by omega)).mp t))]
          unfold zX7_goes_b255 zX7_goes_b286
          rw [zLe_f (by omega), iO_nat]
          refine ih3 _ _ _ _ _ ⟨rfl, rfl, rfl, x + 1, by omega, by omega, fun z => ?_, fun x' y' hx' hy' e => ?_⟩ (by omega)
          · rw [jB_set v5 (by omega), d1]
            constructor
            · rintro (⟨x', t1, t2⟩ | t)
              · exact ⟨x', by omega, t2⟩
              · exact ⟨x, by omega, t⟩
            · rintro ⟨x', t1, t2⟩
              by_cases t : x' = x
              · rw [t] at t2; exact Or.inr t2
              · exact Or.inl ⟨x', by omega, t2⟩
          · by_cases t1 : x' = x
            · by_cases t2 : y' = x
              · omega
              · exact (u ((d1 _).mpr ⟨y', by omega, by rw [← t1]; exact e⟩)).elim
            · by_cases t2 : y' = x
              · exact (u ((d1 _).mpr ⟨x', by omega, by rw [← t2]; exact e.symm⟩)).elim
              · exact d2 x' y' (by omega) (by omega) e
    · have hp : p < c := by omega
      rw [i1, zLe_f (by omega)]
      refine iX7_goes_l67 (I := fun v1 v2 v3 v4 v5 v6 w => (a : Int) = v1 ∧ (b : Int) = v2 ∧ (L : Int) = v3 ∧ (n : Int) = v4 ∧ (p : Int) = v5 ∧ goF Z w ∧ ∃ c s : Nat, (s : Int) = v6 ∧ s ≤ L ∧ p < c ∧ goI n T1 T2 L q h w c p s) (μ := fun _ _ _ _ _ v6 _ => (L - v6).toNat) (P := P) ?_ F _ _ _ _ _ _ _ ⟨rfl, rfl, rfl, rfl, rfl, hw, c, 0, rfl, by omega, hp, i1, D, m, im, i2, i3, i4, i5, i6, i7, i8, i9, i10, i11, i12⟩ (by unfold fF at hF; omega)
      clear i1 i2 i3 i4 i5 i6 i7 i8 i9 i10 i11 i12 hp hc c2 D m im hw
      rintro rc _ _ _ _ _ _ w ⟨rfl, rfl, rfl, rfl, rfl, hw, c, s, rfl, hs, hp, i1, D, m, im, i2, i3, i4, i5, i6, i7, i8, i9, i10, i11, i12⟩ ih3
      have hc : c ≤ n := by rw [← i2]; exact nC_le _ _
      unfold zX7_goes_h67
      by_cases c3 : s = L
      · rw [zLe_t (by omega)]
        refine ih2 _ _ _ _ _ _ ⟨rfl, rfl, rfl, rfl, hw, c, p + 1, by omega, i1, D, m, im, i2, i3, i4, i5, i6, i7, i8, i9, by omega, fun i j hi hj => ?_, fun j hj => by omega⟩ (by omega)
        by_cases t : i = p
        · rw [t]; exact (i12 j (by omega) hj).2
        · exact i11 i j (by omega) hj
      · have hsL : s < L := by omega
        obtain ⟨p1, p2, p3⟩ := i3 p hp
        obtain ⟨q1, q2⟩ := hr s hsL
        obtain ⟨g1, g2⟩ := hg s hsL
        obtain ⟨e1, e2⟩ := i5 _ p2 p3
        have hx := G1.2.1 _ _ p2 q2
        have hy := G2.2.1 _ _ e2 g2
        have y1 : yG w a n T1 := hw.sc.G h1
        have y2 : yG w b n T2 := hw.sc.G h2
        have must : ∀ φ, zGo n T1 T2 L q h φ → φ (T1 (m p) (q s)) = T2 (im (m p)) (h s) := fun φ hφ => by
          rw [hφ.2.2.1 _ _ p2 q2, i9 φ hφ _ p3, hφ.2.2.2 s hsL]
        rw [zLe_f (by omega), zLd_o (by omega), p1, zLd_o (by omega), hw.1 20 (by decide) (by decide), q1, zC1_o (y1.mul p2 q2), zLd_o (by omega), p1, zLd_o (by omega), e1, zLd_o (by omega), hw.1 21 (by decide) (by decide), g1, zC1_o (y2.mul e2 g2), zLd_o (by omega)]
        unfold zX7_goes_b179
        by_cases u : D (T1 (m p) (q s))
        · obtain ⟨f1, f2⟩ := i5 _ hx u
          rw [f1, zEq_f (by omega), zLd_o (by omega), f1]
          by_cases v : im (T1 (m p) (q s)) = T2 (im (m p)) (h s)
          · rw [zEq_t (by omega)]
            refine ih3 _ _ _ _ _ _ _ ⟨rfl, rfl, rfl, rfl, rfl, hw, c, s + 1, by omega, by omega, hp, i1, D, m, im, i2, i3, i4, i5, i6, i7, i8, i9, i10, i11, fun j hj hj2 => ?_⟩ (by omega)
            by_cases t : j = s
            · rw [t]; exact ⟨hp, u, v⟩
            · exact i12 j (by omega) hj2
          · rw [zEq_f (by omega)]
            exact ⟨0, w, rfl, hw, Or.inr ⟨rfl, fun ⟨φ, hφ⟩ => v (by rw [← i9 φ hφ _ u, must φ hφ])⟩⟩
        · rw [i6 _ hx u, zEq_t (by omega), zSt_o (by omega)]
          rw [i1, zSt_o (by omega), zPI_o]
          have mo := nC_more (P' := fun z => D z ∨ z = T1 (m p) (q s)) hx u (fun _ => Iff.rfl)
          have hcn : c + 1 ≤ n := by rw [← i2, ← mo]; exact nC_le _ _
          have a13 : ∀ i : Int, zA (zuI (zuA (zuA w 22 (T1 (m p) (q s) : Nat) (T2 (im (m p)) (h s) : Nat)) 13 (c : Nat) (T1 (m p) (q s) : Nat)) 14 ((c : Nat) + 1)) 13 i = zup (zA w 13) (c : Nat) (T1 (m p) (q s) : Nat) i := fun i => rfl
          have a22 : ∀ i : Int, zA (zuI (zuA (zuA w 22 (T1 (m p) (q s) : Nat) (T2 (im (m p)) (h s) : Nat)) 13 (c : Nat) (T1 (m p) (q s) : Nat)) 14 ((c : Nat) + 1)) 22 i = zup (zA w 22) (T1 (m p) (q s) : Nat) (T2 (im (m p)) (h s) : Nat) i := fun i => rfl
          have mo' : ∀ i, i < c → zPut m c (T1 (m p) (q s)) i = m i := fun i hi => zPut_n (by omega)
          have io' : ∀ z, D z → zPut im (T1 (m p) (q s)) (T2 (im (m p)) (h s)) z = im z := fun z hz => zPut_n fun e => u (e ▸ hz)
          refine ih3 _ _ _ _ _ _ _ ⟨rfl, rfl, rfl, rfl, rfl, ((hw.A (Or.inr rfl) _ _).A (Or.inl rfl) _ _).I _, c + 1, s + 1, by omega, by omega, by omega, by show ((c : Nat) : Int) + 1 = ((c + 1 : Nat) : Int); omega, fun z => D z ∨ z = T1 (m p) (q s), zPut m c (T1 (m p) (q s)), zPut im (T1 (m p) (q s)) (T2 (im (m p)) (h s)), by rw [mo, i2], fun i hi => ?_, fun z hz => ?_, fun z hz hd => ?_, fun z hz hd => ?_, Or.inl i7, by rw [io' 0 i7]; exact i8, fun φ hφ z hz => ?_, by omega, fun i j hi hj => ?_, fun j hj hj2 => ⟨by omega, ?_⟩⟩ (by omega)
          · rw [a13]
            by_cases t : i = c
            · rw [t, zPut_s, zup_s]; exact ⟨rfl, hx, Or.inr rfl⟩
            · rw [zPut_n t, zup_n (by omega)]
              obtain ⟨t1, t2, t3⟩ := i3 i (by omega)
              exact ⟨t1, t2, Or.inl t3⟩
          · rcases hz with t | t
            · obtain ⟨i, hi, e⟩ := i4 z t
              exact ⟨i, by omega, by rw [mo' i hi]; exact e⟩
            · exact ⟨c, by omega, by rw [zPut_s]; exact t⟩
          · rw [a22]
            by_cases t : z = T1 (m p) (q s)
            · rw [t, zPut_s, zup_s]; exact ⟨rfl, hy⟩
            · rw [zPut_n t, zup_n (by omega)]
              exact i5 z hz (hd.resolve_right t)
          · rw [a22, zup_n (fun e => hd (Or.inr (by omega)))]
            exact i6 z hz fun t => hd (Or.inl t)
          · rcases hz with t | t
            · rw [io' z t]; exact i9 φ hφ z t
            · rw [t, zPut_s]; exact must φ hφ
          · obtain ⟨t1, t2⟩ := i11 i j hi hj
            rw [mo' i (by omega), io' _ t1, io' _ (i3 i (by omega)).2.2]
            exact ⟨Or.inl t1, t2⟩
          · rw [mo' p hp, io' _ p3]
            by_cases t : j = s
            · rw [t, zPut_s]; exact ⟨Or.inr rfl, rfl⟩
            · obtain ⟨-, t1, t2⟩ := i12 j (by omega) hj2
              rw [io' _ t1]
              exact ⟨Or.inl t1, t2⟩
  · have hxn : x < n := by omega
    rw [zLe_f (by omega), zSt_o (by omega)]
    refine ih _ _ _ _ _ _ ⟨rfl, rfl, rfl, rfl, hw.A (Or.inr rfl) _ _, x + 1, by omega, by omega, fun z hz => ?_⟩ (by omega)
    rw [zA_uA, if_pos rfl]
    by_cases t : z = x
    · rw [t, zup_s]
    · rw [zup_n (by omega)]; exact hx2 z (by omega)
end MGO
