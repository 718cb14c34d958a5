/-! THE CLASS'S MATCHING: whether a row goes with products -/
section YGO
variable {F e a1 a2 n L N : Nat} {C : yC} {O w : zO} {T1 T2 : Nat → Nat → Nat} {q h : Nat → Nat}
theorem lpI.k {S S' : zS} (h : lpI n T1 L q S) (h0 : zA S' 0 = zA S 0) (h1 : zA S' 1 = zA S 1) (h2 : zA S' 2 = zA S 2) : lpI n T1 L q S' := by
  unfold lpI; rw [h0, h1, h2]; exact h
theorem y_goesWith (hF : fF F) (hE : C.1 e = some (3, 0)) (hK1 : C.1 a1 = some (2, 0)) (hK2 : C.1 a2 = some (2, 0)) (h1 : yGp (O a1) n T1) (h2 : yGp (O a2) n T2) (hL : L ≤ 5) (h7 : zI (O e) 7 = L) (hq : ∀ i : Nat, i < L → zA (O a1) 5 i = q i ∧ q i < n) (hg : ∀ i : Nat, i < L → zA (O e) 5 i = h i ∧ h i < n) (hp : lpI n T1 L q (O e)) (ha : zAll n T1 L q) (hN : 1 ≤ N ∧ N ≤ 30000) (hu : ∀ z : Nat, z < n → 0 ≤ zA (O e) 4 z ∧ zA (O e) 4 z < N) : ∃ (r : Int) (O' : zO), zX3_goesWithProducts F C e (some a1) (some a2) (N : Nat) O = some (r, O') ∧ mtK (fun k => k = 3 ∨ k = 4) O O' e ∧ (∀ z : Nat, z < n → 0 ≤ zA (O' e) 4 z ∧ zA (O' e) 4 z < N + 1) ∧ ((r = 1 ∧ ∃ φ, zGo n T1 T2 L q h φ) ∨ (r = 0 ∧ ¬ ∃ φ, zGo n T1 T2 L q h φ)) := by
  have ne1 : a1 ≠ e := fun u => by rw [u, hE] at hK1; cases hK1
  have ne2 : a2 ≠ e := fun u => by rw [u, hE] at hK2; cases hK2
  have hn := h1.2.1
  have G1 := h1.2.2.1
  have G2 := h2.2.2.1
  have n0 := G1.1
  obtain ⟨m, m0, mj, m1, m2, m3⟩ := hp
  unfold zX3_goesWithProducts
  rw [yAR_o hE, ySt_o hE (by omega), yAR_o hE, ySt_o hE (by omega)]
  let P : Option (Int × zO) → Prop := fun o => ∃ (r : Int) (O' : zO), o = some (r, O') ∧ mtK (fun k => k = 3 ∨ k = 4) O O' e ∧ (∀ z : Nat, z < n → 0 ≤ zA (O' e) 4 z ∧ zA (O' e) 4 z < N + 1) ∧ ((r = 1 ∧ ∃ φ, zGo n T1 T2 L q h φ) ∨ (r = 0 ∧ ¬ ∃ φ, zGo n T1 T2 L q h φ))
  have k0 : mtK (fun k => k = 3 ∨ k = 4) O (oup O e (zuA (O e) 3 0 0)) e := mtK.rf.st (Or.inl rfl) _ _
  have k1 := k0.st (k := 4) (Or.inr rfl) 0 (N : Nat)
  refine iX3_goesWithProducts_l17 (I := fun v0 v1 v2 v3 v4 w => e = v0 ∧ some a1 = v1 ∧ some a2 = v2 ∧ (N : Int) = v3 ∧ mtK (fun k => k = 3 ∨ k = 4) O w e ∧ ∃ k : Nat, (k : Int) = v4 ∧ 1 ≤ k ∧ k ≤ n ∧ zA (w e) 3 0 = 0 ∧ (∀ j, j < k → ∃ y : Nat, y < n ∧ zA (w e) 3 (m j) = y ∧ ∀ φ, zGo n T1 T2 L q h φ → φ (m j) = y) ∧ (∀ z : Nat, z < n → (zA (w e) 4 z = N ↔ ∃ j, j < k ∧ zA (w e) 3 (m j) = z)) ∧ (∀ i j, i < k → j < k → zA (w e) 3 (m i) = zA (w e) 3 (m j) → i = j) ∧ ∀ z : Nat, z < n → 0 ≤ zA (w e) 4 z ∧ zA (w e) 4 z < N + 1) (μ := fun _ _ _ _ v4 _ => (n - v4).toNat) (P := P) ?_ F _ _ _ _ _ _ ⟨rfl, rfl, rfl, rfl, k1, 1, rfl, by omega, by omega, ?_, fun j hj => ⟨0, n0, ?_, fun φ hφ => ?_⟩, fun z hz => ?_, fun i j hi hj _ => by omega, fun z hz => ?_⟩ (by unfold fF at hF; omega)
  · rintro ra _ _ _ _ _ w ⟨rfl, rfl, rfl, rfl, hw, k, rfl, kk1, kk2, i0, i1, i2, i3, i4⟩ ih
    have w1 : yGp (w a1) n T1 := by rw [hw.1 a1 ne1]; exact h1
    have w2 : yGp (w a2) n T2 := by rw [hw.1 a2 ne2]; exact h2
    have w17 : zI (w a1) 7 = n := w1.1
    have w5 : zA (w e) 5 = zA (O e) 5 := hw.2.2 5 (by decide)
    unfold zX3_goesWithProducts_h17
    rw [yFI_o hK1, w17]
    by_cases c1 : k = n
    · rw [zLe_t (by omega)]
      try dsimp only
      subst c1
      -- the way, as laid down
      have im : ∀ z : Nat, z < k → ∃ y : Nat, y < k ∧ zA (w e) 3 z = y ∧ ∀ φ, zGo k T1 T2 L q h φ → φ z = y := fun z hz => by
        obtain ⟨j, hj, e2⟩ := m3 z hz
        rw [e2]; exact i1 j hj
      have iv : ∀ z : Nat, z < k → zA (w e) 3 z = ((zA (w e) 3 z).toNat : Nat) ∧ (zA (w e) 3 z).toNat < k := fun z hz => by
        obtain ⟨y, y1, y2, -⟩ := im z hz
        rw [y2]; omega
      refine iX3_goesWithProducts_l100 (I := fun v0 v1 v2 v4 w' => e = v0 ∧ some a1 = v1 ∧ some a2 = v2 ∧ w = w' ∧ ∃ x : Nat, (x : Int) = v4 ∧ x ≤ k ∧ ∀ x' i, x' < x → i < L → (zA (w e) 3 (T1 x' (q i) : Nat)).toNat = T2 (zA (w e) 3 x').toNat (h i)) (μ := fun _ _ _ v4 _ => (k - v4).toNat) (P := P) ?_ F _ _ _ _ _ ⟨rfl, rfl, rfl, rfl, 0, rfl, by omega, fun x' i hx => by omega⟩ (by unfold fF at hF; omega)
      rintro rb _ _ _ _ _ ⟨rfl, rfl, rfl, rfl, x, rfl, hx, hx2⟩ ih2
      unfold zX3_goesWithProducts_h100
      rw [yFI_o hK1, w17]
      by_cases c2 : x = k
      · rw [zLe_t (by omega)]
        subst c2
        refine ⟨1, w, rfl, hw, i4, Or.inl ⟨rfl, fun z => (zA (w e) 3 z).toNat, zGo_of G1 G2 (fun i hi => (hq i hi).2) (fun i hi => (hg i hi).2) ha ?_ (fun z hz => (iv z hz).2) (fun z z' hz hz' hh => ?_) fun z i hz hi => hx2 z i hz hi⟩⟩
        · show (zA (w e) 3 ((0 : Nat) : Int)).toNat = 0
          have : zA (w e) 3 ((0 : Nat) : Int) = 0 := i0
          rw [this]; rfl
        · obtain ⟨j, hj, e2⟩ := m3 z hz
          obtain ⟨j', hj', e2'⟩ := m3 z' hz'
          have hh : (zA (w e) 3 z).toNat = (zA (w e) 3 z').toNat := hh
          have a := iv z hz
          have b := iv z' hz'
          have := i3 j j' hj hj' (by rw [← e2, ← e2']; omega)
          rw [e2, e2', this]
      · have hxk : x < k := by omega
        rw [zLe_f (by omega)]
        refine iX3_goesWithProducts_l112 (I := fun v0 v1 v2 v4 v5 w' => e = v0 ∧ some a1 = v1 ∧ some a2 = v2 ∧ (x : Int) = v4 ∧ w = w' ∧ ∃ i : Nat, (i : Int) = v5 ∧ i ≤ L ∧ ∀ i', i' < i → (zA (w e) 3 (T1 x (q i') : Nat)).toNat = T2 (zA (w e) 3 x).toNat (h i')) (μ := fun _ _ _ _ v5 _ => (L - v5).toNat) (P := P) ?_ F _ _ _ _ _ _ ⟨rfl, rfl, rfl, rfl, rfl, 0, rfl, by omega, fun i' hi => by omega⟩ (by unfold fF at hF; omega)
        rintro rc _ _ _ _ _ _ ⟨rfl, rfl, rfl, rfl, rfl, i, rfl, hi, hi2⟩ ih3
        have we7 : zI (w e) 7 = L := by rw [hw.2.1]; exact h7
        unfold zX3_goesWithProducts_h112
        rw [yFI_o hE, we7]
        by_cases c3 : i = L
        · rw [zLe_t (by omega)]
          try dsimp only
          refine ih2 _ _ _ _ _ ⟨rfl, rfl, rfl, rfl, x + 1, by omega, by omega, fun x' i' hx' hi' => ?_⟩ (by omega)
          by_cases t : x' = x
          · rw [t]; exact hi2 i' (by omega)
          · exact hx2 x' i' (by omega) hi'
        · have hiL : i < L := by omega
          obtain ⟨g1, g2⟩ := hg i hiL
          obtain ⟨q1, q2⟩ := hq i hiL
          obtain ⟨y, y1, y2, y3⟩ := im x hxk
          have hxq := G1.2.1 _ _ hxk q2
          obtain ⟨z, z1, z2, z3⟩ := im _ hxq
          have hyh := G2.2.1 _ _ y1 g2
          rw [zLe_f (by omega), yAR_o hE, yLd_o hE (by omega), y2, yAR_o hE, yLd_o hE (by omega), w5, g1, yO_o hK2, yC1_o (w2.mul hK2 y1 g2), yAR_o hE, yAR_o hK1, yLd_o hK1 (by omega), hw.1 a1 ne1, q1, yO_o hK1, yC1_o (w1.mul hK1 hxk q2), yLd_o hE (by omega), z2]
          by_cases u : T2 y (h i) = z
          · rw [zEq_t (by omega)]
            refine ih3 _ _ _ _ _ _ ⟨rfl, rfl, rfl, rfl, rfl, i + 1, by omega, by omega, fun i' hi' => ?_⟩ (by omega)
            by_cases t : i' = i
            · rw [t, z2, y2]
              show (z : Int).toNat = T2 (y : Int).toNat (h i)
              rw [Int.toNat_natCast, Int.toNat_natCast, u]
            · exact hi2 i' (by omega)
          · rw [zEq_f (by omega)]
            refine ⟨0, w, rfl, hw, i4, Or.inr ⟨rfl, fun ⟨φ, hφ⟩ => u ?_⟩⟩
            rw [← z3 φ hφ, hφ.2.2.1 _ _ hxk q2, y3 φ hφ, hφ.2.2.2 i hiL]
    · have hkn : k < n := by omega
      obtain ⟨j0, i0', j1, j2, p1, p2, p3⟩ := m2 k kk1 hkn
      obtain ⟨y0, y1, y2, y3⟩ := i1 j0 j1
      obtain ⟨g1, g2⟩ := hg i0' j2
      obtain ⟨q1, q2⟩ := hq i0' j2
      have hy := G2.2.1 _ _ y1 g2
      obtain ⟨r1, r2⟩ := m1 k hkn
      obtain ⟨s1, s2⟩ := m1 j0 (by omega)
      have wk : ∀ t, t < 3 → zA (w e) t = zA (O e) t := fun t ht => hw.2.2 t (by omega)
      have must : ∀ φ, zGo n T1 T2 L q h φ → φ (m k) = T2 y0 (h i0') := fun φ hφ => by
        rw [p3, hφ.2.2.1 _ _ s2 q2, y3 φ hφ, hφ.2.2.2 i0' j2]
      rw [zLe_f (by omega), yAR_o hE, yAR_o hE, yLd_o hE (by omega), wk 1 (by omega), p1, yLd_o hE (by omega), y2, yAR_o hE, yAR_o hE, yLd_o hE (by omega), wk 2 (by omega), p2, yLd_o hE (by omega), w5, g1, yO_o hK2, yC1_o (w2.mul hK2 y1 g2), yAR_o hE, yLd_o hE (by omega)]
      obtain ⟨b1, b2⟩ := i4 _ hy
      by_cases u : zA (w e) 4 (T2 y0 (h i0') : Nat) = N
      · rw [zEq_t (by omega)]
        obtain ⟨j, hj, hjz⟩ := (i2 _ hy).mp u
        obtain ⟨y', y1', y2', y3'⟩ := i1 j hj
        refine ⟨0, w, rfl, hw, i4, Or.inr ⟨rfl, fun ⟨φ, hφ⟩ => ?_⟩⟩
        have e2 : φ (m j) = φ (m k) := by rw [y3' φ hφ, must φ hφ]; omega
        have := mj j k (by omega) hkn (hφ.2.1 _ _ (m1 j (by omega)).2 r2 e2)
        omega
      · have k2 := hw.st (k := 4) (Or.inr rfl) (T2 y0 (h i0') : Nat) (N : Nat)
        have k3 := k2.st (k := 3) (Or.inl rfl) (m k : Nat) (T2 y0 (h i0') : Nat)
        have rd : zA (oup w e (zuA (w e) 4 (T2 y0 (h i0') : Nat) (N : Nat)) e) 0 (k : Nat) = m k := by rw [st_ne (by decide), wk 0 (by omega)]; exact r1
        rw [zEq_f (by omega), yAR_o hE, ySt_o hE (by omega), yAR_o hE, yAR_o hE, yLd_o hE (by omega), rd, ySt_o hE (by omega)]
        have e3 : ∀ z : Int, zA (oup (oup w e (zuA (w e) 4 (T2 y0 (h i0') : Nat) (N : Nat))) e (zuA (oup w e (zuA (w e) 4 (T2 y0 (h i0') : Nat) (N : Nat)) e) 3 (m k : Nat) (T2 y0 (h i0') : Nat)) e) 3 z = zup (zA (w e) 3) (m k : Nat) (T2 y0 (h i0') : Nat) z := fun z => by rw [st_at, st_ne (by decide)]
        have e4 : ∀ z : Int, zA (oup (oup w e (zuA (w e) 4 (T2 y0 (h i0') : Nat) (N : Nat))) e (zuA (oup w e (zuA (w e) 4 (T2 y0 (h i0') : Nat) (N : Nat)) e) 3 (m k : Nat) (T2 y0 (h i0') : Nat)) e) 4 z = zup (zA (w e) 4) (T2 y0 (h i0') : Nat) (N : Nat) z := fun z => by rw [st_ne (by decide), st_at]
        have mk : ∀ j, j < k → m j ≠ m k := fun j hj t => by have := mj j k (by omega) hkn t; omega
        have ol : ∀ j, j < k → zup (zA (w e) 3) (m k : Nat) (T2 y0 (h i0') : Nat) (m j : Nat) = zA (w e) 3 (m j : Nat) := fun j hj => zup_n (by have := mk j hj; omega)
        refine ih _ _ _ _ _ _ ⟨rfl, rfl, rfl, rfl, k3, k + 1, by omega, by omega, by omega, ?_, fun j hj => ?_, fun z hz => ?_, fun i j hi hj hh => ?_, fun z hz => ?_⟩ (by omega)
        · have := mk 0 (by omega)
          rw [m0] at this
          rw [e3, zup_n (by omega)]; exact i0
        · by_cases t : j = k
          · exact ⟨_, hy, by rw [e3, t, zup_s], fun φ hφ => by rw [t]; exact must φ hφ⟩
          · obtain ⟨y', y1', y2', y3'⟩ := i1 j (by omega)
            exact ⟨y', y1', by rw [e3, ol j (by omega)]; exact y2', y3'⟩
        · rw [e4]
          by_cases t : z = T2 y0 (h i0')
          · rw [t, zup_s]
            exact ⟨fun _ => ⟨k, by omega, by rw [e3, zup_s]⟩, fun _ => rfl⟩
          · rw [zup_n (by omega), i2 z hz]
            constructor
            · rintro ⟨j, hj, hz2⟩
              exact ⟨j, by omega, by rw [e3, ol j hj]; exact hz2⟩
            · rintro ⟨j, hj, hz2⟩
              by_cases t2 : j = k
              · rw [t2, e3, zup_s] at hz2; omega
              · rw [e3, ol j (by omega)] at hz2
                exact ⟨j, by omega, hz2⟩
        · rw [e3, e3] at hh
          have nw : ∀ j, j < k → zA (w e) 3 (m j : Nat) ≠ (T2 y0 (h i0') : Nat) := fun j hj t => u ((i2 _ hy).mpr ⟨j, hj, t⟩)
          by_cases t1 : i = k
          · by_cases t2 : j = k
            · omega
            · rw [t1, zup_s, ol j (by omega)] at hh
              exact (nw j (by omega) hh.symm).elim
          · by_cases t2 : j = k
            · rw [t2, zup_s, ol i (by omega)] at hh
              exact (nw i (by omega) hh).elim
            · rw [ol i (by omega), ol j (by omega)] at hh
              exact i3 i j (by omega) (by omega) hh
        · rw [e4]
          by_cases t : z = T2 y0 (h i0')
          · rw [t, zup_s]; omega
          · rw [zup_n (by omega)]; exact i4 z hz
  · rw [st_ne (by decide), st_at]; exact zup_s _ _ _
  · rw [show j = 0 by omega, m0, st_ne (by decide), st_at]; exact zup_s _ _ _
  · rw [show j = 0 by omega, m0]; exact hφ.zero G1 G2
  · rw [st_at]
    have z3 : ∀ z : Int, zA (oup (oup O e (zuA (O e) 3 0 0)) e (zuA (oup O e (zuA (O e) 3 0 0) e) 4 0 (N : Nat)) e) 3 z = zup (zA (O e) 3) 0 0 z := fun z => by rw [st_ne (by decide), st_at]
    by_cases t : z = 0
    · rw [t, show ((0 : Nat) : Int) = 0 from rfl, zup_s]
      exact ⟨fun _ => ⟨0, by omega, by rw [z3, m0]; exact zup_s _ _ _⟩, fun _ => rfl⟩
    · rw [zup_n (by omega), st_ne (by decide)]
      constructor
      · intro hz2; have := hu z hz; omega
      · rintro ⟨j, hj, hz2⟩
        rw [show j = 0 by omega, z3, m0, show ((0 : Nat) : Int) = 0 from rfl, zup_s] at hz2
        omega
  · rw [st_at]
    by_cases t : z = 0
    · rw [t, show ((0 : Nat) : Int) = 0 from rfl, zup_s]; omega
    · rw [zup_n (by omega), st_ne (by decide)]; have := hu z hz; omega
end YGO
