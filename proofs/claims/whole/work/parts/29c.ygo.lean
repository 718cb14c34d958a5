/-! THE CLASS'S MATCHING: whether a row goes with products -/
section YGO
variable {F e a1 a2 n L N : Nat} {C : yC} {O w : zO} {T1 T2 : Nat → Nat → Nat} {q h : Nat → Nat}
theorem lpI.k {S S' : zS} (h : lpI n T1 L q S) (h0 : zA S' 0 = zA S 0) (h1 : zA S' 1 = zA S 1) (h2 : zA S' 2 = zA S 2) : lpI n T1 L q S' := by
  unfold lpI; rw [h0, h1, h2]; exact h
theorem y_goesWith (hF : fF F) (hE : C.1 e = some (3, 0)) (hK1 : C.1 a1 = some (2, 0)) (hK2 : C.1 a2 = some (2, 0)) (h1 : yGp (O a1) n T1) (h2 : yGp (O a2) n T2) (hL : L ≤ 5) (h7 : zI (O e) 7 = L) (hq : ∀ i : Nat, i < L → zA (O a1) 5 i = q i ∧ q i < n) (hg : ∀ i : Nat, i < L → zA (O e) 5 i = h i ∧ h i < n) (hp : lpI n T1 L q (O e)) (ha : zAll n T1 L q) (hN : 1 ≤ N ∧ N ≤ 30000) (hu : ∀ z : Nat, z < n → 0 ≤ zA (O e) 4 z ∧ zA (O e) 4 z < N) : ∃ (r : Int) (O' : zO), zX3_goesWithProducts F C e (some a1) (some a2) (N : Nat) O = some (r, O') ∧ mtK (fun k => k = 3 ∨ k = 4) O O' e ∧ (∀ z : Nat, z < n → 0 ≤ zA (O' e) 4 z ∧ zA (O' e) 4 z < N + 1) ∧ ((r = 1 ∧ ∃ φ, zGo n T1 T2 L q h φ) ∨ (r = 0 ∧ ¬ ∃ φ, zGo n T1 T2 L q h φ)) := by
  have ne1 : a1 ≠ e := fun u => by rw [u, hE] at hK1; cases hK1
  have ne2 : a2 ≠ e := fun u => by rw [u, hE] at hK2; cases hK2
  have hn := h1.2.1
  have G1 := h1.2.2.1
  have G2 := h2.2.2.1
  have n0 := G1.1
  obtain ⟨m, m0, mj, m1, m2, m3⟩ := hp
  unfold zX3_goesWithProducts
  rw [yAR_o hE, ySt_o hE (by omega), yAR_o hE, ySt_o hE (by omega)]
  let P : Option (Int × zO) → Prop := fun o => ∃ (r : Int) (O' : zO), o = some (r, O') ∧ mtK (fun k => k = 3 ∨ k = 4) O O' e ∧ (∀ z : Nat, z < n → 0 ≤ zA (O' e) 4 z ∧ zA (O' e) 4 z < N + 1) ∧ ((r = 1 ∧ ∃ φ, zGo n T1 T2 L q h φ) ∨ (r = 0 ∧ ¬ ∃ φ, zGo n T1 T2 L q h φ))
  have k0 : mtK (fun k => k = 3 ∨ k = 4) O (oup O e (zuA (O e) 3 0 0)) e := mtK.rf.st (Or.inl rfl) _ _
  have k1 := k0.st (k := 4) (Or.inr rfl) 0 (N : Nat)
  refine iX3_goesWithProducts_l17 (I := fun v0 v1 v2 v3 v4 w => e = v0 ∧ some a1 = v1 ∧ some a2 = v2 ∧ (N : Int) = v3 ∧ mtK (fun k => k = 3 ∨ k = 4) O w e ∧ ∃ k : Nat, (k : Int) = v4 ∧ 1 ≤ k ∧ k ≤ n ∧ (∀ j, j < k → ∃ y : Nat, y < n ∧ zA (w e) 3 (m j) = y ∧ ∀ φ, zGo n T1 T2 L q h φ → φ (m j) = y) ∧ (∀ z : Nat, z < n → (zA (w e) 4 z = N ↔ ∃ j, j < k ∧ zA (w e) 3 (m j) = z)) ∧ (∀ i j, i < k → j < k → zA (w e) 3 (m i) = zA (w e) 3 (m j) → i = j) ∧ ∀ z : Nat, z < n → 0 ≤ zA (w e) 4 z ∧ zA (w e) 4 z < N + 1) (μ := fun _ _ _ _ v4 _ => (n - v4).toNat) (P := P) ?_ F _ _ _ _ _ _ ⟨rfl, rfl, rfl, rfl, k1, 1, rfl, by omega, by omega, fun j hj => ⟨0, n0, ?_, fun φ hφ => ?_⟩, fun z hz => ?_, fun i j hi hj _ => by omega, fun z hz => ?_⟩ (by unfold fF at hF; omega)
  · rintro ra _ _ _ _ _ w ⟨rfl, rfl, rfl, rfl, hw, k, rfl, kk1, kk2, i1, i2, i3, i4⟩ ih
    have w1 : yGp (w a1) n T1 := by rw [hw.1 a1 ne1]; exact h1
    have w2 : yGp (w a2) n T2 := by rw [hw.1 a2 ne2]; exact h2
    have w17 : zI (w a1) 7 = n := w1.1
    have w5 : zA (w e) 5 = zA (O e) 5 := hw.2.2 5 (by decide)
    unfold zX3_goesWithProducts_h17
    rw [yFI_o hK1, w17]
    by_cases c1 : k = n
    · rw [zLe_t (by omega)]
      try dsimp only
      subst c1
      -- the way, as laid down
      have im : ∀ z : Nat, z < k → ∃ y : Nat, y < k ∧ zA (w e) 3 z = y ∧ ∀ φ, zGo k T1 T2 L q h φ → φ z = y := fun z hz => by
        obtain ⟨j, hj, e2⟩ := m3 z hz
        rw [e2]; exact i1 j hj
      have iv : ∀ z : Nat, z < k → zA (w e) 3 z = ((zA (w e) 3 z).toNat : Nat) ∧ (zA (w e) 3 z).toNat < k := fun z hz => by
        obtain ⟨y, y1, y2, -⟩ := im z hz
        rw [y2]; omega
      refine iX3_goesWithProducts_l100 (I := fun v0 v1 v2 v4 w' => e = v0 ∧ some a1 = v1 ∧ some a2 = v2 ∧ w = w' ∧ ∃ x : Nat, (x : Int) = v4 ∧ x ≤ k ∧ ∀ x' i, x' < x → i < L → (zA (w e) 3 (T1 x' (q i) : Nat)).toNat = T2 (zA (w e) 3 x').toNat (h i)) (μ := fun _ _ _ v4 _ => (k - v4).toNat) (P := P) ?_ F _ _ _ _ _ ⟨rfl, rfl, rfl, rfl, 0, rfl, by omega, fun x' i hx => by omega⟩ (by unfold fF at hF; omega)
      rintro rb _ _ _ _ _ ⟨rfl, rfl, rfl, rfl, x, rfl, hx, hx2⟩ ih2
      unfold zX3_goesWithProducts_h100
      rw [yFI_o hK1, w17]
      by_cases c2 : x = k
      · rw [zLe_t (by omega)]
        subst c2
        refine ⟨1, w, rfl, hw, i4, Or.inl ⟨rfl, fun z => (zA (w e) 3 z).toNat, zGo_of G1 G2 (fun i hi => (hq i hi).2) (fun i hi => (hg i hi).2) ha ?_ (fun z hz => (iv z hz).2) (fun z z' hz hz' hh => ?_) fun z i hz hi => hx2 z i hz hi⟩⟩
        · -- 0 goes to 0
          obtain ⟨y, y1, y2, -⟩ := i1 0 (by omega)
          rw [m0] at y2
          by_cases L0 : L = 0
          · have : x = 1 := by
              refine Nat.le_antisymm (Nat.le_of_not_lt fun t => ?_) n0
              have := ha 1 t (fun a => a = 0) rfl fun a s _ ⟨i, hi, _⟩ => by omega
              omega
            show (zA (w e) 3 ((0 : Nat) : Int)).toNat = 0
            rw [y2]; omega
          · sorry
        · obtain ⟨j, hj, e2⟩ := m3 z hz
          obtain ⟨j', hj', e2'⟩ := m3 z' hz'
          have hh : (zA (w e) 3 z).toNat = (zA (w e) 3 z').toNat := hh
          have a := iv z hz
          have b := iv z' hz'
          have := i3 j j' hj hj' (by rw [← e2, ← e2']; omega)
          rw [e2, e2', this]
      · sorry
    · sorry
  · sorry
  · sorry
  · sorry
  · sorry
end YGO
