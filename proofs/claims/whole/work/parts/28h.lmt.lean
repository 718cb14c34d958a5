/-! THE MODEL'S LEAST MAKERS: the least number of makers -/
def zLst (n : Nat) (T : Nat → Nat → Nat) (L : Nat) : Prop := (∃ q : Nat → Nat, (∀ i, i < L → q i < n) ∧ zAll n T L q) ∧ ∀ m (q : Nat → Nat), m < L → (∀ i, i < m → q i < n) → ¬ zAll n T m q
/-- all but the scratch cells stays, and the number of makers is kept -/
def lmF (Z Z1 : zS) (g L : Nat) : Prop := (∀ k, (k < 12 ∨ 22 < k) → k ≠ 3 → zA Z1 k = zA Z k) ∧ (∀ k, k ≠ 14 → zI Z1 k = zI Z k) ∧ zA Z1 3 = zup (zA Z 3) g L
section LMT
variable {F g n k M N E p x : Nat} {T : Nat → Nat → Nat} {Z w w1 : zS} {P : Option (Int × zS) → Prop} {s r : Nat → Nat → Nat}
theorem lm_67 (hF : fF F) (h : yG Z g n T) (hk : k ≤ 4) {k400 : Int → Int → Int → Int → Int → zS → Option (Int × zS)} (hw : scF Z w) (hC : lmC n T w k M 0 s r) (K : ∀ w' N r v5, scF Z w' → lmC n T w' k M N s r → lmD n T k M N s r M v5 → P (k400 g M k v5 (M + N : Nat) w')) : P (zX7_leastMakers_l67 F k400 F (g : Nat) (M : Nat) (k : Nat) 0 (M : Nat) 0 w) := by
  have hM5 := lvB_le k
  have hM := hC.1.2.1
  refine iX7_leastMakers_l67 (I := fun v1 v3 v4 v5 v6 v7 w => (g : Int) = v1 ∧ (M : Int) = v3 ∧ (k : Int) = v4 ∧ scF Z w ∧ ∃ (N p : Nat) (r : Nat → Nat → Nat), ((M + N : Nat) : Int) = v6 ∧ (p : Int) = v7 ∧ p ≤ M ∧ lmC n T w k M N s r ∧ lmD n T k M N s r p v5) (μ := fun _ _ _ _ _ v7 _ => (M - v7).toNat) (P := P) ?_ F _ _ _ _ _ _ _ ⟨rfl, rfl, rfl, hw, 0, 0, r, rfl, rfl, by omega, hC, Or.inl ⟨rfl, fun j hj => by omega, fun p' hp' => by omega⟩⟩ (by unfold fF at hF; omega)
  rintro ra _ _ _ v5 _ _ w ⟨rfl, rfl, rfl, hw, N, p, r, rfl, rfl, hp, hC, hD⟩ ih
  unfold zX7_leastMakers_h67
  by_cases c : p = M
  · rw [zLe_t (by omega)]
    exact K w N r v5 hw hC (by rw [c] at hD; exact hD)
  · rw [zLe_f (by omega)]
    have hD0 := hD
    rcases hD with ⟨rfl, q⟩ | ⟨rfl, q⟩
    · obtain ⟨l1, l2, l3⟩ := (hC.2.1 p (by omega)).1
      rw [zEq_t (by omega), zLJ_o (by omega), zLJ_o (by omega), l3]
      refine lm_99 (p := p) hF h hk hw hC (by omega) hD0 l2 fun w' N' r' v5 h1 h2 h3 => ?_
      unfold zX7_leastMakers_b394
      exact ih _ _ _ _ _ _ _ ⟨rfl, rfl, rfl, h1, N', p + 1, r', rfl, by omega, by omega, h2, h3⟩ (by omega)
    · rw [zEq_f (by omega)]
      exact K w N r 1 hw hC (Or.inr ⟨rfl, q⟩)
theorem lm_56 (hF : fF F) (h : yG Z g n T) {k505 : Int → Int → zS → Option (Int × zS)} {b : Int} (hw : scF Z w) (h0 : lmE T w 0 0 (fun _ => 0)) (hb : (b = 0 ∧ n ≠ 1) ∨ (b = 1 ∧ n = 1)) (K : ∀ w' L, scF Z w' → zLst n T L → P (k505 g (L : Nat) w')) : P (zX7_leastMakers_l56 F k505 F (g : Nat) 0 1 0 b w) := by
  have hb0 := h.b
  have G := h.G
  have no : ∀ k M (s : Nat → Nat → Nat), (∀ j, j < M → (∀ i, i < k → s j i < n) ∧ ¬ zAll n T k (s j)) → (∀ q : Nat → Nat, (∀ i, i < k → q i < n) → ∃ p, p < M ∧ ∀ i, i < k → zGen T (zRow k (s p)) (q i)) → ∀ q : Nat → Nat, (∀ i, i < k → q i < n) → ¬ zAll n T k q := fun k M s h1 h2 q hq ha => by
    obtain ⟨p, p1, p2⟩ := h2 q hq
    refine (h1 p p1).2 fun z hz => ?_
    exact zGen.le G (zRow_lt (h1 p p1).1) (fun s' ⟨i, hi, e⟩ => by rw [e]; exact p2 i hi) (ha z hz)
  refine iX7_leastMakers_l56 (I := fun v1 v2 v3 v4 v5 w => (g : Int) = v1 ∧ 0 = v2 ∧ scF Z w ∧ ((v5 = 0 ∧ ∃ (k M : Nat) (s : Nat → Nat → Nat), (k : Int) = v4 ∧ (M : Int) = v3 ∧ (lvl n T k M s ∧ M ≤ lvB k ∧ 0 < M) ∧ (∀ j, j < M → lmE T w k j (s j) ∧ ¬ zAll n T k (s j)) ∧ (∀ q : Nat → Nat, (∀ i, i < k → q i < n) → ∃ p, p < M ∧ ∀ i, i < k → zGen T (zRow k (s p)) (q i)) ∧ ∀ m (q : Nat → Nat), m < k → (∀ i, i < m → q i < n) → ¬ zAll n T m q) ∨ (v5 = 1 ∧ ∃ L : Nat, v4 = L ∧ zLst n T L))) (μ := fun _ _ _ v4 _ _ => (10 - v4).toNat) (P := P) ?_ F _ _ _ _ _ _ ⟨rfl, rfl, hw, ?_⟩ (by unfold fF at hF; omega)
  · rintro ra _ _ _ v4 _ w ⟨rfl, rfl, hw, hI⟩ ih
    unfold zX7_leastMakers_h56
    rcases hI with ⟨rfl, k, M, s, rfl, rfl, i1, i2, i3, i4⟩ | ⟨rfl, L, rfl, hL⟩
    · have hk : k ≤ 4 := lv_k G hb0.1 (i1.1.1 0 i1.2.2).1 (i1.1.1 0 i1.2.2).2 (i2 0 i1.2.2).2
      rw [zEq_t (by omega)]
      refine lm_67 (k := k) (M := M) (s := s) (r := fun _ _ => 0) hF h hk hw ⟨i1, i2, ⟨fun j hj => by omega, fun i j hi => by omega⟩, fun j hj => by omega⟩ fun w' N r v5 h1 h2 h3 => ?_
      unfold zX7_leastMakers_b400
      have hB := lvl_next G hb0.1 hk h2.1.1 h2.1.2.1 h2.2.2.1 (fun j hj => (h2.2.2.2 j hj).2)
      have hS := lvB_sum k
      have hM := i1.2.1
      have nk := no k M s (fun j hj => ⟨(i1.1.1 j hj).1, (i2 j hj).2⟩) i3
      have i5 : ∀ m (q : Nat → Nat), m < k + 1 → (∀ i, i < m → q i < n) → ¬ zAll n T m q := fun m q hm hq => by
        by_cases c : m = k
        · subst c; exact nk q hq
        · exact i4 m q (by omega) hq
      refine lm_403 (k := k + 1) (M := M) (N := N) (r := r) hF (by omega) i1.2.2 (by omega) (fun j hj => (h2.2.2.2 j hj).1) fun w3 f1 f2 => ?_
      try dsimp only
      rw [show ((M + N : Nat) : Int) - (M : Nat) = (N : Nat) by omega, show ((k : Nat) : Int) + 1 = ((k + 1 : Nat) : Int) by omega]
      refine ih _ _ _ _ _ _ ⟨rfl, rfl, h1.tr f1, ?_⟩ (by omega)
      rcases h3 with ⟨rfl, t1, t2⟩ | ⟨rfl, j, j1, j2⟩
      · refine Or.inl ⟨rfl, k + 1, N, r, rfl, rfl, ⟨h2.2.2.1, hB, ?_⟩, fun j hj => ⟨f2 j hj, t1 j hj⟩, fun q hq => ?_, i5⟩
        · obtain ⟨j, hj, -⟩ := t2 0 i1.2.2 0 G.1
          omega
        · obtain ⟨p, p1, p2⟩ := i3 q (fun i hi => hq i (by omega))
          obtain ⟨j, j1, j2, j3⟩ := t2 p p1 (q k) (hq k (by omega))
          refine ⟨j, j1, fun i hi => ?_⟩
          by_cases c : i = k
          · rw [c]; exact j3
          · exact zGen.le G (zRow_lt (h2.2.2.1.1 j j1).1) (fun s' ⟨i, hi, e⟩ => by rw [e]; exact j2 i hi) (p2 i (by omega))
      · exact Or.inr ⟨rfl, k + 1, rfl, ⟨r j, (h2.2.2.1.1 j j1).1, j2⟩, i5⟩
    · rw [zEq_f (by omega)]
      exact K w L hw hL
  · rcases hb with ⟨rfl, hn1⟩ | ⟨rfl, hn1⟩
    · refine Or.inl ⟨rfl, 0, 1, fun _ _ => 0, rfl, rfl, ⟨⟨fun j hj => ⟨fun i hi => by omega, fun i hi => by omega⟩, fun i j hi hj _ => by omega⟩, Nat.le_refl _, by omega⟩, fun j hj => ⟨?_, fun ha => ?_⟩, fun q hq => ⟨0, by omega, fun i hi => by omega⟩, fun m q hm => by omega⟩
      · rw [show j = 0 by omega]; exact h0
      · have := ha 1 (by omega) (fun a => a = 0) rfl fun a s' _ ⟨i, hi, _⟩ => by omega
        omega
    · refine Or.inr ⟨rfl, 0, rfl, ⟨fun _ => 0, fun i hi => by omega, fun z hz => ?_⟩, fun m q hm => by omega⟩
      rw [show z = 0 by omega]; exact zGen.zero
theorem y_leastMakers (hF : fF F) (h : yG Z g n T) (hc : zA Z 3 g = -4 ∨ ∃ L : Nat, zA Z 3 g = L ∧ L ≤ 5 ∧ zLst n T L) : ∃ (L : Nat) (Z1 : zS), zX7_leastMakers F (g : Nat) Z = some ((L : Int), Z1) ∧ zLst n T L ∧ lmF Z Z1 g L := by
  have hb := h.b
  unfold zX7_leastMakers
  rw [zLd_o (by omega)]
  rcases hc with hc | ⟨L, hc, h5, hL⟩
  · rw [hc, zEq_t (by omega), zSJ_o (by omega), zSJ_o (by omega)]
    have hw : scF Z (zuB (zuB Z 17 0 1) 18 0 0) := (scF.rf.B _ _ _).B _ _ _
    rw [h.sz]
    have h0 : lmE T (zuB (zuB Z 17 0 1) 18 0 0) 0 0 (fun _ => 0) := by
      refine ⟨fun i hi => by omega, fun z => ?_, rfl⟩
      show jB 1 z ↔ _
      rw [jB_1]
      constructor
      · intro e; rw [e]; exact zGen.zero
      · intro e; exact e (fun a => a = 0) rfl fun a s' _ ⟨i, hi, _⟩ => by omega
    have key : ∀ b : Int, ((b = 0 ∧ n ≠ 1) ∨ (b = 1 ∧ n = 1)) → ∃ (L : Nat) (Z1 : zS), zX7_leastMakers_b54 F (g : Nat) 0 1 0 b (zuB (zuB Z 17 0 1) 18 0 0) = some ((L : Int), Z1) ∧ zLst n T L ∧ lmF Z Z1 g L := fun b hb2 => by
      unfold zX7_leastMakers_b54
      refine lm_56 (P := fun q => ∃ (L : Nat) (Z1 : zS), q = some ((L : Int), Z1) ∧ zLst n T L ∧ lmF Z Z1 g L) hF h hw h0 hb2 fun w' L h1 h2 => ?_
      try dsimp only
      rw [zSt_o (by omega)]
      refine ⟨L, _, rfl, h2, fun k hk k3 => ?_, h1.2, ?_⟩
      · rw [zA_uA, if_neg k3]; exact h1.1 k hk
      · rw [zA_uA, if_pos rfl, h1.1 3 (by omega)]
    by_cases c : n = 1
    · rw [zEq_t (by omega)]
      exact key 1 (Or.inr ⟨rfl, c⟩)
    · rw [zEq_f (by omega)]
      exact key 0 (Or.inl ⟨rfl, c⟩)
  · rw [hc, zEq_f (by omega), zLd_o (by omega), hc]
    refine ⟨L, Z, rfl, hL, fun _ _ _ => rfl, fun _ _ => rfl, ?_⟩
    funext i
    by_cases q : i = g
    · rw [q, zup_s, hc]
    · rw [zup_n q]
end LMT
