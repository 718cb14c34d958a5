/-! THE MODEL'S LEAST MAKERS: its small loops -/
section LMK
variable {F g n k M E p x : Nat} {T : Nat → Nat → Nat} {w : zS} {P : Option (Int × zS) → Prop} {a1 a3 a5 : Int} {D D' : Int64}
theorem jB_ext {a b : Int64} (h : ∀ z, jB a z ↔ jB b z) : a = b := by
  refine jN_inj (Nat.eq_of_testBit_eq fun i => ?_)
  have := h i
  rw [jB_tb, jB_tb] at this
  exact Bool.eq_iff_iff.mpr this
theorem lm_172 (hF : fF F) {kk : Int → Int → Int → Int → Int → Int64 → Int64 → Int → zS → Option (Int × zS)} {s : Nat → Nat} (hk : k ≤ 5) (hp : p < 6000) (hs : ∀ i : Nat, i < k → zA w 19 (8 * (p : Int) + i) = s i) (K : ∀ f : Int → Int, (∀ i : Nat, i < k → f i = s i) → P (kk a1 a3 k E p D D' x (zwA w 12 f))) : P (zX7_leastMakers_l172 F kk F a1 a3 (k : Nat) (E : Nat) (p : Nat) D D' (x : Nat) 0 w) := by
  rw [show w = zwA w 12 (zA w 12) from (zwA_e w 12).symm]
  refine iX7_leastMakers_l172 (I := fun v1 v3 v4 v6 v7 v8 v10 v12 v14 w' => a1 = v1 ∧ a3 = v3 ∧ (k : Int) = v4 ∧ (E : Int) = v6 ∧ (p : Int) = v7 ∧ D = v8 ∧ D' = v10 ∧ (x : Int) = v12 ∧ ∃ (j : Nat) (f : Int → Int), (j : Int) = v14 ∧ j ≤ k ∧ zwA w 12 f = w' ∧ ∀ i : Nat, i < j → f i = s i) (μ := fun _ _ _ _ _ _ _ _ v14 _ => (k - v14).toNat) (P := P) ?_ F _ _ _ _ _ _ _ _ _ _ ⟨rfl, rfl, rfl, rfl, rfl, rfl, rfl, rfl, 0, _, rfl, by omega, rfl, fun i hi => by omega⟩ (by unfold fF at hF; omega)
  rintro ra _ _ _ _ _ _ _ _ _ _ ⟨rfl, rfl, rfl, rfl, rfl, rfl, rfl, rfl, j, f, rfl, hj, rfl, hf⟩ ih
  unfold zX7_leastMakers_h172
  by_cases c : j = k
  · rw [zLe_t (by omega)]
    exact K f (by rw [← c]; exact hf)
  · have e : zA (zwA w 12 f) 19 = zA w 19 := zwA_n (by decide)
    rw [zLe_f (by omega), zLd_o (by omega), zSt_o (by omega), zwA_u, e, hs j (by omega)]
    refine ih _ _ _ _ _ _ _ _ _ _ ⟨rfl, rfl, rfl, rfl, rfl, rfl, rfl, rfl, j + 1, _, by omega, by omega, rfl, fun i hi => ?_⟩ (by omega)
    by_cases c2 : i = j
    · rw [c2, zup_s]
    · rw [zup_n (by omega)]; exact hf i (by omega)
theorem lm_267 (hF : fF F) {kk : Int → Int → Int → Int → Int → Int → Int64 → Int64 → Int → Int → zS → Option (Int × zS)} (hME : M ≤ E) (hE : E ≤ 6000) (K : ∀ t : Int, ((t = 0 ∧ ∀ q : Nat, M ≤ q → q < E → ¬ (zB w 17 q = zJ w 15 ∧ zB w 18 q = zJ w 16)) ∨ (t = 1 ∧ ∃ q : Nat, M ≤ q ∧ q < E ∧ zB w 17 q = zJ w 15 ∧ zB w 18 q = zJ w 16)) → P (kk a1 M k a5 E p D D' x t w)) : P (zX7_leastMakers_l267 F kk F a1 (M : Nat) (k : Nat) a5 (E : Nat) (p : Nat) D D' (x : Nat) 0 (M : Nat) w) := by
  refine iX7_leastMakers_l267 (I := fun v1 v3 v4 v5 v6 v7 v8 v10 v12 v14 v15 w' => a1 = v1 ∧ (M : Int) = v3 ∧ (k : Int) = v4 ∧ a5 = v5 ∧ (E : Int) = v6 ∧ (p : Int) = v7 ∧ D = v8 ∧ D' = v10 ∧ (x : Int) = v12 ∧ w = w' ∧ ∃ q : Nat, (q : Int) = v15 ∧ M ≤ q ∧ q ≤ E ∧ ((v14 = 0 ∧ ∀ q' : Nat, M ≤ q' → q' < q → ¬ (zB w 17 q' = zJ w 15 ∧ zB w 18 q' = zJ w 16)) ∨ (v14 = 1 ∧ ∃ q : Nat, M ≤ q ∧ q < E ∧ zB w 17 q = zJ w 15 ∧ zB w 18 q = zJ w 16))) (μ := fun _ _ _ _ _ _ _ _ _ _ v15 _ => (E - v15).toNat) (P := P) ?_ F _ _ _ _ _ _ _ _ _ _ _ _ ⟨rfl, rfl, rfl, rfl, rfl, rfl, rfl, rfl, rfl, rfl, M, rfl, by omega, hME, Or.inl ⟨rfl, fun q' h1 h2 => by omega⟩⟩ (by unfold fF at hF; omega)
  rintro ra _ _ _ _ _ _ _ _ _ v14 _ _ ⟨rfl, rfl, rfl, rfl, rfl, rfl, rfl, rfl, rfl, rfl, q, rfl, hq1, hq2, hI⟩ ih
  unfold zX7_leastMakers_h267 zX7_leastMakers_b309 zX7_leastMakers_b313 zX7_leastMakers_b314
  by_cases c : q = E
  · rw [zLe_t (by omega)]
    refine K v14 ?_
    rcases hI with ⟨h1, h2⟩ | h
    · exact Or.inl ⟨h1, by rw [← c]; exact h2⟩
    · exact Or.inr h
  · rw [zLe_f (by omega)]
    have yes : (∃ q : Nat, M ≤ q ∧ q < E ∧ zB w 17 q = zJ w 15 ∧ zB w 18 q = zJ w 16) → P (ra a1 M k a5 E p D D' x 1 ((q : Int) + 1) w) := fun h => ih _ _ _ _ _ _ _ _ _ _ _ _ ⟨rfl, rfl, rfl, rfl, rfl, rfl, rfl, rfl, rfl, rfl, q + 1, by omega, by omega, by omega, Or.inr ⟨rfl, h⟩⟩ (by omega)
    rcases hI with ⟨h1, h2⟩ | ⟨h1, h2⟩
    · have no : ¬ (zB w 17 q = zJ w 15 ∧ zB w 18 q = zJ w 16) → P (ra a1 M k a5 E p D D' x 0 ((q : Int) + 1) w) := fun h => ih _ _ _ _ _ _ _ _ _ _ _ _ ⟨rfl, rfl, rfl, rfl, rfl, rfl, rfl, rfl, rfl, rfl, q + 1, by omega, by omega, by omega, Or.inl ⟨rfl, fun q' h3 h4 => by
        by_cases t : q' = q
        · rw [t]; exact h
        · exact h2 q' h3 (by omega)⟩⟩ (by omega)
      rw [zEq_t (by omega), zLJ_o (by omega)]
      by_cases d1 : zB w 17 q = zJ w 15
      · rw [if_pos ((lg_cmp_eq _ _).mpr d1), zLJ_o (by omega)]
        by_cases d2 : zB w 18 q = zJ w 16
        · rw [if_pos ((lg_cmp_eq _ _).mpr d2)]
          exact yes ⟨q, hq1, by omega, d1, d2⟩
        · rw [if_neg (fun u => d2 ((lg_cmp_eq _ _).mp u))]
          exact no fun u => d2 u.2
      · rw [if_neg (fun u => d1 ((lg_cmp_eq _ _).mp u))]
        exact no fun u => d1 u.1
    · rw [zEq_f (by omega)]
      exact yes h2
theorem lm_352 (hF : fF F) {kk : Int → Int → Int → Int → Int → Int → Int64 → Int64 → Int → zS → Option (Int × zS)} (hk : k ≤ 5) (hE : E < 6000) (K : ∀ f : Int → Int, (∀ i : Nat, i < k + 1 → f (8 * (E : Int) + i) = zA w 12 i) → (∀ j : Int, j < 8 * (E : Int) → f j = zA w 19 j) → P (kk a1 a3 k a5 E p D D' x (zwA w 19 f))) : P (zX7_leastMakers_l352 F kk F a1 a3 (k : Nat) a5 (E : Nat) (p : Nat) D D' (x : Nat) 0 w) := by
  rw [show w = zwA w 19 (zA w 19) from (zwA_e w 19).symm]
  refine iX7_leastMakers_l352 (I := fun v1 v3 v4 v5 v6 v7 v8 v10 v12 v15 w' => a1 = v1 ∧ a3 = v3 ∧ (k : Int) = v4 ∧ a5 = v5 ∧ (E : Int) = v6 ∧ (p : Int) = v7 ∧ D = v8 ∧ D' = v10 ∧ (x : Int) = v12 ∧ ∃ (j : Nat) (f : Int → Int), (j : Int) = v15 ∧ j ≤ k + 1 ∧ zwA w 19 f = w' ∧ (∀ i : Nat, i < j → f (8 * (E : Int) + i) = zA w 12 i) ∧ ∀ j : Int, j < 8 * (E : Int) → f j = zA w 19 j) (μ := fun _ _ _ _ _ _ _ _ _ v15 _ => (k + 1 - v15).toNat) (P := P) ?_ F _ _ _ _ _ _ _ _ _ _ _ ⟨rfl, rfl, rfl, rfl, rfl, rfl, rfl, rfl, rfl, 0, _, rfl, by omega, rfl, fun i hi => by omega, fun _ _ => rfl⟩ (by unfold fF at hF; omega)
  rintro ra _ _ _ _ _ _ _ _ _ _ _ ⟨rfl, rfl, rfl, rfl, rfl, rfl, rfl, rfl, rfl, j, f, rfl, hj, rfl, hf, hf2⟩ ih
  unfold zX7_leastMakers_h352
  by_cases c : j = k + 1
  · rw [zLt_t (by omega)]
    exact K f (by rw [← c]; exact hf) hf2
  · have e : zA (zwA w 19 f) 12 = zA w 12 := zwA_n (by decide)
    rw [zLt_f (by omega), zLd_o (by omega), zSt_o (by omega), zwA_u, e]
    refine ih _ _ _ _ _ _ _ _ _ _ _ ⟨rfl, rfl, rfl, rfl, rfl, rfl, rfl, rfl, rfl, j + 1, _, by omega, by omega, rfl, fun i hi => ?_, fun i hi => ?_⟩ (by omega)
    · by_cases c2 : i = j
      · rw [c2, zup_s]
      · rw [zup_n (by omega)]; exact hf i (by omega)
    · rw [zup_n (by omega)]; exact hf2 i hi
end LMK
