/-! THE MODEL'S LEAST MAKERS: a part in the list; the lists of two lengths -/
def lmE (T : Nat → Nat → Nat) (w : zS) (k q : Nat) (g : Nat → Nat) : Prop := (∀ i : Nat, i < k → zA w 19 (8 * (q : Int) + i) = g i) ∧ (∀ z, jB (zB w 17 q) z ↔ zGen T (zRow k g) z) ∧ zB w 18 q = 0
def lmC (n : Nat) (T : Nat → Nat → Nat) (w : zS) (k M N : Nat) (s r : Nat → Nat → Nat) : Prop := (lvl n T k M s ∧ M ≤ lvB k ∧ 0 < M) ∧ (∀ j, j < M → lmE T w k j (s j) ∧ ¬ zAll n T k (s j)) ∧ lvl n T (k + 1) N r ∧ ∀ j, j < N → lmE T w (k + 1) (M + j) (r j) ∧ ∃ p, p < M ∧ ∀ i, i < k → r j i = s p i
def lmA (r : Nat → Nat → Nat) (N : Nat) (g : Nat → Nat) (j : Nat) : Nat → Nat := if j = N then g else r j
section LML
variable {F g n k M N E p x d : Nat} {T : Nat → Nat → Nat} {Z w w1 : zS} {P : Option (Int × zS) → Prop} {a1 a3 a5 : Int} {D D' : Int64} {s r : Nat → Nat → Nat} {gg : Nat → Nat}
theorem lmE.of (h : lmE T w k d gg) (e : zA w1 19 = zA w 19) (eB : zB w1 = zB w) : lmE T w1 k d gg := by
  unfold lmE; rw [e, eB]; exact h
theorem lmC.of (h : lmC n T w k M N s r) (e : zA w1 19 = zA w 19) (eB : zB w1 = zB w) : lmC n T w1 k M N s r := ⟨h.1, fun j hj => ⟨(h.2.1 j hj).1.of e eB, (h.2.1 j hj).2⟩, h.2.2.1, fun j hj => ⟨(h.2.2.2 j hj).1.of e eB, (h.2.2.2 j hj).2⟩⟩
theorem lvB_sum (k : Nat) : lvB k + lvB (k + 1) ≤ 6000 := by
  rcases k with _ | _ | _ | _ | _ | k
  · decide
  · decide
  · decide
  · decide
  · decide
  · show 1 + 1 ≤ 6000
    omega
theorem lvB_le (k : Nat) : lvB k ≤ 5999 := by
  rcases k with _ | _ | _ | _ | _ | k
  · decide
  · decide
  · decide
  · decide
  · decide
  · show 1 ≤ 5999
    omega
/-- a proper part of so many makers: how many there may be -/
theorem lv_k (G : zGrp n T) (hn : n ≤ 48) {q : Nat → Nat} (hq : ∀ i, i < k → q i < n) (hc : zChn T k q) (hp : ¬ zAll n T k q) : k ≤ 4 := by
  have cd := zChn_card G hq hc
  obtain ⟨c, hc⟩ := zLag G (zGen.sbg G (zRow_lt hq))
  have : 2 ^ k * 2 ≤ 48 := by
    rcases c with _ | _ | c
    · rw [Nat.mul_zero] at hc; have := G.1; omega
    · exfalso
      refine hp fun z hz => ?_
      exact nC_fu (P := zGen T (zRow k q)) (by omega) z hz
    · have := Nat.mul_le_mul cd (show 2 ≤ c + 1 + 1 by omega)
      omega
  refine Nat.le_of_not_lt fun h => ?_
  have : 2 ^ 5 ≤ 2 ^ k := Nat.pow_le_pow_right (by omega) h
  have t : (2 : Nat) ^ 5 = 32 := rfl
  omega
theorem zChn_put {q : Nat → Nat} (hc : zChn T k q) (hx : ¬ zGen T (zRow k q) x) : zChn T (k + 1) (zPut q k x) := by
  intro i hi h
  by_cases c : i = k
  · rw [c, zPut_s] at h
    refine hx (h.mono ?_)
    rintro t ⟨j, hj, e⟩
    exact ⟨j, hj, by rw [e, zPut_n (by omega)]⟩
  · rw [zPut_n c] at h
    refine hc i (by omega) (h.mono ?_)
    rintro t ⟨j, hj, e⟩
    exact ⟨j, hj, by rw [e, zPut_n (by omega)]⟩
/-- a new part comes into the list -/
theorem lm_app (G : zGrp n T) (hn : n ≤ 48) (hk : k ≤ 4) (h : lmC n T w k M N s r) (hp : p < M) (hx : x < n) (hxs : ¬ zGen T (zRow k (s p)) x) (hnew : ∀ j, j < N → ¬ ∀ z, zGen T (zRow (k + 1) (r j)) z ↔ zGen T (zRow (k + 1) (zPut (s p) k x)) z) : lvl n T (k + 1) (N + 1) (lmA r N (zPut (s p) k x)) ∧ (∀ j, j < N + 1 → ∃ p', p' < M ∧ ∀ i, i < k → lmA r N (zPut (s p) k x) j i = s p' i) ∧ M + N < 6000 := by
  obtain ⟨⟨h1, h2, h3⟩, h4, h5, h6⟩ := h
  have eN : ∀ q : Nat → Nat, lmA r N q N = q := fun q => if_pos rfl
  have eo : ∀ (q : Nat → Nat) j, j ≠ N → lmA r N q j = r j := fun q j hj => if_neg hj
  have L : lvl n T (k + 1) (N + 1) (lmA r N (zPut (s p) k x)) := by
    refine ⟨fun j hj => ?_, fun i j hi hj e => ?_⟩
    · by_cases c : j = N
      · rw [c, eN]
        refine ⟨fun i hi => ?_, zChn_put (h1.1 p hp).2 hxs⟩
        by_cases c2 : i = k
        · rw [c2, zPut_s]; exact hx
        · rw [zPut_n c2]; exact (h1.1 p hp).1 i (by omega)
      · rw [eo _ j c]; exact h5.1 j (by omega)
    · have e : ∀ z, zGen T (zRow (k + 1) (lmA r N (zPut (s p) k x) i)) z ↔ zGen T (zRow (k + 1) (lmA r N (zPut (s p) k x) j)) z := e
      by_cases c : i = N
      · by_cases c2 : j = N
        · omega
        · exfalso
          refine hnew j (by omega) fun z => ?_
          have := e z
          rw [c, eN, eo _ j c2] at this
          exact this.symm
      · by_cases c2 : j = N
        · exfalso
          refine hnew i (by omega) fun z => ?_
          have := e z
          rw [c2, eN, eo _ i c] at this
          exact this
        · exact h5.2 i j (by omega) (by omega) fun z => by
            have := e z
            rw [eo _ i c, eo _ j c2] at this
            exact this
  have par : ∀ j, j < N + 1 → ∃ p', p' < M ∧ ∀ i, i < k → lmA r N (zPut (s p) k x) j i = s p' i := fun j hj => by
    by_cases c : j = N
    · exact ⟨p, hp, fun i hi => by rw [c, eN, zPut_n (by omega)]⟩
    · obtain ⟨p', a, b⟩ := (h6 j (by omega)).2
      exact ⟨p', a, fun i hi => by rw [eo _ j c]; exact b i hi⟩
  refine ⟨L, par, ?_⟩
  have := lvl_next G hn hk h1 h2 L par
  have := lvB_sum k
  omega
/-- the copying of the longer list to the front -/
theorem lm_445 (hF : fF F) {kk : Int → Int → Int → Int → Int → Int → zS → Option (Int × zS)} (hM : 0 < M) (hd : M + d < 6000) (K : ∀ f : Int → Int, (∀ i : Nat, i < 8 → f (8 * (d : Int) + i) = zA w 19 (8 * ((M + d : Nat) : Int) + i)) → (∀ j : Int, (j < 8 * (d : Int) ∨ 8 * (d : Int) + 8 ≤ j) → f j = zA w 19 j) → P (kk a1 M a3 a5 E (M + d : Nat) (zwA w 19 f))) : P (zX7_leastMakers_l445 F kk F a1 (M : Nat) a3 a5 (E : Nat) (M + d : Nat) 0 w) := by
  rw [show w = zwA w 19 (zA w 19) from (zwA_e w 19).symm]
  refine iX7_leastMakers_l445 (I := fun v1 v3 v4 v5 v6 v7 v8 w' => a1 = v1 ∧ (M : Int) = v3 ∧ a3 = v4 ∧ a5 = v5 ∧ (E : Int) = v6 ∧ ((M + d : Nat) : Int) = v7 ∧ ∃ (j : Nat) (f : Int → Int), (j : Int) = v8 ∧ j ≤ 8 ∧ zwA w 19 f = w' ∧ (∀ i : Nat, i < j → f (8 * (d : Int) + i) = zA w 19 (8 * ((M + d : Nat) : Int) + i)) ∧ ∀ t : Int, (t < 8 * (d : Int) ∨ 8 * (d : Int) + j ≤ t) → f t = zA w 19 t) (μ := fun _ _ _ _ _ _ v8 _ => (8 - v8).toNat) (P := P) ?_ F _ _ _ _ _ _ _ _ ⟨rfl, rfl, rfl, rfl, rfl, rfl, 0, _, rfl, by omega, rfl, fun i hi => by omega, fun _ _ => rfl⟩ (by unfold fF at hF; omega)
  rintro ra _ _ _ _ _ _ _ _ ⟨rfl, rfl, rfl, rfl, rfl, rfl, j, f, rfl, hj, rfl, hf, hf2⟩ ih
  unfold zX7_leastMakers_h445
  by_cases c : j = 8
  · rw [zLe_t (by omega)]
    exact K f (by rw [← c]; exact hf) (fun t ht => hf2 t (by omega))
  · have e : zA (zwA w 19 f) 19 = f := zwA_s w 19 f
    have e2 : ((M + d : Nat) : Int) - (M : Nat) = d := by omega
    rw [zLe_f (by omega), zLd_o (by omega), zSt_o (by omega), zwA_u, e, e2]
    refine ih _ _ _ _ _ _ _ _ ⟨rfl, rfl, rfl, rfl, rfl, rfl, j + 1, _, by omega, by omega, rfl, fun i hi => ?_, fun t ht => ?_⟩ (by omega)
    · by_cases c2 : i = j
      · rw [c2, zup_s]; exact hf2 _ (by omega)
      · rw [zup_n (by omega)]; exact hf i (by omega)
    · rw [zup_n (by omega)]; exact hf2 t (by omega)
theorem lm_403 (hF : fF F) {kk : Int → Int → Int → Int → Int → zS → Option (Int × zS)} (hk : k ≤ 8) (hM : 0 < M) (hE : M + N ≤ 6000) (h : ∀ j, j < N → lmE T w k (M + j) (r j)) (K : ∀ w', scF w w' → (∀ j, j < N → lmE T w' k j (r j)) → P (kk a1 M a3 a5 (M + N : Nat) w')) : P (zX7_leastMakers_l403 F kk F a1 (M : Nat) a3 a5 (M + N : Nat) (M : Nat) w) := by
  refine iX7_leastMakers_l403 (I := fun v1 v3 v4 v5 v6 v7 w' => a1 = v1 ∧ (M : Int) = v3 ∧ a3 = v4 ∧ a5 = v5 ∧ ((M + N : Nat) : Int) = v6 ∧ ∃ d : Nat, ((M + d : Nat) : Int) = v7 ∧ d ≤ N ∧ scF w w' ∧ (∀ j, j < d → lmE T w' k j (r j)) ∧ ∀ j, d ≤ j → j < N → lmE T w' k (M + j) (r j)) (μ := fun _ _ _ _ _ v7 _ => (((M + N : Nat) : Int) - v7).toNat) (P := P) ?_ F _ _ _ _ _ _ _ ⟨rfl, rfl, rfl, rfl, rfl, 0, rfl, by omega, scF.rf, fun j hj => by omega, fun j _ hj => h j hj⟩ (by unfold fF at hF; omega)
  rintro ra _ _ _ _ _ _ w' ⟨rfl, rfl, rfl, rfl, rfl, d, rfl, hd, hg, h1, h2⟩ ih
  unfold zX7_leastMakers_h403
  by_cases c : d = N
  · rw [zLe_t (by omega)]
    exact K w' hg (by rw [← c]; exact h1)
  · have e2 : ((M + d : Nat) : Int) - (M : Nat) = d := by omega
    rw [zLe_f (by omega), zLJ_o (by omega), e2, zSJ_o (by omega), zLJ_o (by omega), zSJ_o (by omega)]
    refine lm_445 (M := M) (d := d) (E := M + N) hF hM (by omega) fun f f1 f2 => ?_
    try dsimp only
    have b17 : ∀ q : Int, zB (zwA (zuB (zuB w' 17 (d : Nat) (zB w' 17 ((M + d : Nat) : Int))) 18 (d : Nat) (zB w' 18 ((M + d : Nat) : Int))) 19 f) 17 q = if q = d then zB w' 17 ((M + d : Nat) : Int) else zB w' 17 q := fun q => rfl
    have b18 : ∀ q : Int, zB (zwA (zuB (zuB w' 17 (d : Nat) (zB w' 17 ((M + d : Nat) : Int))) 18 (d : Nat) (zB w' 18 ((M + d : Nat) : Int))) 19 f) 18 q = if q = d then zB w' 18 ((M + d : Nat) : Int) else zB w' 18 q := fun q => rfl
    have a19 : zA (zwA (zuB (zuB w' 17 (d : Nat) (zB w' 17 ((M + d : Nat) : Int))) 18 (d : Nat) (zB w' 18 ((M + d : Nat) : Int))) 19 f) 19 = f := rfl
    have oth : ∀ j q, (q : Nat) ≠ d → lmE T w' k q (r j) → lmE T (zwA (zuB (zuB w' 17 (d : Nat) (zB w' 17 ((M + d : Nat) : Int))) 18 (d : Nat) (zB w' 18 ((M + d : Nat) : Int))) 19 f) k q (r j) := fun j q hq hl => by
      obtain ⟨l1, l2, l3⟩ := hl
      refine ⟨fun i hi => ?_, fun z => ?_, ?_⟩
      · rw [a19, f2 _ (by omega)]; exact l1 i hi
      · rw [b17, if_neg (by omega)]; exact l2 z
      · rw [b18, if_neg (by omega)]; exact l3
    refine ih _ _ _ _ _ _ _ ⟨rfl, rfl, rfl, rfl, rfl, d + 1, by omega, by omega, ((hg.B 17 _ _).B 18 _ _).tr ⟨fun k hk => zwA_n (by omega), fun _ _ => rfl⟩, fun j hj => ?_, fun j h3 h4 => oth j (M + j) (by omega) (h2 j (by omega) h4)⟩ (by omega)
    by_cases c2 : j = d
    · rw [c2]
      obtain ⟨l1, l2, l3⟩ := h2 d (by omega) (by omega)
      refine ⟨fun i hi => ?_, fun z => ?_, ?_⟩
      · rw [a19, f1 i (by omega)]; exact l1 i hi
      · rw [b17, if_pos rfl]; exact l2 z
      · rw [b18, if_pos rfl]; exact l3
    · exact oth j j (by omega) (h1 j (by omega))
end LML
