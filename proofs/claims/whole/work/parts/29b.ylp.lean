/-! THE CLASS'S MATCHING: paths -/
/-- how each element is reached from 0 -/
def lpI (n : Nat) (T : Nat → Nat → Nat) (L : Nat) (q : Nat → Nat) (S : zS) : Prop := ∃ m : Nat → Nat, m 0 = 0 ∧ (∀ i j, i < n → j < n → m i = m j → i = j) ∧ (∀ k : Nat, k < n → zA S 0 k = m k ∧ m k < n) ∧ (∀ k : Nat, 1 ≤ k → k < n → ∃ j i, j < k ∧ i < L ∧ zA S 1 k = m j ∧ zA S 2 k = i ∧ m k = T (m j) (q i)) ∧ ∀ z, z < n → ∃ k, k < n ∧ z = m k
/-- on the way -/
def lpW (n : Nat) (T : Nat → Nat → Nat) (L : Nat) (q : Nat → Nat) (S : zS) (v : Int64) (c p s : Nat) : Prop := nC (jB v) n = c ∧ ∃ m : Nat → Nat, m 0 = 0 ∧ (∀ i j, i < c → j < c → m i = m j → i = j) ∧ (∀ i : Nat, i < c → zA S 0 i = m i ∧ m i < n) ∧ (∀ z, jB v z ↔ ∃ i, i < c ∧ z = m i) ∧ (∀ k : Nat, 1 ≤ k → k < c → ∃ j i, j < k ∧ i < L ∧ zA S 1 k = m j ∧ zA S 2 k = i ∧ m k = T (m j) (q i)) ∧ 0 < c ∧ p ≤ c ∧ (∀ i j, i < p → j < L → jB v (T (m i) (q j))) ∧ ∀ j, j < s → j < L → p < c ∧ jB v (T (m p) (q j))
section YLP
variable {F e a n L : Nat} {C : yC} {O w : zO} {T : Nat → Nat → Nat} {q : Nat → Nat}
theorem y_layPaths (hF : fF F) (hE : C.1 e = some (3, 0)) (hK : C.1 a = some (2, 0)) (hG : yGp (O a) n T) (hL : L ≤ 5) (h7 : zI (O e) 7 = L) (hq : ∀ i : Nat, i < L → zA (O a) 5 i = q i ∧ q i < n) (ha : zAll n T L q) : ∃ O', zX3_layPaths F C e (some a) O = some O' ∧ mtK (fun k => k ≤ 2) O O' e ∧ lpI n T L q (O' e) := by
  have ne : a ≠ e := fun u => by rw [u, hE] at hK; cases hK
  have hn := hG.2.1
  have G := hG.2.2.1
  have G1 := G.1
  unfold zX3_layPaths
  rw [yAR_o hE, ySt_o hE (by omega)]
  let P : Option zO → Prop := fun o => ∃ O', o = some O' ∧ mtK (fun k => k ≤ 2) O O' e ∧ lpI n T L q (O' e)
  have st : lpW n T L q (oup O e (zuA (O e) 0 0 0) e) 1 1 0 0 := by
    refine ⟨?_, fun _ => 0, rfl, fun i j hi hj _ => by omega, fun i hi => ⟨?_, G.1⟩, fun z => ?_, fun k h1 h2 => by omega, by omega, by omega, fun i j hi => by omega, fun j hj => by omega⟩
    · rw [nC_drop G.1 ((jB_1 0).mpr rfl), nC_none (fun i _ q => q.2 ((jB_1 i).mp q.1))]
    · rw [st_at, show (i : Int) = 0 by omega, zup_s]; rfl
    · rw [jB_1]
      exact ⟨fun e => ⟨0, by omega, e⟩, fun ⟨_, _, e⟩ => e⟩
  refine iX3_layPaths_l15 (I := fun v0 v1 v2 v4 v5 w => e = v0 ∧ some a = v1 ∧ mtK (fun k => k ≤ 2) O w e ∧ ∃ c p : Nat, (c : Int) = v4 ∧ (p : Int) = v5 ∧ lpW n T L q (w e) v2 c p 0) (μ := fun _ _ _ _ v5 _ => (n + 1 - v5).toNat) (P := P) ?_ F _ _ _ _ _ _ ⟨rfl, rfl, mtK.rf.st (by decide) _ _, 1, 0, rfl, rfl, st⟩ (by unfold fF at hF; omega)
  rintro ra _ _ v2 _ _ w ⟨rfl, rfl, hw, c, p, rfl, rfl, hI⟩ ih
  unfold zX3_layPaths_h15
  have hc : c ≤ n := by rw [← hI.1]; exact nC_le _ _
  have w7 : zI (w a) 7 = n := by rw [hw.1 a ne]; exact hG.1
  by_cases c1 : p = c
  · rw [zLe_t (by omega)]
    obtain ⟨i1, m, m0, mj, i2, i3, i4, i5, i6, i7, i8⟩ := hI
    have all : ∀ z, z < n → jB v2 z := fun z hz => ha z hz (jB v2) ((i3 0).mpr ⟨0, i5, m0.symm⟩) fun x s hx ⟨j, hj, e2⟩ => by
      obtain ⟨i, hi, e3⟩ := (i3 x).mp hx
      rw [e2, e3]; exact i7 i j (by omega) hj
    have cn : c = n := by rw [← i1]; exact nC_all all
    refine ⟨w, rfl, hw, m, m0, fun i j hi hj => mj i j (by omega) (by omega), fun k hk => i2 k (by omega), fun k h1 h2 => i4 k h1 (by omega), fun z hz => ?_⟩
    obtain ⟨k, hk, e2⟩ := (i3 z).mp (all z hz)
    exact ⟨k, by omega, e2⟩
  · have hp : p < c := by obtain ⟨_, _, _, _, _, _, _, _, t, _⟩ := hI; omega
    rw [zLe_f (by omega), yFI_o hK, w7, zLe_f (by omega)]
    refine iX3_layPaths_l34 (I := fun v0 v1 v2 v4 v5 v6 w => e = v0 ∧ some a = v1 ∧ (p : Int) = v5 ∧ mtK (fun k => k ≤ 2) O w e ∧ ∃ c s : Nat, (c : Int) = v4 ∧ (s : Int) = v6 ∧ s ≤ L ∧ p < c ∧ lpW n T L q (w e) v2 c p s) (μ := fun _ _ _ _ _ v6 _ => (L - v6).toNat) (P := P) ?_ F _ _ _ _ _ _ _ ⟨rfl, rfl, rfl, hw, c, 0, rfl, rfl, by omega, hp, hI⟩ (by unfold fF at hF; omega)
    clear hI hw hp hc c1 w7
    rintro rb _ _ v2 _ _ _ w ⟨rfl, rfl, rfl, hw, c, s, rfl, rfl, hs, hp, i1, m, m0, mj, i2, i3, i4, i5, i6, i7, i8⟩ ih2
    have hc : c ≤ n := by rw [← i1]; exact nC_le _ _
    have w7 : zI (w e) 7 = L := by rw [hw.2.1]; exact h7
    unfold zX3_layPaths_h34 zX3_layPaths_b125
    rw [yFI_o hE, w7]
    by_cases c2 : s = L
    · rw [zLe_t (by omega)]
      try dsimp only
      refine ih _ _ _ _ _ _ ⟨rfl, rfl, hw, c, p + 1, rfl, by omega, i1, m, m0, mj, i2, i3, i4, i5, by omega, fun i j hi hj => ?_, fun j hj => by omega⟩ (by omega)
      by_cases t : i = p
      · rw [t]; exact (i8 j (by omega) hj).2
      · exact i7 i j (by omega) hj
    · have hsL : s < L := by omega
      obtain ⟨p1, p2⟩ := i2 p hp
      obtain ⟨q1, q2⟩ := hq s hsL
      have hz := G.2.1 _ _ p2 q2
      have wG : yGp (w a) n T := by rw [hw.1 a ne]; exact hG
      have wa7 : zI (w a) 7 = n := wG.1
      rw [zLe_f (by omega), yAR_o hE, yLd_o hE (by omega), p1, yAR_o hK, yLd_o hK (by omega), hw.1 a ne, q1, yO_o hK, yC1_o (wG.mul hK p2 q2), iO_nat]
      by_cases u : jB v2 (T (m p) (q s))
      · rw [if_neg (fun t => (jB_test v2 (by omega)).mp t u)]
        refine ih2 _ _ _ _ _ _ _ ⟨rfl, rfl, rfl, hw, c, s + 1, rfl, by omega, by omega, hp, i1, m, m0, mj, i2, i3, i4, i5, i6, i7, fun j hj hj2 => ⟨hp, ?_⟩⟩ (by omega)
        by_cases t : j = s
        · rw [t]; exact u
        · exact (i8 j (by omega) hj2).2
      · have bs : ∀ j, jB (v2 ||| ((1 : Int64) <<< ((nI (T (m p) (q s))).toInt64 &&& 63))) j ↔ jB v2 j ∨ j = T (m p) (q s) := jB_set v2 (by omega)
        have mo := nC_more hz u bs
        have hcn : c + 1 ≤ n := by rw [← i1, ← mo]; exact nC_le _ _
        have k1 : mtK (fun k => k ≤ 2) O (oup w e (zuA (w e) 0 (c : Nat) (T (m p) (q s) : Nat))) e := hw.st (by decide) _ _
        have rd : zA (oup w e (zuA (w e) 0 (c : Nat) (T (m p) (q s) : Nat)) e) 0 (p : Nat) = m p := by rw [st_at, zup_n (by omega)]; exact p1
        rw [if_pos ((jB_test v2 (by omega)).mpr u), yFI_o hK, wa7, zLe_f (by omega), yAR_o hE, ySt_o hE (by omega), yAR_o hE, yAR_o hE, yLd_o hE (by omega), rd, ySt_o hE (by omega), yAR_o hE, ySt_o hE (by omega)]
        have k2 := k1.st (k := 1) (by decide) (c : Nat) (m p : Nat)
        have k3 := k2.st (k := 2) (by decide) (c : Nat) (s : Nat)
        refine ih2 _ _ _ _ _ _ _ ⟨rfl, rfl, rfl, k3, c + 1, s + 1, by omega, by omega, by omega, by omega, by rw [mo, i1], zPut m c (T (m p) (q s)), by rw [zPut_n (by omega)]; exact m0, fun i j hi hj hh => ?_, fun i hi => ?_, fun z => ?_, fun k h1 h2 => ?_, by omega, by omega, fun i j hi hj => (bs _).mpr (Or.inl ?_), fun j hj hj2 => ⟨by omega, (bs _).mpr ?_⟩⟩ (by omega)
        · have old : ∀ i, i < c → m i ≠ T (m p) (q s) := fun i hi e => u ((i3 _).mpr ⟨i, hi, e.symm⟩)
          by_cases t1 : i = c
          · by_cases t2 : j = c
            · omega
            · rw [t1, zPut_s, zPut_n t2] at hh
              exact (old j (by omega) hh.symm).elim
          · by_cases t2 : j = c
            · rw [t2, zPut_s, zPut_n t1] at hh
              exact (old i (by omega) hh).elim
            · rw [zPut_n t1, zPut_n t2] at hh
              exact mj i j (by omega) (by omega) hh
        · rw [st_ne (by decide), st_ne (by decide), st_at]
          by_cases t : i = c
          · rw [t, zPut_s, zup_s]; exact ⟨rfl, hz⟩
          · rw [zPut_n t, zup_n (by omega)]; exact i2 i (by omega)
        · rw [bs, i3]
          constructor
          · rintro (⟨i, hi, hh⟩ | hh)
            · exact ⟨i, by omega, by rw [zPut_n (by omega)]; exact hh⟩
            · exact ⟨c, by omega, by rw [zPut_s]; exact hh⟩
          · rintro ⟨i, hi, hh⟩
            by_cases t : i = c
            · rw [t, zPut_s] at hh; exact Or.inr hh
            · rw [zPut_n t] at hh; exact Or.inl ⟨i, by omega, hh⟩
        · rw [st_at, st_ne (k' := 1) (by decide), st_at]
          by_cases t : k = c
          · refine ⟨p, s, by omega, hsL, ?_, ?_, ?_⟩
            · rw [t, zup_s, zPut_n (by omega)]
            · rw [t, zup_s]
            · rw [t, zPut_s, zPut_n (by omega)]
          · obtain ⟨j, i, j1, j2, j3, j4, j5⟩ := i4 k h1 (by omega)
            refine ⟨j, i, j1, j2, ?_, ?_, ?_⟩
            · rw [zup_n (by omega), st_ne (by decide), zPut_n (by omega)]; exact j3
            · rw [zup_n (by omega), st_ne (by decide), st_ne (by decide)]; exact j4
            · rw [zPut_n t, zPut_n (by omega)]; exact j5
        · rw [zPut_n (by omega)]; exact i7 i j hi hj
        · rw [zPut_n (by omega)]
          by_cases t : j = s
          · rw [t]; exact Or.inr rfl
          · exact Or.inl (i8 j (by omega) hj2).2
end YLP
