/-! THE MODEL: about -/
section MAB
variable {F g n : Nat} {T : Nat → Nat → Nat} {Z w : zS}
theorem scF.sm {Z1 : zS} (h : scF Z Z1) : smF n T Z Z1 g := ⟨fun k hk _ => h.1 k hk, h.2, Or.inl (h.1 3 (by omega))⟩
theorem ab_63 (hF : fF F) (h : yG Z g n T) {k96 : Int → Int → Int → zS → Option (Int × zS)} {v2 : Int} {P : Option (Int × zS) → Prop} (K : P (k96 v2 n (nC (zCen n T) n : Nat) Z)) : P (zX7_about_l63 F k96 F (g : Nat) v2 (n : Nat) 0 0 Z) := by
  have hb := h.b
  refine iX7_about_l63 (I := fun u1 u2 u3 u4 u5 w => (g : Int) = u1 ∧ v2 = u2 ∧ (n : Int) = u3 ∧ Z = w ∧ ∃ x : Nat, (x : Int) = u5 ∧ x ≤ n ∧ u4 = (nC (zCen n T) x : Nat)) (μ := fun _ _ _ _ u5 _ => (n - u5).toNat) (P := P) ?_ F _ _ _ _ _ _ ⟨rfl, rfl, rfl, rfl, 0, rfl, by omega, rfl⟩ (by unfold fF at hF; omega)
  rintro ra _ _ _ _ _ _ ⟨rfl, rfl, rfl, rfl, x, rfl, hx, rfl⟩ ih
  unfold zX7_about_h63 zX7_about_b87
  by_cases c : x = n
  · rw [zLe_t (by omega)]
    rw [c]; exact K
  · have hxn : x < n := by omega
    have fle : nC (fun y => T x y = T y x) n ≤ n := nC_le _ _
    rw [zLe_f (by omega), zC1_o (y_friends hF h hxn)]
    by_cases e : zCen n T x
    · have := (nC_full (P := fun y => T x y = T y x) (n := n)).mpr e
      rw [zEq_t (by omega)]
      exact ih _ _ _ _ _ _ ⟨rfl, rfl, rfl, rfl, x + 1, by omega, by omega, by rw [nC_t (P := zCen n T) e]; omega⟩ (by omega)
    · have : nC (fun y => T x y = T y x) n ≠ n := fun t => e (nC_full.mp t)
      rw [zEq_f (by omega)]
      exact ih _ _ _ _ _ _ ⟨rfl, rfl, rfl, rfl, x + 1, by omega, by omega, by rw [nC_f (P := zCen n T) e]; omega⟩ (by omega)
theorem ab_63e (hF : fF F) (h : yG Z g n T) {k96 : Int → Int → Int → zS → Option (Int × zS)} {v2 : Int} : zX7_about_l63 F k96 F (g : Nat) v2 (n : Nat) 0 0 Z = k96 v2 n (nC (zCen n T) n : Nat) Z := ab_63 (P := fun o => o = k96 v2 n (nC (zCen n T) n : Nat) Z) hF h rfl
theorem ab_182 (hF : fF F) (h : yG Z g n T) : zX7_about_l182 F F (g : Nat) (n : Nat) 0 0 Z = some (((nC (fun x => zTurn n T x = x) n : Nat) : Int), Z) := by
  have hb := h.b
  refine iX7_about_l182 (I := fun u1 u3 u4 u5 w => (g : Int) = u1 ∧ (n : Int) = u3 ∧ Z = w ∧ ∃ x : Nat, (x : Int) = u5 ∧ x ≤ n ∧ u4 = (nC (fun x => zTurn n T x = x) x : Nat)) (μ := fun _ _ _ u5 _ => (n - u5).toNat) (P := fun o => o = some (((nC (fun x => zTurn n T x = x) n : Nat) : Int), Z)) ?_ F _ _ _ _ _ ⟨rfl, rfl, rfl, 0, rfl, by omega, rfl⟩ (by unfold fF at hF; omega)
  rintro ra _ _ _ _ _ ⟨rfl, rfl, rfl, x, rfl, hx, rfl⟩ ih
  unfold zX7_about_h182 zX7_about_b207
  by_cases c : x = n
  · rw [zLe_t (by omega), c]
  · have hxn : x < n := by omega
    have tl : zTurn n T x < n := nMin_lt hxn fun i hi => h.lt (h.lt hi hxn) (zInv_sp h.G hi).1
    rw [zLe_f (by omega), zC1_o (y_leastTurned hF h hxn)]
    by_cases e : zTurn n T x = x
    · rw [zEq_t (by omega)]
      exact ih _ _ _ _ _ ⟨rfl, rfl, rfl, x + 1, by omega, by omega, by rw [nC_t (P := fun x => zTurn n T x = x) e]; omega⟩ (by omega)
    · rw [zEq_f (by omega)]
      exact ih _ _ _ _ _ ⟨rfl, rfl, rfl, x + 1, by omega, by omega, by rw [nC_f (P := fun x => zTurn n T x = x) e]; omega⟩ (by omega)
theorem dv_new {e k j : Nat} (he : 0 < e) (hj : 0 < j) (hk : k ∣ e * j) (hm : ∀ j', 0 < j' → j' < j → ¬ k ∣ e * j') (m : Nat) : e * j ∣ m ↔ e ∣ m ∧ k ∣ m := by
  constructor
  · intro h
    exact ⟨Nat.dvd_trans (Nat.dvd_mul_right e j) h, Nat.dvd_trans hk h⟩
  · rintro ⟨h1, h2⟩
    have p : 0 < e * j := Nat.mul_pos he hj
    have r1 : e ∣ m % (e * j) := (Nat.dvd_mod_iff (Nat.dvd_mul_right e j)).mpr h1
    have r2 : k ∣ m % (e * j) := (Nat.dvd_mod_iff hk).mpr h2
    obtain ⟨t, ht⟩ := r1
    have hlt : m % (e * j) < e * j := Nat.mod_lt _ p
    rw [ht] at hlt r2
    have htj : t < j := Nat.lt_of_mul_lt_mul_left hlt
    rcases Nat.eq_zero_or_pos t with q | q
    · rw [q, Nat.mul_zero] at ht
      exact Nat.dvd_of_mod_eq_zero ht
    · exact (hm t q htj r2).elim
theorem ab_129 (hF : fF F) (h : yG Z g n T) : zX7_about_l129 F F (g : Nat) (n : Nat) 1 0 Z = some (((zExp n T : Nat) : Int), Z) := by
  have hb := h.b
  refine iX7_about_l129 (I := fun u1 u3 u4 u5 w => (g : Int) = u1 ∧ (n : Int) = u3 ∧ Z = w ∧ ∃ x e : Nat, (x : Int) = u5 ∧ x ≤ n ∧ (e : Int) = u4 ∧ 0 < e ∧ ∀ m, e ∣ m ↔ ∀ x', x' < x → zOr n T x' ∣ m) (μ := fun _ _ _ u5 _ => (n - u5).toNat) (P := fun o => o = some (((zExp n T : Nat) : Int), Z)) ?_ F _ _ _ _ _ ⟨rfl, rfl, rfl, 0, 1, rfl, by omega, rfl, by omega, fun m => ⟨fun _ x' hx' => by omega, fun _ => Nat.one_dvd m⟩⟩ (by unfold fF at hF; omega)
  rintro ra _ _ _ _ _ ⟨rfl, rfl, rfl, x, e, rfl, hx, rfl, he, hd⟩ ih
  unfold zX7_about_h129
  have dn : ∀ x', x' < n → zOr n T x' ∣ n := fun x' hx' => zOrd_lag h.G hx' (zOr_sp h.G hx').2
  have en : e ∣ n := (hd n).mpr fun x' hx' => dn x' (by omega)
  have hen : e ≤ n := Nat.le_of_dvd hb.2.1 en
  by_cases c : x = n
  · rw [zLe_t (by omega)]
    have : zExp n T = e := by
      by_cases q : e < n
      · refine nF_of q ⟨he, fun x' hx' => (hd e).mp (Nat.dvd_refl e) x' (by omega)⟩ fun j hj ⟨t1, t2⟩ => ?_
        have := Nat.le_of_dvd t1 ((hd j).mpr fun x' hx' => t2 x' (by omega))
        omega
      · have e2 : e = n := by omega
        rw [e2]
        refine nF_no fun j hj ⟨t1, t2⟩ => ?_
        have := Nat.le_of_dvd t1 ((hd j).mpr fun x' hx' => t2 x' (by omega))
        omega
    rw [this]
  · have hxn : x < n := by omega
    obtain ⟨o1, o2⟩ := zOr_sp h.G hxn
    have o3 := o2.1
    obtain ⟨t0, ht0⟩ := en
    rw [zLe_f (by omega), zC1_o (y_orderOf hF h hxn)]
    refine iX7_about_l148 (I := fun u1 u3 u4 u5 u6 u7 w => (g : Int) = u1 ∧ (n : Int) = u3 ∧ (e : Int) = u4 ∧ (x : Int) = u5 ∧ ((zOr n T x : Nat) : Int) = u6 ∧ Z = w ∧ ∃ j : Nat, ((e * j : Nat) : Int) = u7 ∧ 0 < j ∧ j ≤ t0 ∧ ∀ j', 0 < j' → j' < j → ¬ zOr n T x ∣ e * j') (μ := fun _ _ _ _ _ u7 _ => (n - u7).toNat) (P := fun o => o = some (((zExp n T : Nat) : Int), Z)) ?_ F _ _ _ _ _ _ _ ⟨rfl, rfl, rfl, rfl, rfl, rfl, 1, by rw [Nat.mul_one], by omega, ?_, fun j' t1 t2 => by omega⟩ (by unfold fF at hF; omega)
    · rintro rb _ _ _ _ _ _ _ ⟨rfl, rfl, rfl, rfl, rfl, rfl, j, rfl, j1, j2, j3⟩ ih2
      have hj : e * j ≤ e * t0 := Nat.mul_le_mul_left e j2
      unfold zX7_about_h148
      rw [zRem_p (by omega), ← Int.natCast_emod]
      have mlt : e * j % zOr n T x < zOr n T x := Nat.mod_lt _ o3
      by_cases c2 : zOr n T x ∣ e * j
      · have := Nat.mod_eq_zero_of_dvd c2
        rw [zEq_t (by omega)]
        try dsimp only
        refine ih _ _ _ _ _ ⟨rfl, rfl, rfl, x + 1, e * j, by omega, by omega, rfl, Nat.mul_pos he j1, fun m => ?_⟩ (by omega)
        rw [dv_new he j1 c2 j3 m, hd m]
        constructor
        · rintro ⟨s1, s2⟩ x' hx'
          by_cases t : x' = x
          · rw [t]; exact s2
          · exact s1 x' (by omega)
        · intro s
          exact ⟨fun x' hx' => s x' (by omega), s x (by omega)⟩
      · have : e * j % zOr n T x ≠ 0 := fun t => c2 (Nat.dvd_of_mod_eq_zero t)
        rw [zEq_f (by omega)]
        have lt : j < t0 := Nat.lt_of_le_of_ne j2 fun t => c2 (by rw [t, ← ht0]; exact dn x hxn)
        have e3 : ((e * j : Nat) : Int) + (e : Nat) = ((e * (j + 1) : Nat) : Int) := by rw [Nat.mul_succ]; omega
        have h3 : e * (j + 1) ≤ e * t0 := Nat.mul_le_mul_left e lt
        have h4 := Nat.mul_succ e j
        rw [e3]
        refine ih2 _ _ _ _ _ _ _ ⟨rfl, rfl, rfl, rfl, rfl, rfl, j + 1, rfl, by omega, by omega, fun j' s1 s2 => ?_⟩ (by omega)
        by_cases t : j' = j
        · rw [t]; exact c2
        · exact j3 j' s1 (by omega)
    · rcases Nat.eq_zero_or_pos t0 with t | t
      · rw [t, Nat.mul_zero] at ht0; omega
      · exact t
theorem m_about1 {a v : Int} (hG : mGs Z) (ha : -2147483648 ≤ a ∧ a < 2147483648) (hb : ¬ (0 ≤ a ∧ a < zI Z 0)) : zX7_about F a v Z = some (-1, Z) := by
  unfold zX7_about
  rw [zC1_o (y_isGroup ha hG.1), if_neg hb, zEq_t (by omega)]
theorem m_about {v : Int} (hF : fF F) (hG : mGs Z) (h : yG Z g n T) (hg : (g : Int) < zI Z 0) (hv : -2147483648 ≤ v ∧ v < 2147483648) (hc : zA Z 3 g = -4 ∨ ∃ L : Nat, zA Z 3 g = L ∧ L ≤ 5 ∧ zLst n T L) (h5 : ∀ L, zLst n T L → L ≤ 5) : ∃ (r : Int) (Z1 : zS), zX7_about F (g : Nat) v Z = some (r, Z1) ∧ smF n T Z Z1 g ∧ (v = 0 → r = (nC (zCen n T) n : Nat)) ∧ (v = 1 → r = (nC (zGen T (zComm n T)) n : Nat)) ∧ (v = 2 → r = (zExp n T : Nat)) ∧ (v = 3 → r = (nC (fun x => zTurn n T x = x) n : Nat)) ∧ (v = 4 → r = if nC (zCen n T) n = n then 1 else 0) ∧ (v = 5 → ∃ L : Nat, r = L ∧ zLst n T L) ∧ (¬ (0 ≤ v ∧ v ≤ 5) → r = -1) := by
  have hb := h.b
  have cle : nC (zCen n T) n ≤ n := nC_le _ _
  unfold zX7_about
  rw [zC1_o (y_isGroup (a := (g : Nat)) (by omega) hG.1), if_pos (by omega), zEq_f (by omega), h.sz]
  by_cases c0 : v = 0
  · rw [zEq_t (by omega)]
    rw [ab_63e hF h]
    try dsimp only
    rw [zEq_t (by omega)]
    exact ⟨_, Z, rfl, smF.rf, fun _ => rfl, fun t => by omega, fun t => by omega, fun t => by omega, fun t => by omega, fun t => by omega, fun t => by omega⟩
  · by_cases c1 : v = 1
    · obtain ⟨Z1, e1, e2⟩ := y_turnsMade hF h
      rw [zEq_f (by omega), zEq_t (by omega), zC1_o e1]
      exact ⟨_, Z1, rfl, e2.sm, fun t => by omega, fun _ => rfl, fun t => by omega, fun t => by omega, fun t => by omega, fun t => by omega, fun t => by omega⟩
    · by_cases c2 : v = 2
      · rw [zEq_f (by omega), zEq_f (by omega), zEq_t (by omega), ab_129 hF h]
        exact ⟨_, Z, rfl, smF.rf, fun t => by omega, fun t => by omega, fun _ => rfl, fun t => by omega, fun t => by omega, fun t => by omega, fun t => by omega⟩
      · by_cases c3 : v = 3
        · rw [zEq_f (by omega), zEq_f (by omega), zEq_f (by omega), zEq_t (by omega), ab_182 hF h]
          exact ⟨_, Z, rfl, smF.rf, fun t => by omega, fun t => by omega, fun t => by omega, fun _ => rfl, fun t => by omega, fun t => by omega, fun t => by omega⟩
        · by_cases c4 : v = 4
          · rw [zEq_f (by omega), zEq_f (by omega), zEq_f (by omega), zEq_f (by omega), zEq_t (by omega)]
            rw [ab_63e hF h]
            try dsimp only
            rw [zEq_f (by omega)]
            by_cases q : nC (zCen n T) n = n
            · rw [zEq_t (by omega)]
              exact ⟨_, Z, rfl, smF.rf, fun t => by omega, fun t => by omega, fun t => by omega, fun t => by omega, fun _ => (if_pos q).symm, fun t => by omega, fun t => by omega⟩
            · rw [zEq_f (by omega)]
              exact ⟨_, Z, rfl, smF.rf, fun t => by omega, fun t => by omega, fun t => by omega, fun t => by omega, fun _ => (if_neg q).symm, fun t => by omega, fun t => by omega⟩
          · by_cases c5 : v = 5
            · obtain ⟨L, Z1, e1, e2, e3⟩ := y_leastMakers hF h hc
              rw [zEq_f (by omega), zEq_f (by omega), zEq_f (by omega), zEq_f (by omega), zEq_f (by omega), zEq_t (by omega), zC1_o e1]
              exact ⟨_, Z1, rfl, ⟨e3.1, e3.2.1, Or.inr ⟨L, h5 L e2, e2, e3.2.2⟩⟩, fun t => by omega, fun t => by omega, fun t => by omega, fun t => by omega, fun t => by omega, fun _ => ⟨L, rfl, e2⟩, fun t => by omega⟩
            · rw [zEq_f (by omega), zEq_f (by omega), zEq_f (by omega), zEq_f (by omega), zEq_f (by omega), zEq_f (by omega)]
              exact ⟨_, Z, rfl, smF.rf, fun t => by omega, fun t => by omega, fun t => by omega, fun t => by omega, fun t => by omega, fun t => by omega, fun _ => rfl⟩
end MAB
