/-! THE CLASS'S MATCHING: next of an order, the next row -/
def mtK (D : Nat → Prop) (O O' : zO) (e : Nat) : Prop := (∀ a, a ≠ e → O' a = O a) ∧ zI (O' e) = zI (O e) ∧ ∀ k, ¬ D k → zA (O' e) k = zA (O e) k
/-- inverses and orders are laid down -/
def gDn (S : zS) (n : Nat) (T : Nat → Nat → Nat) : Prop := ∀ x : Nat, x < n → zA S 3 x = (zInv n T x : Nat) ∧ zA S 4 x = (zOr n T x : Nat)
section YMT
variable {F e a1 a2 n L : Nat} {C : yC} {O w : zO} {T1 T2 : Nat → Nat → Nat} {q h : Nat → Nat} {D D' : Nat → Prop}
theorem mtK.rf : mtK D O O e := ⟨fun _ _ => rfl, rfl, fun _ _ => rfl⟩
theorem mtK.tr {O1 O2 : zO} (h1 : mtK D O O1 e) (h2 : mtK D O1 O2 e) : mtK D O O2 e := ⟨fun a ha => (h2.1 a ha).trans (h1.1 a ha), h2.2.1.trans h1.2.1, fun k hk => (h2.2.2 k hk).trans (h1.2.2 k hk)⟩
theorem mtK.wide (h1 : mtK D O w e) (h : ∀ k, D k → D' k) : mtK D' O w e := ⟨h1.1, h1.2.1, fun k hk => h1.2.2 k fun u => hk (h k u)⟩
theorem mtK.st (h : mtK D O w e) {k : Nat} (hk : D k) (i x : Int) : mtK D O (oup w e (zuA (w e) k i x)) e := by
  refine h.tr ⟨fun a ha => oup_n ha, by rw [oup_s]; rfl, fun k' hk' => ?_⟩
  rw [oup_s, zA_uA, if_neg (show k' ≠ k from fun u => hk' (by rw [u]; exact hk))]
theorem st_at (w : zO) (e k : Nat) (i x : Int) : zA (oup w e (zuA (w e) k i x) e) k = zup (zA (w e) k) i x := by rw [oup_s, zA_uA, if_pos rfl]
theorem st_ne {w : zO} {e k k' : Nat} {i x : Int} (h : k' ≠ k) : zA (oup w e (zuA (w e) k i x) e) k' = zA (w e) k' := by rw [oup_s, zA_uA, if_neg h]
theorem y_nextOfPeriod (hF : fF F) (hK : C.1 a2 = some (2, 0)) (h2 : yGp (O a2) n T2) (d2 : gDn (O a2) n T2) {v0 k f : Nat} (hk : k ≤ 48) (hf : f ≤ n) : zX3_nextOfPeriod F C v0 (some a2) (k : Nat) (f : Nat) O = some (if nxt n T2 k f < n then ((nxt n T2 k f : Nat) : Int) else -1, O) := by
  have h7 := h2.1
  have hn := h2.2.1
  refine iX3_nextOfPeriod_l3 (I := fun v1 v2 v3 w => some a2 = v1 ∧ (k : Int) = v2 ∧ O = w ∧ ∃ y : Nat, (y : Int) = v3 ∧ f ≤ y ∧ y ≤ n ∧ ∀ z, f ≤ z → z < y → zOr n T2 z ≠ k) (μ := fun _ _ v3 _ => (n - v3).toNat) (P := fun o => o = some (if nxt n T2 k f < n then ((nxt n T2 k f : Nat) : Int) else -1, O)) ?_ F _ _ _ _ ⟨rfl, rfl, rfl, f, rfl, by omega, hf, fun z t1 t2 => by omega⟩ (by unfold fF at hF; omega)
  rintro ra _ _ _ _ ⟨rfl, rfl, rfl, y, rfl, y1, y2, y3⟩ ih
  unfold zX3_nextOfPeriod_h3
  rw [yFI_o hK, h7]
  by_cases c : y = n
  · rw [zLe_t (by omega)]
    have : nxt n T2 k f = n := nF_no fun j hj ⟨t1, t2⟩ => y3 j t1 (by omega) t2
    rw [this, if_neg (by omega)]
  · have hy : y < n := by omega
    have ho := (zOr_sp h2.2.2.1 hy).1
    rw [zLe_f (by omega), yAR_o hK, yLd_o hK (by omega), (d2 y hy).2]
    by_cases e : zOr n T2 y = k
    · rw [zEq_t (by omega)]
      have : nxt n T2 k f = y := nF_of hy ⟨y1, e⟩ fun j hj ⟨t1, t2⟩ => y3 j t1 hj t2
      rw [this, if_pos hy]
    · rw [zEq_f (by omega)]
      refine ih _ _ _ _ ⟨rfl, rfl, rfl, y + 1, by omega, by omega, by omega, fun z t1 t2 => ?_⟩ (by omega)
      by_cases t : z = y
      · rw [t]; exact e
      · exact y3 z t1 (by omega)
theorem y_stepGiven (hF : fF F) (hE : C.1 e = some (3, 0)) (hK1 : C.1 a1 = some (2, 0)) (hK2 : C.1 a2 = some (2, 0)) (h1 : yGp (O a1) n T1) (h2 : yGp (O a2) n T2) (d1 : gDn (O a1) n T1) (d2 : gDn (O a2) n T2) (hl : zLike n T1 T2) (hL : L ≤ 5) (h7 : zI (O e) 7 = L) (hq : ∀ i : Nat, i < L → zA (O a1) 5 i = q i ∧ q i < n) (hg : ∀ i : Nat, i < L → zA (O e) 5 i = h i ∧ h i < n) : ∃ O', mtK (fun k => k = 5) O O' e ∧ ((smS n T1 T2 q L h = none ∧ zX3_stepGiven F C e (some a1) (some a2) O = some (0, O')) ∨ ∃ h', smS n T1 T2 q L h = some h' ∧ zX3_stepGiven F C e (some a1) (some a2) O = some (1, O') ∧ ∀ i : Nat, i < L → zA (O' e) 5 i = h' i ∧ h' i < n) := by
  have ne1 : a1 ≠ e := fun u => by rw [u, hE] at hK1; cases hK1
  have ne2 : a2 ≠ e := fun u => by rw [u, hE] at hK2; cases hK2
  have hn := h1.2.1
  have key : ∀ o, (∃ O', mtK (fun k => k = 5) O O' e ∧ ((smS n T1 T2 q L h = none ∧ o = some (0, O')) ∨ ∃ h', smS n T1 T2 q L h = some h' ∧ o = some ((1 : Int), O') ∧ ∀ i : Nat, i < L → zA (O' e) 5 i = h' i ∧ h' i < n)) → o = zX3_stepGiven F C e (some a1) (some a2) O → _ := fun o h e => e ▸ h
  refine key _ ?_ rfl
  unfold zX3_stepGiven
  rw [yFI_o hE, h7]
  refine iX3_stepGiven_l7 (I := fun v0 v1 v2 v3 w => e = v0 ∧ some a1 = v1 ∧ some a2 = v2 ∧ mtK (fun k => k = 5) O w e ∧ ∃ (j : Nat) (h' : Nat → Nat), (j : Int) - 1 = v3 ∧ j ≤ L ∧ (∀ i : Nat, i < L → zA (w e) 5 i = h' i ∧ h' i < n) ∧ smS n T1 T2 q L h = smS n T1 T2 q j h') (μ := fun _ _ _ v3 _ => (v3 + 1).toNat) (P := fun o => ∃ O', mtK (fun k => k = 5) O O' e ∧ ((smS n T1 T2 q L h = none ∧ o = some (0, O')) ∨ ∃ h', smS n T1 T2 q L h = some h' ∧ o = some ((1 : Int), O') ∧ ∀ i : Nat, i < L → zA (O' e) 5 i = h' i ∧ h' i < n)) ?_ F _ _ _ _ _ ⟨rfl, rfl, rfl, mtK.rf, L, h, rfl, by omega, hg, rfl⟩ (by unfold fF at hF; omega)
  rintro ra _ _ _ _ w ⟨rfl, rfl, rfl, hw, j, h', rfl, hj, hg', hS⟩ ih
  unfold zX3_stepGiven_h7
  by_cases c : j = 0
  · rw [zLt_t (by omega)]
    rw [c] at hS
    exact ⟨w, hw, Or.inl ⟨hS, rfl⟩⟩
  · obtain ⟨j, rfl⟩ : ∃ i, j = i + 1 := ⟨j - 1, by omega⟩
    obtain ⟨q1, q2⟩ := hq j (by omega)
    obtain ⟨g1, g2⟩ := hg' j (by omega)
    have ho := (zOr_sp h1.2.2.1 q2).1
    have e1 : ((j + 1 : Nat) : Int) - 1 = (j : Nat) := by omega
    have w2 : yGp (w a2) n T2 := by rw [hw.1 a2 ne2]; exact h2
    have w2d : gDn (w a2) n T2 := by rw [hw.1 a2 ne2]; exact d2
    have hle : nxt n T2 (zOr n T1 (q j)) (h' j + 1) ≤ n := nF_le _ _
    rw [zLt_f (by omega), yAR_o hK1, yAR_o hK1, e1, yLd_o hK1 (by omega), hw.1 a1 ne1, q1, yLd_o hK1 (by omega), hw.1 a1 ne1, (d1 _ q2).2, yAR_o hE, yLd_o hE (by omega), g1, yO_o hE, show ((h' j : Nat) : Int) + 1 = ((h' j + 1 : Nat) : Int) by omega, yC1_o (y_nextOfPeriod hF hK2 w2 w2d (by omega) (by omega))]
    have S : smS n T1 T2 q (j + 1) h' = if smN n T1 T2 q j (h' j + 1) < n then some (zPut h' j (smN n T1 T2 q j (h' j + 1))) else smS n T1 T2 q j (zPut h' j (smN n T1 T2 q j 0)) := rfl
    have sN : ∀ f, smN n T1 T2 q j f = nxt n T2 (zOr n T1 (q j)) f := fun _ => rfl
    by_cases c2 : nxt n T2 (zOr n T1 (q j)) (h' j + 1) < n
    · rw [if_pos c2, zLt_f (by omega)]
      try dsimp only
      rw [yAR_o hE, ySt_o hE (by omega)]
      refine ⟨_, hw.st rfl _ _, Or.inr ⟨zPut h' j (smN n T1 T2 q j (h' j + 1)), by rw [hS, S, if_pos (by rw [sN]; exact c2)], rfl, fun i hi => ?_⟩⟩
      rw [st_at]
      by_cases t : i = j
      · rw [t, zPut_s, zup_s, sN]; exact ⟨rfl, c2⟩
      · rw [zPut_n t, zup_n (by omega)]; exact hg' i hi
    · have hn0 := smN_0 (q := q) (i := j) hl q2
      rw [sN] at hn0
      have e0 : (0 : Int) = ((0 : Nat) : Int) := rfl
      rw [if_neg c2, zLt_t (by omega), yAR_o hE, yO_o hE, e0, yC1_o (y_nextOfPeriod hF hK2 w2 w2d (by omega) (by omega)), if_pos hn0, ySt_o hE (by omega)]
      refine ih _ _ _ _ _ ⟨rfl, rfl, rfl, hw.st rfl _ _, j, zPut h' j (smN n T1 T2 q j 0), by omega, by omega, fun i hi => ?_, by rw [hS, S, if_neg (by rw [sN]; exact c2)]⟩ (by omega)
      rw [st_at]
      by_cases t : i = j
      · rw [t, zPut_s, zup_s, sN]; exact ⟨rfl, hn0⟩
      · rw [zPut_n t, zup_n (by omega)]; exact hg' i hi
end YMT
