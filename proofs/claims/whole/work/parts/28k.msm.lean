/-! THE MODEL: same -/
noncomputable def nxt (n : Nat) (T : Nat → Nat → Nat) (k f : Nat) : Nat := nF (fun y => f ≤ y ∧ zOr n T y = k) n
noncomputable def smN (n : Nat) (T1 T2 : Nat → Nat → Nat) (q : Nat → Nat) (i f : Nat) : Nat := nxt n T2 (zOr n T1 (q i)) f
/-- the next row -/
noncomputable def smS (n : Nat) (T1 T2 : Nat → Nat → Nat) (q : Nat → Nat) : Nat → (Nat → Nat) → Option (Nat → Nat)
  | 0, _ => none
  | i + 1, h => if smN n T1 T2 q i (h i + 1) < n then some (zPut h i (smN n T1 T2 q i (h i + 1))) else smS n T1 T2 q i (zPut h i (smN n T1 T2 q i 0))
/-- what so many tries find -/
noncomputable def smW (n : Nat) (T1 T2 : Nat → Nat → Nat) (L : Nat) (q : Nat → Nat) : Nat → (Nat → Nat) → Int
  | 0, _ => -5
  | t + 1, h => @ite Int (∃ φ, zGo n T1 T2 L q h φ) (Classical.propDecidable _) 1 (match smS n T1 T2 q L h with
    | none => 0
    | some h' => smW n T1 T2 L q t h')
noncomputable def smR (n1 : Nat) (T1 : Nat → Nat → Nat) (n2 : Nat) (T2 : Nat → Nat → Nat) (L : Nat) (q : Nat → Nat) (N : Nat) : Int := @ite Int (n1 = n2 ∧ zLike n1 T1 T2) (Classical.propDecidable _) (smW n1 T1 T2 L q N (fun i => smN n1 T1 T2 q i 0)) 0
theorem smW_1 {n L t : Nat} {T1 T2 : Nat → Nat → Nat} {q h : Nat → Nat} (e : ∃ φ, zGo n T1 T2 L q h φ) : smW n T1 T2 L q (t + 1) h = 1 := by
  show @ite Int _ (Classical.propDecidable _) _ _ = _
  rw [if_pos e]
theorem smW_n {n L t : Nat} {T1 T2 : Nat → Nat → Nat} {q h : Nat → Nat} (e : ¬ ∃ φ, zGo n T1 T2 L q h φ) (e2 : smS n T1 T2 q L h = none) : smW n T1 T2 L q (t + 1) h = 0 := by
  show @ite Int _ (Classical.propDecidable _) _ _ = _
  rw [if_neg e, e2]
theorem smW_s {n L t : Nat} {T1 T2 : Nat → Nat → Nat} {q h h' : Nat → Nat} (e : ¬ ∃ φ, zGo n T1 T2 L q h φ) (e2 : smS n T1 T2 q L h = some h') : smW n T1 T2 L q (t + 1) h = smW n T1 T2 L q t h' := by
  show @ite Int _ (Classical.propDecidable _) _ _ = _
  rw [if_neg e, e2]
theorem zLst_one {n L L' : Nat} {T : Nat → Nat → Nat} {q : Nat → Nat} (h : zLst n T L') (hm : zMost n T L q) : L' = L := by
  obtain ⟨⟨q', a1, a2⟩, a3⟩ := h
  obtain ⟨b1, b2, ⟨_, b3, _, _, b4⟩, _⟩ := hm
  rcases Nat.lt_trichotomy L' L with t | t | t
  · exact (b2 L' q' t a1 a2).elim
  · exact t
  · exact (a3 L q t b3 b4).elim
def smF (n : Nat) (T : Nat → Nat → Nat) (Z Z1 : zS) (a : Nat) : Prop := (∀ k, (k < 12 ∨ 22 < k) → k ≠ 3 → zA Z1 k = zA Z k) ∧ (∀ k, k ≠ 14 → zI Z1 k = zI Z k) ∧ (zA Z1 3 = zA Z 3 ∨ ∃ L : Nat, L ≤ 5 ∧ zLst n T L ∧ zA Z1 3 = zup (zA Z 3) a L)
theorem smF.rf {n : Nat} {T : Nat → Nat → Nat} {Z : zS} {a : Nat} : smF n T Z Z a := ⟨fun _ _ _ => rfl, fun _ _ => rfl, Or.inl rfl⟩
theorem zLike_ex {n : Nat} {T1 T2 : Nat → Nat → Nat} (hl : zLike n T1 T2) {x : Nat} (hx : x < n) : ∃ y, y < n ∧ zOr n T2 y = zOr n T1 x := by
  refine Classical.byContradiction fun u => ?_
  have h := hl (zOr n T1 x)
  have h1 : zPn n T2 (zOr n T1 x) n = 0 := nC_none fun i hi e => u ⟨i, hi, e⟩
  have h2 : 0 < zPn n T1 (zOr n T1 x) n := by
    show 0 < nC (fun x' => zOr n T1 x' = zOr n T1 x) n
    rw [nC_drop (P := fun x' => zOr n T1 x' = zOr n T1 x) hx rfl]; omega
  omega
section MSM
variable {F a b n L N : Nat} {T1 T2 : Nat → Nat → Nat} {Z w : zS} {q h : Nat → Nat} {P : Option (Int × zS) → Prop}
theorem smN_0 (hl : zLike n T1 T2) {i : Nat} (hq : q i < n) : smN n T1 T2 q i 0 < n := by
  obtain ⟨y, h1, h2⟩ := zLike_ex hl hq
  exact (nF_sp (P := fun y => 0 ≤ y ∧ zOr n T2 y = zOr n T1 (q i)) ⟨y, h1, by omega, h2⟩).1
theorem y_nextLike (hF : fF F) (h1 : yG w a n T1) (h2 : yG w b n T2) {i f : Nat} (hi : i < 8) (hq : zA w 20 i = q i) (hqn : q i < n) (hf : f ≤ n) : zX7_nextLike F (a : Nat) (b : Nat) (i : Nat) (f : Nat) w = some (((smN n T1 T2 q i f : Nat) : Int), w) := by
  have hb := h1.b
  have ho := (zOr_sp h1.G hqn).1
  unfold zX7_nextLike
  rw [zLd_o (by omega), hq, zC1_o (y_orderOf hF h1 hqn)]
  refine iX7_nextLike_l17 (I := fun v2 v5 v6 w' => (b : Int) = v2 ∧ ((zOr n T1 (q i) : Nat) : Int) = v6 ∧ w = w' ∧ ∃ y : Nat, (y : Int) = v5 ∧ f ≤ y ∧ y ≤ n ∧ ∀ z, f ≤ z → z < y → zOr n T2 z ≠ zOr n T1 (q i)) (μ := fun _ v5 _ _ => (n - v5).toNat) (P := fun o => o = some (((smN n T1 T2 q i f : Nat) : Int), w)) ?_ F _ _ _ _ ⟨rfl, rfl, rfl, f, rfl, by omega, hf, fun z t1 t2 => by omega⟩ (by unfold fF at hF; omega)
  rintro ra _ _ _ _ ⟨rfl, rfl, rfl, y, rfl, y1, y2, y3⟩ ih
  unfold zX7_nextLike_h17
  rw [h2.sz]
  by_cases c : y = n
  · rw [zLe_t (by omega)]
    have : smN n T1 T2 q i f = n := nF_no fun j hj ⟨t1, t2⟩ => y3 j t1 (by omega) t2
    rw [this, c]
  · have hy : y < n := by omega
    have ho2 := (zOr_sp h2.G hy).1
    rw [zLe_f (by omega), zC1_o (y_orderOf hF h2 hy)]
    by_cases e : zOr n T2 y = zOr n T1 (q i)
    · rw [zEq_t (by omega)]
      have : smN n T1 T2 q i f = y := nF_of hy ⟨y1, e⟩ fun j hj ⟨t1, t2⟩ => y3 j t1 hj t2
      rw [this]
    · rw [zEq_f (by omega)]
      refine ih _ _ _ _ ⟨rfl, rfl, rfl, y + 1, by omega, by omega, by omega, fun z t1 t2 => ?_⟩ (by omega)
      by_cases t : z = y
      · rw [t]; exact e
      · exact y3 z t1 (by omega)
/-- the row that is tried goes on -/
theorem sm_177 (hF : fF F) (hl : zLike n T1 T2) (h1 : yG Z a n T1) (h2 : yG Z b n T2) {k261 : Int → Int → Int → Int → Int → Int → zS → Option (Int × zS)} {v3 v5 : Int} (hL : L ≤ 5) (hw : scF Z w) (hr : ∀ i : Nat, i < L → zA w 20 i = q i ∧ q i < n) (hg : ∀ i : Nat, i < L → zA w 21 i = h i ∧ h i < n) (K : ∀ w' v8, scF Z w' → (∀ i : Nat, i < L → zA w' 20 i = q i) → ((v8 = 1 ∧ smS n T1 T2 q L h = none) ∨ (v8 = 0 ∧ ∃ h', smS n T1 T2 q L h = some h' ∧ ∀ i : Nat, i < L → zA w' 21 i = h' i ∧ h' i < n)) → P (k261 a b v3 L v5 v8 w')) : P (zX7_same_l177 F k261 F (a : Nat) (b : Nat) v3 (L : Nat) v5 ((L : Int) - 1) 1 w) := by
  have hb := h1.b
  refine iX7_same_l177 (I := fun u1 u2 u3 u4 u5 u7 u8 w => (a : Int) = u1 ∧ (b : Int) = u2 ∧ v3 = u3 ∧ (L : Int) = u4 ∧ v5 = u5 ∧ scF Z w ∧ (∀ i : Nat, i < L → zA w 20 i = q i) ∧ ∃ (j : Nat) (h' : Nat → Nat), (j : Int) - 1 = u7 ∧ j ≤ L ∧ (∀ i : Nat, i < L → zA w 21 i = h' i ∧ h' i < n) ∧ ((u8 = 1 ∧ smS n T1 T2 q L h = smS n T1 T2 q j h') ∨ (u8 = 0 ∧ smS n T1 T2 q L h = some h'))) (μ := fun _ _ _ _ _ u7 u8 _ => (2 * (u7 + 1) + u8).toNat) (P := P) ?_ F _ _ _ _ _ _ _ _ ⟨rfl, rfl, rfl, rfl, rfl, hw, fun i hi => (hr i hi).1, L, h, rfl, by omega, hg, Or.inl ⟨rfl, rfl⟩⟩ (by unfold fF at hF; omega)
  rintro ra _ _ _ _ _ _ u8 w ⟨rfl, rfl, rfl, rfl, rfl, hw, h20, j, h', rfl, hj, h21, hI⟩ ih
  unfold zX7_same_h177
  rcases hI with ⟨rfl, hI⟩ | ⟨rfl, hI⟩
  · by_cases c : j = 0
    · rw [zLt_t (by omega)]
      rw [c] at hI
      exact K w 1 hw h20 (Or.inl ⟨rfl, hI⟩)
    · obtain ⟨j, rfl⟩ : ∃ i, j = i + 1 := ⟨j - 1, by omega⟩
      obtain ⟨g1, g2⟩ := h21 j (by omega)
      have hqj := (hr j (by omega)).2
      have e : ((j + 1 : Nat) : Int) - 1 = (j : Nat) := by omega
      rw [zLt_f (by omega), zEq_f (by omega), e, zLd_o (by omega), g1, show ((h' j : Nat) : Int) + 1 = ((h' j + 1 : Nat) : Int) by omega, zC1_o (y_nextLike hF (hw.G h1) (hw.G h2) (by omega) (h20 j (by omega)) hqj (by omega)), zSt_o (by omega), zLd_o (by omega)]
      have s1 : zA (zuA w 21 (j : Nat) (smN n T1 T2 q j (h' j + 1) : Nat)) 21 (j : Nat) = (smN n T1 T2 q j (h' j + 1) : Nat) := by rw [zA_uA, if_pos rfl, zup_s]
      have hle : smN n T1 T2 q j (h' j + 1) ≤ n := nF_le _ _
      rw [s1, (hw.G h2).sz]
      have S : smS n T1 T2 q (j + 1) h' = if smN n T1 T2 q j (h' j + 1) < n then some (zPut h' j (smN n T1 T2 q j (h' j + 1))) else smS n T1 T2 q j (zPut h' j (smN n T1 T2 q j 0)) := rfl
      unfold zX7_same_b232
      by_cases c2 : smN n T1 T2 q j (h' j + 1) = n
      · have w20 : ∀ i : Nat, i < L → zA (zuA w 21 (j : Nat) (smN n T1 T2 q j (h' j + 1) : Nat)) 20 i = q i := fun i hi => by
          rw [zA_uA, if_neg (by decide)]; exact h20 i hi
        have hw2 : scF Z (zuA w 21 (j : Nat) (smN n T1 T2 q j (h' j + 1) : Nat)) := hw.A (by omega) _ _
        have hn0 := smN_0 (q := q) (i := j) hl hqj
        have e0 : (0 : Int) = ((0 : Nat) : Int) := rfl
        rw [zEq_t (by omega), zEq_f (by omega), e0, zC1_o (y_nextLike hF (hw2.G h1) (hw2.G h2) (by omega) (w20 j (by omega)) hqj (by omega)), zSt_o (by omega)]
        refine ih _ _ _ _ _ _ _ _ ⟨rfl, rfl, rfl, rfl, rfl, hw2.A (by omega) _ _, fun i hi => ?_, j, zPut h' j (smN n T1 T2 q j 0), by omega, by omega, fun i hi => ?_, Or.inl ⟨rfl, by rw [hI, S, if_neg (by omega)]⟩⟩ (by omega)
        · rw [zA_uA, if_neg (by decide)]; exact w20 i hi
        · rw [zA_uA, if_pos rfl]
          by_cases t : i = j
          · rw [t, zPut_s, zup_s]; exact ⟨rfl, hn0⟩
          · rw [zPut_n t, zup_n (by omega), zA_uA, if_pos rfl, zup_n (by omega)]; exact h21 i hi
      · rw [zEq_f (by omega), zEq_t (by omega)]
        refine ih _ _ _ _ _ _ _ _ ⟨rfl, rfl, rfl, rfl, rfl, hw.A (by omega) _ _, fun i hi => ?_, j + 1, zPut h' j (smN n T1 T2 q j (h' j + 1)), by omega, by omega, fun i hi => ?_, Or.inr ⟨rfl, by rw [hI, S, if_pos (by omega)]⟩⟩ (by omega)
        · rw [zA_uA, if_neg (by decide)]; exact h20 i hi
        · rw [zA_uA, if_pos rfl]
          by_cases t : i = j
          · rw [t, zPut_s, zup_s]; exact ⟨rfl, by omega⟩
          · rw [zPut_n t, zup_n (by omega)]; exact h21 i hi
  · have K2 := K w 0 hw h20 (Or.inr ⟨rfl, h', hI, h21⟩)
    by_cases c : j = 0
    · rw [zLt_t (by omega)]; exact K2
    · rw [zLt_f (by omega), zEq_t (by omega)]; exact K2
theorem sm_138 (hF : fF F) (hl : zLike n T1 T2) (h1 : yG Z a n T1) (h2 : yG Z b n T2) (hL : L ≤ 5) (hN : N ≤ 20000) (ha : zAll n T1 L q) (hw : scF Z w) (hr : ∀ i : Nat, i < L → zA w 20 i = q i ∧ q i < n) (hg : ∀ i : Nat, i < L → zA w 21 i = h i ∧ h i < n) : ∃ Z1, zX7_same_l138 F F (a : Nat) (b : Nat) (N : Nat) (L : Nat) 0 1 w = some (smW n T1 T2 L q N h, Z1) ∧ scF Z Z1 := by
  have hqn : ∀ i, i < L → q i < n := fun i hi => (hr i hi).2
  refine iX7_same_l138 (I := fun u1 u2 u3 u4 u5 u6 w => (a : Int) = u1 ∧ (b : Int) = u2 ∧ (N : Int) = u3 ∧ (L : Int) = u4 ∧ scF Z w ∧ (∀ i : Nat, i < L → zA w 20 i = q i) ∧ ∃ t : Nat, (t : Int) = u5 ∧ t ≤ N ∧ ((u6 = 1 ∧ ∃ h' : Nat → Nat, (∀ i : Nat, i < L → zA w 21 i = h' i ∧ h' i < n) ∧ smW n T1 T2 L q N h = smW n T1 T2 L q (N - t) h') ∨ (u6 = 0 ∧ smW n T1 T2 L q N h = 0))) (μ := fun _ _ _ _ u5 u6 _ => (2 * (N - u5) + u6).toNat) (P := fun o => ∃ Z1, o = some (smW n T1 T2 L q N h, Z1) ∧ scF Z Z1) ?_ F _ _ _ _ _ _ _ ⟨rfl, rfl, rfl, rfl, hw, fun i hi => (hr i hi).1, 0, rfl, by omega, Or.inl ⟨rfl, h, hg, rfl⟩⟩ (by unfold fF at hF; omega)
  rintro ra _ _ _ _ _ u6 w ⟨rfl, rfl, rfl, rfl, hw, h20, t, rfl, ht, hI⟩ ih
  unfold zX7_same_h138
  rcases hI with ⟨rfl, h', h21, hI⟩ | ⟨rfl, hI⟩
  · rw [zEq_f (by omega)]
    by_cases c : t = N
    · rw [zEq_t (by omega)]
      refine ⟨w, ?_, hw⟩
      rw [hI, c, Nat.sub_self]; rfl
    · obtain ⟨d, hd⟩ : ∃ d, N - t = d + 1 := ⟨N - t - 1, by omega⟩
      obtain ⟨r, Z1, e1, e2, e3⟩ := y_goes (q := q) (h := h') hF (hw.G h1) (hw.G h2) hL (fun i hi => ⟨h20 i hi, hqn i hi⟩) h21 ha
      rw [zEq_f (by omega), zC1_o e1]
      rcases e3 with ⟨rfl, e3⟩ | ⟨rfl, e3⟩
      · rw [zEq_f (by omega)]
        refine ⟨Z1, ?_, hw.tr e2.sc⟩
        rw [hI, hd, smW_1 e3]
      · rw [zEq_t (by omega)]
        have k20 : ∀ i : Nat, i < L → zA Z1 20 i = q i := fun i hi => by rw [e2.1 20 (by decide) (by decide)]; exact h20 i hi
        refine sm_177 (P := fun o => ∃ Z1, o = some (smW n T1 T2 L q N h, Z1) ∧ scF Z Z1) (q := q) (h := h') (L := L) hF hl h1 h2 hL (hw.tr e2.sc) (fun i hi => ⟨k20 i hi, hqn i hi⟩) (fun i hi => by rw [e2.1 21 (by decide) (by decide)]; exact h21 i hi) fun w' v8 f1 f2 f3 => ?_
        try dsimp only
        unfold zX7_same_b261 zX7_same_b271
        rcases f3 with ⟨rfl, f3⟩ | ⟨rfl, h2', f3, f4⟩
        · rw [zEq_f (by omega)]
          exact ih _ _ _ _ _ _ _ ⟨rfl, rfl, rfl, rfl, f1, f2, t + 1, by omega, by omega, Or.inr ⟨rfl, by rw [hI, hd, smW_n e3 f3]⟩⟩ (by omega)
        · rw [zEq_t (by omega)]
          exact ih _ _ _ _ _ _ _ ⟨rfl, rfl, rfl, rfl, f1, f2, t + 1, by omega, by omega, Or.inl ⟨rfl, h2', f4, by rw [hI, hd, smW_s e3 f3, show N - (t + 1) = d by omega]⟩⟩ (by omega)
  · rw [zEq_t (by omega)]
    exact ⟨w, by rw [hI], hw⟩
theorem m_same1 {x y v : Int} (hG : mGs Z) (hx : -2147483648 ≤ x ∧ x < 2147483648) (hy : -2147483648 ≤ y ∧ y < 2147483648) (hv : -2147483648 ≤ v ∧ v < 2147483648) (hb : ¬ ((0 ≤ x ∧ x < zI Z 0) ∧ (0 ≤ y ∧ y < zI Z 0) ∧ 0 ≤ v ∧ v ≤ 20000)) : zX7_same F x y v Z = some (-1, Z) := by
  unfold zX7_same
  rw [zC1_o (y_isGroup hx hG.1)]
  by_cases c1 : 0 ≤ x ∧ x < zI Z 0
  · rw [if_pos c1, zEq_f (by omega), zC1_o (y_isGroup hy hG.1)]
    by_cases c2 : 0 ≤ y ∧ y < zI Z 0
    · rw [if_pos c2, zEq_f (by omega), zC1_o (y_in (a := v) (b := 0) (c := 20000) (by decide) (by decide) (by omega)), if_neg (fun t => hb ⟨c1, c2, t⟩), zEq_t (by omega)]
    · rw [if_neg c2, zEq_t (by omega)]
  · rw [if_neg c1, zEq_t (by omega)]
theorem m_same {n2 : Nat} (hF : fG F) (hG : mGs Z) (h1 : yG Z a n T1) (h2 : yG Z b n2 T2) (ha : (a : Int) < zI Z 0) (hb : (b : Int) < zI Z 0) (hN : N ≤ 20000) (hm : n = n2 → zLike n T1 T2 → zMost n T1 L q) (hc : zA Z 3 a = -4 ∨ ∃ L : Nat, zA Z 3 a = L ∧ L ≤ 5 ∧ zLst n T1 L) : ∃ Z1, zX7_same F (a : Nat) (b : Nat) (N : Nat) Z = some (smR n T1 n2 T2 L q N, Z1) ∧ smF n T1 Z Z1 a := by
  have hF0 : fF F := by unfold fG at hF; unfold fF; omega
  have hb1 := h1.b
  have hb2 := h2.b
  unfold zX7_same
  rw [zC1_o (y_isGroup (a := (a : Nat)) (by omega) hG.1), if_pos (by omega), zEq_f (by omega), zC1_o (y_isGroup (a := (b : Nat)) (by omega) hG.1), if_pos (by omega), zEq_f (by omega), zC1_o (y_in (a := (N : Nat)) (b := 0) (c := 20000) (by decide) (by decide) (by omega)), if_pos (by omega), zEq_f (by omega), h1.sz, h2.sz]
  by_cases c1 : n = n2
  · subst c1
    rw [zEq_t (by omega)]
    have fin : ∀ o, (o = some ((0 : Int), Z) ∧ ¬ zLike n T1 T2) → ∃ Z1, o = some (smR n T1 n T2 L q N, Z1) ∧ smF n T1 Z Z1 a := fun o ⟨e, hl⟩ => by
      refine ⟨Z, ?_, smF.rf⟩
      rw [e]; unfold smR; rw [if_neg fun t => hl t.2]
    refine iX7_same_l50 (I := fun v1 v2 v3 v4 w => (a : Int) = v1 ∧ (b : Int) = v2 ∧ (N : Int) = v3 ∧ Z = w ∧ ∃ k : Nat, (k : Int) = v4 ∧ 1 ≤ k ∧ k ≤ n + 1 ∧ ∀ k', 1 ≤ k' → k' < k → zPn n T1 k' n = zPn n T2 k' n) (μ := fun _ _ _ v4 _ => (n + 1 - v4).toNat) (P := fun o => ∃ Z1, o = some (smR n T1 n T2 L q N, Z1) ∧ smF n T1 Z Z1 a) ?_ F _ _ _ _ _ ⟨rfl, rfl, rfl, rfl, 1, rfl, by omega, by omega, fun k' t1 t2 => by omega⟩ (by unfold fF at hF0; omega)
    rintro ra _ _ _ _ _ ⟨rfl, rfl, rfl, rfl, k, rfl, k1, k2, k3⟩ ih
    unfold zX7_same_h50
    rw [h1.sz]
    by_cases c2 : k = n + 1
    · rw [zLt_t (by omega)]
      try dsimp only
      have hl : zLike n T1 T2 := fun k' => by
        by_cases t : 1 ≤ k' ∧ k' < k
        · exact k3 k' t.1 t.2
        · have z1 : ∀ T, zGrp n T → zPn n T k' n = 0 := fun T G => nC_none fun i hi e => by
            obtain ⟨o1, o2⟩ := zOr_sp G hi
            have := o2.1
            omega
          rw [z1 T1 h1.G, z1 T2 h2.G]
      have hm := hm rfl hl
      obtain ⟨L', Z1, e1, e2, e3⟩ := y_leastMakers hF0 h1 hc
      have eL := zLst_one e2 hm
      subst eL
      have g1 : yG Z1 a n T1 := h1.of (e3.1 1 (by omega) (by decide)) (e3.1 2 (by omega) (by decide))
      have g2 : yG Z1 b n T2 := h2.of (e3.1 1 (by omega) (by decide)) (e3.1 2 (by omega) (by decide))
      obtain ⟨Z2, f1, f2, f3⟩ := y_leastRow hF g1 hm
      rw [zC1_o e1, zC0_o f1]
      have hq : ∀ i, i < L' → q i < n := hm.2.2.1.2.1
      have done : ∀ Z3, scF Z2 Z3 → smF n T1 Z Z3 a := fun Z3 t => by
        have t2 := f2.tr t
        exact ⟨fun k hk hk3 => (t2.1 k hk).trans (e3.1 k hk hk3), fun k hk => (t2.2 k hk).trans (e3.2.1 k hk), Or.inr ⟨L', hm.1, e2, (t2.1 3 (by omega)).trans e3.2.2⟩⟩
      refine iX7_same_l103 (I := fun v1 v2 v3 v4 v5 w => (a : Int) = v1 ∧ (b : Int) = v2 ∧ (N : Int) = v3 ∧ (L' : Int) = v4 ∧ scF Z2 w ∧ (∀ i : Nat, i < L' → zA w 20 i = q i) ∧ ∃ j : Nat, (j : Int) = v5 ∧ j ≤ L' ∧ ∀ i : Nat, i < j → zA w 21 i = (smN n T1 T2 q i 0 : Nat)) (μ := fun _ _ _ _ v5 _ => (L' - v5).toNat) (P := fun o => ∃ Z1, o = some (smR n T1 n T2 L' q N, Z1) ∧ smF n T1 Z Z1 a) ?_ F _ _ _ _ _ _ ⟨rfl, rfl, rfl, rfl, scF.rf, f3, 0, rfl, by omega, fun i hi => by omega⟩ (by have := hm.1; unfold fF at hF0; omega)
      rintro rb _ _ _ _ _ w ⟨rfl, rfl, rfl, rfl, hw, w20, j, rfl, hj, w21⟩ ih2
      have hL5 := hm.1
      have j1 : yG w a n T1 := hw.G (f2.G g1)
      have j2 : yG w b n T2 := hw.G (f2.G g2)
      unfold zX7_same_h103
      by_cases c3 : j = L'
      · rw [zLe_t (by omega)]
        try dsimp only
        rw [c3] at w21
        obtain ⟨Z3, p1, p2⟩ := sm_138 (q := q) (h := fun i => smN n T1 T2 q i 0) (w := w) hF0 hl j1 j2 hL5 hN hm.2.2.1.2.2.2.2 scF.rf (fun i hi => ⟨w20 i hi, hq i hi⟩) (fun i hi => ⟨w21 i hi, smN_0 hl (hq i hi)⟩)
        rw [p1]
        refine ⟨Z3, ?_, done Z3 (hw.tr p2)⟩
        unfold smR; rw [if_pos ⟨rfl, hl⟩]
      · have e0 : (0 : Int) = ((0 : Nat) : Int) := rfl
        rw [zLe_f (by omega), e0, zC1_o (y_nextLike hF0 j1 j2 (by omega) (w20 j (by omega)) (hq j (by omega)) (by omega)), zSt_o (by omega)]
        refine ih2 _ _ _ _ _ _ ⟨rfl, rfl, rfl, rfl, hw.A (by omega) _ _, fun i hi => ?_, j + 1, by omega, by omega, fun i hi => ?_⟩ (by omega)
        · rw [zA_uA, if_neg (by decide)]; exact w20 i hi
        · rw [zA_uA, if_pos rfl]
          by_cases t : i = j
          · rw [t, zup_s]
          · rw [zup_n (by omega)]; exact w21 i (by omega)
    · have p1 : zPn n T1 k n ≤ n := nC_le _ _
      have p2 : zPn n T2 k n ≤ n := nC_le _ _
      rw [zLt_f (by omega), zC1_o (y_ofOrder hF0 h1 (by omega)), zC1_o (y_ofOrder hF0 h2 (by omega))]
      by_cases e : zPn n T1 k n = zPn n T2 k n
      · rw [zEq_t (by omega)]
        refine ih _ _ _ _ _ ⟨rfl, rfl, rfl, rfl, k + 1, by omega, by omega, by omega, fun k' t1 t2 => ?_⟩ (by omega)
        by_cases t : k' = k
        · rw [t]; exact e
        · exact k3 k' t1 (by omega)
      · rw [zEq_f (by omega)]
        exact fin _ ⟨rfl, fun hl => e (hl k)⟩
  · rw [zEq_f (by omega)]
    refine ⟨Z, ?_, smF.rf⟩
    unfold smR; rw [if_neg fun t => c1 t.1]
end MSM
