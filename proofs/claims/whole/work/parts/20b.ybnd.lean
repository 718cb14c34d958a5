/-! THE CLASS: bound rows -/
section YBD
variable {F A g t b s e n p r lim W u j : Nat} {C : yC} {O O' : zO} {T : Nat → Nat → Nat} {M : Nat → Nat → Nat → Int}
theorem bnV_b (h : yAct C O A g t n T p r M) {u j x y i : Nat} (hx : x < n) (hj : j < r) (hi : i < r) : -10 ≤ bnV T M u j x y i ∧ bnV T M u j x y i ≤ 10 := by
  obtain ⟨hr1, hr2⟩ := h.2.2.2.2.2.1
  obtain ⟨hp1, hp2⟩ := h.2.2.2.2.1
  have := (h.2.2.2.2.2.2 x i j hx (by omega) (by omega)).2
  unfold bnV
  split <;> split <;> split <;> omega
theorem y_writeBound (hF : fF F) (h : yAct C O A g t n T p r M) (hu1 : 1 ≤ u) (hun : u < n) (hj : j < r) : ∃ f, zX5_writeBound F C t (some A) u j O = some (oW O t 0 f) ∧ ∀ x y i, 1 ≤ x → x < n → 1 ≤ y → y < n → i < r → f (pl n r x y i : Nat) = bnV T M u j x y i := by
  obtain ⟨hr1, hr2⟩ := h.2.2.2.2.2.1
  obtain ⟨hp1, hp2⟩ := h.2.2.2.2.1
  have hn := h.2.2.1
  have hT := h.1.2.2.1
  have h98 := pl_98 hn hr2
  have hr : ∀ f, yAct C (oW O t 0 f) A g t n T p r M := fun f => h.keep (oW_n h.ne.1) (oW_n h.ne.2.1)
  unfold zX5_writeBound
  rw [yAR_o hT, yFill_o hT]
  let P : Option zO → Prop := fun z => ∃ f, z = some (oW O t 0 f) ∧ ∀ x y i, 1 ≤ x → x < n → 1 ≤ y → y < n → i < r → f (pl n r x y i : Nat) = bnV T M u j x y i
  let Q : Nat → Nat → (Int → Int) → Prop := fun x y f => ∀ x' y' i, 1 ≤ x' → x' < n → 1 ≤ y' → y' < n → i < r → f (pl n r x' y' i : Nat) = if x' < x ∨ (x' = x ∧ y' < y) then bnV T M u j x' y' i else 0
  refine iX5_writeBound_l11 (I := fun v0 v1 v2 v3 v4 w => t = v0 ∧ some A = v1 ∧ u = v2 ∧ j = v3 ∧ ∃ (x : Nat) (f : Int → Int), x = v4 ∧ 1 ≤ x ∧ x ≤ n ∧ oW O t 0 f = w ∧ Q x 1 f) (μ := fun _ _ _ _ v4 _ => (n - v4).toNat) (P := P) ?_ F _ _ _ _ _ _ ⟨rfl, rfl, rfl, rfl, 1, fun i => if 0 ≤ i ∧ i < (98 : Nat) then 0 else zA (O t) 0 i, rfl, by omega, by omega, rfl, fun x y i hx hxn hy hyn hi => ?_⟩ (by unfold fF at hF; omega)
  · rintro ra _ _ _ _ _ _ ⟨rfl, rfl, rfl, rfl, x, f, rfl, hx1, hx, rfl, hq⟩ ih
    unfold zX5_writeBound_h11
    rw [yFR_o (hr f).1.1 (hr f).1.2.2.2.2, yFI_o (hr f).1.2.1, (hr f).2.1.1]
    by_cases q : x = n
    · rw [zLe_t (by omega)]
      exact ⟨f, rfl, fun x' y' i a1 a2 a3 a4 a5 => by rw [hq x' y' i a1 a2 a3 a4 a5, if_pos (by omega)]⟩
    · have hxn : x < n := by omega
      rw [zLe_f (by omega)]
      refine iX5_writeBound_l26 (I := fun v0 v1 v2 v3 v4 v5 w => t = v0 ∧ some A = v1 ∧ u = v2 ∧ j = v3 ∧ x = v4 ∧ ∃ (y : Nat) (f : Int → Int), y = v5 ∧ 1 ≤ y ∧ y ≤ n ∧ oW O t 0 f = w ∧ Q x y f) (μ := fun _ _ _ _ _ v5 _ => (n - v5).toNat) (P := P) ?_ F _ _ _ _ _ _ _ ⟨rfl, rfl, rfl, rfl, rfl, 1, f, rfl, by omega, by omega, rfl, hq⟩ (by unfold fF at hF; omega)
      rintro rb _ _ _ _ _ _ _ ⟨rfl, rfl, rfl, rfl, rfl, y, f1, rfl, hy1, hy, rfl, hq1⟩ ih2
      unfold zX5_writeBound_h26
      rw [yFR_o (hr f1).1.1 (hr f1).1.2.2.2.2, yFI_o (hr f1).1.2.1, (hr f1).2.1.1]
      by_cases q2 : y = n
      · rw [zLe_t (by omega)]
        exact ih _ _ _ _ _ _ ⟨rfl, rfl, rfl, rfl, x + 1, f1, rfl, by omega, by omega, rfl, fun x' y' i a1 a2 a3 a4 a5 => by
          rw [hq1 x' y' i a1 a2 a3 a4 a5]
          by_cases c : x' < x ∨ (x' = x ∧ y' < y)
          · rw [if_pos c, if_pos (by omega)]
          · rw [if_neg c, if_neg (by omega)]⟩ (by omega)
      · have hyn : y < n := by omega
        have hxy := h.G.2.1 x y hxn hyn
        have plt : ∀ i, i < r → pl n r x y i < 98 := fun i hi => by have := pl_lt (r := r) hx1 hxn hy1 hyn hi; omega
        -- a row with all as before but at x, y
        let V : (Int → Int) → (Nat → Int) → Prop := fun f2 a => (∀ x' y' i, 1 ≤ x' → x' < n → 1 ≤ y' → y' < n → i < r → ¬ (x' = x ∧ y' = y) → f2 (pl n r x' y' i : Nat) = f1 (pl n r x' y' i : Nat)) ∧ ∀ i, i < r → f2 (pl n r x y i : Nat) = a i
        have Vput : ∀ (f2 : Int → Int) (a : Nat → Int) (i0 : Nat) (c : Int), i0 < r → V f2 a → V (zup f2 (pl n r x y i0 : Nat) c) (fun i => if i = i0 then c else a i) := fun f2 a i0 c hi0 hv => ⟨fun x' y' i a1 a2 a3 a4 a5 hne => by
          rw [zup_n (fun e => hne (by have := pl_eq a1 a2 a3 a4 a5 hx1 hxn hy1 hyn hi0 (by omega); omega))]
          exact hv.1 x' y' i a1 a2 a3 a4 a5 hne, fun i hi => by
          show zup f2 (pl n r x y i0 : Nat) c (pl n r x y i : Nat) = if i = i0 then c else a i
          by_cases c1 : i = i0
          · rw [if_pos c1, c1, zup_s]
          · rw [if_neg c1, zup_n (fun e => c1 (pl_eq hx1 hxn hy1 hyn hi hx1 hxn hy1 hyn hi0 (by omega)).2.2)]
            exact hv.2 i hi⟩
        have Vcg : ∀ (f2 : Int → Int) (a a' : Nat → Int), V f2 a → (∀ i, i < r → a i = a' i) → V f2 a' := fun f2 a a' hv e => ⟨hv.1, fun i hi => by rw [hv.2 i hi, e i hi]⟩
        have V0 : V f1 (fun _ => 0) := ⟨fun _ _ _ _ _ _ _ _ _ => rfl, fun i hi => by rw [hq1 x y i hx1 hxn hy1 hyn hi, if_neg (by omega)]⟩
        have fin : ∀ f2, V f2 (fun i => bnV T M u j x y i) → P (rb t (some A) u j x ((y : Int) + 1) (oW O t 0 f2)) := fun f2 hv => ih2 _ _ _ _ _ _ _ ⟨rfl, rfl, rfl, rfl, rfl, y + 1, f2, rfl, by omega, by omega, rfl, fun x' y' i a1 a2 a3 a4 a5 => by
          by_cases c : x' = x ∧ y' = y
          · rw [c.1, c.2, hv.2 i a5, if_pos (by omega)]
          · rw [hv.1 x' y' i a1 a2 a3 a4 a5 c, hq1 x' y' i a1 a2 a3 a4 a5]
            by_cases c2 : x' < x ∨ (x' = x ∧ y' < y)
            · rw [if_pos c2, if_pos (by omega)]
            · rw [if_neg c2, if_neg (by omega)]⟩ (by omega)
        have s3 : ∀ f2, V f2 (fun i => (if x = u ∧ i = j then 1 else 0) + (if T x y = u ∧ i = j then -1 else 0)) → P (zX5_writeBound_b92 F C rb (fun v0 v1 v2 v3 v4 w => ra v0 v1 v2 v3 (v4 + 1) w) t (some A) u j x y (oW O t 0 f2)) := by
          intro f2 hv
          unfold zX5_writeBound_b92 zX5_writeBound_b143
          refine iX5_writeBound_l95 (I := fun v0 v1 v2 v3 v4 v5 v7 w => t = v0 ∧ some A = v1 ∧ u = v2 ∧ j = v3 ∧ x = v4 ∧ y = v5 ∧ ∃ (i : Nat) (f3 : Int → Int), i = v7 ∧ i ≤ r ∧ oW O t 0 f3 = w ∧ V f3 (fun i' => (if x = u ∧ i' = j then 1 else 0) + (if T x y = u ∧ i' = j then -1 else 0) + (if y = u ∧ i' < i then M x i' j else 0))) (μ := fun _ _ _ _ _ _ v7 _ => (r - v7).toNat) (P := P) ?_ F _ _ _ _ _ _ _ _ ⟨rfl, rfl, rfl, rfl, rfl, rfl, 0, f2, rfl, by omega, rfl, Vcg _ _ _ hv fun i hi => by rw [if_neg (show ¬ (y = u ∧ i < 0) by omega)]; omega⟩ (by unfold fF at hF; omega)
          rintro rc _ _ _ _ _ _ _ _ ⟨rfl, rfl, rfl, rfl, rfl, rfl, i, f3, rfl, hi, rfl, hv3⟩ ih3
          unfold zX5_writeBound_h95
          rw [yFI_o (hr f3).1.1, (hr f3).2.2.2.1.2]
          by_cases q3 : i = r
          · rw [zLe_t (by omega)]
            exact fin f3 (Vcg _ _ _ hv3 fun i' hi' => by
              unfold bnV
              by_cases c : y = u
              · rw [if_pos (show y = u ∧ i' < i by omega), if_pos c]
              · rw [if_neg (show ¬ (y = u ∧ i' < i) from fun z => c z.1), if_neg c])
          · have hir : i < r := by omega
            rw [zLe_f (by omega)]
            by_cases c : y = u
            · have hm := (h.2.2.2.2.2.2 x i j hxn (by omega) (by omega)).2
              rw [zEq_t (by omega), yAR_o hT, yO_o (hr f3).1.1, yC1_o ((hr f3).place hx1 hy1), yLd_o hT (by have := plt i hir; omega), oW_f, hv3.2 i hir, yO_o (hr f3).1.1, yC1_o ((hr f3).entry hxn (by omega) (by omega)), ySt_o hT (by have := plt i hir; omega), oW_st]
              refine ih3 _ _ _ _ _ _ _ _ ⟨rfl, rfl, rfl, rfl, rfl, rfl, i + 1, _, rfl, by omega, rfl, Vcg _ _ _ (Vput _ _ i _ hir hv3) fun i' hi' => ?_⟩ (by omega)
              by_cases c2 : i' = i
              · rw [if_pos c2, c2]
                dsimp only
                rw [if_neg (show ¬ (y = u ∧ i < i) by omega), if_pos (show y = u ∧ i < i + 1 by omega)]; omega
              · rw [if_neg c2]
                by_cases c3 : i' < i
                · rw [if_pos (show y = u ∧ i' < i from ⟨c, c3⟩), if_pos (show y = u ∧ i' < i + 1 by omega)]
                · rw [if_neg (show ¬ (y = u ∧ i' < i) by omega), if_neg (show ¬ (y = u ∧ i' < i + 1) by omega)]
            · rw [zEq_f (by omega)]
              exact fin f3 (Vcg _ _ _ hv3 fun i' hi' => by
                unfold bnV
                rw [if_neg (show ¬ (y = u ∧ i' < i) from fun z => c z.1), if_neg c])
        have s2 : ∀ f2, V f2 (fun i => if x = u ∧ i = j then 1 else 0) → P (zX5_writeBound_b66 F C rb (fun v0 v1 v2 v3 v4 w => ra v0 v1 v2 v3 (v4 + 1) w) t (some A) u j x y (pl n r x y j : Nat) (oW O t 0 f2)) := by
          intro f2 hv
          unfold zX5_writeBound_b66
          rw [yFR_o (hr f2).1.1 (hr f2).1.2.2.2.2, yO_o (hr f2).1.2.1, yC1_o ((hr f2).2.1.mul (hr f2).1.2.1 hxn hyn)]
          by_cases c : T x y = u
          · rw [zEq_t (by omega), yAR_o hT, yLd_o hT (by have := plt j hj; omega), oW_f, ySt_o hT (by have := plt j hj; omega), oW_st]
            refine s3 _ (Vcg _ _ _ (Vput _ _ j _ hj hv) fun i hi => ?_)
            by_cases c2 : i = j
            · rw [if_pos c2, c2, hv.2 j hj, if_pos (show T x y = u ∧ j = j from ⟨c, rfl⟩)]; dsimp only; omega
            · rw [if_neg c2, if_neg (show ¬ (T x y = u ∧ i = j) from fun z => c2 z.2)]; omega
          · rw [zEq_f (by omega)]
            exact s3 _ (Vcg _ _ _ hv fun i hi => by rw [if_neg (show ¬ (T x y = u ∧ i = j) from fun z => c z.1)]; omega)
        rw [zLe_f (by omega), yO_o (hr f1).1.1, yC1_o ((hr f1).place hx1 hy1)]
        by_cases c : x = u
        · rw [zEq_t (by omega), yAR_o hT, yLd_o hT (by have := plt j hj; omega), oW_f, V0.2 j hj, ySt_o hT (by have := plt j hj; omega), oW_st]
          refine s2 _ (Vcg _ _ _ (Vput _ _ j _ hj V0) fun i hi => ?_)
          by_cases c2 : i = j
          · rw [if_pos c2, if_pos ⟨c, c2⟩]; dsimp only; omega
          · rw [if_neg c2, if_neg (fun z => c2 z.2)]
        · rw [zEq_f (by omega)]
          exact s2 _ (Vcg _ _ _ V0 fun i hi => by rw [if_neg (fun z => c z.1)])
  · show (if (0 : Int) ≤ ((pl n r x y i : Nat) : Int) ∧ ((pl n r x y i : Nat) : Int) < (98 : Nat) then (0 : Int) else _) = _
    have := pl_lt (r := r) hx hxn hy hyn hi
    rw [if_pos (by omega), if_neg (by omega)]
theorem y_findBounds {p : Nat} [NeZero p] (hF : fF F) (hI : fInv p) (h : yAct C O A g t n T p r M) (hb : C.1 b = some (1, 14)) (htb : C.2 t 1 = some b) : ∃ (O1 : zO) (k : Nat) (R : Nat → fV p) (l : Nat → Nat), zX5_findBounds F C t (some A) O = some O1 ∧ (∀ a, a ≠ t → a ≠ b → O1 a = O a) ∧ (∀ i, i ≠ 5 → zI (O1 t) i = zI (O t) i) ∧ zI (O1 t) 5 = ((n - 1) * r : Nat) ∧ eAt (O1 b) ((n - 1) * (n - 1) * r) k R l ∧ fEch (fSpn ((n - 1) * (n - 1) * r) (gB (p := p) n r T M)) k R l := by
  obtain ⟨hr1, hr2⟩ := h.2.2.2.2.2.1
  obtain ⟨hp1, hp2⟩ := h.2.2.2.2.1
  have hn := h.2.2.1
  have hn0 := h.G.1
  have hT := h.1.2.2.1
  have h98 := pl_98 hn hr2
  have htb' := (h.neE hb).2.2
  have h14 : (n - 1) * r ≤ 14 := Nat.le_trans (Nat.mul_le_mul (show n - 1 ≤ 7 by omega) hr2) (by omega)
  unfold zX5_findBounds
  rw [yFR_o h.1.1 h.1.2.2.2.2, yFI_o h.1.2.1, yFI_o h.1.1, h.2.1.1, h.2.2.2.1.2, yPI_o hT, yFR_o hT htb, yO_o h.1.1]
  have h1 : yAct C (oup O t (zuI (O t) 5 (((n : Int) - 1) * r))) A g t n T p r M := h.keep (oup_n h.ne.1) (oup_n h.ne.2.1)
  have e5 : ((n : Int) - 1) * r = (((n - 1) * r : Nat) : Int) := by rw [Int.natCast_mul, Int.natCast_sub hn0]; rfl
  obtain ⟨S0, b1, b2⟩ := y_begin (F := F) (O := oup O t (zuI (O t) 5 (((n : Int) - 1) * r))) (p := p) hb h98 (by omega) (fun _ => fZ) (fun _ => 0)
  rw [yC1_o h1.places, yFI_o h.1.1, h1.2.2.2.1.1, yO_o hb, yC0_o b1]
  let P : Option zO → Prop := fun x => ∃ (O1 : zO) (k : Nat) (R : Nat → fV p) (l : Nat → Nat), x = some O1 ∧ (∀ a, a ≠ t → a ≠ b → O1 a = O a) ∧ (∀ i, i ≠ 5 → zI (O1 t) i = zI (O t) i) ∧ zI (O1 t) 5 = ((n - 1) * r : Nat) ∧ eAt (O1 b) ((n - 1) * (n - 1) * r) k R l ∧ fEch (fSpn ((n - 1) * (n - 1) * r) (gB (p := p) n r T M)) k R l
  let G0 : Nat → Nat → fV p → Prop := GP n r 1 (fun u j => cbD n r T M (eU (p := p) r u j))
  let Q : Nat → Nat → zO → Prop := fun u j w => ((∀ a, a ≠ t → a ≠ b → w a = O a) ∧ (∀ i, i ≠ 5 → zI (w t) i = zI (O t) i) ∧ zI (w t) 5 = ((n - 1) * r : Nat)) ∧ ∃ k R l, k ≤ (u - 1) * r + j ∧ eAt (p := p) (w b) ((n - 1) * (n - 1) * r) k R l ∧ fEch (fSpn ((n - 1) * (n - 1) * r) (G0 u j)) k R l
  refine iX5_findBounds_l35 (I := fun v0 v1 v2 w => t = v0 ∧ some A = v1 ∧ ∃ u : Nat, u = v2 ∧ 1 ≤ u ∧ u ≤ n ∧ Q u 0 w) (μ := fun _ _ v2 _ => (n - v2).toNat) (P := P) ?_ F _ _ _ _ ⟨rfl, rfl, 1, rfl, by omega, by omega, ⟨fun a ha1 ha2 => by rw [oup_n ha2, oup_n ha1], fun i hi => by rw [oup_n htb', oup_s, zI_uI, if_neg hi], by rw [oup_n htb', oup_s, zI_uI, if_pos rfl, e5]⟩, 0, _, _, by omega, by rw [oup_s]; exact b2, fEch_nil (fun g => GP_0 g) _ _ rfl⟩ (by unfold fF at hF; omega)
  rintro ra _ _ _ w ⟨rfl, rfl, u, rfl, hu1, hu, hq⟩ ih
  unfold zX5_findBounds_h35
  have ha := h.keep (hq.1.1 A h.ne.1 (h.neE hb).1) (hq.1.1 g h.ne.2.1 (h.neE hb).2.1)
  rw [yFR_o ha.1.1 ha.1.2.2.2.2, yFI_o ha.1.2.1, ha.2.1.1]
  by_cases q : u = n
  · rw [zLe_t (by omega)]
    obtain ⟨hk, k, R, l, e0, e1, e2⟩ := hq
    refine ⟨w, k, R, l, rfl, hk.1, hk.2.1, hk.2.2, e1, ?_⟩
    have : fSpn ((n - 1) * (n - 1) * r) (G0 u 0) = fSpn ((n - 1) * (n - 1) * r) (gB (p := p) n r T M) := fSpn_congr fun g => by
      rw [q]; exact GP_end g
    rw [← this]; exact e2
  · have hun : u < n := by omega
    rw [zLe_f (by omega)]
    refine iX5_findBounds_l48 (I := fun v0 v1 v2 v3 w => t = v0 ∧ some A = v1 ∧ u = v2 ∧ ∃ j : Nat, j = v3 ∧ j ≤ r ∧ Q u j w) (μ := fun _ _ _ v3 _ => (r - v3).toNat) (P := P) ?_ F _ _ _ _ _ ⟨rfl, rfl, rfl, 0, rfl, by omega, hq⟩ (by unfold fF at hF; omega)
    rintro rb _ _ _ _ w1 ⟨rfl, rfl, rfl, j, rfl, hj, hq1⟩ ih2
    unfold zX5_findBounds_h48
    have ha1 := h.keep (hq1.1.1 A h.ne.1 (h.neE hb).1) (hq1.1.1 g h.ne.2.1 (h.neE hb).2.1)
    rw [yFI_o ha1.1.1, ha1.2.2.2.1.2]
    by_cases q2 : j = r
    · rw [zLe_t (by omega)]
      refine ih _ _ _ _ ⟨rfl, rfl, u + 1, rfl, by omega, by omega, hq1.1, ?_⟩ (by omega)
      obtain ⟨k, R, l, e0, e1, e2⟩ := hq1.2
      have e3 : (u + 1 - 1) * r + 0 = (u - 1) * r + r := by
        rw [show u + 1 - 1 = (u - 1) + 1 by omega, Nat.add_mul, Nat.one_mul]; omega
      refine ⟨k, R, l, by rw [e3]; omega, e1, ?_⟩
      have : fSpn ((n - 1) * (n - 1) * r) (G0 u j) = fSpn ((n - 1) * (n - 1) * r) (G0 (u + 1) 0) := fSpn_congr fun g => by
        rw [q2]; exact GP_next g
      rw [← this]; exact e2
    · have hjr : j < r := by omega
      rw [zLe_f (by omega), yO_o hT]
      obtain ⟨f, f1, f2⟩ := y_writeBound hF ha1 hu1 hun hjr
      obtain ⟨k, R, l, e0, e1, e2⟩ := hq1.2
      have hG : ∀ g, G0 u j g → fOk ((n - 1) * (n - 1) * r) g := by
        rintro g ⟨x', i', -, -, -, -, rfl⟩ i hi
        exact if_neg (by omega)
      have hkk : (u - 1) * r + j < (n - 1) * r := by
        have : (u - 1 + 1) * r ≤ (n - 1) * r := Nat.mul_le_mul_right _ (by omega)
        rw [Nat.add_mul, Nat.one_mul] at this
        omega
      obtain ⟨f3, S', k', R', l', c1, c2, c3, c4, c5, -⟩ := y_add (F := F) (O := oW w1 t 0 f) (v := cbD n r T M (eU r u j)) hF hI hb hT (by omega) (Or.inl (show k < 14 by omega)) (by rw [oW_n htb'.symm]; exact e1) hG e2 (fun q hq' => by
        obtain ⟨a1, a2, a3, a4, a5, a6⟩ := pl_ex hq'
        rw [oW_f]
        generalize q / r / (n - 1) + 1 = x at a1 a2 a6
        generalize q / r % (n - 1) + 1 = y at a3 a4 a6
        generalize q % r = i at a5 a6
        subst a6
        have hbb := bnV_b h (u := u) (y := y) a2 hjr a5
        rw [f2 x y i a1 a2 a3 a4 a5]
        exact ⟨by omega, by rw [bnV_C hu1 hjr a5, cbD_at _ a1 a2 a3 a4 a5]⟩) (fun i hi => if_neg (by omega))
      rw [yC0_o f1, yFR_o hT htb, yAR_o hT, yO_o hb, yC0_o c1]
      refine ih2 _ _ _ _ _ ⟨rfl, rfl, rfl, j + 1, rfl, by omega, ⟨fun a ha1 ha2 => ?_, fun i hi => ?_, ?_⟩, k', R', l', by omega, by rw [oup_s]; exact c2, ?_⟩ (by omega)
      · rw [oup_n ha2, oW_n ha1, oW_n ha1]; exact hq1.1.1 a ha1 ha2
      · rw [oup_n htb', oW_s, zwA_I, oW_s, zwA_I]; exact hq1.1.2.1 i hi
      · rw [oup_n htb', oW_s, zwA_I, oW_s, zwA_I]; exact hq1.1.2.2
      · have : fSpn ((n - 1) * (n - 1) * r) (fun g => G0 u j g ∨ g = cbD n r T M (eU r u j)) = fSpn ((n - 1) * (n - 1) * r) (G0 u (j + 1)) := fSpn_congr fun g => GP_step hu1 hun hjr g
        rw [← this]; exact c3
end YBD
