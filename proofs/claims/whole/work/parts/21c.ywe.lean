/-! THE CLASS: the equations of standards -/
def rv {p : Nat} [NeZero p] (W : Nat) (v : fV p) : fV p := fun q => if q < W then v (W - 1 - q) else 0
def gL {p : Nat} [NeZero p] (W : Nat) (lb : Nat → Nat) (m : Nat) (g : fV p) : Prop := ∃ s, s < m ∧ g = fUnit (W - 1 - lb s)
def gM4 (a y z i a' y' z' i' : Nat) : Prop := a' < a ∨ (a' = a ∧ (y' < y ∨ (y' = y ∧ (z' < z ∨ (z' = z ∧ i' < i)))))
def gQ {p : Nat} [NeZero p] (n r L : Nat) (T : Nat → Nat → Nat) (M : Nat → Nat → Nat → Int) (gm : Nat → Nat) (G1 : fV p → Prop) (a y z i : Nat) (g : fV p) : Prop := G1 g ∨ ∃ a' y' z' i', a' < L ∧ 1 ≤ y' ∧ y' < n ∧ 1 ≤ z' ∧ z' < n ∧ i' < r ∧ gM4 a y z i a' y' z' i' ∧ g = rv ((n - 1) * (n - 1) * r) (cR n r T M (gm a') y' z' i')
section YWE
variable {F A g t b e n p r L kb lim : Nat} {C : yC} {O : zO} {T : Nat → Nat → Nat} {M : Nat → Nat → Nat → Int} {gm lb : Nat → Nat}
theorem y_we1 {p : Nat} [NeZero p] {Rb R : Nat → fV p} {l : Nat → Nat} {k : Nat} (hF : fF F) (hI : fInv p) (h : yAct C O A g t n T p r M) (hK : C.1 e = some (1, 98)) (hb : C.1 b = some (1, lim)) (htb : C.2 t 1 = some b) (hbe : b ≠ e) (hlim : kb ≤ lim) (hB : eAt (O b) ((n - 1) * (n - 1) * r) kb Rb lb) (hE0 : eAt (p := p) (O e) ((n - 1) * (n - 1) * r) 0 R l) {kk : Nat → Option Nat → Option Nat → zO → Option zO} (P : Option zO → Prop) (fin : ∀ O1 (k : Nat) (R : Nat → fV p) (l : Nat → Nat), oK O O1 t e → eAt (O1 e) ((n - 1) * (n - 1) * r) k R l → fEch (fSpn ((n - 1) * (n - 1) * r) (gL ((n - 1) * (n - 1) * r) lb kb)) k R l → P (kk t (some A) (some e) O1)) : P (zX5_writeEquations_l21 F C kk F t (some A) (some e) ((((n - 1) * (n - 1) * r : Nat) : Int) - 1) 0 O) := by
  obtain ⟨hr1, hr2⟩ := h.2.2.2.2.2.1
  obtain ⟨hp1, hp2⟩ := h.2.2.2.2.1
  have hn := h.2.2.1
  have hT := h.1.2.2.1
  have h98 := pl_98 hn hr2
  have hte := (h.neE hK).2.2
  have htb' := (h.neE hb).2.2
  generalize hW : (n - 1) * (n - 1) * r = W at *
  have hkb := eAt_k hB
  refine iX5_writeEquations_l21 (I := fun v0 v1 v2 v3 v4 w => t = v0 ∧ some A = v1 ∧ some e = v2 ∧ (W : Int) - 1 = v3 ∧ ∃ s : Nat, s = v4 ∧ s ≤ kb ∧ oK O w t e ∧ ∃ (k : Nat) (R : Nat → fV p) (l : Nat → Nat), eAt (w e) W k R l ∧ fEch (fSpn W (gL W lb s)) k R l) (μ := fun _ _ _ _ v4 _ => (kb - v4).toNat) (P := P) ?_ F _ _ _ _ _ _ ⟨rfl, rfl, rfl, rfl, 0, rfl, by omega, oK.rf, 0, R, l, hE0, fEch_nil (fun g => by rintro ⟨s, hs, -⟩; omega) _ _ rfl⟩ (by unfold fF at hF; omega)
  rintro ra _ _ _ _ _ w ⟨rfl, rfl, rfl, rfl, s, rfl, hs, hk, k, R, l, e1, e2⟩ ih
  unfold zX5_writeEquations_h21
  have hwb : w b = O b := hk.1 b htb'.symm hbe
  rw [yFR_o hT htb, yFI_o hb, hwb, hB.1.2.2]
  by_cases q : s = kb
  · rw [zLe_t (by omega)]
    rw [q] at e2
    exact fin w k R l hk e1 e2
  · have hs : s < kb := by omega
    obtain ⟨c1, c2⟩ := hB.2.2.1 s hs
    have hbt : b ≠ t := fun q => htb' q.symm
    have hlead : ∀ f, zX1_leadOf F C b s (oW w t 0 f) = some (((lb s : Nat) : Int), oW w t 0 f) := fun f => by
      unfold zX1_leadOf
      rw [yAR_o hb, yLE_o hb (by omega), oW_n hbt, hwb, c1.2.1]
    have hfill : ∀ x, oup w t (zfl (w t) 0 98 x) = oW w t 0 (fun j => if 0 ≤ j ∧ j < (98 : Nat) then x else zA (w t) 0 j) := fun x => rfl
    rw [zLe_f (by omega), yAR_o hT, yFill_o hT, hfill, yAR_o hT, yFR_o hT htb, yO_o hb, yC1_o (hlead _), ySt_o hT (by omega), oW_st, yAR_o hT, yO_o hK]
    have hG : ∀ g, gL (p := p) W lb s g → fOk W g := by
      rintro g ⟨s', hs', rfl⟩ j hj
      exact if_neg (by omega)
    obtain ⟨f2, S', k', R', l', d1, d2, d3, -⟩ := y_add (F := F) (O := oW w t 0 (zup (fun j : Int => if 0 ≤ j ∧ j < (98 : Nat) then 0 else zA (w t) 0 j) ((W : Int) - 1 - (lb s : Nat)) 1)) (v := fUnit (W - 1 - lb s)) hF hI hK hT (Nat.le_refl _) (Or.inr ⟨by have := eAt_k e1; omega, by omega⟩) (by rw [oW_n hte.symm]; exact e1) hG e2 (fun j hj => by
      rw [oW_f]
      by_cases c : (j : Int) = (W : Int) - 1 - (lb s : Nat)
      · rw [← c, zup_s]
        refine ⟨by omega, ?_⟩
        show fC 1 = if j = W - 1 - lb s then 1 else 0
        rw [if_pos (by omega), fC_1]
      · rw [zup_n c]
        rw [if_pos (show (0 : Int) ≤ (j : Int) ∧ (j : Int) < ((98 : Nat) : Int) by omega)]
        refine ⟨by omega, ?_⟩
        show fC 0 = if j = W - 1 - lb s then 1 else 0
        rw [if_neg (by omega), fC_0]) (fun j hj => if_neg (by omega))
    rw [yC0_o d1]
    refine ih _ _ _ _ _ _ ⟨rfl, rfl, rfl, rfl, s + 1, rfl, by omega, ((hk.row _).row f2).obj hte S', k', R', l', by rw [oup_s]; exact d2, ?_⟩ (by omega)
    have : fSpn W (fun g => gL W lb s g ∨ g = fUnit (W - 1 - lb s)) = fSpn (p := p) W (gL W lb (s + 1)) := fSpn_congr fun g => by
      constructor
      · rintro (⟨s', hs', e⟩ | e)
        · exact ⟨s', by omega, e⟩
        · exact ⟨s, by omega, e⟩
      · rintro ⟨s', hs', e⟩
        by_cases c : s' = s
        · rw [c] at e; exact Or.inr e
        · exact Or.inl ⟨s', by omega, e⟩
    rw [← this]; exact d3
theorem y_we2 {p : Nat} [NeZero p] {R : Nat → fV p} {l : Nat → Nat} {k : Nat} {G1 : fV p → Prop} (hF : fF F) (hI : fInv p) (h : yAct C O A g t n T p r M) (hK : C.1 e = some (1, 98)) (hG1 : ∀ g, G1 g → fOk ((n - 1) * (n - 1) * r) g) (hE : eAt (O e) ((n - 1) * (n - 1) * r) k R l) (hE2 : fEch (fSpn ((n - 1) * (n - 1) * r) G1) k R l) (hL : L ≤ 5) (hm : ∀ a, a < L → zA (O g) 5 a = gm a ∧ 1 ≤ gm a ∧ gm a < n) : ∃ (O1 : zO) (k' : Nat) (R' : Nat → fV p) (l' : Nat → Nat), zX5_writeEquations_l84 F C F t (some A) (some e) L 0 O = some O1 ∧ oK O O1 t e ∧ eAt (O1 e) ((n - 1) * (n - 1) * r) k' R' l' ∧ fEch (fSpn ((n - 1) * (n - 1) * r) (gQ n r L T M gm G1 L 0 0 0)) k' R' l' := by
  obtain ⟨hr1, hr2⟩ := h.2.2.2.2.2.1
  obtain ⟨hp1, hp2⟩ := h.2.2.2.2.1
  have hn := h.2.2.1
  have hT := h.1.2.2.1
  have h98 := pl_98 hn hr2
  have hte := (h.neE hK).2.2
  let W := (n - 1) * (n - 1) * r
  let P : Option zO → Prop := fun x => ∃ (O1 : zO) (k' : Nat) (R' : Nat → fV p) (l' : Nat → Nat), x = some O1 ∧ oK O O1 t e ∧ eAt (O1 e) W k' R' l' ∧ fEch (fSpn W (gQ n r L T M gm G1 L 0 0 0)) k' R' l'
  let Q : Nat → Nat → Nat → Nat → zO → Prop := fun a y z i w => oK O w t e ∧ ∃ (k : Nat) (R : Nat → fV p) (l : Nat → Nat), eAt (w e) W k R l ∧ fEch (fSpn W (gQ n r L T M gm G1 a y z i)) k R l
  have Qcg : ∀ {a y z i a2 y2 z2 i2 w}, Q a y z i w → (∀ a' y' z' i', a' < L → 1 ≤ y' → y' < n → 1 ≤ z' → z' < n → i' < r → (gM4 a y z i a' y' z' i' ↔ gM4 a2 y2 z2 i2 a' y' z' i')) → Q a2 y2 z2 i2 w := by
    rintro a y z i a2 y2 z2 i2 w ⟨q1, k, R, l, q2, q3⟩ hh
    refine ⟨q1, k, R, l, q2, ?_⟩
    have : fSpn W (gQ n r L T M gm G1 a y z i) = fSpn W (gQ n r L T M gm G1 a2 y2 z2 i2) := fSpn_congr fun g => by
      constructor
      · rintro (x | ⟨a', y', z', i', b1, b2, b3, b4, b5, b6, b7, b8⟩)
        · exact Or.inl x
        · exact Or.inr ⟨a', y', z', i', b1, b2, b3, b4, b5, b6, (hh a' y' z' i' b1 b2 b3 b4 b5 b6).mp b7, b8⟩
      · rintro (x | ⟨a', y', z', i', b1, b2, b3, b4, b5, b6, b7, b8⟩)
        · exact Or.inl x
        · exact Or.inr ⟨a', y', z', i', b1, b2, b3, b4, b5, b6, (hh a' y' z' i' b1 b2 b3 b4 b5 b6).mpr b7, b8⟩
    rw [← this]; exact q3
  have Q0 : Q 0 0 0 0 O := by
    refine ⟨oK.rf, k, R, l, hE, ?_⟩
    have : fSpn W G1 = fSpn W (gQ n r L T M gm G1 0 0 0 0) := fSpn_congr fun g => by
      constructor
      · exact Or.inl
      · rintro (x | ⟨a', y', z', i', b1, b2, b3, b4, b5, b6, b7, b8⟩)
        · exact x
        · unfold gM4 at b7; omega
    rw [← this]; exact hE2
  refine iX5_writeEquations_l84 (I := fun v0 v1 v2 v4 v5 w => t = v0 ∧ some A = v1 ∧ some e = v2 ∧ L = v4 ∧ ∃ a : Nat, a = v5 ∧ a ≤ L ∧ Q a 0 0 0 w) (μ := fun _ _ _ _ v5 _ => (L - v5).toNat) (P := P) ?_ F _ _ _ _ _ _ ⟨rfl, rfl, rfl, rfl, 0, rfl, by omega, Q0⟩ (by unfold fF at hF; omega)
  rintro ra _ _ _ _ _ w ⟨rfl, rfl, rfl, rfl, a, rfl, ha, hq⟩ ih
  unfold zX5_writeEquations_h84
  by_cases q : a = L
  · rw [zLe_t (by omega)]
    rw [q] at hq
    obtain ⟨q1, k, R, l, q2, q3⟩ := hq
    exact ⟨w, k, R, l, rfl, q1, q2, q3⟩
  · have haL : a < L := by omega
    rw [zLe_f (by omega)]
    refine iX5_writeEquations_l94 (I := fun v0 v1 v2 v4 v5 v6 w => t = v0 ∧ some A = v1 ∧ some e = v2 ∧ L = v4 ∧ a = v5 ∧ ∃ y : Nat, y = v6 ∧ 1 ≤ y ∧ y ≤ n ∧ Q a y 0 0 w) (μ := fun _ _ _ _ _ v6 _ => (n - v6).toNat) (P := P) ?_ F _ _ _ _ _ _ _ ⟨rfl, rfl, rfl, rfl, rfl, 1, rfl, by omega, h.G.1, Qcg hq fun a' y' z' i' b1 b2 b3 b4 b5 b6 => by unfold gM4; omega⟩ (by unfold fF at hF; omega)
    rintro rb _ _ _ _ _ _ w ⟨rfl, rfl, rfl, rfl, rfl, y, rfl, hy1, hy, hq⟩ ih2
    unfold zX5_writeEquations_h94
    have hw := h.k hK hq.1
    rw [yFR_o hw.1.1 hw.1.2.2.2.2, yFI_o hw.1.2.1, hw.2.1.1]
    by_cases q2 : y = n
    · rw [zLe_t (by omega)]
      exact ih _ _ _ _ _ _ ⟨rfl, rfl, rfl, rfl, a + 1, rfl, by omega, Qcg hq fun a' y' z' i' b1 b2 b3 b4 b5 b6 => by unfold gM4; omega⟩ (by omega)
    · have hyn : y < n := by omega
      rw [zLe_f (by omega)]
      refine iX5_writeEquations_l109 (I := fun v0 v1 v2 v4 v5 v6 v7 w => t = v0 ∧ some A = v1 ∧ some e = v2 ∧ L = v4 ∧ a = v5 ∧ y = v6 ∧ ∃ z : Nat, z = v7 ∧ 1 ≤ z ∧ z ≤ n ∧ Q a y z 0 w) (μ := fun _ _ _ _ _ _ v7 _ => (n - v7).toNat) (P := P) ?_ F _ _ _ _ _ _ _ _ ⟨rfl, rfl, rfl, rfl, rfl, rfl, 1, rfl, by omega, h.G.1, Qcg hq fun a' y' z' i' b1 b2 b3 b4 b5 b6 => by unfold gM4; omega⟩ (by unfold fF at hF; omega)
      rintro rc _ _ _ _ _ _ _ w ⟨rfl, rfl, rfl, rfl, rfl, rfl, z, rfl, hz1, hz, hq⟩ ih3
      unfold zX5_writeEquations_h109
      have hw := h.k hK hq.1
      rw [yFR_o hw.1.1 hw.1.2.2.2.2, yFI_o hw.1.2.1, hw.2.1.1]
      by_cases q3 : z = n
      · rw [zLe_t (by omega)]
        exact ih2 _ _ _ _ _ _ _ ⟨rfl, rfl, rfl, rfl, rfl, y + 1, rfl, by omega, by omega, Qcg hq fun a' y' z' i' b1 b2 b3 b4 b5 b6 => by unfold gM4; omega⟩ (by omega)
      · have hzn : z < n := by omega
        rw [zLe_f (by omega)]
        refine iX5_writeEquations_l124 (I := fun v0 v1 v2 v4 v5 v6 v7 v8 w => t = v0 ∧ some A = v1 ∧ some e = v2 ∧ L = v4 ∧ a = v5 ∧ y = v6 ∧ z = v7 ∧ ∃ i : Nat, i = v8 ∧ i ≤ r ∧ Q a y z i w) (μ := fun _ _ _ _ _ _ _ v8 _ => (r - v8).toNat) (P := P) ?_ F _ _ _ _ _ _ _ _ _ ⟨rfl, rfl, rfl, rfl, rfl, rfl, rfl, 0, rfl, by omega, hq⟩ (by unfold fF at hF; omega)
        rintro rd _ _ _ _ _ _ _ _ w ⟨rfl, rfl, rfl, rfl, rfl, rfl, rfl, i, rfl, hi, hq⟩ ih4
        unfold zX5_writeEquations_h124
        have hw := h.k hK hq.1
        rw [yFI_o hw.1.1, hw.2.2.2.1.2]
        by_cases q4 : i = r
        · rw [zLe_t (by omega)]
          exact ih3 _ _ _ _ _ _ _ _ ⟨rfl, rfl, rfl, rfl, rfl, rfl, z + 1, rfl, by omega, by omega, Qcg hq fun a' y' z' i' b1 b2 b3 b4 b5 b6 => by unfold gM4; omega⟩ (by omega)
        · have hir : i < r := by omega
          obtain ⟨m1, m2, m3⟩ := hm a haL
          have hwg : w g = O g := hq.1.1 g h.ne.2.1 (h.neE hK).2.1
          obtain ⟨f, f1, f2⟩ := y_cocRule (p := p) hF hw m2 m3 hy1 hyn hz1 hzn hir
          obtain ⟨q5, k, R, l, e1, e2⟩ := hq
          have hG : ∀ g, gQ (p := p) n r L T M gm G1 a y z i g → fOk W g := by
            rintro g (x | ⟨a', y', z', i', b1, b2, b3, b4, b5, b6, b7, rfl⟩)
            · exact hG1 g x
            · exact fun j hj => if_neg (by omega)
          obtain ⟨f3, S', k', R', l', d1, d2, d3, -⟩ := y_add (F := F) (O := oW w t 0 f) (v := rv W (cR n r T M (gm a) y z i)) hF hI hK hT (Nat.le_refl _) (Or.inr ⟨by have := eAt_k e1; omega, h98⟩) (by rw [oW_n hte.symm]; exact e1) hG e2 (fun j hj => by
            rw [oW_f]
            have := f2 j hj
            refine ⟨by omega, ?_⟩
            rw [this.2]
            unfold rv; rw [if_pos hj]) (fun j hj => if_neg (by omega))
          rw [zLe_f (by omega), yFR_o hw.1.1 hw.1.2.2.2.2, yAR_o hw.1.2.1, yLd_o hw.1.2.1 (by omega), hwg, m1, yO_o hT, yC0_o f1, yAR_o hT, yO_o hK, yC0_o d1]
          refine ih4 _ _ _ _ _ _ _ _ _ ⟨rfl, rfl, rfl, rfl, rfl, rfl, rfl, i + 1, rfl, by omega, ((q5.row _).row f3).obj hte S', k', R', l', by rw [oup_s]; exact d2, ?_⟩ (by omega)
          have : fSpn W (fun g => gQ n r L T M gm G1 a y z i g ∨ g = rv W (cR n r T M (gm a) y z i)) = fSpn W (gQ n r L T M gm G1 a y z (i + 1)) := fSpn_congr fun g => by
            constructor
            · rintro ((x | ⟨a', y', z', i', b1, b2, b3, b4, b5, b6, b7, b8⟩) | x)
              · exact Or.inl x
              · exact Or.inr ⟨a', y', z', i', b1, b2, b3, b4, b5, b6, by unfold gM4 at *; omega, b8⟩
              · exact Or.inr ⟨a, y, z, i, haL, hy1, hyn, hz1, hzn, hir, by unfold gM4; omega, x⟩
            · rintro (x | ⟨a', y', z', i', b1, b2, b3, b4, b5, b6, b7, b8⟩)
              · exact Or.inl (Or.inl x)
              · by_cases c : a' = a ∧ y' = y ∧ z' = z ∧ i' = i
                · rw [c.1, c.2.1, c.2.2.1, c.2.2.2] at b8; exact Or.inr b8
                · exact Or.inl (Or.inr ⟨a', y', z', i', b1, b2, b3, b4, b5, b6, by unfold gM4 at *; omega, b8⟩)
          rw [← this]; exact d3
end YWE
