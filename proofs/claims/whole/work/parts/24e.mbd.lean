/-! THE MODEL: bound pairs -/
section MBD
variable {F m g n p r W u q : Nat} {Z Z' : zS} {T : Nat → Nat → Nat} {M : Nat → Nat → Nat → Int} {f g2 h2 : Int → Int} {c : Int}
theorem gB_few {p k : Nat} [NeZero p] (hI : fInv p) {R : Nat → fV p} {l : Nat → Nat} (hE : fEch (fSpn ((n - 1) * (n - 1) * r) (gB (p := p) n r T M)) k R l) : k + nC (fLead (fKer ((n - 1) * r) (cbD (p := p) n r T M))) ((n - 1) * r) = (n - 1) * r := by
  have hS := fSpn_sub (fun g (hg : gB (p := p) n r T M g) => gB_ok hg)
  have h1 := fEch_count hI hS hE
  have e : fSpn ((n - 1) * (n - 1) * r) (gB (p := p) n r T M) = fIm ((n - 1) * r) (cbD n r T M) := by
    funext x; exact propext (gB_im x)
  rw [e] at h1
  have h2 := fRank hI (cbD_lin (p := p) (n := n) (r := r) (T := T) (M := M))
  omega
/-- the row of one single, place by place -/
theorem m_bdRow {p : Nat} [NeZero p] (hF : fF F) (h : mBo Z m g n T p r M) (hu1 : 1 ≤ u) (hun : u < n) (hq : q < r) {kk : Int → Int → zS → Option zS} {f1 : Int → Int} (hf1 : fRow (p := p) ((n - 1) * (n - 1) * r) f1 fZ) (P : Option zS → Prop) (fin : ∀ f', fRow (p := p) ((n - 1) * (n - 1) * r) f' (cbD n r T M (eU r u q)) → P (kk u q (mS Z f' g2 h2 c))) : P (zX7_bounds_l31 F kk F u q 1 (mS Z f1 g2 h2 c)) := by
  classical
  obtain ⟨hr1, hr2⟩ := h.1.2.2.2.2.2.1
  obtain ⟨hp1, hp2⟩ := h.1.2.2.2.2.1
  have hn := h.1.2.2.1
  have hn0 := h.G.1
  have h98 := pl_98 hn hr2
  have hZ := fun f => h.s f g2 h2 c
  have h23 := h.2.2.2.2.2
  have e36 : ∀ f, zI (mS Z f g2 h2 c) 36 = (n : Nat) := fun f => (hZ f).2.2.2.1
  have e37 : ∀ f, zI (mS Z f g2 h2 c) 37 = (r : Nat) := fun f => (hZ f).2.2.2.2.1
  have e38 : ∀ f, zI (mS Z f g2 h2 c) 38 = (g : Nat) := fun f => (hZ f).2.2.1
  have e39 : ∀ f, zI (mS Z f g2 h2 c) 39 = (m : Nat) := fun f => (hZ f).2.1
  let W := (n - 1) * (n - 1) * r
  let Q : Nat → Nat → Nat → (Int → Int) → Prop := fun x y i f => ∃ w : fV p, fRow W f w ∧ ∀ x' y' i', 1 ≤ x' → x' < n → 1 ≤ y' → y' < n → i' < r → w (pl n r x' y' i') = if gM4 x y i 0 x' y' i' 0 then cbv r T M (eU r u q) x' y' i' else 0
  have Qcg : ∀ {x y i x2 y2 i2 f}, Q x y i f → (∀ x' y' i', 1 ≤ x' → x' < n → 1 ≤ y' → y' < n → i' < r → (gM4 x y i 0 x' y' i' 0 ↔ gM4 x2 y2 i2 0 x' y' i' 0)) → Q x2 y2 i2 f := by
    rintro x y i x2 y2 i2 f ⟨w, q1, q2⟩ hh
    refine ⟨w, q1, fun x' y' i' a1 a2 a3 a4 a5 => ?_⟩
    rw [q2 x' y' i' a1 a2 a3 a4 a5]
    by_cases c1 : gM4 x y i 0 x' y' i' 0
    · rw [if_pos c1, if_pos ((hh x' y' i' a1 a2 a3 a4 a5).mp c1)]
    · rw [if_neg c1, if_neg (fun z => c1 ((hh x' y' i' a1 a2 a3 a4 a5).mpr z))]
  have Q0 : Q 1 1 0 f1 := ⟨fZ, hf1, fun x' y' i' a1 a2 a3 a4 a5 => by rw [if_neg (by unfold gM4; omega)]; rfl⟩
  refine iX7_bounds_l31 (I := fun v1 v2 v3 w => u = v1 ∧ q = v2 ∧ ∃ (x : Nat) (f : Int → Int), x = v3 ∧ 1 ≤ x ∧ x ≤ n ∧ mS Z f g2 h2 c = w ∧ Q x 1 0 f) (μ := fun _ _ v3 _ => (n - v3).toNat) (P := P) ?_ F _ _ _ _ ⟨rfl, rfl, 1, f1, rfl, by omega, hn0, rfl, Q0⟩ (by unfold fF at hF; omega)
  rintro ra _ _ _ _ ⟨rfl, rfl, x, f, rfl, hx1, hx, rfl, hQ⟩ ih
  unfold zX7_bounds_h31
  rw [e36]
  by_cases c1 : x = n
  · rw [zLe_t (by omega)]
    obtain ⟨w, q1, q2⟩ := hQ
    refine fin f fun j hj => ?_
    rw [q1 j hj]
    obtain ⟨a1, a2, a3, a4, a5, a6⟩ := pl_ex hj
    have e1 := q2 _ _ _ a1 a2 a3 a4 a5
    have e2 := cbD_at (T := T) (M := M) (eU (p := p) r u q) a1 a2 a3 a4 a5
    rw [a6] at e1 e2
    rw [e1, e2, if_pos (by unfold gM4; omega)]
  · have hxn : x < n := by omega
    rw [zLe_f (by omega)]
    refine iX7_bounds_l42 (I := fun v1 v2 v3 v4 w => u = v1 ∧ q = v2 ∧ x = v3 ∧ ∃ (y : Nat) (f : Int → Int), y = v4 ∧ 1 ≤ y ∧ y ≤ n ∧ mS Z f g2 h2 c = w ∧ Q x y 0 f) (μ := fun _ _ _ v4 _ => (n - v4).toNat) (P := P) ?_ F _ _ _ _ _ ⟨rfl, rfl, rfl, 1, f, rfl, by omega, hn0, rfl, hQ⟩ (by unfold fF at hF; omega)
    rintro rb _ _ _ _ _ ⟨rfl, rfl, rfl, y, f, rfl, hy1, hy, rfl, hQ⟩ ih2
    unfold zX7_bounds_h42
    rw [e36]
    by_cases c2 : y = n
    · rw [zLe_t (by omega)]
      exact ih _ _ _ _ ⟨rfl, rfl, x + 1, f, rfl, by omega, by omega, rfl, Qcg hQ fun x' y' i' a1 a2 a3 a4 a5 => by unfold gM4; omega⟩ (by omega)
    · have hyn : y < n := by omega
      have hxy := h.G.2.1 x y hxn hyn
      rw [zLe_f (by omega)]
      refine iX7_bounds_l54 (I := fun v1 v2 v3 v4 v5 w => u = v1 ∧ q = v2 ∧ x = v3 ∧ y = v4 ∧ ∃ (i : Nat) (f : Int → Int), i = v5 ∧ i ≤ r ∧ mS Z f g2 h2 c = w ∧ Q x y i f) (μ := fun _ _ _ _ v5 _ => (r - v5).toNat) (P := P) ?_ F _ _ _ _ _ _ ⟨rfl, rfl, rfl, rfl, 0, f, rfl, by omega, rfl, hQ⟩ (by unfold fF at hF; omega)
      rintro rc _ _ _ _ _ _ ⟨rfl, rfl, rfl, rfl, i, f, rfl, hi, rfl, hQ⟩ ih3
      unfold zX7_bounds_h54
      rw [e37]
      by_cases c3 : i = r
      · rw [zLe_t (by omega)]
        exact ih2 _ _ _ _ _ ⟨rfl, rfl, rfl, y + 1, f, rfl, by omega, by omega, rfl, Qcg hQ fun x' y' i' a1 a2 a3 a4 a5 => by unfold gM4; omega⟩ (by omega)
      · have hir : i < r := by omega
        have hl := pl_lt (r := r) hx1 hxn hy1 hyn hir
        have hmb := (h.1.2.2.2.2.2.2 x i q hxn (by omega) (by omega)).2
        obtain ⟨w, q1, q2⟩ := hQ
        have hw0 : w (pl n r x y i) = 0 := by rw [q2 x y i hx1 hxn hy1 hyn hir, if_neg (by unfold gM4; omega)]
        -- all three put
        have s4 : ∀ (v1 v2 v3 : Int) f', v1 + v3 + v2 = bnV T M u q x y i → fRow W f' (fAx (fAx (fAx w (fC v1) (fUnit (pl n r x y i))) (fC v2) (fUnit (pl n r x y i))) (fC v3) (fUnit (pl n r x y i))) → P (rc u q x y ((i : Int) + 1) (mS Z f' g2 h2 c)) := by
          intro v1 v2 v3 f' hv hf'
          refine ih3 _ _ _ _ _ _ ⟨rfl, rfl, rfl, rfl, i + 1, f', rfl, by omega, rfl, _, hf', fun x' y' i' a1 a2 a3 a4 a5 => ?_⟩ (by omega)
          show ((w (pl n r x' y' i') + fC v1 * (if pl n r x' y' i' = pl n r x y i then 1 else 0)) + fC v2 * (if pl n r x' y' i' = pl n r x y i then 1 else 0)) + fC v3 * (if pl n r x' y' i' = pl n r x y i then 1 else 0) = _
          by_cases c5 : x' = x ∧ y' = y ∧ i' = i
          · obtain ⟨rfl, rfl, rfl⟩ := c5
            rw [if_pos rfl, hw0, if_pos (by unfold gM4; omega), ← bnV_C hu1 hq hir, ← hv, fC_add, fC_add]
            grind
          · rw [if_neg (fun e => c5 (pl_eq a1 a2 a3 a4 a5 hx1 hxn hy1 hyn hir e)), q2 x' y' i' a1 a2 a3 a4 a5]
            by_cases c6 : gM4 x y i 0 x' y' i' 0
            · rw [if_pos c6, if_pos (by unfold gM4 at *; omega)]; grind
            · rw [if_neg c6, if_neg (by unfold gM4 at *; omega)]; grind
        have s3 : ∀ (v1 v2 v3 : Int) f', v1 + v3 + v2 = bnV T M u q x y i → -1000 ≤ v3 ∧ v3 ≤ 1000 → fRow W f' (fAx (fAx w (fC v1) (fUnit (pl n r x y i))) (fC v2) (fUnit (pl n r x y i))) → P (zX7_bounds_b153 F rc (fun v1 v2 v3 v4 w => rb v1 v2 v3 (v4 + 1) w) u q x y i (pl n r x y i : Nat) v3 (mS Z f' g2 h2 c)) := by
          intro v1 v2 v3 f' hv hb hf'
          unfold zX7_bounds_b153
          obtain ⟨f6, b1, b2⟩ := m_put (F := F) (Z := Z) (g2 := g2) (h2 := h2) (c := c) (by omega) h23 h98 hf' hl hb rfl
          rw [zC0_o b1]
          exact s4 v1 v2 v3 f6 hv b2
        have s2 : ∀ (v1 v2 : Int) f', v1 = (if x = u ∧ i = q then 1 else 0) → v2 = (if y = u then M x i q else 0) → fRow W f' (fAx w (fC v1) (fUnit (pl n r x y i))) → P (zX7_bounds_b121 F rc (fun v1 v2 v3 v4 w => rb v1 v2 v3 (v4 + 1) w) u q x y i (pl n r x y i : Nat) (pl n r x y i : Nat) v2 (mS Z f' g2 h2 c)) := by
          intro v1 v2 f' hv1 hv2 hf'
          have hb2 : -1000 ≤ v2 ∧ v2 ≤ 1000 := by rw [hv2]; split <;> omega
          unfold zX7_bounds_b121
          obtain ⟨f6, b1, b2⟩ := m_put (F := F) (Z := Z) (g2 := g2) (h2 := h2) (c := c) (by omega) h23 h98 hf' hl hb2 rfl
          rw [zC0_o b1, e38, zC1_o ((hZ f6).mulG hxn hyn)]
          by_cases c5 : T x y = u
          · rw [zEq_t (by omega)]
            by_cases c6 : i = q
            · rw [zEq_t (by omega)]
              exact s3 v1 v2 (-1) f6 (by unfold bnV; rw [hv1, hv2, if_pos (show T x y = u ∧ i = q from ⟨c5, c6⟩)]) (by omega) b2
            · rw [zEq_f (by omega)]
              unfold zX7_bounds_b152
              exact s3 v1 v2 0 f6 (by unfold bnV; rw [hv1, hv2, if_neg (show ¬ (T x y = u ∧ i = q) from fun z => c6 z.2)]) (by omega) b2
          · rw [zEq_f (by omega)]
            unfold zX7_bounds_b152
            exact s3 v1 v2 0 f6 (by unfold bnV; rw [hv1, hv2, if_neg (show ¬ (T x y = u ∧ i = q) from fun z => c5 z.1)]) (by omega) b2
        have s1 : ∀ (v1 : Int), v1 = (if x = u ∧ i = q then 1 else 0) → P (zX7_bounds_b93 F rc (fun v1 v2 v3 v4 w => rb v1 v2 v3 (v4 + 1) w) u q x y i (pl n r x y i : Nat) (pl n r x y i : Nat) v1 (mS Z f g2 h2 c)) := by
          intro v1 hv1
          have hb1 : -1000 ≤ v1 ∧ v1 ≤ 1000 := by rw [hv1]; split <;> omega
          unfold zX7_bounds_b93
          obtain ⟨f6, b1, b2⟩ := m_put (F := F) (Z := Z) (g2 := g2) (h2 := h2) (c := c) (by omega) h23 h98 q1 hl hb1 rfl
          rw [zC0_o b1]
          by_cases c5 : y = u
          · rw [zEq_t (by omega), e39, zC1_o ((hZ f6).mat hxn (by omega) (by omega))]
            exact s2 v1 _ f6 hv1 (by rw [if_pos c5]) b2
          · rw [zEq_f (by omega)]
            exact s2 v1 0 f6 hv1 (by rw [if_neg c5]) b2
        rw [zLe_f (by omega), zC1_o ((hZ f).place hx1 hy1)]
        by_cases c5 : x = u
        · rw [zEq_t (by omega)]
          by_cases c6 : i = q
          · rw [zEq_t (by omega)]
            exact s1 1 (by rw [if_pos ⟨c5, c6⟩])
          · rw [zEq_f (by omega)]
            unfold zX7_bounds_b92
            exact s1 0 (by rw [if_neg (fun z => c6 z.2)])
        · rw [zEq_f (by omega)]
          unfold zX7_bounds_b92
          exact s1 0 (by rw [if_neg (fun z => c5 z.1)])
theorem m_bounds {p : Nat} [NeZero p] (hF : fF F) (hI : fInv p) (h : mBo Z m g n T p r M) (h24 : zI Z 24 = ((n - 1) * (n - 1) * r : Nat)) : ∃ f g2 h2 k R l Gb Lb, zX7_bounds F Z = some (zwA (zwA (zuA (mS Z f g2 h2 (k : Nat)) 30 4 (k : Nat)) 31 Gb) 32 Lb) ∧ mRows (p := p) ((n - 1) * (n - 1) * r) k Gb Lb R l ∧ fRref (fSpn ((n - 1) * (n - 1) * r) (gB (p := p) n r T M)) k R l := by
  obtain ⟨hr1, hr2⟩ := h.1.2.2.2.2.2.1
  obtain ⟨hp1, hp2⟩ := h.1.2.2.2.2.1
  have hn := h.1.2.2.1
  have hn0 := h.G.1
  have h98 := pl_98 hn hr2
  have h14 : (n - 1) * r ≤ 14 := Nat.le_trans (Nat.mul_le_mul (show n - 1 ≤ 7 by omega) hr2) (by omega)
  let W := (n - 1) * (n - 1) * r
  have e0 : zuI Z 28 0 = mS Z (zA Z 25) (zA Z 26) (zA Z 27) ((0 : Nat) : Int) := by
    have e2 := mS_ui (Z := Z) (f := zA Z 25) (g := zA Z 26) (h := zA Z 27) (c := zI Z 28) 0
    rw [mS_e] at e2; exact e2
  let P : Option zS → Prop := fun x => ∃ f g2 h2 k R l Gb Lb, x = some (zwA (zwA (zuA (mS Z f g2 h2 (k : Nat)) 30 4 (k : Nat)) 31 Gb) 32 Lb) ∧ mRows (p := p) W k Gb Lb R l ∧ fRref (fSpn W (gB (p := p) n r T M)) k R l
  let gg : Nat → Nat → fV p := fun u q => cbD n r T M (eU r u q)
  let Q : Nat → Nat → zS → Prop := fun u q w => ∃ f g2 h2 k R l, mS Z f g2 h2 (k : Nat) = w ∧ mRows (p := p) W k g2 h2 R l ∧ fRref (fSpn W (GP n r 1 gg u q)) k R l
  have e36 : ∀ {u q w}, Q u q w → zI w 36 = (n : Nat) := by
    rintro u q w ⟨f, g2, h2, k, R, l, rfl, -⟩; exact h.2.2.2.1
  have e37 : ∀ {u q w}, Q u q w → zI w 37 = (r : Nat) := by
    rintro u q w ⟨f, g2, h2, k, R, l, rfl, -⟩; exact h.2.2.2.2.1
  unfold zX7_bounds
  rw [zPI_o, e0]
  refine iX7_bounds_l7 (I := fun v1 w => ∃ u : Nat, u = v1 ∧ 1 ≤ u ∧ u ≤ n ∧ Q u 0 w) (μ := fun v1 _ => (n - v1).toNat) (P := P) ?_ F _ _ ⟨1, rfl, by omega, hn0, _, _, _, 0, fun _ => fZ, fun _ => 0, rfl, mRows_0, fRref_nil (fun g => GP_0 g) _ _⟩ (by unfold fF at hF; omega)
  rintro ra _ _ ⟨u, rfl, hu1, hu, hq⟩ ih
  unfold zX7_bounds_h7
  rw [e36 hq]
  by_cases c1 : u = n
  · rw [zLe_t (by omega)]
    dsimp only
    obtain ⟨f, g2, h2, k, R, l, rfl, e1, e2⟩ := hq
    rw [c1, fSpn_congr (fun g => GP_end g)] at e2
    have e2' : fRref (fSpn W (gB (p := p) n r T M)) k R l := by
      have : fSpn W (fun g => ∃ x' i', 1 ≤ x' ∧ x' < n ∧ i' < r ∧ g = gg x' i') = fSpn W (gB (p := p) n r T M) := rfl
      rw [← this]; exact e2
    have hk14 : k ≤ 14 := by have := gB_few hI e2'.1; omega
    rw [zSt_o (by omega), mS_28]
    let S0 : zS := zuA (mS Z f g2 h2 (k : Nat)) 30 4 (k : Nat)
    let S2 : (Int → Int) → (Int → Int) → zS := fun Gb Lb => zwA (zwA S0 31 Gb) 32 Lb
    have S2e : S2 (zA Z 31) (zA Z 32) = S0 := by
      show zwA (zwA S0 31 (zA S0 31)) 32 (zA S0 32) = S0
      rw [zwA_e, zwA_e]
    have S2u31 : ∀ Gb Lb i x, zuA (S2 Gb Lb) 31 i x = S2 (zup Gb i x) Lb := fun Gb Lb i x => by
      show zuA (zwA (zwA S0 31 Gb) 32 Lb) 31 i x = zwA (zwA S0 31 (zup Gb i x)) 32 Lb
      unfold zuA zwA
      congr 3
      funext l
      by_cases c : l = 31
      · subst c; rfl
      · rw [if_neg c]
        show (if l = 32 then Lb else if l = 31 then Gb else zA S0 l) = if l = 32 then Lb else if l = 31 then zup Gb i x else zA S0 l
        by_cases c2 : l = 32
        · rw [if_pos c2, if_pos c2]
        · rw [if_neg c2, if_neg c2, if_neg c, if_neg c]
    have S2u32 : ∀ Gb Lb i x, zuA (S2 Gb Lb) 32 i x = S2 Gb (zup Lb i x) := fun Gb Lb i x => zwA_u _ _ _ _ _
    have S2i : ∀ Gb Lb, zI (S2 Gb Lb) 24 = (W : Int) ∧ zI (S2 Gb Lb) 28 = (k : Int) ∧ zA (S2 Gb Lb) 26 = g2 ∧ zA (S2 Gb Lb) 27 = h2 := fun Gb Lb => ⟨h24, rfl, rfl, rfl⟩
    have st : (zuA (mS Z f g2 h2 (k : Nat)) 30 4 (k : Nat)) = S2 (zA Z 31) (zA Z 32) := S2e.symm
    rw [st]
    refine iX7_bounds_l202 (I := fun v1 w => ∃ (s : Nat) (Gb Lb : Int → Int), s = v1 ∧ s ≤ k ∧ S2 Gb Lb = w ∧ mRows (p := p) W s Gb Lb R l) (μ := fun v1 _ => (k - v1).toNat) (P := P) ?_ F _ _ ⟨0, _, _, rfl, by omega, rfl, mRows_0⟩ (by unfold fF at hF; omega)
    rintro rb _ _ ⟨s, Gb, Lb, rfl, hs, rfl, hm⟩ ih2
    unfold zX7_bounds_h202
    rw [(S2i Gb Lb).2.1]
    by_cases c2 : s = k
    · rw [zLe_t (by omega)]
      rw [c2] at hm
      exact ⟨f, g2, h2, k, R, l, Gb, Lb, rfl, hm, e2'⟩
    · have hsk : s < k := by omega
      obtain ⟨a1, a2, a3⟩ := e1 s hsk
      rw [zLe_f (by omega), (S2i Gb Lb).2.2.2, zLd_o (by omega), a1, zSt_o (by omega), S2u32]
      refine iX7_bounds_l224 (I := fun v1 v2 w => s = v1 ∧ ∃ (j : Nat) (G1 : Int → Int), j = v2 ∧ j ≤ W ∧ S2 G1 (zup Lb s (l s : Nat)) = w ∧ (∀ j' : Nat, j' < j → G1 (98 * (s : Int) + j') = (((R s j').val : Nat) : Int)) ∧ ∀ i : Int, i < 98 * (s : Int) → G1 i = Gb i) (μ := fun _ v2 _ => (W - v2).toNat) (P := P) ?_ F _ _ _ ⟨rfl, 0, Gb, rfl, by omega, rfl, fun j' hj' => by omega, fun _ _ => rfl⟩ (by unfold fF at hF; omega)
      rintro rc _ _ _ ⟨rfl, j, G1, rfl, hj, rfl, u1, u2⟩ ih3
      unfold zX7_bounds_h224
      rw [(S2i G1 _).1]
      by_cases c3 : j = W
      · rw [zLe_t (by omega)]
        refine ih2 _ _ ⟨s + 1, G1, _, rfl, by omega, rfl, fun t ht => ?_⟩ (by omega)
        by_cases c4 : t = s
        · rw [c4, zup_s]
          exact ⟨rfl, a2, fun j' hj' => u1 j' (by omega)⟩
        · have := hm t (by omega)
          rw [zup_n (by omega)]
          exact ⟨this.1, this.2.1, fun j' hj' => by
            have hW98 : W ≤ 98 := h98
            rw [u2 _ (by omega)]; exact this.2.2 j' hj'⟩
      · have hjW : j < W := by omega
        have hW98 : W ≤ 98 := h98
        rw [zLe_f (by omega), (S2i G1 _).2.2.1, zLd_o (by omega), a3 j hjW, zSt_o (by omega), S2u31]
        refine ih3 _ _ _ ⟨rfl, j + 1, _, rfl, by omega, rfl, fun j' hj' => ?_, fun i hi => ?_⟩ (by omega)
        · by_cases c4 : j' = j
          · rw [c4, zup_s]
          · rw [zup_n (by omega)]; exact u1 j' (by omega)
        · rw [zup_n (by omega)]; exact u2 i hi
  · have hun : u < n := by omega
    rw [zLe_f (by omega)]
    refine iX7_bounds_l17 (I := fun v1 v2 w => u = v1 ∧ ∃ q : Nat, q = v2 ∧ q ≤ r ∧ Q u q w) (μ := fun _ v2 _ => (r - v2).toNat) (P := P) ?_ F _ _ _ ⟨rfl, 0, rfl, by omega, hq⟩ (by unfold fF at hF; omega)
    rintro rb _ _ _ ⟨rfl, q, rfl, hqr, hq⟩ ih2
    unfold zX7_bounds_h17
    rw [e37 hq]
    by_cases c2 : q = r
    · rw [zLe_t (by omega)]
      obtain ⟨f, g2, h2, k, R, l, rfl, e1, e2⟩ := hq
      rw [c2, fSpn_congr (fun g => GP_next g)] at e2
      exact ih _ _ ⟨u + 1, rfl, by omega, by omega, f, g2, h2, k, R, l, rfl, e1, e2⟩ (by omega)
    · have hq' : q < r := by omega
      obtain ⟨f, g2, h2, k, R, l, rfl, e1, e2⟩ := hq
      obtain ⟨f1, a1, a2⟩ := m_clear (F := F) (Z := Z) (f := f) (g2 := g2) (h2 := h2) (c := (k : Nat)) hF
      have hf1 : fRow W f1 (fZ : fV p) := fun j hj => by
        have hW98 : W ≤ 98 := h98
        rw [a2 j (by omega) (by omega)]; exact (fV_0.mpr rfl).symm
      rw [zLe_f (by omega), zC0_o a1]
      refine m_bdRow hF h hu1 hun hq' hf1 P (fun f' hf' => ?_)
      have hG : ∀ g, GP n r 1 gg u q g → fOk W g := by
        rintro g ⟨x', i', -, -, -, -, rfl⟩ i hi
        exact if_neg (by have hi' : (n - 1) * (n - 1) * r ≤ i := hi; omega)
      obtain ⟨f6, g6, h6, k6, R6, l6, d1, d2, d3⟩ := m_set (F := F) (Z := Z) (f := f') (G' := GP n r 1 gg u (q + 1)) hF hI h.2.2.2.2.2 h24 ⟨by omega, h98⟩ e1 hG e2 (v := gg u q) hf' (fun i hi => if_neg (by have hi' : (n - 1) * (n - 1) * r ≤ i := hi; omega)) (fun g => GP_step hu1 hun hq' g)
      rw [zC0_o d1]
      exact ih2 _ _ _ ⟨rfl, q + 1, rfl, by omega, f6, g6, h6, k6, R6, l6, rfl, d2, d3⟩ (by omega)
end MBD
