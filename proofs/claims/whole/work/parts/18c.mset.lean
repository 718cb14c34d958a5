/-! THE MODEL'S LINES: settles -/
section MSE
variable {F W k : Nat} {Z : zS} {l : Nat → Nat}
theorem m_settles {p : Nat} [NeZero p] {R : Nat → fV p} {Gn : fV p → Prop} (hF : fF F) (hI : fInv p) (hc : zI Z 23 = p ∧ zI Z 24 = W ∧ zI Z 28 = k) (hb : p < 100 ∧ W ≤ 98) (h : mRows W k (zA Z 26) (zA Z 27) R l) (hG : ∀ g, Gn g → fOk W g) (hE : fRref (fSpn W Gn) k R l) {v : fV p} (hv : fRow W (zA Z 25) v) (hvo : fOk W v) : ∃ f g h' k' R' l', zX7_settles F Z = some (mS Z f g h' (k' : Nat)) ∧ mRows W k' g h' R' l' ∧ fRref (fSpn W (fun g => Gn g ∨ g = v)) k' R' l' := by
  have hp := fP (p := p)
  have hone := fOne hI
  have hS := fSpn_sub hG
  have hkW : k ≤ W := by
    have := fEch_count hI hS hE.1
    rw [this]; exact nC_le _ _
  have hRo : ∀ s, s < k → fOk W (R s) := fun s hs => hS.1 _ (hE.1.1 s hs).1
  obtain ⟨f0, u, r1, r2, r3, r4, r5⟩ := m_reduceLine (F := F) hF hc ⟨hb.1, hb.2, by omega⟩ h (fun s hs => ⟨hRo s hs, fun t ht => hE.2.1 s t hs ht⟩) hv hvo
  have hus := r5 (fSpn W Gn) hS (fun s hs => (hE.1.1 s hs).1)
  have e0 : zwA Z 25 f0 = mS Z f0 (zA Z 26) (zA Z 27) k := by
    have : zwA (mS Z (zA Z 25) (zA Z 26) (zA Z 27) (zI Z 28)) 25 f0 = mS Z f0 (zA Z 26) (zA Z 27) (zI Z 28) := mS_w25 f0
    rw [mS_e, hc.2.2] at this; exact this
  rw [e0] at r1
  let P : Option zS → Prop := fun r => ∃ f g h' k' R' l', r = some (mS Z f g h' (k' : Nat)) ∧ mRows W k' g h' R' l' ∧ fRref (fSpn W (fun g => Gn g ∨ g = v)) k' R' l'
  -- from a first place on
  have rest : ∀ f : Nat, f < W → u f ≠ 0 → (∀ j, j < f → u j = 0) → P (zX7_settles_b29 F f (mS Z f0 (zA Z 26) (zA Z 27) k)) := by
    intro f hf hf1 hf0
    have hfl : ∀ s, s < k → l s ≠ f := fun s hs e => hf1 (e ▸ r4 s hs)
    obtain ⟨b, hb1⟩ := hI.2 (u f) hf1
    have hbz : b ≠ 0 := fun q => by rw [q] at hb1; exact hI.1 (by grind)
    have hbb := fV_lt b
    have hbu := fV_lt (u f)
    have hb1' : 1 ≤ b.val := Nat.pos_of_ne_zero fun q => hbz (fV_0.mp (by omega))
    unfold zX7_settles_b29
    rw [mS_24, hc.2.1, zEq_f (by omega)]
    refine iX7_settles_l40 (I := fun v1 v2 w => f = v1 ∧ mS Z f0 (zA Z 26) (zA Z 27) k = w ∧ ∃ y : Nat, y = v2 ∧ 1 ≤ y ∧ y ≤ b.val) (μ := fun _ v2 _ => (p - v2).toNat) (P := P) ?_ F _ _ _ ⟨rfl, rfl, 1, rfl, by omega, hb1'⟩ (by unfold fF at hF; omega)
    rintro ra _ _ _ ⟨rfl, rfl, y, rfl, hy1, hy2⟩ ih
    unfold zX7_settles_h40
    have hm : 0 ≤ (y : Int) * ((u f).val : Int) ∧ (y : Int) * ((u f).val : Int) ≤ 100 * 100 := ⟨Int.mul_nonneg (by omega) (by omega), Int.mul_le_mul (by omega) (by omega) (by omega) (by omega)⟩
    rw [mS_A25, zLd_o (by omega), r2 f hf, mS_23, hc.1, zRem_C (p := p) hb.1 (by omega), fC_mul, fC_v]
    have hcl := fV_lt (fC (y : Int) * u f)
    by_cases q : fC (y : Int) * u f = 1
    · rw [zEq_t (by rw [q, hone.2]; omega)]
      -- the line times back
      let c : Fin p := fC (y : Int)
      have hcz : c ≠ 0 := fun e => by
        have : c * u f = 1 := q
        rw [e] at this; exact hI.1 (by grind)
      let w : fV p := fun i => c * u i
      have hw1 : w f = 1 := q
      have hwo : fOk W w := fun i hi => by show c * u i = 0; rw [r3 i hi]; grind
      have hyb : (y : Int) < 100 := by omega
      refine iX7_settles_l65 (I := fun v1 v2 v3 w' => f = v1 ∧ (y : Int) = v2 ∧ ∃ (z : Nat) (g : Int → Int), z = v3 ∧ z ≤ W ∧ mS Z g (zA Z 26) (zA Z 27) k = w' ∧ fRow W g (fun j => if j < z then w j else u j)) (μ := fun _ _ v3 _ => (W - v3).toNat) (P := P) ?_ F _ _ _ _ ⟨rfl, rfl, 0, f0, rfl, by omega, rfl, fun j hj => ?_⟩ (by unfold fF at hF; omega)
      · rintro rb _ _ _ _ ⟨rfl, rfl, z, g0, rfl, hz, rfl, hg0⟩ ih2
        unfold zX7_settles_h65
        rw [mS_24, hc.2.1]
        by_cases q2 : z = W
        · rw [zLe_t (by omega)]
          have hg : fRow W g0 w := fun j hj => by
            rw [hg0 j hj]
            show ((((if j < z then w j else u j) : Fin p).val : Nat) : Int) = _
            rw [if_pos (by omega)]
          clear hg0 ih2
          -- each row less what it has at the place
          let R1 : Nat → fV p := fun s => fAx (R s) (- R s f) w
          have hlt : ∀ (s j : Nat), s < k → j < W → 98 * s + j < 9604 := fun s j hs hj => by omega
          refine iX7_settles_l100 (I := fun v1 v3 w' => f = v1 ∧ ∃ (s : Nat) (g : Int → Int), s = v3 ∧ s ≤ k ∧ mS Z g0 g (zA Z 27) k = w' ∧ ∀ t j : Nat, t < k → j < W → g (98 * (t : Int) + j) = (((if t < s then R1 t j else R t j : Fin p).val : Nat) : Int)) (μ := fun _ v3 _ => (k - v3).toNat) (P := P) ?_ F _ _ _ ⟨rfl, 0, zA Z 26, rfl, by omega, rfl, fun t j ht hj => by rw [if_neg (by omega)]; exact (h t ht).2.2 j hj⟩ (by unfold fF at hF; omega)
          rintro rc _ _ _ ⟨rfl, s, g, rfl, hs, rfl, hgr⟩ ih3
          unfold zX7_settles_h100 zX7_settles_b189
          rw [mS_28]
          by_cases q3 : s = k
          · rw [zLe_t (by omega)]
            dsimp only
            rw [mS_28]
            have hgR : ∀ t j : Nat, t < k → j < W → g (98 * (t : Int) + j) = (((R1 t j : Fin p).val : Nat) : Int) := fun t j ht hj => by
              rw [hgr t j ht hj, if_pos (by omega)]
            clear hgr ih3
            -- its place
            have hk1 : k + 1 ≤ W := by
              have := nC_inj (P := fun _ => True) (Q := fun _ => True) (n := k + 1) (m := W) (fun i => if i = k then f else l i) (fun i hi _ => ⟨by
                by_cases c : i = k
                · rw [if_pos c]; exact hf
                · rw [if_neg c]; exact (h i (by omega)).2.1, trivial⟩) (fun i j hi hj _ _ e => by
                by_cases c : i = k <;> by_cases d : j = k
                · omega
                · rw [if_pos c, if_neg d] at e; exact (hfl j (by omega) e.symm).elim
                · rw [if_neg c, if_pos d] at e; exact (hfl i (by omega) e).elim
                · rw [if_neg c, if_neg d] at e; exact hE.1.2.1 i j (by omega) (by omega) e)
              rw [nC_all (fun _ _ => trivial), nC_all (fun _ _ => trivial)] at this
              exact this
            refine iX7_settles_l200 (I := fun v1 v3 w' => f = v1 ∧ ∃ (a : Nat) (g2 h2 : Int → Int), a = v3 ∧ a ≤ k ∧ mS Z g0 g2 h2 k = w' ∧ (∀ i : Nat, i < a → h2 i = l i ∧ ∀ j : Nat, j < W → g2 (98 * (i : Int) + j) = (((R1 i j : Fin p).val : Nat) : Int)) ∧ (∀ i : Nat, a < i → i ≤ k → h2 i = l (i - 1) ∧ ∀ j : Nat, j < W → g2 (98 * (i : Int) + j) = (((R1 (i - 1) j : Fin p).val : Nat) : Int)) ∧ ∀ s, a ≤ s → s < k → f < l s) (μ := fun _ v3 _ => v3.toNat) (P := P) ?_ F _ _ _ ⟨rfl, k, g, zA Z 27, rfl, by omega, rfl, fun i hi => ⟨(h i hi).1, fun j hj => hgR i j hi hj⟩, fun i h1 h2 => by omega, fun s h1 h2 => by omega⟩ (by unfold fF at hF; omega)
            rintro rd _ _ _ ⟨rfl, a, g2, h2, rfl, ha, rfl, lo, hi, gt⟩ ih4
            unfold zX7_settles_h200
            have fin : (∀ s, s < a → l s < f) → P (zX7_settles_b280 F f a (mS Z g0 g2 h2 k)) := by
              intro hlow
              unfold zX7_settles_b280
              rw [zSt_o (by omega), mS_u27]
              refine iX7_settles_l290 (I := fun v3 v4 w' => a = v3 ∧ ∃ (z : Nat) (g3 : Int → Int), z = v4 ∧ z ≤ W ∧ mS Z g0 g3 (zup h2 a f) k = w' ∧ (∀ j : Nat, j < z → g3 (98 * (a : Int) + j) = (((w j : Fin p).val : Nat) : Int)) ∧ ∀ i j : Nat, i ≠ a → j < W → g3 (98 * (i : Int) + j) = g2 (98 * (i : Int) + j)) (μ := fun _ v4 _ => (W - v4).toNat) (P := P) ?_ F _ _ _ ⟨rfl, 0, g2, rfl, by omega, rfl, fun j hj => by omega, fun i j _ _ => rfl⟩ (by unfold fF at hF; omega)
              rintro re _ _ _ ⟨rfl, z3, g3, rfl, hz3, rfl, hg3, hg3'⟩ ih5
              unfold zX7_settles_h290
              rw [mS_24, hc.2.1]
              by_cases q5 : z3 = W
              · rw [zLe_t (by omega)]
                dsimp only
                rw [zPI_o, mS_28, mS_ui]
                refine ⟨g0, g3, zup h2 a f, k + 1, rIns a R1 w, rIns a l f, rfl, fun i hi' => ?_, fRref_ins hI hG hE hvo hus r4 hcz rfl hw1 hf0 ha hlow gt⟩
                unfold rIns
                by_cases c1 : i < a
                · rw [if_pos c1, if_pos c1, zup_n (by omega)]
                  exact ⟨(lo i c1).1, (h i (by omega)).2.1, fun j hj => by rw [hg3' i j (by omega) hj]; exact (lo i c1).2 j hj⟩
                · rw [if_neg c1, if_neg c1]
                  by_cases c2 : i = a
                  · rw [if_pos c2, if_pos c2, c2, zup_s]
                    exact ⟨rfl, hf, fun j hj => hg3 j (by omega)⟩
                  · rw [if_neg c2, if_neg c2, zup_n (by omega)]
                    have := hi i (by omega) (by omega)
                    exact ⟨this.1, (h (i - 1) (by omega)).2.1, fun j hj => by rw [hg3' i j (by omega) hj]; exact this.2 j hj⟩
              · have hz3W : z3 < W := by omega
                rw [zLe_f (by omega), mS_A25, zLd_o (by omega), hg z3 hz3W, zSt_o (by omega), mS_u26]
                refine ih5 _ _ _ ⟨rfl, z3 + 1, _, rfl, by omega, rfl, fun j hj => ?_, fun i j hia hj => ?_⟩ (by omega)
                · by_cases c : j = z3
                  · rw [c, zup_s]
                  · rw [zup_n (by omega)]; exact hg3 j (by omega)
                · rw [zup_n (by omega)]; exact hg3' i j hia hj
            by_cases q4 : a = 0
            · rw [zLe_t (by omega)]
              exact fin fun s hs => by omega
            · have hl1 := lo (a - 1) (by omega)
              have ea : (((a - 1 : Nat)) : Int) = (a : Int) - 1 := by omega
              rw [zLe_f (by omega), mS_A27, zLd_o (by omega), ← ea, hl1.1]
              have hll := (h (a - 1) (by omega)).2.1
              by_cases q5 : l (a - 1) ≤ f
              · rw [zLe_t (by omega)]
                refine fin fun s hs => ?_
                have hne := hfl (a - 1) (by omega)
                rcases Nat.eq_or_lt_of_le (show s ≤ a - 1 by omega) with c | c
                · rw [c]; omega
                · have := hE.2.2 s (a - 1) c (by omega); omega
              · rw [zLe_f (by omega), zLd_o (by omega), hl1.1, zSt_o (by omega), mS_u27]
                refine iX7_settles_l233 (I := fun v1 v3 v4 w' => f = v1 ∧ a = v3 ∧ ∃ (z : Nat) (g3 : Int → Int), z = v4 ∧ z ≤ W ∧ mS Z g0 g3 (zup h2 a (l (a - 1))) k = w' ∧ (∀ j : Nat, j < z → g3 (98 * (a : Int) + j) = (((R1 (a - 1) j : Fin p).val : Nat) : Int)) ∧ ∀ i j : Nat, i ≠ a → j < W → g3 (98 * (i : Int) + j) = g2 (98 * (i : Int) + j)) (μ := fun _ _ v4 _ => (W - v4).toNat) (P := P) ?_ F _ _ _ _ ⟨rfl, rfl, 0, g2, rfl, by omega, rfl, fun j hj => by omega, fun i j _ _ => rfl⟩ (by unfold fF at hF; omega)
                rintro re _ _ _ _ ⟨rfl, rfl, z3, g3, rfl, hz3, rfl, hg3, hg3'⟩ ih5
                unfold zX7_settles_h233
                rw [mS_24, hc.2.1]
                by_cases q6 : z3 = W
                · rw [zLe_t (by omega)]
                  have e1 : (a : Int) + (-1 : Int) = ((a - 1 : Nat) : Int) := by omega
                  dsimp only
                  rw [e1]
                  refine ih4 _ _ _ ⟨rfl, a - 1, g3, _, rfl, by omega, rfl, fun i hi' => ?_, fun i hi1 hi2 => ?_, fun s hs1 hs2 => ?_⟩ (by omega)
                  · rw [zup_n (by omega)]
                    exact ⟨(lo i (by omega)).1, fun j hj => by rw [hg3' i j (by omega) hj]; exact (lo i (by omega)).2 j hj⟩
                  · by_cases c : i = a
                    · rw [c, zup_s]
                      exact ⟨rfl, fun j hj => hg3 j (by omega)⟩
                    · rw [zup_n (by omega)]
                      have := hi i (by omega) hi2
                      exact ⟨this.1, fun j hj => by rw [hg3' i j c hj]; exact this.2 j hj⟩
                  · rcases Nat.eq_or_lt_of_le hs1 with c | c
                    · rw [← c]; omega
                    · exact gt s (by omega) hs2
                · have hz3W : z3 < W := by omega
                  rw [zLe_f (by omega), mS_A26, zLd_o (by omega), ← ea, hg3' (a - 1) z3 (by omega) hz3W, hl1.2 z3 hz3W, zSt_o (by omega), mS_u26]
                  refine ih5 _ _ _ _ ⟨rfl, rfl, z3 + 1, _, rfl, by omega, rfl, fun j hj => ?_, fun i j hia hj => ?_⟩ (by omega)
                  · by_cases c : j = z3
                    · rw [c, zup_s]
                    · rw [zup_n (by omega)]; exact hg3 j (by omega)
                  · rw [zup_n (by omega)]; exact hg3' i j hia hj
          · have hs : s < k := by omega
            have hrs : g (98 * (s : Int) + f) = (((R s f : Fin p).val : Nat) : Int) := by
              rw [hgr s f hs hf, if_neg (by omega)]
            have hbr := fV_lt (R s f)
            rw [zLe_f (by omega), mS_A26, zLd_o (by omega), hrs]
            have go : ∀ g2, (∀ t j : Nat, t < k → j < W → g2 (98 * (t : Int) + j) = (((if t < s + 1 then R1 t j else R t j : Fin p).val : Nat) : Int)) → P (rc (f : Int) ((s : Int) + 1) (mS Z g0 g2 (zA Z 27) k)) := fun g2 hg2 => ih3 _ _ _ ⟨rfl, s + 1, g2, rfl, by omega, rfl, hg2⟩ (by omega)
            have hsh : fC ((p : Int) - ((R s f).val : Int)) = - R s f := by
              rw [fC_sub, fC_p, fC_v]; grind
            refine iX7_settles_l124 (I := fun v1 v3 v4 v5 w' => f = v1 ∧ s = v3 ∧ ((R s f).val : Int) = v4 ∧ ∃ (z : Nat) (g2 : Int → Int), z = v5 ∧ z ≤ W ∧ mS Z g0 g2 (zA Z 27) k = w' ∧ ∀ t j : Nat, t < k → j < W → g2 (98 * (t : Int) + j) = (((if t < s ∨ (t = s ∧ j < z) then R1 t j else R t j : Fin p).val : Nat) : Int)) (μ := fun _ _ _ v5 _ => (W - v5).toNat) (P := P) ?_ F _ _ _ _ _ ⟨rfl, rfl, rfl, 0, g, rfl, by omega, rfl, fun t j ht hj => ?_⟩ (by unfold fF at hF; omega)
            · rintro rd _ _ _ _ _ ⟨rfl, rfl, rfl, z2, g2, rfl, hz2, rfl, hg2⟩ ih4
              unfold zX7_settles_h124
              rw [mS_24, hc.2.1]
              by_cases q4 : z2 = W
              · rw [zLe_t (by omega)]
                refine go g2 fun t j ht hj => ?_
                rw [hg2 t j ht hj]
                by_cases c : t < s + 1
                · rw [if_pos c, if_pos (by omega)]
                · rw [if_neg c, if_neg (by omega)]
              · have hz2W : z2 < W := by omega
                rw [zLe_f (by omega)]
                by_cases c0 : R s f = 0
                · rw [zLe_t (by have := fV_0.mpr c0; omega)]
                  refine go g2 fun t j ht hj => ?_
                  rw [hg2 t j ht hj]
                  have e1 : R1 s j = R s j := by show R s j + - R s f * w j = R s j; rw [c0]; grind
                  by_cases c : t < s
                  · rw [if_pos (Or.inl c), if_pos (by omega)]
                  · by_cases c2 : t = s
                    · subst c2
                      rw [if_pos (show t < t + 1 by omega), e1]
                      split <;> rfl
                    · rw [if_neg (by omega), if_neg (by omega)]
                · have c1 : ((R s f).val : Int) ≠ 0 := fun q => c0 (fV_0.mp q)
                  have hb2 := fV_lt (R s z2)
                  have hb4 := fV_lt (w z2)
                  have hm2 : 0 ≤ ((p : Int) - ((R s f).val : Int)) * ((w z2).val : Int) ∧ ((p : Int) - ((R s f).val : Int)) * ((w z2).val : Int) ≤ 100 * 100 := ⟨Int.mul_nonneg (by omega) hb4.1, Int.mul_le_mul (by omega) (by omega) hb4.1 (by omega)⟩
                  rw [zLe_f (by omega), mS_A26, zLd_o (by omega), hg2 s z2 hs hz2W, if_neg (by omega), mS_A25, zLd_o (by omega), hg z2 hz2W, mS_23, hc.1, zRem_C (p := p) hb.1 (by omega), zSt_o (by omega), mS_u26]
                  refine ih4 _ _ _ _ _ ⟨rfl, rfl, rfl, z2 + 1, _, rfl, by omega, rfl, fun t j ht hj => ?_⟩ (by omega)
                  by_cases c2 : t = s ∧ j = z2
                  · rw [c2.1, c2.2, zup_s, if_pos (by omega), fC_add, fC_mul, fC_v, fC_v, hsh]
                    rfl
                  · rw [zup_n (by omega), hg2 t j ht hj]
                    by_cases c3 : t < s ∨ (t = s ∧ j < z2)
                    · rw [if_pos c3, if_pos (by omega)]
                    · rw [if_neg c3, if_neg (by omega)]
            · rw [hgr t j ht hj]
              by_cases c : t < s
              · rw [if_pos c, if_pos (by omega)]
              · rw [if_neg c, if_neg (by omega)]
        · have hzW : z < W := by omega
          have hgz : g0 z = ((u z).val : Int) := by
            rw [hg0 z hzW]
            show ((((if z < z then w z else u z) : Fin p).val : Nat) : Int) = _
            rw [if_neg (by omega)]
          have hb4 := fV_lt (u z)
          have hm2 : 0 ≤ ((u z).val : Int) * (y : Int) ∧ ((u z).val : Int) * (y : Int) ≤ 100 * 100 := ⟨Int.mul_nonneg hb4.1 (by omega), Int.mul_le_mul (by omega) (by omega) (by omega) (by omega)⟩
          rw [zLe_f (by omega), mS_A25, zLd_o (by omega), hgz, mS_23, hc.1, zRem_C (p := p) hb.1 (by omega), zSt_o (by omega), mS_u25]
          refine ih2 _ _ _ _ ⟨rfl, rfl, z + 1, _, rfl, by omega, rfl, fun j hj => ?_⟩ (by omega)
          show zup g0 z _ j = (((if j < z + 1 then w j else u j : Fin p).val : Nat) : Int)
          by_cases c2 : j = z
          · rw [c2, zup_s, if_pos (by omega), fC_mul, fC_v]
            congr 2
            show u z * fC (y : Int) = fC (y : Int) * u z
            grind
          · rw [zup_n (by omega), hg0 j hj]
            show ((((if j < z then w j else u j : Fin p)).val : Nat) : Int) = _
            by_cases c3 : j < z
            · rw [if_pos c3, if_pos (by omega)]
            · rw [if_neg c3, if_neg (by omega)]
      · rw [r2 j hj]
        show _ = ((((if j < 0 then w j else u j : Fin p)).val : Nat) : Int)
        rw [if_neg (by omega)]
    · have q2 : (((fC (y : Int) * u f).val : Nat) : Int) ≠ 1 := fun z => q (Fin.ext (by have := hone.2; omega))
      rw [zEq_f (by omega)]
      have hne : y ≠ b.val := fun z => q (by rw [z, fC_v]; grind)
      exact ih _ _ _ ⟨rfl, rfl, y + 1, rfl, by omega, by omega⟩ (by omega)
  unfold zX7_settles
  rw [zC0_o r1]
  refine iX7_settles_l6 (I := fun v1 w => mS Z f0 (zA Z 26) (zA Z 27) k = w ∧ ∃ y : Nat, y = v1 ∧ y ≤ W ∧ ∀ j, j < y → u j = 0) (μ := fun v1 _ => (W - v1).toNat) (P := P) ?_ F _ _ ⟨rfl, 0, rfl, by omega, fun j hj => by omega⟩ (by unfold fF at hF; omega)
  rintro ra _ _ ⟨rfl, y, rfl, hy, hy0⟩ ih
  unfold zX7_settles_h6
  rw [mS_24, hc.2.1]
  by_cases q : y = W
  · rw [zLe_t (by omega)]
    unfold zX7_settles_b29
    dsimp only
    rw [mS_24, hc.2.1, zEq_t (by omega)]
    have hz0 : u = fZ := by
      funext j
      rcases Nat.lt_or_ge j W with c | c
      · exact hy0 j (by omega)
      · exact r3 j c
    exact ⟨f0, zA Z 26, zA Z 27, k, R, l, rfl, h, fRref_Z hG hE hvo hus r4 hz0⟩
  · have hyW : y < W := by omega
    have hbu := fV_lt (u y)
    rw [zLe_f (by omega), mS_A25, zLd_o (by omega), r2 y hyW]
    by_cases z : u y = 0
    · rw [zEq_t (by have := fV_0.mpr z; omega)]
      exact ih _ _ ⟨rfl, y + 1, rfl, by omega, fun j hj => by
        rcases Nat.lt_or_ge j y with c | c
        · exact hy0 j c
        · rw [show j = y by omega]; exact z⟩ (by omega)
    · have z1 : ((u y).val : Int) ≠ 0 := fun q => z (fV_0.mp q)
      rw [zEq_f (by omega)]
      exact rest y hyW z hy0
end MSE
