/-! THE MODEL'S LINES: reduced by rows -/
theorem zRem_C {α : Type} {p : Nat} [NeZero p] {x : Int} {K : Int → Option α} (hp : p < 100) (h : 0 ≤ x ∧ x < 2147483648) : zRem x p K = K (((fC x : Fin p).val : Nat) : Int) := by
  have := fP (p := p)
  rw [zRem_p (by omega), fC_e]
def mRows {p : Nat} (W k : Nat) (g h : Int → Int) (R : Nat → fV p) (l : Nat → Nat) : Prop := ∀ s, s < k → h s = l s ∧ l s < W ∧ ∀ j : Nat, j < W → g (98 * (s : Int) + j) = (((R s j).val : Nat) : Int)
section MLI
variable {F W k : Nat} {Z : zS} {l : Nat → Nat}
theorem m_reduceLine {p : Nat} [NeZero p] {R : Nat → fV p} (hF : fF F) (hc : zI Z 23 = p ∧ zI Z 24 = W ∧ zI Z 28 = k) (hb : p < 100 ∧ W ≤ 98 ∧ k ≤ 98) (h : mRows W k (zA Z 26) (zA Z 27) R l) (hR : ∀ s, s < k → fOk W (R s) ∧ ∀ t, t < k → R s (l t) = if s = t then 1 else 0) {v : fV p} (hv : fRow W (zA Z 25) v) (hvo : fOk W v) : ∃ f u, zX7_reduceLine F Z = some (zwA Z 25 f) ∧ fRow W f u ∧ fOk W u ∧ (∀ s, s < k → u (l s) = 0) ∧ (∀ V : fV p → Prop, fSub W V → (∀ s, s < k → V (R s)) → V (fun i => u i - v i)) := by
  have hp := fP (p := p)
  let P : Option zS → Prop := fun r => ∃ f u, r = some (zwA Z 25 f) ∧ fRow W f u ∧ fOk W u ∧ (∀ s, s < k → u (l s) = 0) ∧ (∀ V : fV p → Prop, fSub W V → (∀ s, s < k → V (R s)) → V (fun i => u i - v i))
  refine iX7_reduceLine_l2 (I := fun v1 w => ∃ (s : Nat) (f : Int → Int) (u : fV p), s = v1 ∧ s ≤ k ∧ zwA Z 25 f = w ∧ fRow W f u ∧ fOk W u ∧ (∀ t, t < s → u (l t) = 0) ∧ (∀ V : fV p → Prop, fSub W V → (∀ s, s < k → V (R s)) → V (fun i => u i - v i))) (μ := fun v1 _ => (k - v1).toNat) (P := P) ?_ F _ _ ⟨0, zA Z 25, v, rfl, by omega, zwA_e Z 25, hv, hvo, fun t q => by omega, fun V hV _ => ?_⟩ (by unfold fF at hF; omega)
  · rintro r _ _ ⟨s, f, u, rfl, hs, rfl, hf, huo, hu0, hus⟩ ih
    unfold zX7_reduceLine_h2 zX7_reduceLine_b78
    rw [zwA_I, hc.2.2]
    by_cases q : s = k
    · subst q
      rw [zLe_t (by omega)]
      exact ⟨f, u, rfl, hf, huo, hu0, hus⟩
    · have hs : s < k := by omega
      obtain ⟨a1, a2, a3⟩ := h s hs
      obtain ⟨b1, b2⟩ := hR s hs
      have hbu := fV_lt (u (l s))
      rw [zLe_f (by omega), zLd_o (by omega), zwA_n (show (27 : Nat) ≠ 25 by decide), a1, zLd_o (by omega), zwA_s, hf _ a2]
      have fin : ∀ f2, fRow W f2 (fAx u (- u (l s)) (R s)) → P (r ((s : Int) + 1) (zwA Z 25 f2)) := fun f2 hf2 => ih _ _ ⟨s + 1, f2, _, rfl, by omega, rfl, hf2, fun i hi => by
          show u i + - u (l s) * R s i = 0
          rw [huo i hi, b1 i hi]; grind, fun t ht => by
          show u (l t) + - u (l s) * R s (l t) = 0
          by_cases c : t = s
          · rw [c, b2 s hs, if_pos rfl]; grind
          · rw [hu0 t (by omega), b2 t (by omega), if_neg (fun e => c e.symm)]; grind, fun V hV hRV => by
          have c1 := hV.2.2 _ (R s) (- u (l s)) (hus V hV hRV) (hRV s hs)
          have c2 : fAx (fun i => u i - v i) (- u (l s)) (R s) = fun i => fAx u (- u (l s)) (R s) i - v i := by
            funext i; show u i - v i + - u (l s) * R s i = u i + - u (l s) * R s i - v i; grind
          rw [c2] at c1; exact c1⟩ (by omega)
      have hsh : fC ((p : Int) - ((u (l s)).val : Int)) = - u (l s) := by
        rw [fC_sub, fC_p, fC_v]; grind
      refine iX7_reduceLine_l24 (I := fun v1 v2 v3 w => s = v1 ∧ ((u (l s)).val : Int) = v2 ∧ ∃ (z : Nat) (g : Int → Int), z = v3 ∧ z ≤ W ∧ zwA Z 25 g = w ∧ fRow W g (fun j => if j < z then u j + - u (l s) * R s j else u j)) (μ := fun _ _ v3 _ => (W - v3).toNat) (P := P) ?_ F _ _ _ _ ⟨rfl, rfl, 0, f, rfl, by omega, rfl, fun j hj => ?_⟩ (by unfold fF at hF; omega)
      · rintro r2 _ _ _ _ ⟨rfl, rfl, z, g, rfl, hz, rfl, hg⟩ ih2
        unfold zX7_reduceLine_h24
        rw [zwA_I, hc.2.1]
        by_cases q2 : z = W
        · rw [zLe_t (by omega)]
          refine fin g fun j hj => ?_
          rw [hg j hj]
          show ((((if j < z then u j + - u (l s) * R s j else u j) : Fin p).val : Nat) : Int) = _
          rw [if_pos (by omega)]; rfl
        · have hzW : z < W := by omega
          rw [zLe_f (by omega)]
          by_cases c0 : u (l s) = 0
          · rw [zLe_t (by have := fV_0.mpr c0; omega)]
            refine fin g fun j hj => ?_
            rw [hg j hj]
            show ((((if j < z then u j + - u (l s) * R s j else u j) : Fin p).val : Nat) : Int) = (((u j + - u (l s) * R s j : Fin p).val : Nat) : Int)
            rw [c0]
            congr 2
            split <;> grind
          · have c1 : ((u (l s)).val : Int) ≠ 0 := fun q => c0 (fV_0.mp q)
            have hgz : g z = ((u z).val : Int) := by
              rw [hg z hzW]
              show ((((if z < z then u z + - u (l s) * R s z else u z) : Fin p).val : Nat) : Int) = _
              rw [if_neg (by omega)]
            have hb2 := fV_lt (R s z)
            have hb4 := fV_lt (u z)
            have hm : 0 ≤ ((p : Int) - ((u (l s)).val : Int)) * ((R s z).val : Int) ∧ ((p : Int) - ((u (l s)).val : Int)) * ((R s z).val : Int) ≤ 100 * 100 := ⟨Int.mul_nonneg (by omega) hb2.1, Int.mul_le_mul (by omega) (by omega) hb2.1 (by omega)⟩
            rw [zLe_f (by omega), zLd_o (by omega), zwA_s, hgz, zLd_o (by omega), zwA_n (show (26 : Nat) ≠ 25 by decide), a3 z hzW, hc.1, zRem_C (p := p) hb.1 (by omega), zSt_o (by omega), zwA_u]
            refine ih2 _ _ _ _ ⟨rfl, rfl, z + 1, _, rfl, by omega, rfl, fun j hj => ?_⟩ (by omega)
            show zup g z _ j = (((if j < z + 1 then _ else _ : Fin p).val : Nat) : Int)
            by_cases c2 : j = z
            · rw [c2, zup_s, if_pos (by omega), fC_add, fC_mul, fC_v, fC_v, hsh]
            · rw [zup_n (by omega), hg j hj]
              show ((((if j < z then _ else _ : Fin p)).val : Nat) : Int) = _
              by_cases c3 : j < z
              · rw [if_pos c3, if_pos (by omega)]
              · rw [if_neg c3, if_neg (by omega)]
      · rw [hf j hj]
        show _ = ((((if j < 0 then _ else _ : Fin p)).val : Nat) : Int)
        rw [if_neg (by omega)]
  · have e0 : (fun i => v i - v i) = (fZ : fV p) := by funext i; show v i - v i = 0; grind
    rw [e0]; exact hV.2.1
theorem m_lessBound {p : Nat} [NeZero p] {R : Nat → fV p} (hF : fF F) (hc : zI Z 23 = p ∧ zI Z 24 = W ∧ zA Z 30 4 = k) (hb : p < 100 ∧ W ≤ 98 ∧ k ≤ 14) (h : mRows W k (zA Z 31) (zA Z 32) R l) (hR : ∀ s, s < k → fOk W (R s) ∧ ∀ t, t < k → R s (l t) = if s = t then 1 else 0) {v : fV p} (hv : fRow W (zA Z 25) v) (hvo : fOk W v) : ∃ f u, zX7_lessBound F Z = some (zwA Z 25 f) ∧ fRow W f u ∧ fOk W u ∧ (∀ s, s < k → u (l s) = 0) ∧ (∀ V : fV p → Prop, fSub W V → (∀ s, s < k → V (R s)) → V (fun i => u i - v i)) := by
  have hp := fP (p := p)
  let P : Option zS → Prop := fun r => ∃ f u, r = some (zwA Z 25 f) ∧ fRow W f u ∧ fOk W u ∧ (∀ s, s < k → u (l s) = 0) ∧ (∀ V : fV p → Prop, fSub W V → (∀ s, s < k → V (R s)) → V (fun i => u i - v i))
  refine iX7_lessBound_l2 (I := fun v1 w => ∃ (s : Nat) (f : Int → Int) (u : fV p), s = v1 ∧ s ≤ k ∧ zwA Z 25 f = w ∧ fRow W f u ∧ fOk W u ∧ (∀ t, t < s → u (l t) = 0) ∧ (∀ V : fV p → Prop, fSub W V → (∀ s, s < k → V (R s)) → V (fun i => u i - v i))) (μ := fun v1 _ => (k - v1).toNat) (P := P) ?_ F _ _ ⟨0, zA Z 25, v, rfl, by omega, zwA_e Z 25, hv, hvo, fun t q => by omega, fun V hV _ => ?_⟩ (by unfold fF at hF; omega)
  · rintro r _ _ ⟨s, f, u, rfl, hs, rfl, hf, huo, hu0, hus⟩ ih
    unfold zX7_lessBound_h2 zX7_lessBound_b80
    rw [zLd_o (by omega), zwA_n (show (30 : Nat) ≠ 25 by decide), hc.2.2]
    by_cases q : s = k
    · subst q
      rw [zLe_t (by omega)]
      exact ⟨f, u, rfl, hf, huo, hu0, hus⟩
    · have hs : s < k := by omega
      obtain ⟨a1, a2, a3⟩ := h s hs
      obtain ⟨b1, b2⟩ := hR s hs
      have hbu := fV_lt (u (l s))
      rw [zLe_f (by omega), zLd_o (by omega), zwA_n (show (32 : Nat) ≠ 25 by decide), a1, zLd_o (by omega), zwA_s, hf _ a2]
      have fin : ∀ f2, fRow W f2 (fAx u (- u (l s)) (R s)) → P (r ((s : Int) + 1) (zwA Z 25 f2)) := fun f2 hf2 => ih _ _ ⟨s + 1, f2, _, rfl, by omega, rfl, hf2, fun i hi => by
          show u i + - u (l s) * R s i = 0
          rw [huo i hi, b1 i hi]; grind, fun t ht => by
          show u (l t) + - u (l s) * R s (l t) = 0
          by_cases c : t = s
          · rw [c, b2 s hs, if_pos rfl]; grind
          · rw [hu0 t (by omega), b2 t (by omega), if_neg (fun e => c e.symm)]; grind, fun V hV hRV => by
          have c1 := hV.2.2 _ (R s) (- u (l s)) (hus V hV hRV) (hRV s hs)
          have c2 : fAx (fun i => u i - v i) (- u (l s)) (R s) = fun i => fAx u (- u (l s)) (R s) i - v i := by
            funext i; show u i - v i + - u (l s) * R s i = u i + - u (l s) * R s i - v i; grind
          rw [c2] at c1; exact c1⟩ (by omega)
      have hsh : fC ((p : Int) - ((u (l s)).val : Int)) = - u (l s) := by
        rw [fC_sub, fC_p, fC_v]; grind
      refine iX7_lessBound_l26 (I := fun v1 v2 v3 w => s = v1 ∧ ((u (l s)).val : Int) = v2 ∧ ∃ (z : Nat) (g : Int → Int), z = v3 ∧ z ≤ W ∧ zwA Z 25 g = w ∧ fRow W g (fun j => if j < z then u j + - u (l s) * R s j else u j)) (μ := fun _ _ v3 _ => (W - v3).toNat) (P := P) ?_ F _ _ _ _ ⟨rfl, rfl, 0, f, rfl, by omega, rfl, fun j hj => ?_⟩ (by unfold fF at hF; omega)
      · rintro r2 _ _ _ _ ⟨rfl, rfl, z, g, rfl, hz, rfl, hg⟩ ih2
        unfold zX7_lessBound_h26
        rw [zwA_I, hc.2.1]
        by_cases q2 : z = W
        · rw [zLe_t (by omega)]
          refine fin g fun j hj => ?_
          rw [hg j hj]
          show ((((if j < z then u j + - u (l s) * R s j else u j) : Fin p).val : Nat) : Int) = _
          rw [if_pos (by omega)]; rfl
        · have hzW : z < W := by omega
          rw [zLe_f (by omega)]
          by_cases c0 : u (l s) = 0
          · rw [zLe_t (by have := fV_0.mpr c0; omega)]
            refine fin g fun j hj => ?_
            rw [hg j hj]
            show ((((if j < z then u j + - u (l s) * R s j else u j) : Fin p).val : Nat) : Int) = (((u j + - u (l s) * R s j : Fin p).val : Nat) : Int)
            rw [c0]
            congr 2
            split <;> grind
          · have c1 : ((u (l s)).val : Int) ≠ 0 := fun q => c0 (fV_0.mp q)
            have hgz : g z = ((u z).val : Int) := by
              rw [hg z hzW]
              show ((((if z < z then u z + - u (l s) * R s z else u z) : Fin p).val : Nat) : Int) = _
              rw [if_neg (by omega)]
            have hb2 := fV_lt (R s z)
            have hb4 := fV_lt (u z)
            have hm : 0 ≤ ((p : Int) - ((u (l s)).val : Int)) * ((R s z).val : Int) ∧ ((p : Int) - ((u (l s)).val : Int)) * ((R s z).val : Int) ≤ 100 * 100 := ⟨Int.mul_nonneg (by omega) hb2.1, Int.mul_le_mul (by omega) (by omega) hb2.1 (by omega)⟩
            rw [zLe_f (by omega), zLd_o (by omega), zwA_s, hgz, zLd_o (by omega), zwA_n (show (31 : Nat) ≠ 25 by decide), a3 z hzW, hc.1, zRem_C (p := p) hb.1 (by omega), zSt_o (by omega), zwA_u]
            refine ih2 _ _ _ _ ⟨rfl, rfl, z + 1, _, rfl, by omega, rfl, fun j hj => ?_⟩ (by omega)
            show zup g z _ j = (((if j < z + 1 then _ else _ : Fin p).val : Nat) : Int)
            by_cases c2 : j = z
            · rw [c2, zup_s, if_pos (by omega), fC_add, fC_mul, fC_v, fC_v, hsh]
            · rw [zup_n (by omega), hg j hj]
              show ((((if j < z then _ else _ : Fin p)).val : Nat) : Int) = _
              by_cases c3 : j < z
              · rw [if_pos c3, if_pos (by omega)]
              · rw [if_neg c3, if_neg (by omega)]
      · rw [hf j hj]
        show _ = ((((if j < 0 then _ else _ : Fin p)).val : Nat) : Int)
        rw [if_neg (by omega)]
  · have e0 : (fun i => v i - v i) = (fZ : fV p) := by funext i; show v i - v i = 0; grind
    rw [e0]; exact hV.2.1
end MLI
