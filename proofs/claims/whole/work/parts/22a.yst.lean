/-! THE CLASS: standards written -/
theorem fSum_front {p : Nat} [NeZero p] (h : Nat → Fin p) (n : Nat) : fSum h (n + 1) = h 0 + fSum (fun j => h (j + 1)) n := by
  induction n with
  | zero => show (0 : Fin p) + h 0 = h 0 + 0; grind
  | succ n ih =>
    show fSum h (n + 1) + h (n + 1) = h 0 + (fSum (fun j => h (j + 1)) n + h (n + 1))
    rw [ih]; grind
theorem fSum_rev {p : Nat} [NeZero p] (n : Nat) : ∀ h : Nat → Fin p, fSum (fun q => h (n - 1 - q)) n = fSum h n := by
  induction n with
  | zero => intro h; rfl
  | succ n ih =>
    intro h
    rw [fSum_front h n, ← ih (fun j => h (j + 1))]
    show fSum (fun q => h (n + 1 - 1 - q)) n + h (n + 1 - 1 - n) = _
    rw [show n + 1 - 1 - n = 0 by omega, fSum_congr (b := fun q => h (n - 1 - q + 1)) fun q hq => by rw [show n + 1 - 1 - q = n - 1 - q + 1 by omega]]
    grind
theorem fDot_sum {p : Nat} [NeZero p] (g v : fV p) (n : Nat) : fDot g v n = fSum (fun j => g j * v j) n := by
  induction n with
  | zero => rfl
  | succ n ih => show fDot g v n + g n * v n = fSum _ n + g n * v n; rw [ih]
theorem fDot_rv {p W : Nat} [NeZero p] (g v : fV p) : fDot (rv W g) (rv W v) W = fDot g v W := by
  rw [fDot_sum, fDot_sum, ← fSum_rev W (fun j => g j * v j)]
  refine fSum_congr fun q hq => ?_
  show rv W g q * rv W v q = g (W - 1 - q) * v (W - 1 - q)
  unfold rv
  rw [if_pos hq, if_pos hq]
/-- a row of an equation taken backwards against a pair -/
def dB {p : Nat} [NeZero p] (W : Nat) (R u : fV p) (m : Nat) : Fin p := fSum (fun j => R (W - 1 - j) * u j) m
theorem dB_dot {p W : Nat} [NeZero p] (R u : fV p) : fDot R (rv W u) W = dB W R u W := by
  rw [fDot_sum, ← fSum_rev W (fun j => R j * rv W u j)]
  unfold dB
  refine fSum_congr fun q hq => ?_
  show R (W - 1 - q) * rv W u (W - 1 - q) = _
  unfold rv
  rw [if_pos (by omega), show W - 1 - (W - 1 - q) = q by omega]
/-- the standard of a free place -/
def stF {p : Nat} [NeZero p] (W k : Nat) (R : Nat → fV p) (l : Nat → Nat) (fr : Nat) (u : fV p) : Prop := fOk W u ∧ u fr = 1 ∧ (∀ j, j < fr → u j = 0) ∧ (∀ j, j < W → j ≠ fr → (∀ s, s < k → l s ≠ W - 1 - j) → u j = 0) ∧ ∀ s, s < k → dB W (R s) u W = 0
section YST
variable {F t e n p r W k fr lim : Nat} {C : yC} {O : zO} {l : Nat → Nat}
theorem y_leadingNumber {p : Nat} [NeZero p] {R : Nat → fV p} (hK : C.1 e = some (1, lim)) (hkl : k ≤ lim) (h : eAt (O e) W k R l) {s j : Nat} (hs : s < k) (hj : j < W) : zX1_leadingNumber F C e (l s) j O = some ((((R s j).val : Nat) : Int), O) := by
  obtain ⟨h1, h2, h3, h4⟩ := h
  have h5 := h3 s hs
  unfold zX1_leadingNumber
  rw [yAR_o hK, yLd_o hK (by omega), h5.1.2.2, yO_o hK]
  have e1 : zX1_number F C e s j O = some ((((R s j).val : Nat) : Int), O) := by
    unfold zX1_number
    rw [yAR_o hK, yLE_o hK (by omega), h5.2.2.2.2 j hj]
  rw [yC1_o e1]
theorem y_writeStandard {p : Nat} [NeZero p] {R : Nat → fV p} (hF : fF F) (hI : fInv p) (hT : C.1 t = some (5, 0)) (hK : C.1 e = some (1, lim)) (hkl : k ≤ lim) (hp5 : p ≤ 5) (h : eAt (O e) W k R l) (hfr : fr < W) (hfree : ∀ s, s < k → l s ≠ W - 1 - fr) : ∃ f u, zX5_writeStandard F C t (some e) fr W p O = some (oW O t 0 f) ∧ fRow W f u ∧ stF W k R l fr u := by
  have het : e ≠ t := fun q => by rw [q, hT] at hK; cases hK
  have hW := h.2.1.1
  have hp := fP (p := p)
  have hone := fOne hI
  have hR := fun s (hs : s < k) => h.2.2.1 s hs
  have hfill : ∀ x, oup O t (zfl (O t) 0 98 x) = oW O t 0 (fun j => if 0 ≤ j ∧ j < (98 : Nat) then x else zA (O t) 0 j) := fun x => rfl
  have hEf : ∀ f, eAt (oW O t 0 f e) W k R l := fun f => by rw [oW_n het]; exact h
  unfold zX5_writeStandard
  rw [yAR_o hT, yFill_o hT, hfill, yAR_o hT, ySt_o hT (by omega), oW_st]
  let P : Option zO → Prop := fun x => ∃ f u, x = some (oW O t 0 f) ∧ fRow W f u ∧ stF W k R l fr u
  let u0 : fV p := fun j => if j = fr then 1 else 0
  -- what is so far: numbers from y on are 0, equations that lead behind y hold
  let Q : Nat → fV p → Prop := fun y u => fOk W u ∧ u fr = 1 ∧ (∀ j, j < fr → u j = 0) ∧ (∀ j, y ≤ j → u j = 0) ∧ (∀ j, j < W → j ≠ fr → (∀ s, s < k → l s ≠ W - 1 - j) → u j = 0) ∧ ∀ s, s < k → W - 1 - l s < y → dB W (R s) u W = 0
  have lo : ∀ (u : fV p) s, s < k → (∀ j, j < fr → u j = 0) → W - 1 - l s < fr → dB W (R s) u W = 0 := fun u s hs hu hl => fSum_z fun j hj => by
    rcases Nat.lt_or_ge j fr with c | c
    · rw [hu j c]; grind
    · have := (hR s hs).1.1
      rw [(hR s hs).2.2.1 (W - 1 - j) (by omega)]; grind
  have Q0 : Q (fr + 1) u0 := by
    refine ⟨fun j hj => if_neg (by omega), if_pos rfl, fun j hj => if_neg (by omega), fun j hj => if_neg (by omega), fun j _ hne _ => if_neg hne, fun s hs hl => lo u0 s hs (fun j hj => if_neg (by omega)) ?_⟩
    have := (hR s hs).1.1
    have := hfree s hs
    omega
  refine iX5_writeStandard_l20 (I := fun v0 v1 v2 v3 v4 v5 w => t = v0 ∧ some e = v1 ∧ fr = v2 ∧ W = v3 ∧ p = v4 ∧ ∃ (y : Nat) (f : Int → Int) (u : fV p), y = v5 ∧ fr < y ∧ y ≤ W ∧ oW O t 0 f = w ∧ fRow W f u ∧ Q y u) (μ := fun _ _ _ _ _ v5 _ => (W - v5).toNat) (P := P) ?_ F _ _ _ _ _ _ _ ⟨rfl, rfl, rfl, rfl, rfl, fr + 1, _, u0, rfl, by omega, by omega, rfl, fun j hj => ?_, Q0⟩ (by unfold fF at hF; omega)
  · rintro ra _ _ _ _ _ _ _ ⟨rfl, rfl, rfl, rfl, rfl, y, f, u, rfl, hfy, hy, rfl, hf, hq⟩ ih
    obtain ⟨q1, q2, q3, q4, q5, q6⟩ := hq
    unfold zX5_writeStandard_h20 zX5_writeStandard_b102
    by_cases q : y = W
    · rw [zLe_t (by omega)]
      exact ⟨f, u, rfl, hf, q1, q2, q3, q5, fun s hs => q6 s hs (by have := (hR s hs).1.1; omega)⟩
    · have hyW : y < W := by omega
      have ey : ((W : Int) - 1) - (y : Int) = ((W - 1 - y : Nat) : Int) := by omega
      have hle := y_leadsAt (F := F) (O := oW O t 0 f) hK (hEf f) (show W - 1 - y < W by omega)
      rw [zLe_f (by omega), yO_o hK, ey]
      by_cases hx : ∃ s, s < k ∧ l s = W - 1 - y
      · rw [yC1_o (hle.1 hx), zEq_f (by omega)]
        obtain ⟨s, hs, hls⟩ := hx
        have hr := hR s hs
        refine iX5_writeStandard_l49 (I := fun v0 v1 v2 v3 v4 v5 v6 v7 v8 w => t = v0 ∧ some e = v1 ∧ fr = v2 ∧ W = v3 ∧ p = v4 ∧ y = v5 ∧ (W - 1 - y : Nat) = v6 ∧ oW O t 0 f = w ∧ ∃ m : Nat, m = v8 ∧ fr ≤ m ∧ m ≤ y ∧ (0 ≤ v7 ∧ v7 ≤ 25 * m) ∧ fC v7 = dB W (R s) u m) (μ := fun _ _ _ _ _ _ _ _ v8 _ => (y - v8).toNat) (P := P) ?_ F _ _ _ _ _ _ _ _ _ _ ⟨rfl, rfl, rfl, rfl, rfl, rfl, rfl, rfl, fr, rfl, by omega, by omega, by omega, ?_⟩ (by unfold fF at hF; omega)
        · rintro rb _ _ _ _ _ _ _ tot _ _ ⟨rfl, rfl, rfl, rfl, rfl, rfl, rfl, rfl, m, rfl, hm1, hm2, htot, htot2⟩ ih2
          unfold zX5_writeStandard_h49
          by_cases q7 : m = y
          · subst q7
            rw [zLe_t (by omega)]
            dsimp only
            rw [yAR_o hT, yC1_o (y_modC (p := p) (by omega) (by omega)), ySt_o hT (by omega), oW_st]
            let u' : fV p := fun j => if j = m then - dB W (R s) u m else u j
            refine ih _ _ _ _ _ _ _ ⟨rfl, rfl, rfl, rfl, rfl, m + 1, _, u', rfl, by omega, by omega, rfl, fun j hj => ?_, fun i hi => ?_, ?_, fun j hj => ?_, fun j hj => ?_, fun j hj hne hfj => ?_, fun s' hs' hl => ?_⟩ (by omega)
            · show zup f m _ j = (((if j = m then - dB W (R s) u m else u j : Fin p).val : Nat) : Int)
              by_cases c : j = m
              · rw [c, zup_s, if_pos rfl, fC_neg, htot2]
              · rw [zup_n (by omega), if_neg c]; exact hf j hj
            · show (if i = m then _ else u i) = 0
              rw [if_neg (by omega)]; exact q1 i hi
            · show (if fr = m then _ else u fr) = 1
              rw [if_neg (by omega)]; exact q2
            · show (if j = m then _ else u j) = 0
              rw [if_neg (by omega)]; exact q3 j hj
            · show (if j = m then _ else u j) = 0
              rw [if_neg (by omega)]; exact q4 j (by omega)
            · show (if j = m then _ else u j) = 0
              by_cases c : j = m
              · exact (hfj s hs (by rw [hls, c])).elim
              · rw [if_neg c]; exact q5 j hj hne hfj
            · -- an equation
              have hr' := hR s' hs'
              by_cases c : s' = s
              · rw [c]
                -- up to the place, the place, the rest
                have key : ∀ d, dB W (R s) u' (m + 1 + d) = 0 ∨ W < m + 1 + d := by
                  intro d
                  induction d with
                  | zero =>
                    left
                    show fSum (fun j => R s (W - 1 - j) * u' j) m + R s (W - 1 - m) * u' m = 0
                    have e1 : fSum (fun j => R s (W - 1 - j) * u' j) m = dB W (R s) u m := fSum_congr fun j hj => by
                      show R s (W - 1 - j) * (if j = m then _ else u j) = _
                      rw [if_neg (by omega)]
                    have e2 : u' m = - dB W (R s) u m := if_pos rfl
                    rw [e1, e2, ← hls, hr.2.1]; grind
                  | succ d ihd =>
                    by_cases cW : W < m + 1 + (d + 1)
                    · exact Or.inr cW
                    · left
                      rcases ihd with ihd | ihd
                      · show dB W (R s) u' (m + 1 + d) + R s (W - 1 - (m + 1 + d)) * u' (m + 1 + d) = 0
                        rw [ihd, hr.2.2.1 _ (by rw [hls]; omega)]; grind
                      · omega
                have := key (W - (m + 1))
                rw [show m + 1 + (W - (m + 1)) = W by omega] at this
                exact this.resolve_right (by omega)
              · have hne : l s' ≠ W - 1 - m := fun e1 => c (by
                  have a1 := hr'.1.2.2
                  rw [e1, ← hls, hr.1.2.2] at a1; omega)
                have e1 : dB W (R s') u' W = dB W (R s') u W := fSum_congr fun j hj => by
                  show R s' (W - 1 - j) * (if j = m then _ else u j) = _
                  by_cases cj : j = m
                  · have := hr'.1.1
                    rw [cj, hr'.2.2.1 (W - 1 - m) (by omega)]; grind
                  · rw [if_neg cj]
                rw [e1]
                have := hr'.1.1
                exact q6 s' hs' (by omega)
          · have hmy : m < y := by omega
            have em : ((W : Int) - 1) - (m : Int) = ((W - 1 - m : Nat) : Int) := by omega
            have hln := y_leadingNumber (F := F) (O := oW O t 0 f) hK hkl (hEf f) hs (show W - 1 - m < W by omega)
            rw [hls] at hln
            have hb1 := fV_lt (u m)
            have hb2 := fV_lt (R s (W - 1 - m))
            have hmm : 0 ≤ ((u m).val : Int) * ((R s (W - 1 - m)).val : Int) ∧ ((u m).val : Int) * ((R s (W - 1 - m)).val : Int) ≤ 5 * 5 := ⟨Int.mul_nonneg hb1.1 hb2.1, Int.mul_le_mul (by omega) (by omega) hb2.1 (by omega)⟩
            rw [zLe_f (by omega), yAR_o hT, yLd_o hT (by omega), oW_f, hf m (by omega), yO_o hK, em, yC1_o hln]
            refine ih2 _ _ _ _ _ _ _ _ _ _ ⟨rfl, rfl, rfl, rfl, rfl, rfl, rfl, rfl, m + 1, rfl, by omega, by omega, by omega, ?_⟩ (by omega)
            rw [fC_add, htot2, fC_mul, fC_v, fC_v]
            show dB W (R s) u m + u m * R s (W - 1 - m) = dB W (R s) u m + R s (W - 1 - m) * u m
            grind
        · rw [fC_0]
          exact (fSum_z fun j hj => by rw [q3 j hj]; grind).symm
      · have hx2 : ∀ s, s < k → l s ≠ W - 1 - y := fun s hs e => hx ⟨s, hs, e⟩
        rw [yC1_o (hle.2 hx2), zEq_t (by omega)]
        refine ih _ _ _ _ _ _ _ ⟨rfl, rfl, rfl, rfl, rfl, y + 1, f, u, rfl, by omega, by omega, rfl, hf, q1, q2, q3, fun j hj => q4 j (by omega), q5, fun s hs hl => q6 s hs ?_⟩ (by omega)
        have := (hR s hs).1.1
        have := hx2 s hs
        omega
  · by_cases c : j = fr
    · rw [c, zup_s]
      show (1 : Int) = (((if fr = fr then (1 : Fin p) else 0).val : Nat) : Int)
      rw [if_pos rfl, hone.2]
    · rw [zup_n (by omega)]
      show (if (0 : Int) ≤ (j : Int) ∧ (j : Int) < ((98 : Nat) : Int) then (0 : Int) else _) = (((if j = fr then (1 : Fin p) else 0).val : Nat) : Int)
      rw [if_pos (by omega), if_neg c]
      exact (fV_0.mpr rfl).symm
end YST
