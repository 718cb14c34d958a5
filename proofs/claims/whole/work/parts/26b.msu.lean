/-! THE MODEL: sums of standards, the class of a line -/
/-- so many of the rows as the digits of a number say -/
def cmb {p : Nat} [NeZero p] (R : Nat → fV p) (v k : Nat) : fV p := fun j => fSum (fun s => fC ((v / p ^ s : Nat) : Int) * R s j) k
/-- the number with these digits -/
def nB (p : Nat) : Nat → (Nat → Nat) → Nat
  | 0, _ => 0
  | k + 1, a => a 0 + p * nB p k (fun s => a (s + 1))
section MSU
variable {F m g n p r W k : Nat} {Z Z' : zS} {T : Nat → Nat → Nat} {M : Nat → Nat → Nat → Int}
theorem zw_m (Z : zS) (f : Int → Int) : zwA Z 25 f = mS Z f (zA Z 26) (zA Z 27) (zI Z 28) := by
  have := mS_w25 (Z := Z) (f := zA Z 25) (g := zA Z 26) (h := zA Z 27) (c := zI Z 28) f
  rw [mS_e] at this; exact this
theorem m_clear0 (hF : fF F) (Z : zS) : ∃ f', zX7_clearLine F Z = some (zwA Z 25 f') ∧ ∀ j : Int, 0 ≤ j → j < 98 → f' j = 0 := by
  obtain ⟨f', a1, a2⟩ := m_clear (F := F) (Z := Z) (f := zA Z 25) (g2 := zA Z 26) (h2 := zA Z 27) (c := zI Z 28) hF
  rw [mS_e] at a1
  exact ⟨f', by rw [a1, zw_m], a2⟩
theorem m_sumOf {p : Nat} [NeZero p] {R : Nat → fV p} {v : Nat} (hF : fF F) (h23 : zI Z 23 = p) (hp : 1 < p ∧ p ≤ 5) (h24 : zI Z 24 = (W : Nat)) (h35 : zI Z 35 = (k : Nat)) (hk : k ≤ 98) (hW : W ≤ 98) (hR : kRows W k (zA Z 33) R) (hv : v < 2147483648) : ∃ f, zX7_sumOf F (v : Nat) Z = some (zwA Z 25 f) ∧ fRow W f (cmb R v k) := by
  obtain ⟨f0, a1, a2⟩ := m_clear0 (F := F) hF Z
  unfold zX7_sumOf
  rw [zC0_o a1]
  refine iX7_sumOf_l8 (I := fun v2 v3 w => ∃ (s : Nat) (f : Int → Int), s = v3 ∧ ((v / p ^ s : Nat) : Int) = v2 ∧ s ≤ k ∧ zwA Z 25 f = w ∧ fRow W f (cmb R v s)) (μ := fun _ v3 _ => (k - v3).toNat) (P := fun x => ∃ f, x = some (zwA Z 25 f) ∧ fRow W f (cmb R v k)) ?_ F _ _ _ ⟨0, f0, rfl, by rw [Nat.pow_zero, Nat.div_one], by omega, rfl, fun j hj => by rw [a2 j (by omega) (by omega)]; exact (fV_0.mpr rfl).symm⟩ (by unfold fF at hF; omega)
  rintro ra _ _ _ ⟨s, f, rfl, rfl, hs, rfl, hf⟩ ih
  unfold zX7_sumOf_h8
  have e35 : ∀ f, zI (zwA Z 25 f) 35 = k := fun _ => h35
  have e24 : ∀ f, zI (zwA Z 25 f) 24 = W := fun _ => h24
  have e23 : ∀ f, zI (zwA Z 25 f) 23 = p := fun _ => h23
  have e33 : ∀ f, zA (zwA Z 25 f) 33 = zA Z 33 := fun _ => rfl
  rw [e35]
  by_cases c1 : s = k
  · rw [zLe_t (by omega)]
    exact ⟨f, rfl, by rw [← c1]; exact hf⟩
  · have hsk : s < k := by omega
    have hdv : v / p ^ s < 2147483648 := Nat.lt_of_le_of_lt (Nat.div_le_self _ _) hv
    generalize hq : v / p ^ s = q at *
    rw [zLe_f (by omega)]
    refine iX7_sumOf_l19 (I := fun v2 v3 v4 w => ((q : Nat) : Int) = v2 ∧ s = v3 ∧ ∃ (j : Nat) (f : Int → Int), j = v4 ∧ j ≤ W ∧ zwA Z 25 f = w ∧ (∀ j' : Nat, j' < j → f j' = (((cmb R v (s + 1) j').val : Nat) : Int)) ∧ ∀ j' : Nat, j ≤ j' → j' < W → f j' = (((cmb R v s j').val : Nat) : Int)) (μ := fun _ _ v4 _ => (W - v4).toNat) (P := fun x => ∃ f, x = some (zwA Z 25 f) ∧ fRow W f (cmb R v k)) ?_ F _ _ _ _ ⟨rfl, rfl, 0, f, rfl, by omega, rfl, fun j' hj' => by omega, fun j' _ hj' => hf j' hj'⟩ (by unfold fF at hF; omega)
    rintro rb _ _ _ _ ⟨rfl, rfl, j, f1, rfl, hj, rfl, u1, u2⟩ ih2
    unfold zX7_sumOf_h19
    rw [e24]
    by_cases c2 : j = W
    · rw [zLe_t (by omega)]
      dsimp only
      rw [e23, zDiv_p (by omega)]
      refine ih _ _ _ ⟨s + 1, f1, by omega, ?_, by omega, rfl, fun j' hj' => u1 j' (by omega)⟩ (by omega)
      rw [Nat.pow_succ, ← Nat.div_div_eq_div_mul, hq, Int.natCast_ediv]
    · have hjW : j < W := by omega
      have b1 := fV_lt (cmb R v s j)
      have b2 := fV_lt (fC (q : Int) : Fin p)
      have b3 := fV_lt (R s j)
      have b4 := i25 (a := (((fC (q : Int) : Fin p).val : Nat) : Int)) (b := (((R s j).val : Nat) : Int)) (by omega) (by omega)
      rw [zLe_f (by omega), zwA_s, zLd_o (by omega), u2 j (by omega) hjW, e23, zRem_C (p := p) (by omega) (by omega), e33, zLd_o (by omega), hR s hsk j hjW, zRem_C (p := p) (by omega) (by omega), zSt_o (by omega), zwA_u]
      refine ih2 _ _ _ _ ⟨rfl, rfl, j + 1, _, rfl, by omega, rfl, fun j' hj' => ?_, fun j' h1 h2 => ?_⟩ (by omega)
      · by_cases c3 : j' = j
        · rw [c3, zup_s, fC_add, fC_mul, fC_v, fC_v, fC_v]
          congr 2
          show _ = fSum (fun s => fC ((v / p ^ s : Nat) : Int) * R s j) s + fC ((v / p ^ s : Nat) : Int) * R s j
          rw [hq]; rfl
        · rw [zup_n (by omega)]; exact u1 j' (by omega)
      · rw [zup_n (by omega)]; exact u2 j' (by omega) h2
/-- the class of a line: its digits stand at the leads -/
theorem m_classOfLine {p : Nat} [NeZero p] (hF : fF F) (hI : fInv p) (h : mBo Z m g n T p r M) (h24 : zI Z 24 = ((n - 1) * (n - 1) * r : Nat)) {kB : Nat} {RB R : Nat → fV p} {lB l : Nat → Nat} (w2 : mRows ((n - 1) * (n - 1) * r) kB (zA Z 31) (zA Z 32) RB lB) (w3 : fRref (fSpn ((n - 1) * (n - 1) * r) (gB (p := p) n r T M)) kB RB lB) (x8 : zA Z 30 4 = kB) (hE : fRref (NS (p := p) n r T M) k R l) (hR : kRows ((n - 1) * (n - 1) * r) k (zA Z 33) R) (h35 : zI Z 35 = (k : Nat)) {v : fV p} (hv : fRow ((n - 1) * (n - 1) * r) (zA Z 25) v) (hvo : fOk ((n - 1) * (n - 1) * r) v) : ∃ f u, zX7_classOfLine F Z = some (((nB p k (fun s => (u (l s)).val) : Nat) : Int), zwA Z 25 f) ∧ fOk ((n - 1) * (n - 1) * r) u ∧ (∀ s, s < kB → u (lB s) = 0) ∧ fSpn ((n - 1) * (n - 1) * r) (gB (p := p) n r T M) (fun i => u i - v i) := by
  obtain ⟨hr1, hr2⟩ := h.1.2.2.2.2.2.1
  obtain ⟨hp1, hp2⟩ := h.1.2.2.2.2.1
  have hn := h.1.2.2.1
  have h98 := pl_98 hn hr2
  have h14 : (n - 1) * r ≤ 14 := Nat.le_trans (Nat.mul_le_mul (show n - 1 ≤ 7 by omega) hr2) (by omega)
  have hkB := gB_few hI w3.1
  have hSB := fSpn_sub (fun g (hg : gB (p := p) n r T M g) => gB_ok hg)
  obtain ⟨f6, u6, o1, o2, o3, o4, o5⟩ := m_lessBound (F := F) (Z := Z) (p := p) (k := kB) (W := (n - 1) * (n - 1) * r) (l := lB) (R := RB) hF ⟨h.2.2.2.2.2, h24, x8⟩ ⟨by omega, h98, by omega⟩ w2 (fun s hs => ⟨hSB.1 _ (w3.1.1 s hs).1, fun t ht => w3.2.1 s t hs ht⟩) hv hvo
  refine ⟨f6, u6, ?_, o3, o4, o5 _ hSB (fun s hs => (w3.1.1 s hs).1)⟩
  have hN : fSub ((n - 1) * (n - 1) * r) (NS (p := p) n r T M) := fAway_sub (fNul_sub _)
  have hk98 : k ≤ 98 := by
    have := fEch_count hI hN hE.1
    have h9 := nC_le (fLead (NS (p := p) n r T M)) ((n - 1) * (n - 1) * r)
    omega
  have hlW : ∀ s, s < k → l s < (n - 1) * (n - 1) * r := fun s hs => fLead_lt hN ((fEch_lead hI hN hE.1 _).mpr ⟨s, hs, rfl⟩)
  unfold zX7_classOfLine
  rw [zC0_o o1]
  have e35 : zI (zwA Z 25 f6) 35 = k := h35
  have e33 : zA (zwA Z 25 f6) 33 = zA Z 33 := rfl
  have e23 : zI (zwA Z 25 f6) 23 = p := h.2.2.2.2.2
  rw [e35]
  refine iX7_classOfLine_l13 (I := fun v1 v2 w => ∃ s : Nat, (s : Int) - 1 = v2 ∧ s ≤ k ∧ ((nB p (k - s) (fun t => (u6 (l (s + t))).val) : Nat) : Int) = v1 ∧ zwA Z 25 f6 = w) (μ := fun _ v2 _ => (v2 + 1).toNat) (P := fun x => x = some (((nB p k (fun s => (u6 (l s)).val) : Nat) : Int), zwA Z 25 f6)) ?_ F _ _ _ ⟨k, rfl, by omega, by rw [Nat.sub_self]; rfl, rfl⟩ (by unfold fF at hF; omega)
  rintro ra _ _ _ ⟨s, rfl, hs, rfl, rfl⟩ ih
  unfold zX7_classOfLine_h13
  by_cases c1 : s = 0
  · rw [c1, zLt_t (by omega)]
    have e : (fun t => (u6 (l (0 + t))).val) = fun s => (u6 (l s)).val := by funext t; rw [Nat.zero_add]
    rw [e, Nat.sub_zero]
  · obtain ⟨s, rfl⟩ : ∃ s', s = s' + 1 := ⟨s - 1, by omega⟩
    have hsk : s < k := by omega
    have es : ((s + 1 : Nat) : Int) - 1 = s := by omega
    rw [zLt_f (by omega), es]
    generalize hV : ((nB p (k - (s + 1)) (fun t => (u6 (l (s + 1 + t))).val) : Nat) : Int) = V1
    obtain ⟨r1, r2, r3⟩ := hE.1.1 s hsk
    refine iX7_classOfLine_l19 (I := fun v1 v2 v3 w => V1 = v1 ∧ s = v2 ∧ ∃ j : Nat, j = v3 ∧ j ≤ l s ∧ zwA Z 25 f6 = w) (μ := fun _ _ v3 _ => (l s - v3).toNat) (P := fun x => x = some (((nB p k (fun s => (u6 (l s)).val) : Nat) : Int), zwA Z 25 f6)) ?_ F _ _ _ _ ⟨rfl, rfl, 0, rfl, by omega, rfl⟩ (by have := hlW s hsk; unfold fF at hF; omega)
    rintro rb _ _ _ _ ⟨rfl, rfl, j, rfl, hj, rfl⟩ ih2
    have hjl := hlW s hsk
    have hb := fV_lt (R s j)
    unfold zX7_classOfLine_h19
    rw [e33, zLd_o (by omega), hR s hsk j (by omega)]
    by_cases c2 : j = l s
    · have hne : ((R s j).val : Int) ≠ 0 := fun e => r2 (by rw [← c2]; exact fV_0.mp e)
      rw [zEq_f (by omega)]
      dsimp only
      rw [zwA_s, zLd_o (by omega), o2 j (by omega), e23]
      refine ih _ _ _ ⟨s, by omega, by omega, ?_, rfl⟩ (by omega)
      have ek : k - s = (k - (s + 1)) + 1 := by omega
      rw [ek]
      show (((u6 (l (s + 0))).val + p * nB p (k - (s + 1)) (fun t => (u6 (l (s + (t + 1)))).val) : Nat) : Int) = _
      have e : (fun t => (u6 (l (s + (t + 1)))).val) = fun t => (u6 (l (s + 1 + t))).val := by funext t; rw [show s + (t + 1) = s + 1 + t by omega]
      rw [e, Nat.add_zero, c2, ← hV, Int.natCast_add, Int.natCast_mul, Int.mul_comm]
      omega
    · have hz : R s j = 0 := r3 j (by omega)
      rw [zEq_t (by rw [fV_0.mpr hz]; omega)]
      exact ih2 _ _ _ _ ⟨rfl, rfl, j + 1, by omega, by omega, rfl⟩ (by omega)
end MSU
