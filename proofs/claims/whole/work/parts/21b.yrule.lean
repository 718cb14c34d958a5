/-! THE CLASS: a cocycle's rule as a row, places backwards -/
def rvR {p : Nat} [NeZero p] (W : Nat) (B : Int) (f : Int → Int) (v : fV p) : Prop := ∀ q : Nat, q < W → (-B ≤ f q ∧ f q ≤ B) ∧ fC (f q) = v (W - 1 - q)
theorem rvR_up {p W pos : Nat} [NeZero p] {B c e : Int} {f : Int → Int} {v : fV p} (h : rvR W B f v) (hp : pos < W) (he : -c ≤ e ∧ e ≤ c) : rvR W (B + c) (zup f ((W : Int) - 1 - pos) (f ((W : Int) - 1 - pos) + e)) (fAx v (fC e) (fUnit pos)) := by
  intro q hq
  obtain ⟨h1, h2⟩ := h q hq
  by_cases z : (q : Int) = (W : Int) - 1 - pos
  · rw [← z, zup_s, fC_add, h2]
    refine ⟨by omega, ?_⟩
    show _ = v (W - 1 - q) + fC e * (if W - 1 - q = pos then 1 else 0)
    rw [if_pos (by omega)]; grind
  · rw [zup_n z, h2]
    refine ⟨by omega, ?_⟩
    show _ = v (W - 1 - q) + fC e * (if W - 1 - q = pos then 1 else 0)
    rw [if_neg (by omega)]; grind
theorem rvR_dn {p W pos : Nat} [NeZero p] {B : Int} {f : Int → Int} {v : fV p} (h : rvR W B f v) (hp : pos < W) : rvR W (B + 1) (zup f ((W : Int) - 1 - pos) (f ((W : Int) - 1 - pos) - 1)) (fAx v (-1) (fUnit pos)) := by
  have := rvR_up (c := 1) (e := -1) h hp (by omega)
  rw [fC_neg, fC_1] at this
  have e1 : f ((W : Int) - 1 - pos) - 1 = f ((W : Int) - 1 - pos) + -1 := by omega
  rw [e1]; exact this
theorem rvR_inc {p W pos : Nat} [NeZero p] {B : Int} {f : Int → Int} {v : fV p} (h : rvR W B f v) (hp : pos < W) : rvR W (B + 1) (zup f ((W : Int) - 1 - pos) (f ((W : Int) - 1 - pos) + 1)) (fAx v 1 (fUnit pos)) := by
  have := rvR_up (c := 1) (e := 1) h hp (by omega)
  rw [fC_1] at this
  exact this
section YCR
variable {F A g t n p r : Nat} {C : yC} {O : zO} {T : Nat → Nat → Nat} {M : Nat → Nat → Nat → Int}
theorem y_cocRule {p : Nat} [NeZero p] (hF : fF F) (h : yAct C O A g t n T p r M) {x y z i : Nat} (hx : 1 ≤ x) (hxn : x < n) (hy : 1 ≤ y) (hyn : y < n) (hz : 1 ≤ z) (hzn : z < n) (hi : i < r) : ∃ f, zX5_writeCocycleRule F C t (some A) x y z i O = some (oW O t 0 f) ∧ rvR (p := p) ((n - 1) * (n - 1) * r) 20 f (cR n r T M x y z i) := by
  obtain ⟨hr1, hr2⟩ := h.2.2.2.2.2.1
  obtain ⟨hp1, hp2⟩ := h.2.2.2.2.1
  have hn := h.2.2.1
  have hT := h.1.2.2.1
  have h98 := pl_98 hn hr2
  have hyz := h.G.2.1 y z hyn hzn
  have hxy := h.G.2.1 x y hxn hyn
  have hr : ∀ f, yAct C (oW O t 0 f) A g t n T p r M := fun f => h.keep (oW_n h.ne.1) (oW_n h.ne.2.1)
  unfold zX5_writeCocycleRule
  rw [yO_o h.1.1, yC1_o h.places, yFR_o h.1.1 h.1.2.2.2.2, yO_o h.1.2.1, yC1_o (h.2.1.mul h.1.2.1 hxn hyn), yFR_o h.1.1 h.1.2.2.2.2, yO_o h.1.2.1, yC1_o (h.2.1.mul h.1.2.1 hyn hzn), yAR_o hT, yFill_o hT]
  generalize hW : (n - 1) * (n - 1) * r = W at *
  have plW : ∀ x y i, 1 ≤ x → x < n → 1 ≤ y → y < n → i < r → pl n r x y i < W := fun x y i a1 a2 a3 a4 a5 => by rw [← hW]; exact pl_lt a1 a2 a3 a4 a5
  let P : Option zO → Prop := fun z' => ∃ f, z' = some (oW O t 0 f) ∧ rvR (p := p) W 20 f (cR n r T M x y z i)
  have s3 : ∀ f, rvR (p := p) W 12 f (cR2 n r T M x y z i) → P (zX5_writeCocycleRule_b139 F C t (some A) x y i ((W : Int) - 1) (oW O t 0 f)) := by
    intro f hf
    unfold zX5_writeCocycleRule_b139
    have hl := plW x y i hx hxn hy hyn hi
    rw [yAR_o hT, yO_o (hr f).1.1, yC1_o ((hr f).place hx hy), yLd_o hT (by omega), oW_f, ySt_o hT (by omega), oW_st]
    refine ⟨_, rfl, fun q hq => ?_⟩
    have := rvR_dn hf hl q hq
    exact ⟨by omega, this.2⟩
  have s2 : ∀ f, rvR (p := p) W 11 f (cR1 n r T M x y z i) → P (zX5_writeCocycleRule_b112 F C t (some A) x y z i ((W : Int) - 1) (T x y : Nat) (oW O t 0 f)) := by
    intro f hf
    unfold zX5_writeCocycleRule_b112
    by_cases q : T x y = 0
    · rw [zEq_t (by omega)]
      refine s3 f fun q' hq' => ?_
      unfold cR2
      rw [if_pos q]
      exact ⟨by have := (hf q' hq').1; omega, (hf q' hq').2⟩
    · have hl := plW (T x y) z i (by omega) hxy hz hzn hi
      rw [zEq_f (by omega), yAR_o hT, yO_o (hr f).1.1, yC1_o ((hr f).place (by omega) hz), yLd_o hT (by omega), oW_f, ySt_o hT (by omega), oW_st]
      refine s3 _ ?_
      unfold cR2
      rw [if_neg q]
      exact rvR_dn hf hl
  refine iX5_writeCocycleRule_l42 (I := fun v0 v1 v2 v3 v4 v5 v6 v7 v8 v9 w => t = v0 ∧ some A = v1 ∧ x = v2 ∧ y = v3 ∧ z = v4 ∧ i = v5 ∧ (W : Int) - 1 = v6 ∧ (T x y : Nat) = v7 ∧ (T y z : Nat) = v8 ∧ ∃ (k : Nat) (f : Int → Int), k = v9 ∧ k ≤ r ∧ oW O t 0 f = w ∧ rvR (p := p) W (5 * k) f (cR0 n r M x y z i k)) (μ := fun _ _ _ _ _ _ _ _ _ v9 _ => (r - v9).toNat) (P := P) ?_ F _ _ _ _ _ _ _ _ _ _ _ ⟨rfl, rfl, rfl, rfl, rfl, rfl, rfl, rfl, rfl, 0, fun j => if 0 ≤ j ∧ j < (98 : Nat) then 0 else zA (O t) 0 j, rfl, by omega, rfl, fun q hq => ?_⟩ (by unfold fF at hF; omega)
  · rintro ra _ _ _ _ _ _ _ _ _ _ _ ⟨rfl, rfl, rfl, rfl, rfl, rfl, rfl, rfl, rfl, k, f, rfl, hk, rfl, hf⟩ ih
    unfold zX5_writeCocycleRule_h42
    rw [yFI_o (hr f).1.1, (hr f).2.2.2.1.2]
    by_cases q : k = r
    · subst q
      rw [zLe_t (by omega)]
      dsimp only
      by_cases q2 : T y z = 0
      · rw [zEq_t (by omega)]
        refine s2 f fun q' hq' => ?_
        unfold cR1
        rw [if_pos q2]
        exact ⟨by have := (hf q' hq').1; omega, (hf q' hq').2⟩
      · have hl := plW x (T y z) i hx hxn (by omega) hyz hi
        rw [zEq_f (by omega), yAR_o hT, yO_o (hr f).1.1, yC1_o ((hr f).place hx (by omega)), yLd_o hT (by omega), oW_f, ySt_o hT (by omega), oW_st]
        refine s2 _ fun q' hq' => ?_
        unfold cR1
        rw [if_neg q2]
        have := rvR_inc hf hl q' hq'
        exact ⟨by omega, this.2⟩
    · have hkr : k < r := by omega
      have hl := plW y z k hy hyn hz hzn hkr
      have hm := (h.2.2.2.2.2.2 x i k hxn (by omega) (by omega)).2
      rw [zLe_f (by omega), yAR_o hT, yO_o (hr f).1.1, yC1_o ((hr f).place hy hz), yLd_o hT (by omega), oW_f, yO_o (hr f).1.1, yC1_o ((hr f).entry hxn (by omega) (by omega)), ySt_o hT (by omega), oW_st]
      refine ih _ _ _ _ _ _ _ _ _ _ _ ⟨rfl, rfl, rfl, rfl, rfl, rfl, rfl, rfl, rfl, k + 1, _, rfl, by omega, rfl, fun q' hq' => ?_⟩ (by omega)
      have := rvR_up (c := 5) (e := M x i k) hf hl (by omega) q' hq'
      exact ⟨by omega, this.2⟩
  · have e0 : (fun j : Int => if 0 ≤ j ∧ j < (98 : Nat) then 0 else zA (O t) 0 j) (q : Int) = 0 := if_pos (by omega)
    rw [e0]
    exact ⟨by omega, fC_0⟩
end YCR
