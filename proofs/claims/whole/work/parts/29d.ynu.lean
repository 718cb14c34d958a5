/-! THE CLASS'S TWISTS: a number of a sum, a vector; moved and added vectors -/
section YNU
variable {F A g t s n r k : Nat} {C : yC} {O : zO} {T : Nat → Nat → Nat} {M : Nat → Nat → Nat → Int} {l : Nat → Nat}
theorem y_number {p W lim : Nat} [NeZero p] {R : Nat → fV p} (hK : C.1 s = some (1, lim)) (hkl : k ≤ lim) (h : eAt (O s) W k R l) {i j : Nat} (hs : i < k) (hj : j < W) : zX1_number F C s i j O = some ((((R i j).val : Nat) : Int), O) := by
  obtain ⟨h1, h2, h3, h4⟩ := h
  have h5 := h3 i hs
  unfold zX1_number
  rw [yAR_o hK, yLE_o hK (by omega), h5.2.2.2.2 j hj]
theorem y_numberOf {p : Nat} [NeZero p] {R : Nat → fV p} {c x y i : Nat} (hF : fF F) (h : yAct C O A g t n T p r M) (hs : C.1 s = some (1, 12)) (hts : C.2 t 2 = some s) (hk : k ≤ 12) (hE : eAt (O s) ((n - 1) * (n - 1) * r) k R l) (hc : c < 2147483648) (hx : x < n) (hy : y < n) (hi : i < r) : zX5_numberOf F C t (some A) (c : Nat) (x : Nat) (y : Nat) (i : Nat) O = some ((((pv n r (cmb R c k) x y i).val : Nat) : Int), O) := by
  obtain ⟨kA, kg, kt, rt, rg⟩ := h.1
  have hpp := h.2.2.2.2.1
  have hp3 := h.2.2.2.1.1
  have hn8 := h.2.2.1
  have hkk : zI (O s) 5 = k := hE.1.2.2
  have hp0 := fP (p := p)
  unfold zX5_numberOf
  by_cases c1 : x = 0
  · rw [zEq_t (by omega)]
    have e : pv n r (cmb R c k) x y i = 0 := if_pos (Or.inl c1)
    rw [e, fV_0.mpr rfl]
  · by_cases c2 : y = 0
    · rw [zEq_f (by omega), zEq_t (by omega)]
      have e : pv n r (cmb R c k) x y i = 0 := if_pos (Or.inr c2)
      rw [e, fV_0.mpr rfl]
    · have hpl := pl_lt (n := n) (r := r) (x := x) (y := y) (i := i) (by omega) hx (by omega) hy hi
      have e : pv n r (cmb R c k) x y i = cmb R c k (pl n r x y i) := if_neg (by omega)
      rw [zEq_f (by omega), zEq_f (by omega), yO_o kA, yC1_o (h.place (by omega) (by omega)), e]
      refine iX5_numberOf_l31 (I := fun v0 v1 v6 v7 v8 v9 w => t = v0 ∧ some A = v1 ∧ ((pl n r x y i : Nat) : Int) = v6 ∧ O = w ∧ ∃ j : Nat, (j : Int) = v9 ∧ j ≤ k ∧ ((c / p ^ j : Nat) : Int) = v8 ∧ (0 ≤ v7 ∧ v7 ≤ 25 * (j : Int)) ∧ (fC v7 : Fin p) = fSum (fun s => fC ((c / p ^ s : Nat) : Int) * R s (pl n r x y i)) j) (μ := fun _ _ _ _ _ v9 _ => (k - v9).toNat) (P := fun o => o = some ((((cmb R c k (pl n r x y i)).val : Nat) : Int), O)) ?_ F _ _ _ _ _ _ _ ⟨rfl, rfl, rfl, rfl, 0, rfl, by omega, by rw [Nat.pow_zero, Nat.div_one], by omega, fC_0⟩ (by unfold fF at hF; omega)
      rintro ra _ _ _ v7 _ _ _ ⟨rfl, rfl, rfl, rfl, j, rfl, hj, rfl, hb, hv⟩ ih
      unfold zX5_numberOf_h31
      rw [yFR_o kt hts, yFI_o hs, hkk]
      have dle : c / p ^ j ≤ c := Nat.div_le_self _ _
      have dnn : (0 : Int) ≤ ((c / p ^ j : Nat) : Int) := Int.natCast_nonneg _
      by_cases c3 : j = k
      · rw [zLe_t (by omega)]
        try dsimp only
        rw [yFI_o kA, hp3, yC1_o (y_modC (by omega) (by omega)), hv, c3]
        rfl
      · have hjk : j < k := by omega
        have cd : ((c / p ^ j : Nat) : Int) / (p : Nat) = ((c / p ^ (j + 1) : Nat) : Int) := by
          rw [Nat.pow_succ, ← Nat.div_div_eq_div_mul]; exact (Int.natCast_ediv (c / p ^ j) p).symm
        have b1 := fV_lt (fC ((c / p ^ j : Nat) : Int) : Fin p)
        have b2 := fV_lt (R j (pl n r x y i))
        have b3 := i25 (a := (((fC ((c / p ^ j : Nat) : Int) : Fin p).val : Nat) : Int)) (b := (((R j (pl n r x y i)).val : Nat) : Int)) (by omega) (by omega)
        rw [zLe_f (by omega), yFI_o kA, hp3, yC1_o (y_modC (by omega) (by omega)), yFR_o kt hts, yO_o hs, yC1_o (y_number hs hk hE hjk hpl), yFI_o kA, hp3, yC1_o (y_quot (by omega) (by omega)), cd]
        refine ih _ _ _ _ _ _ _ ⟨rfl, rfl, rfl, rfl, j + 1, by omega, by omega, rfl, by omega, ?_⟩ (by omega)
        rw [fC_add, fC_mul, fC_v, fC_v, hv]
        rfl
theorem y_vectorOf {p : Nat} [NeZero p] {R : Nat → fV p} {c x y : Nat} (hF : fF F) (h : yAct C O A g t n T p r M) (hs : C.1 s = some (1, 12)) (hts : C.2 t 2 = some s) (hk : k ≤ 12) (hE : eAt (O s) ((n - 1) * (n - 1) * r) k R l) (hc : c < 2147483648) (hx : x < n) (hy : y < n) : zX5_vectorOf F C t (some A) (c : Nat) (x : Nat) (y : Nat) O = some (((nB p r (fun i => (pv n r (cmb R c k) x y i).val) : Nat) : Int), O) := by
  obtain ⟨kA, kg, kt, rt, rg⟩ := h.1
  have hp3 := h.2.2.2.1.1
  have hr4 := h.2.2.2.1.2
  have hr := h.2.2.2.2.2.1
  unfold zX5_vectorOf
  rw [yFI_o kA, hr4]
  refine iX5_vectorOf_l11 (I := fun v0 v1 v2 v3 v4 v5 v6 w => t = v0 ∧ some A = v1 ∧ (c : Int) = v2 ∧ (x : Int) = v3 ∧ (y : Int) = v4 ∧ O = w ∧ ∃ j : Nat, (j : Int) - 1 = v6 ∧ j ≤ r ∧ ((nB p (r - j) (fun i => (pv n r (cmb R c k) x y (j + i)).val) : Nat) : Int) = v5) (μ := fun _ _ _ _ _ _ v6 _ => (v6 + 1).toNat) (P := fun o => o = some (((nB p r (fun i => (pv n r (cmb R c k) x y i).val) : Nat) : Int), O)) ?_ F _ _ _ _ _ _ _ _ ⟨rfl, rfl, rfl, rfl, rfl, rfl, r, rfl, by omega, by rw [Nat.sub_self]; rfl⟩ (by unfold fF at hF; omega)
  rintro ra _ _ _ _ _ _ _ _ ⟨rfl, rfl, rfl, rfl, rfl, rfl, j, rfl, hj, rfl⟩ ih
  unfold zX5_vectorOf_h11
  by_cases c1 : j = 0
  · rw [zLt_t (by omega), c1]
    have : (fun i => (pv n r (cmb R c k) x y (0 + i)).val) = fun i => (pv n r (cmb R c k) x y i).val := by funext i; rw [Nat.zero_add]
    rw [this]; rfl
  · obtain ⟨j, rfl⟩ : ∃ i, j = i + 1 := ⟨j - 1, by omega⟩
    have e1 : ((j + 1 : Nat) : Int) - 1 = (j : Nat) := by omega
    rw [zLt_f (by omega), yFI_o kA, hp3, yO_o kt, e1, yC1_o (y_numberOf hF h hs hts hk hE hc hx hy (by omega))]
    refine ih _ _ _ _ _ _ _ _ ⟨rfl, rfl, rfl, rfl, rfl, rfl, j, by omega, by omega, ?_⟩ (by omega)
    have e2 : r - j = (r - (j + 1)) + 1 := by omega
    rw [e2]
    show ((((pv n r (cmb R c k) x y (j + 0)).val + p * nB p (r - (j + 1)) (fun i => (pv n r (cmb R c k) x y (j + (i + 1))).val) : Nat)) : Int) = _
    have e3 : (fun i => (pv n r (cmb R c k) x y (j + (i + 1))).val) = fun i => (pv n r (cmb R c k) x y (j + 1 + i)).val := by
      funext i; rw [show j + (i + 1) = j + 1 + i by omega]
    rw [e3, Int.natCast_add, Int.natCast_mul, Int.mul_comm, Int.add_comm]; rfl
theorem y_move {p x w : Nat} [NeZero p] (hF : fF F) (h : yAct C O A g t n T p r M) (hx : x < n) (hw : w < p ^ r) : zX0_move F C A (x : Nat) (w : Nat) O = some (((nB p r (fun i => (fSum (fun j => mC M x i j * dgF p w j) r : Fin p).val) : Nat) : Int), O) := by
  obtain ⟨kA, kg, kt, rt, rg⟩ := h.1
  have hp3 := h.2.2.2.1.1
  have hr4 := h.2.2.2.1.2
  have hr := h.2.2.2.2.2.1
  have hpp := h.2.2.2.2.1
  obtain ⟨q1, q2⟩ := ov_pw (r := r) hpp hr
  have hp31 : ∀ i, i < r → p ^ i ≤ 5 := fun i hi => by
    rcases (show i = 0 ∨ i = 1 by omega) with rfl | rfl
    · rw [Nat.pow_zero]; omega
    · rw [Nat.pow_one]; omega
  unfold zX0_move
  refine iX0_move_l8 (I := fun v0 v1 v2 v3 v4 v5 w' => A = v0 ∧ (x : Int) = v1 ∧ (w : Int) = v2 ∧ O = w' ∧ ∃ i : Nat, (i : Int) = v5 ∧ i ≤ r ∧ ((nB p i (fun i => (fSum (fun j => mC M x i j * dgF p w j) r : Fin p).val) : Nat) : Int) = v3 ∧ ((p ^ i : Nat) : Int) = v4) (μ := fun _ _ _ _ _ v5 _ => (r - v5).toNat) (P := fun o => o = some (((nB p r (fun i => (fSum (fun j => mC M x i j * dgF p w j) r : Fin p).val) : Nat) : Int), O)) ?_ F _ _ _ _ _ _ _ ⟨rfl, rfl, rfl, rfl, 0, rfl, by omega, rfl, by rw [Nat.pow_zero]; rfl⟩ (by unfold fF at hF; omega)
  rintro ra _ _ _ _ _ _ _ ⟨rfl, rfl, rfl, rfl, i, rfl, hi, rfl, rfl⟩ ih
  unfold zX0_move_h8
  rw [yFI_o kA, hr4]
  by_cases c1 : i = r
  · rw [zLe_t (by omega), c1]
  · have hir : i < r := by omega
    have hi2 : i < 2 := by omega
    obtain ⟨w0, w1, w2, w3, -⟩ := ov_digit (p := p) (v := w) (i := 0) hpp hr hw (by omega)
    obtain ⟨-, m01, m02⟩ := h.2.2.2.2.2.2 x i 0 hx hi2 (by omega)
    obtain ⟨-, m11, m12⟩ := h.2.2.2.2.2.2 x i 1 hx hi2 (by omega)
    have pr0 := i25 (a := M x i 0) (b := (w0 : Int)) (by omega) (by omega)
    have he0 : zX0_entry F C A (x : Nat) (i : Nat) 0 O = some (M x i 0, O) := h.entry (j := 0) hx hi2 (by omega)
    have he1 : zX0_entry F C A (x : Nat) (i : Nat) 1 O = some (M x i 1, O) := h.entry (j := 1) hx hi2 (by omega)
    have cw0 : ((w : Nat) : Int) % (p : Nat) = (w0 : Nat) := by rw [← Int.natCast_emod, w3 rfl]
    have fin : ∀ s0 : Int, (0 ≤ s0 ∧ s0 ≤ 100) → (fC s0 : Fin p) = fSum (fun j => mC M x i j * dgF p w j) r → zX0_move_b66 F C ra A (x : Nat) (w : Nat) (nB p i (fun i => (fSum (fun j => mC M x i j * dgF p w j) r : Fin p).val) : Nat) (p ^ i : Nat) (i : Nat) s0 O = some (((nB p r (fun i => (fSum (fun j => mC M x i j * dgF p w j) r : Fin p).val) : Nat) : Int), O) := fun s0 hs0 hs => by
      unfold zX0_move_b66
      rw [yFI_o kA, hp3, yC1_o (y_modC (by omega) (by omega)), hs, yFI_o kA, hp3]
      refine ih _ _ _ _ _ _ _ ⟨rfl, rfl, rfl, rfl, i + 1, by omega, by omega, ?_, ?_⟩ (by omega)
      · rw [nB_snoc, Int.natCast_add, Int.natCast_mul, Int.mul_comm]
      · rw [Nat.pow_succ, Int.natCast_mul]
    rw [zLe_f (by omega), yO_o kA, yC1_o he0, yFI_o kA, hp3, yC1_o (y_mod (by omega) (by omega)), cw0, yFI_o kA, hr4]
    by_cases c2 : r = 2
    · obtain ⟨u0, u1, u2, -, u4⟩ := ov_digit (p := p) (v := w) (i := 1) hpp hr hw (by omega)
      have pr1 := i25 (a := M x i 1) (b := (u0 : Int)) (by omega) (by omega)
      have cw1 : ((w : Nat) : Int) / (p : Nat) = (u0 : Nat) := by rw [← Int.natCast_ediv, u4 (by omega)]
      rw [zLe_f (by omega), yO_o kA, yC1_o he1, yFI_o kA, hp3, yC1_o (y_quot (by omega) (by omega)), cw1]
      refine fin _ (by omega) ?_
      rw [fC_add, fC_mul, fC_mul, w2, u2]
      subst c2
      show _ = 0 + mC M x i 0 * dgF p w 0 + mC M x i 1 * dgF p w 1
      unfold mC
      grind
    · have c2' : r = 1 := by omega
      rw [zLe_t (by omega)]
      refine fin _ (by omega) ?_
      rw [fC_mul, w2]
      subst c2'
      show _ = 0 + mC M x i 0 * dgF p w 0
      unfold mC
      grind
theorem dAdd_nB {p : Nat} [NeZero p] {v w : Nat} : ∀ k, dAdd p v w k = ((nB p k (fun i => (dgF p v i + dgF p w i).val) : Nat) : Int)
  | 0 => rfl
  | k + 1 => by
    show dAdd p v w k + (p : Int) ^ k * (((v : Int) / (p : Int) ^ k + (w : Int) / (p : Int) ^ k) % p) = _
    rw [dAdd_nB k, nB_snoc, Int.natCast_add, Int.natCast_mul, Int.natCast_pow, Int.mul_comm]
    congr 2
    have e : (dgF p v k + dgF p w k : Fin p) = fC (((v / p ^ k : Nat) : Int) + ((w / p ^ k : Nat) : Int)) := (fC_add _ _).symm
    rw [e, fC_val, Int.natCast_ediv, Int.natCast_ediv, Int.natCast_pow]
theorem y_plus {p v w : Nat} [NeZero p] (hF : fF F) (h : yAct C O A g t n T p r M) (hv : v < 1000000) (hw : w < 1000000) : zX0_plus F C A (v : Nat) (w : Nat) O = some (((nB p r (fun i => (dgF p v i + dgF p w i).val) : Nat) : Int), O) := by
  obtain ⟨kA, kg, kt, rt, rg⟩ := h.1
  have hp3 := h.2.2.2.1.1
  have hr4 := h.2.2.2.1.2
  have hr := h.2.2.2.2.2.1
  have hpp := h.2.2.2.2.1
  unfold zX0_plus
  rw [yFI_o kA, hp3, yFI_o kA, hr4, yC1_o (y_addDigits hF (by omega) (by omega) (by omega) (by omega) (fun i hi => by
    rcases (show i = 0 ∨ i = 1 by omega) with rfl | rfl
    · rw [Int.pow_zero]; omega
    · rw [Int.pow_succ, Int.pow_zero]; omega)), dAdd_nB]
end YNU
