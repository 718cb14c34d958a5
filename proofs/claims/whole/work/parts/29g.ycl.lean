/-! THE CLASS'S TWISTS: the class of a pair that is read -/
def rd3 (x y i x' y' i' : Nat) : Prop := x' < x ∨ (x' = x ∧ (y' < y ∨ (y' = y ∧ i' < i)))
def rdI (p : Nat) [NeZero p] (n r : Nat) (D : Nat → Int) (x y i : Nat) (f : Int → Int) : Prop := ∀ x' y' i', x' < n → y' < n → i' < r → rd3 x y i x' y' i' → (x' ≠ 0 → y' ≠ 0 → f (pl n r x' y' i' : Nat) = (((fC (D (r * (n * x' + y') + i')) : Fin p).val : Nat) : Int)) ∧ (x' = 0 ∨ y' = 0 → (fC (D (r * (n * x' + y') + i')) : Fin p) = 0)
section YCL
variable {F A g t b s n r sh : Nat} {C : yC} {O : zO} {T : Nat → Nat → Nat} {M : Nat → Nat → Nat → Int} {D : Nat → Int}
theorem y_readPair {p : Nat} [NeZero p] (hF : fF F) (h : yAct C O A g t n T p r M) (ks : C.1 sh = some (4, 0)) (hD : ∀ q : Nat, q < r * (n * n) → zA (O sh) 0 q = D q ∧ -2147483648 ≤ D q ∧ D q < 2147483648) : (∃ f, zX5_readPair F C t (some A) (some sh) O = some (1, oW O t 0 f) ∧ fRow ((n - 1) * (n - 1) * r) f (ldV (p := p) n r D) ∧ nrm (p := p) n r D) ∨ (∃ f, zX5_readPair F C t (some A) (some sh) O = some (0, oW O t 0 f) ∧ ¬ nrm (p := p) n r D) := by
  obtain ⟨kA, kg, kt, rt, rg⟩ := h.1
  have hr := h.2.2.2.2.2.1
  have hpp := h.2.2.2.2.1
  have hp3 := h.2.2.2.1.1
  have hr4 := h.2.2.2.1.2
  have hn8 := h.2.2.1
  have hg7 : zI (O g) 7 = n := h.2.1.1
  have ne := h.ne
  have nst : sh ≠ t := fun u => by rw [u, kt] at ks; cases ks
  have hW := pl_98 hn8 hr.2
  have hnn : n * n ≤ 8 * 8 := Nat.mul_le_mul hn8 hn8
  have hrn : r * (n * n) ≤ 2 * (8 * 8) := Nat.mul_le_mul hr.2 hnn
  let P : Option (Int × zO) → Prop := fun o => (∃ f, o = some (1, oW O t 0 f) ∧ fRow ((n - 1) * (n - 1) * r) f (ldV (p := p) n r D) ∧ nrm (p := p) n r D) ∨ (∃ f, o = some (0, oW O t 0 f) ∧ ¬ nrm (p := p) n r D)
  unfold zX5_readPair
  rw [yFR_o kA rg, yFI_o kg, hg7]
  rw [show zX5_readPair_l11 F C F t (some A) (some sh) (n : Nat) 0 O = zX5_readPair_l11 F C F t (some A) (some sh) (n : Nat) 0 (oW O t 0 (zA (O t) 0)) from by rw [oW_e]]
  refine iX5_readPair_l11 (I := fun v0 v1 v2 v3 v4 w => t = v0 ∧ some A = v1 ∧ some sh = v2 ∧ (n : Int) = v3 ∧ ∃ (x : Nat) (f : Int → Int), (x : Int) = v4 ∧ x ≤ n ∧ oW O t 0 f = w ∧ rdI p n r D x 0 0 f) (μ := fun _ _ _ _ v4 _ => (n - v4).toNat) (P := P) ?_ F _ _ _ _ _ _ ⟨rfl, rfl, rfl, rfl, 0, _, rfl, by omega, rfl, fun x' y' i' _ _ _ u => by unfold rd3 at u; omega⟩ (by unfold fF at hF; omega)
  rintro ra _ _ _ _ _ _ ⟨rfl, rfl, rfl, rfl, x, f, rfl, hx, rfl, hI⟩ ih
  unfold zX5_readPair_h11
  by_cases c1 : x = n
  · rw [zLe_t (by omega)]
    refine Or.inl ⟨f, rfl, fun q hq => ?_, fun x' y' i' hx' hy' hi' hb => (hI x' y' i' hx' hy' hi' (Or.inl (by omega))).2 hb⟩
    obtain ⟨p1, p2, p3, p4, p5, p6⟩ := pl_ex hq
    rw [← p6, ldV_at p1 p2 p3 p4 p5]
    exact (hI _ _ _ p2 p4 p5 (Or.inl (by omega))).1 (by omega) (by omega)
  · have hxn : x < n := by omega
    rw [zLe_f (by omega)]
    refine iX5_readPair_l20 (I := fun v0 v1 v2 v3 v4 v5 w => t = v0 ∧ some A = v1 ∧ some sh = v2 ∧ (n : Int) = v3 ∧ (x : Int) = v4 ∧ ∃ (y : Nat) (f : Int → Int), (y : Int) = v5 ∧ y ≤ n ∧ oW O t 0 f = w ∧ rdI p n r D x y 0 f) (μ := fun _ _ _ _ _ v5 _ => (n - v5).toNat) (P := P) ?_ F _ _ _ _ _ _ _ ⟨rfl, rfl, rfl, rfl, rfl, 0, f, rfl, by omega, rfl, hI⟩ (by unfold fF at hF; omega)
    clear hI
    rintro rb _ _ _ _ _ _ _ ⟨rfl, rfl, rfl, rfl, rfl, y, f, rfl, hy, rfl, hI⟩ ih2
    unfold zX5_readPair_h20
    by_cases c2 : y = n
    · rw [zLe_t (by omega)]
      try dsimp only
      exact ih _ _ _ _ _ _ ⟨rfl, rfl, rfl, rfl, x + 1, f, by omega, by omega, rfl, fun x' y' i' a1 a2 a3 u => hI x' y' i' a1 a2 a3 (by unfold rd3 at *; omega)⟩ (by omega)
    · have hyn : y < n := by omega
      rw [zLe_f (by omega)]
      refine iX5_readPair_l29 (I := fun v0 v1 v2 v3 v4 v5 v6 w => t = v0 ∧ some A = v1 ∧ some sh = v2 ∧ (n : Int) = v3 ∧ (x : Int) = v4 ∧ (y : Int) = v5 ∧ ∃ (i : Nat) (f : Int → Int), (i : Int) = v6 ∧ i ≤ r ∧ oW O t 0 f = w ∧ rdI p n r D x y i f) (μ := fun _ _ _ _ _ _ v6 _ => (r - v6).toNat) (P := P) ?_ F _ _ _ _ _ _ _ _ ⟨rfl, rfl, rfl, rfl, rfl, rfl, 0, f, rfl, by omega, rfl, hI⟩ (by unfold fF at hF; omega)
      clear hI
      rintro rc _ _ _ _ _ _ _ _ ⟨rfl, rfl, rfl, rfl, rfl, rfl, i, f, rfl, hi, rfl, hI⟩ ih3
      have eA : oW O t 0 f A = O A := oW_n ne.1
      have eS : oW O t 0 f sh = O sh := oW_n nst
      unfold zX5_readPair_h29
      rw [yFI_o kA, eA, hr4]
      by_cases c3 : i = r
      · rw [zLe_t (by omega)]
        try dsimp only
        exact ih2 _ _ _ _ _ _ _ ⟨rfl, rfl, rfl, rfl, rfl, y + 1, f, by omega, by omega, rfl, fun x' y' i' a1 a2 a3 u => hI x' y' i' a1 a2 a3 (by unfold rd3 at *; omega)⟩ (by omega)
      · have hir : i < r := by omega
        have hxy : n * x + y < n * n := by
          have := Nat.mul_le_mul_left n (show x + 1 ≤ n from hxn)
          rw [Nat.mul_succ] at this; omega
        have hq : r * (n * x + y) + i < r * (n * n) := by
          have := Nat.mul_le_mul_left r (show n * x + y + 1 ≤ n * n from hxy)
          rw [Nat.mul_succ] at this; omega
        obtain ⟨d1, d2, d3⟩ := hD _ hq
        have ei : ((r : Nat) : Int) * (((n : Nat) : Int) * (x : Nat) + (y : Nat)) + (i : Nat) = ((r * (n * x + y) + i : Nat) : Int) := by
          rw [Int.natCast_add, Int.natCast_mul, Int.natCast_add, Int.natCast_mul]
        have hA : yAct C (oW O t 0 f) A g t n T p r M := h.keep eA (oW_n ne.2.1)
        rw [zLe_f (by omega), yAR_o ks, yFI_o kA, eA, hr4, ei, yLd_o ks (by omega), eS, d1, yFI_o kA, eA, hp3, yC1_o (y_modC (by omega) (by omega))]
        -- on the border
        have bord : (x = 0 ∨ y = 0) → P (zX5_readPair_b97 F C rc (fun v0 v1 v2 v3 v4 v5 w => rb v0 v1 v2 v3 v4 (v5 + 1) w) t (some A) (some sh) (n : Nat) (x : Nat) (y : Nat) (i : Nat) (((fC (D (r * (n * x + y) + i)) : Fin p).val : Nat) : Int) (oW O t 0 f)) := fun hb => by
          unfold zX5_readPair_b97 zX5_readPair_b104
          have fl := fV_lt (fC (D (r * (n * x + y) + i)) : Fin p)
          by_cases z : (fC (D (r * (n * x + y) + i)) : Fin p) = 0
          · have := fV_0.mpr z
            rw [zEq_t (by omega)]
            refine ih3 _ _ _ _ _ _ _ _ ⟨rfl, rfl, rfl, rfl, rfl, rfl, i + 1, f, by omega, by omega, rfl, fun x' y' i' a1 a2 a3 u => ?_⟩ (by omega)
            by_cases e : x' = x ∧ y' = y ∧ i' = i
            · obtain ⟨rfl, rfl, rfl⟩ := e
              exact ⟨fun q1 q2 => by omega, fun _ => z⟩
            · exact hI x' y' i' a1 a2 a3 (by unfold rd3 at *; omega)
          · have : (((fC (D (r * (n * x + y) + i)) : Fin p).val : Nat) : Int) ≠ 0 := fun u => z (fV_0.mp u)
            rw [zEq_f (by omega)]
            exact Or.inr ⟨f, rfl, fun u => z (u x y i hxn hyn hir hb)⟩
        by_cases x0 : x = 0
        · rw [zEq_t (by omega)]
          exact bord (Or.inl x0)
        · rw [zEq_f (by omega)]
          by_cases y0 : y = 0
          · rw [zEq_t (by omega)]
            exact bord (Or.inr y0)
          · have hpl := pl_lt (n := n) (r := r) (x := x) (y := y) (i := i) (by omega) hxn (by omega) hyn hir
            rw [zEq_f (by omega), yAR_o kt, yO_o kA, yC1_o (hA.place (by omega) (by omega)), ySt_o kt (by omega), oW_st]
            unfold zX5_readPair_b104
            refine ih3 _ _ _ _ _ _ _ _ ⟨rfl, rfl, rfl, rfl, rfl, rfl, i + 1, _, by omega, by omega, rfl, fun x' y' i' a1 a2 a3 u => ?_⟩ (by omega)
            by_cases e : x' = x ∧ y' = y ∧ i' = i
            · obtain ⟨rfl, rfl, rfl⟩ := e
              exact ⟨fun _ _ => zup_s _ _ _, fun q => by omega⟩
            · obtain ⟨o1, o2⟩ := hI x' y' i' a1 a2 a3 (by unfold rd3 at *; omega)
              refine ⟨fun q1 q2 => ?_, o2⟩
              rw [zup_n (fun q => e ?_)]
              · exact o1 q1 q2
              · exact pl_eq (by omega) a1 (by omega) a2 a3 (by omega) hxn (by omega) hyn hir (by omega)
theorem y_classRead {p : Nat} [NeZero p] (hF : fF F) (hI : fInv p) (h : yAct C O A g t n T p r M) (hM : sdM (p := p) n r T M) (ks : C.1 sh = some (4, 0)) (hb : C.1 b = some (1, 14)) (htb : C.2 t 1 = some b) (hs : C.1 s = some (1, 12)) (hts : C.2 t 2 = some s) (hS : ySol p O t b s n r T M) (hD : ∀ q : Nat, q < r * (n * n) → zA (O sh) 0 q = D q ∧ -2147483648 ≤ D q ∧ D q < 2147483648) : ∃ f a, zX5_classRead F C t (some A) (some sh) O = some (a, oW O t 0 f) ∧ (¬ (nrm (p := p) n r D ∧ Z2 (p := p) n r T M (ldV n r D)) → a = -4) ∧ (nrm (p := p) n r D → Z2 (p := p) n r T M (ldV n r D) → clV p n r T M (ldV n r D) a) := by
  obtain ⟨kA, kg, kt, rt, rg⟩ := h.1
  have hr := h.2.2.2.2.2.1
  have hpp := h.2.2.2.2.1
  have hp3 := h.2.2.2.1.1
  have hn8 := h.2.2.1
  have nbt : b ≠ t := fun u => by rw [u, kt] at hb; cases hb
  have nst : s ≠ t := fun u => by rw [u, kt] at hs; cases hs
  have ne := h.ne
  obtain ⟨kB, k, RB, R, lB, l, a1, a2, a3, a4, a5, a6, -⟩ := hS
  have hSB := fSpn_sub (fun g (hg : gB (p := p) n r T M g) => gB_ok hg)
  have hSN : fSub ((n - 1) * (n - 1) * r) (NS (p := p) n r T M) := fAway_sub (fNul_sub _)
  have hSZ : fSub ((n - 1) * (n - 1) * r) (Z2 (p := p) n r T M) := fNul_sub _
  unfold zX5_classRead
  rw [yO_o kt]
  rcases y_readPair hF h ks hD with ⟨f, r1, r2, r3⟩ | ⟨f, r1, r3⟩
  · have e1 : eAt (oW O t 0 f b) ((n - 1) * (n - 1) * r) kB RB lB := by rw [oW_n nbt]; exact a1
    obtain ⟨f2, u, b1, b2, b3, b4, b5, -⟩ := y_reduce (C := C) (O := oW O t 0 f) hF hb kt a2 e1 (v := ldV n r D) (by rw [oW_f]; exact r2) ldV_ok
    rw [oW_W] at b1
    have bd : fSpn ((n - 1) * (n - 1) * r) (gB (p := p) n r T M) (fun i => u i - ldV n r D i) := b5 _ hSB fun s hs => (a3.1 s hs).1
    have s5 : zI (oW O t 0 f2 s) 5 = k := by rw [oW_n nst]; exact a4.1.2.2
    have hkb := fun j (hj : j ≤ k) => pw_b hpp (show j ≤ 12 by omega)
    have kR := a4.2.2.1
    rw [yC1_o r1, zEq_f (by omega), yFR_o kt htb, yAR_o kt, yO_o hb, yC0_o b1, yFR_o kt hts, yFI_o hs, s5]
    have ul : ∀ i, (u i).val < p := fun i => (u i).2
    refine iX5_classRead_l36 (I := fun v0 v1 v3 v4 w => t = v0 ∧ some A = v1 ∧ oW O t 0 f2 = w ∧ ∃ j : Nat, (j : Int) - 1 = v4 ∧ j ≤ k ∧ ((nB p (k - j) (fun i => (u (l (j + i))).val) : Nat) : Int) = v3) (μ := fun _ _ _ v4 _ => (v4 + 1).toNat) (P := fun o => ∃ f a, o = some (a, oW O t 0 f) ∧ (¬ (nrm (p := p) n r D ∧ Z2 (p := p) n r T M (ldV n r D)) → a = -4) ∧ (nrm (p := p) n r D → Z2 (p := p) n r T M (ldV n r D) → clV p n r T M (ldV n r D) a)) ?_ F _ _ _ _ _ ⟨rfl, rfl, rfl, k, rfl, by omega, by rw [Nat.sub_self]; rfl⟩ (by unfold fF at hF; omega)
    rintro ra _ _ _ _ _ ⟨rfl, rfl, rfl, j, rfl, hj, rfl⟩ ih
    unfold zX5_classRead_h36
    by_cases c1 : j = 0
    · rw [zLt_t (by omega), c1]
      try dsimp only
      have e2 : eAt (oW O t 0 f2 s) ((n - 1) * (n - 1) * r) k R l := by rw [oW_n nst]; exact a4
      obtain ⟨f3, u3, g1, g2, g3, g4, g5, -⟩ := y_reduce (C := C) (O := oW O t 0 f2) hF hs kt a5 e2 (v := u) (by rw [oW_f]; exact b2) b3
      rw [oW_W] at g1
      have e3 : eAt (oW O t 0 f3 s) ((n - 1) * (n - 1) * r) k R l := by rw [oW_n nst]; exact a4
      obtain ⟨z1, z2⟩ := y_firstNotZero (C := C) (O := oW O t 0 f3) hF hs kt e3 (u := u3) (by rw [oW_f]; exact g2)
      have gN : NS (p := p) n r T M (fun i => u3 i - u i) := g5 _ hSN fun s hs => (a6.1.1 s hs).1
      rw [yFR_o kt hts, yAR_o kt, yO_o hs, yC0_o g1, yFR_o kt hts, yAR_o kt, yO_o hs]
      have lB0 : ∀ i, fLead (fSpn ((n - 1) * (n - 1) * r) (gB (p := p) n r T M)) i → u i = 0 := fun i hi => by
        obtain ⟨s', hs', rfl⟩ := (fEch_lead hI hSB a3 i).mp hi
        exact b4 s' hs'
      by_cases c2 : ∀ i, i < (n - 1) * (n - 1) * r → u3 i = 0
      · rw [yC1_o (z1 c2), zLe_f (by omega)]
        have uN : NS (p := p) n r T M u := by
          have u30 : u3 = fZ := by
            funext i
            by_cases q : i < (n - 1) * (n - 1) * r
            · exact c2 i q
            · exact g3 i (by omega)
          have := hSN.sub hSN.2.1 gN
          rw [u30] at this
          have e4 : (fun i => fZ (p := p) i - (fZ i - u i)) = u := by
            funext i
            show (0 : Fin p) - (0 - u i) = u i
            grind
          rw [e4] at this; exact this
        have zv : Z2 (p := p) n r T M (ldV n r D) := by
          have := hSZ.sub uN.1 (gB_Z2 h.G hM (by omega) bd)
          have e4 : (fun i => u i - (u i - ldV n r D i)) = ldV (p := p) n r D := by
            funext i; grind
          rw [e4] at this; exact this
        refine ⟨f3, _, rfl, fun q => (q ⟨r3, zv⟩).elim, fun _ _ => ⟨u, b3, lB0, bd, fun k' R' l' h' => ?_⟩⟩
        obtain ⟨q1, q2, q3⟩ := fRref_one hI hSN a6 h'
        rw [← q1]
        congr 1
        refine nB_congr fun s' hs' => ?_
        rw [Nat.zero_add, q2 s' hs']
      · obtain ⟨i, hi⟩ := Classical.not_forall.mp c2
        obtain ⟨hi, hi2⟩ := Classical.not_imp.mp hi
        obtain ⟨d, d1, d2, d3⟩ := fFirst hi2
        rw [yC1_o (z2 d (by omega) d2 d3), zLe_t (by have := pl_98 hn8 hr.2; omega)]
        refine ⟨f3, _, rfl, fun _ => rfl, fun _ q => ?_⟩
        exfalso
        -- a pair cocycle leaves nothing
        have uZ : Z2 (p := p) n r T M u := by
          have := hSZ.add (gB_Z2 h.G hM (by omega) bd) q
          have e4 : (fun i => u i - ldV n r D i + ldV (p := p) n r D i) = u := by
            funext i; grind
          rw [e4] at this; exact this
        have uN : NS (p := p) n r T M u := ⟨uZ, lB0⟩
        have u3N : NS (p := p) n r T M u3 := by
          have := hSN.add gN uN
          have e4 : (fun i => u3 i - u i + u i) = u3 := by
            funext i; grind
          rw [e4] at this; exact this
        obtain ⟨s', hs', e5⟩ := (fEch_lead hI hSN a6.1 d).mp ⟨u3, u3N, d2, d3⟩
        exact d2 (by rw [← e5]; exact g4 s' hs')
    · obtain ⟨j, rfl⟩ : ∃ i, j = i + 1 := ⟨j - 1, by omega⟩
      have e1 : ((j + 1 : Nat) : Int) - 1 = (j : Nat) := by omega
      have lj := kR j (by omega)
      have ld : zX1_leadOf F C s (j : Nat) (oW O t 0 f2) = some (((l j : Nat) : Int), oW O t 0 f2) := by
        unfold zX1_leadOf
        rw [yAR_o hs, yLE_o hs (by omega), oW_n nst, lj.1.2.1]
      have h98 := pl_98 hn8 hr.2
      rw [zLt_f (by omega), yFI_o kA, oW_n ne.1, hp3, yAR_o kt, yFR_o kt hts, yO_o hs, e1, yC1_o ld, yLd_o kt (by omega), oW_f, b2 (l j) lj.1.1]
      refine ih _ _ _ _ _ ⟨rfl, rfl, rfl, j, by omega, by omega, ?_⟩ (by omega)
      have e2 : k - j = (k - (j + 1)) + 1 := by omega
      rw [e2]
      show ((((u (l (j + 0))).val + p * nB p (k - (j + 1)) (fun i => (u (l (j + (i + 1)))).val) : Nat)) : Int) = _
      have e3 : (fun i => (u (l (j + (i + 1)))).val) = fun i => (u (l (j + 1 + i))).val := by
        funext i; rw [show j + (i + 1) = j + 1 + i by omega]
      rw [e3, Int.natCast_add, Int.natCast_mul, Int.mul_comm, Int.add_comm]; rfl
  · rw [yC1_o r1, zEq_t (by omega)]
    exact ⟨f, _, rfl, fun _ => rfl, fun q => (r3 q).elim⟩
end YCL
