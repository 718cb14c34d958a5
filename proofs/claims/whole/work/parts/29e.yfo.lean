/-! THE CLASS: the group over is filled -/
def fo4 (q x y w v a b : Nat) : Prop := a / q < x ∨ (a / q = x ∧ (b / q < y ∨ (b / q = y ∧ (b % q < w ∨ (b % q = w ∧ a % q < v)))))
theorem fo4_0 {q a b : Nat} : ¬ fo4 q 0 0 0 0 a b := by
  unfold fo4
  generalize a / q = a1; generalize b / q = b1; generalize a % q = a2; generalize b % q = b2
  omega
theorem fo4_x {q x a b n : Nat} (h : b / q < n) (u : fo4 q (x + 1) 0 0 0 a b) : fo4 q x n 0 0 a b := by
  unfold fo4 at *
  generalize a / q = a1 at *; generalize b / q = b1 at *; generalize a % q = a2 at *; generalize b % q = b2 at *
  omega
theorem fo4_y {q x y a b n : Nat} (h : b % q < n) (u : fo4 q x (y + 1) 0 0 a b) : fo4 q x y n 0 a b := by
  unfold fo4 at *
  generalize a / q = a1 at *; generalize b / q = b1 at *; generalize a % q = a2 at *; generalize b % q = b2 at *
  omega
theorem fo4_z {q x y z a b n : Nat} (h : a % q < n) (u : fo4 q x y (z + 1) 0 a b) : fo4 q x y z n a b := by
  unfold fo4 at *
  generalize a / q = a1 at *; generalize b / q = b1 at *; generalize a % q = a2 at *; generalize b % q = b2 at *
  omega
theorem fo4_v {q x y z v a b : Nat} (u : fo4 q x y z (v + 1) a b) : fo4 q x y z v a b ∨ (a / q = x ∧ b / q = y ∧ b % q = z ∧ a % q = v) := by
  unfold fo4 at *
  generalize a / q = a1 at *; generalize b / q = b1 at *; generalize a % q = a2 at *; generalize b % q = b2 at *
  omega
section YFO
variable {F A g t s n r k fr : Nat} {C : yC} {O : zO} {T : Nat → Nat → Nat} {M : Nat → Nat → Nat → Int} {l : Nat → Nat}
theorem y_fillOver {p : Nat} [NeZero p] {R : Nat → fV p} {c : Nat} (hF : fF F) (h : yAct C O A g t n T p r M) (hs : C.1 s = some (1, 12)) (hts : C.2 t 2 = some s) (hk : k ≤ 12) (hE : eAt (O s) ((n - 1) * (n - 1) * r) k R l) (hc : c < 2147483648) (hfr : C.1 fr = some (2, 0)) (hne : g ≠ fr) (h5 : zI (O A) 5 = (p ^ r : Nat)) (h48 : p ^ r * n ≤ 48) : ∃ O', zX2_fillOver F C fr (some A) (c : Nat) O = some O' ∧ (∀ a, a ≠ fr → O' a = O a) ∧ (zI (O' fr) 7 = (p ^ r * n : Nat) ∧ ∀ i, i ≠ 7 → zI (O' fr) i = zI (O fr) i) ∧ (∀ i, i ≠ 0 → zA (O' fr) i = zA (O fr) i) ∧ ∀ a b : Nat, a < p ^ r * n → b < p ^ r * n → zA (O' fr) 0 ((a : Int) * 48 + b) = (ovT n r T M (cmb R c k) a b : Nat) := by
  obtain ⟨kA, kg, kt, rt, rg⟩ := h.1
  have hr := h.2.2.2.2.2.1
  have hpp := h.2.2.2.2.1
  have hr' : r = 1 ∨ r = 2 := by omega
  have hn8 := h.2.2.1
  obtain ⟨q1, q2⟩ := ov_pw (r := r) hpp hr
  have neA : A ≠ fr := fun u => by rw [u, hfr] at kA; cases kA
  have net : t ≠ fr := fun u => by rw [u, hfr] at kt; cases kt
  have nes : s ≠ fr := fun u => by rw [u, hfr] at hs; cases hs
  have hg7 : zI (O g) 7 = n := h.2.1.1
  generalize hQ : p ^ r = Q at *
  have eN : ((Q : Nat) : Int) * (n : Nat) = ((Q * n : Nat) : Int) := (Int.natCast_mul _ _).symm
  unfold zX2_fillOver
  rw [yFR_o kA rg, yFI_o kA, h5, yFI_o kg, hg7, eN, yPI_o hfr]
  let O1 := oup O fr (zuI (O fr) 7 (Q * n : Nat))
  have o1 : ∀ a, a ≠ fr → O1 a = O a := fun a ha => oup_n ha
  let P : Option zO → Prop := fun o => ∃ O', o = some O' ∧ (∀ a, a ≠ fr → O' a = O a) ∧ (zI (O' fr) 7 = (Q * n : Nat) ∧ ∀ i, i ≠ 7 → zI (O' fr) i = zI (O fr) i) ∧ (∀ i, i ≠ 0 → zA (O' fr) i = zA (O fr) i) ∧ ∀ a b : Nat, a < Q * n → b < Q * n → zA (O' fr) 0 ((a : Int) * 48 + b) = (ovT n r T M (cmb R c k) a b : Nat)
  have acw : ∀ w, mtK (fun k => k = 0) O1 w fr → yAct C w A g t n T p r M := fun w hw => h.keep ((hw.1 A neA).trans (o1 A neA)) ((hw.1 g hne).trans (o1 g hne))
  have eaw : ∀ w, mtK (fun k => k = 0) O1 w fr → eAt (w s) ((n - 1) * (n - 1) * r) k R l := fun w hw => by rw [hw.1 s nes, o1 s nes]; exact hE
  have dl : ∀ a, a < Q * n → a / Q < n := fun a ha => Nat.div_lt_of_lt_mul ha
  have ml : ∀ a, a % Q < Q := fun a => Nat.mod_lt a q1
  refine iX2_fillOver_l25 (I := fun v0 v1 v2 v3 v4 v5 w => fr = v0 ∧ some A = v1 ∧ (c : Int) = v2 ∧ some g = v3 ∧ (Q : Int) = v4 ∧ mtK (fun k => k = 0) O1 w fr ∧ ∃ x : Nat, (x : Int) = v5 ∧ x ≤ n ∧ ∀ a b : Nat, a < Q * n → b < Q * n → fo4 Q x 0 0 0 a b → zA (w fr) 0 ((a : Int) * 48 + b) = (ovT n r T M (cmb R c k) a b : Nat)) (μ := fun _ _ _ _ _ v5 _ => (n - v5).toNat) (P := P) ?_ F _ _ _ _ _ _ _ ⟨rfl, rfl, rfl, rfl, rfl, mtK.rf, 0, rfl, by omega, fun a b _ _ u => (fo4_0 u).elim⟩ (by unfold fF at hF; omega)
  rintro ra _ _ _ _ _ _ w ⟨rfl, rfl, rfl, rfl, rfl, hw, x, rfl, hx, hI⟩ ih
  have w7 : ∀ w, mtK (fun k => k = 0) O1 w fr → zI (w g) 7 = n := fun w hw => (acw w hw).2.1.1
  unfold zX2_fillOver_h25
  rw [yFI_o kg, w7 w hw]
  by_cases c1 : x = n
  · rw [zLe_t (by omega)]
    refine ⟨w, rfl, fun a ha => (hw.1 a ha).trans (o1 a ha), ⟨?_, fun i hi => ?_⟩, fun i hi => ?_, fun a b ha hb => hI a b ha hb (Or.inl (by rw [c1]; exact dl a ha))⟩
    · rw [hw.2.1]
      show zI (oup O fr (zuI (O fr) 7 (Q * n : Nat)) fr) 7 = _
      rw [oup_s, zI_uI, if_pos rfl]
    · rw [hw.2.1]
      show zI (oup O fr (zuI (O fr) 7 (Q * n : Nat)) fr) i = _
      rw [oup_s, zI_uI, if_neg hi]
    · rw [hw.2.2 i hi]
      show zA (oup O fr (zuI (O fr) 7 (Q * n : Nat)) fr) i = _
      rw [oup_s, zA_uI]
  · have hxn : x < n := by omega
    rw [zLe_f (by omega)]
    refine iX2_fillOver_l37 (I := fun v0 v1 v2 v3 v4 v5 v6 w => fr = v0 ∧ some A = v1 ∧ (c : Int) = v2 ∧ some g = v3 ∧ (Q : Int) = v4 ∧ (x : Int) = v5 ∧ mtK (fun k => k = 0) O1 w fr ∧ ∃ y : Nat, (y : Int) = v6 ∧ y ≤ n ∧ ∀ a b : Nat, a < Q * n → b < Q * n → fo4 Q x y 0 0 a b → zA (w fr) 0 ((a : Int) * 48 + b) = (ovT n r T M (cmb R c k) a b : Nat)) (μ := fun _ _ _ _ _ _ v6 _ => (n - v6).toNat) (P := P) ?_ F _ _ _ _ _ _ _ _ ⟨rfl, rfl, rfl, rfl, rfl, rfl, hw, 0, rfl, by omega, hI⟩ (by unfold fF at hF; omega)
    clear hI hw
    rintro rb _ _ _ _ _ _ _ w ⟨rfl, rfl, rfl, rfl, rfl, rfl, hw, y, rfl, hy, hI⟩ ih2
    unfold zX2_fillOver_h37
    rw [yFI_o kg, w7 w hw]
    by_cases c2 : y = n
    · rw [zLe_t (by omega)]
      try dsimp only
      refine ih _ _ _ _ _ _ _ ⟨rfl, rfl, rfl, rfl, rfl, hw, x + 1, by omega, by omega, fun a b ha hb u => hI a b ha hb (by rw [c2]; exact fo4_x (dl b hb) u)⟩ (by omega)
    · have hyn : y < n := by omega
      rw [zLe_f (by omega), yFR_o kA rt, yO_o kt, yC1_o (y_vectorOf hF (acw w hw) hs hts hk (eaw w hw) hc hxn hyn)]
      have tl := ov_lt (r := r) hr' (fun i => pv n r (cmb R c k) x y i)
      rw [hQ] at tl
      generalize htw : nB p r (fun i => (pv n r (cmb R c k) x y i).val) = tw at *
      refine iX2_fillOver_l64 (I := fun v0 v1 v2 v3 v4 v5 v6 v7 v8 w => fr = v0 ∧ some A = v1 ∧ (c : Int) = v2 ∧ some g = v3 ∧ (Q : Int) = v4 ∧ (x : Int) = v5 ∧ (y : Int) = v6 ∧ (tw : Int) = v7 ∧ mtK (fun k => k = 0) O1 w fr ∧ ∃ z : Nat, (z : Int) = v8 ∧ z ≤ Q ∧ ∀ a b : Nat, a < Q * n → b < Q * n → fo4 Q x y z 0 a b → zA (w fr) 0 ((a : Int) * 48 + b) = (ovT n r T M (cmb R c k) a b : Nat)) (μ := fun _ _ _ _ _ _ _ _ v8 _ => (Q - v8).toNat) (P := P) ?_ F _ _ _ _ _ _ _ _ _ _ ⟨rfl, rfl, rfl, rfl, rfl, rfl, rfl, rfl, hw, 0, rfl, by omega, hI⟩ (by unfold fF at hF; omega)
      clear hI hw
      rintro rc _ _ _ _ _ _ _ _ _ w ⟨rfl, rfl, rfl, rfl, rfl, rfl, rfl, rfl, hw, z, rfl, hz, hI⟩ ih3
      unfold zX2_fillOver_h64
      by_cases c3 : z = Q
      · rw [zLe_t (by omega)]
        try dsimp only
        refine ih2 _ _ _ _ _ _ _ _ ⟨rfl, rfl, rfl, rfl, rfl, rfl, hw, y + 1, by omega, by omega, fun a b ha hb u => hI a b ha hb (by rw [c3]; exact fo4_y (ml b) u)⟩ (by omega)
      · have hzQ : z < Q := by omega
        have m1 := ov_lt (r := r) hr' (fun i => (fSum (fun j => mC M x i j * dgF p z j) r : Fin p))
        rw [hQ] at m1
        have am := acw w hw
        rw [zLe_f (by omega), yO_o kA, yC1_o (y_move hF am hxn (by rw [hQ]; exact hzQ)), yO_o kA, yC1_o (y_plus hF am (by omega) (by omega))]
        generalize hmv : nB p r (fun i => (fSum (fun j => mC M x i j * dgF p z j) r : Fin p).val) = mv at *
        have b1 := ov_lt (r := r) hr' (fun i => dgF p mv i + dgF p tw i)
        rw [hQ] at b1
        generalize hbh : nB p r (fun i => (dgF p mv i + dgF p tw i : Fin p).val) = bh at *
        refine iX2_fillOver_l90 (I := fun v0 v1 v2 v3 v4 v5 v6 v7 v8 v9 v10 w => fr = v0 ∧ some A = v1 ∧ (c : Int) = v2 ∧ some g = v3 ∧ (Q : Int) = v4 ∧ (x : Int) = v5 ∧ (y : Int) = v6 ∧ (tw : Int) = v7 ∧ (z : Int) = v8 ∧ (bh : Int) = v9 ∧ mtK (fun k => k = 0) O1 w fr ∧ ∃ v : Nat, (v : Int) = v10 ∧ v ≤ Q ∧ ∀ a b : Nat, a < Q * n → b < Q * n → fo4 Q x y z v a b → zA (w fr) 0 ((a : Int) * 48 + b) = (ovT n r T M (cmb R c k) a b : Nat)) (μ := fun _ _ _ _ _ _ _ _ _ _ v10 _ => (Q - v10).toNat) (P := P) ?_ F _ _ _ _ _ _ _ _ _ _ _ _ ⟨rfl, rfl, rfl, rfl, rfl, rfl, rfl, rfl, rfl, rfl, hw, 0, rfl, by omega, hI⟩ (by unfold fF at hF; omega)
        clear hI hw am
        rintro rd _ _ _ _ _ _ _ _ _ _ _ w ⟨rfl, rfl, rfl, rfl, rfl, rfl, rfl, rfl, rfl, rfl, hw, v, rfl, hv, hI⟩ ih4
        unfold zX2_fillOver_h90
        by_cases c4 : v = Q
        · rw [zLe_t (by omega)]
          try dsimp only
          refine ih3 _ _ _ _ _ _ _ _ _ _ ⟨rfl, rfl, rfl, rfl, rfl, rfl, rfl, rfl, hw, z + 1, by omega, by omega, fun a b ha hb u => hI a b ha hb (by rw [c4]; exact fo4_z (ml a) u)⟩ (by omega)
        · have hvQ : v < Q := by omega
          have am := acw w hw
          have tT := am.G.2.1 x y hxn hyn
          have a1 : Q * x + v < Q * n := by
            have := Nat.mul_le_mul_left Q (show x + 1 ≤ n from hxn)
            rw [Nat.mul_succ] at this; omega
          have a2 : Q * y + z < Q * n := by
            have := Nat.mul_le_mul_left Q (show y + 1 ≤ n from hyn)
            rw [Nat.mul_succ] at this; omega
          have cx : ((Q : Nat) : Int) * (x : Nat) + (v : Nat) = ((Q * x + v : Nat) : Int) := by rw [Int.natCast_add, Int.natCast_mul]
          have cy : ((Q : Nat) : Int) * (y : Nat) + (z : Nat) = ((Q * y + z : Nat) : Int) := by rw [Int.natCast_add, Int.natCast_mul]
          have val : ((Q : Nat) : Int) * ((T x y : Nat) : Int) + ((nB p r (fun i => (dgF p v i + dgF p bh i : Fin p).val) : Nat) : Int) = ((ovT n r T M (cmb R c k) (Q * x + v) (Q * y + z) : Nat) : Int) := by
            rw [← Int.natCast_mul, ← Int.natCast_add]
            unfold ovT
            rw [hQ, (z2_at hvQ).1, (z2_at hzQ).1, (z2_at hvQ).2, (z2_at hzQ).2]
            congr 2
            refine nB_congr fun i hi => ?_
            unfold ovU
            rw [← hbh, ov_dg hr' (fun i => dgF p mv i + dgF p tw i) hi, ← hmv, ov_dg hr' (fun i => (fSum (fun j => mC M x i j * dgF p z j) r : Fin p)) hi, ← htw, ov_dg hr' (fun i => pv n r (cmb R c k) x y i) hi]
            congr 1
            grind
          rw [zLe_f (by omega), yO_o kg, yC1_o (am.2.1.mul kg hxn hyn), yO_o kA, yC1_o (y_plus hF am (by omega) (by omega)), yO_o hfr, cx, cy, val]
          have set1 : zX2_set F C fr ((Q * x + v : Nat) : Int) ((Q * y + z : Nat) : Int) (ovT n r T M (cmb R c k) (Q * x + v) (Q * y + z) : Nat) w = some (oup w fr (zuA (w fr) 0 (((Q * x + v : Nat) : Int) * 48 + ((Q * y + z : Nat) : Int)) (ovT n r T M (cmb R c k) (Q * x + v) (Q * y + z) : Nat))) := by
            unfold zX2_set
            rw [yAR_o hfr, ySt_o hfr (by omega)]
          rw [yC0_o set1]
          refine ih4 _ _ _ _ _ _ _ _ _ _ _ _ ⟨rfl, rfl, rfl, rfl, rfl, rfl, rfl, rfl, rfl, rfl, hw.st rfl _ _, v + 1, by omega, by omega, fun a b ha hb u => ?_⟩ (by omega)
          rw [st_at]
          by_cases e : a = Q * x + v ∧ b = Q * y + z
          · rw [e.1, e.2, zup_s]
          · rw [zup_n (by omega)]
            rcases fo4_v u with u | ⟨u1, u2, u3, u4⟩
            · exact hI a b ha hb u
            · exfalso
              have d1 := Nat.div_add_mod a Q
              have d2 := Nat.div_add_mod b Q
              rw [u1, u4] at d1
              rw [u2, u3] at d2
              exact e ⟨d1.symm, d2.symm⟩
end YFO
