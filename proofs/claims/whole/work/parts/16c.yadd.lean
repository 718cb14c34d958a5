/-! THE CLASS'S ROWS THAT LEAD: one more -/
theorem fSpn_add {p W : Nat} [NeZero p] {Gn : fV p → Prop} (hG : ∀ g, Gn g → fOk W g) {v x : fV p} (hv : fOk W v) (hx : fSpn W (fun g => Gn g ∨ g = v) x) : ∃ w a, fSpn W Gn w ∧ x = fAx w a v := by
  have hS := fSpn_sub hG
  refine hx (fun x => ∃ w a, fSpn W Gn w ∧ x = fAx w a v) ⟨?_, ⟨fZ, 0, hS.2.1, ?_⟩, ?_⟩ ?_
  · rintro x ⟨w, a, hw, rfl⟩ i hi
    show w i + a * v i = 0
    rw [hS.1 w hw i hi, hv i hi]; grind
  · funext i; show (0 : Fin p) = 0 + 0 * v i; grind
  · rintro x y c ⟨w, a, hw, rfl⟩ ⟨w', a', hw', rfl⟩
    refine ⟨fAx w c w', a + c * a', hS.2.2 w w' c hw hw', ?_⟩
    funext i
    show w i + a * v i + c * (w' i + a' * v i) = w i + c * w' i + (a + c * a') * v i
    grind
  · rintro g (hg | rfl)
    · exact ⟨g, 0, fSpn_of hg, by funext i; show g i = g i + 0 * v i; grind⟩
    · exact ⟨fZ, 1, hS.2.1, by funext i; show g i = 0 + 1 * g i; grind⟩
theorem fSpn_u {p W : Nat} [NeZero p] {Gn : fV p → Prop} (hG : ∀ g, Gn g → fOk W g) {v u : fV p} (hv : fOk W v) (hu : fSpn W Gn (fun i => u i - v i)) : fSpn W (fun g => Gn g ∨ g = v) u := by
  have hG' : ∀ g, Gn g ∨ g = v → fOk W g := fun g h => h.elim (hG g) (fun e => e ▸ hv)
  have hS := fSpn_sub hG'
  have h1 : fSpn W (fun g => Gn g ∨ g = v) (fun i => u i - v i) := fSpn_mono hG' (fun g h => fSpn_of (Or.inl h)) hu
  have h2 := hS.add h1 (fSpn_of (Or.inr rfl))
  have e : (fun i => u i - v i + v i) = u := by funext i; grind
  rw [e] at h2; exact h2
theorem fEch_add0 {p W : Nat} [NeZero p] {Gn : fV p → Prop} (hG : ∀ g, Gn g → fOk W g) {k : Nat} {R : Nat → fV p} {l : Nat → Nat} (hE : fEch (fSpn W Gn) k R l) {v u : fV p} (hv : fOk W v) (hu : fSpn W Gn (fun i => u i - v i)) (hz : ∀ s, s < k → u (l s) = 0) {x : fV p} (hx : fSpn W (fun g => Gn g ∨ g = v) x) (hx0 : ∀ s, s < k → x (l s) = 0) : ∃ a : Fin p, x = fun i => a * u i := by
  have hS := fSpn_sub hG
  obtain ⟨w, a, hw, rfl⟩ := fSpn_add hG hv hx
  have h1 := hS.2.2 w _ (-a) hw hu
  have h2 := hE.2.2 _ h1 (fun s hs => by
    have a1 : w (l s) + a * v (l s) = 0 := hx0 s hs
    have a2 := hz s hs
    show w (l s) + -a * (u (l s) - v (l s)) = 0
    grind)
  refine ⟨a, ?_⟩
  funext i
  have a3 : w i + -a * (u i - v i) = 0 := congrFun h2 i
  show w i + a * v i = a * u i
  grind
theorem fEch_addZ {p W : Nat} [NeZero p] {Gn : fV p → Prop} (hG : ∀ g, Gn g → fOk W g) {k : Nat} {R : Nat → fV p} {l : Nat → Nat} (hE : fEch (fSpn W Gn) k R l) {v u : fV p} (hv : fOk W v) (hu : fSpn W Gn (fun i => u i - v i)) (hz : ∀ s, s < k → u (l s) = 0) (h0 : u = fZ) : fEch (fSpn W (fun g => Gn g ∨ g = v)) k R l := by
  have hG' : ∀ g, Gn g ∨ g = v → fOk W g := fun g h => h.elim (hG g) (fun e => e ▸ hv)
  refine ⟨fun s hs => ⟨fSpn_mono hG' (fun g h => fSpn_of (Or.inl h)) (hE.1 s hs).1, (hE.1 s hs).2⟩, hE.2.1, fun x hx hx0 => ?_⟩
  obtain ⟨a, rfl⟩ := fEch_add0 hG hE hv hu hz hx hx0
  funext i
  rw [h0]; show a * 0 = 0; grind
theorem fEch_addN {p W : Nat} [NeZero p] (hI : fInv p) {Gn : fV p → Prop} (hG : ∀ g, Gn g → fOk W g) {k : Nat} {R R' : Nat → fV p} {l l' : Nat → Nat} (hE : fEch (fSpn W Gn) k R l) {v u : fV p} (hv : fOk W v) (hu : fSpn W Gn (fun i => u i - v i)) (hz : ∀ s, s < k → u (l s) = 0) {f : Nat} {c : Fin p} (hf : u f ≠ 0) (hf0 : ∀ j, j < f → u j = 0) (hc : c ≠ 0) (hR : ∀ s, s < k → R' s = R s ∧ l' s = l s) (hRk : R' k = fun i => c * u i) (hlk : l' k = f) : fEch (fSpn W (fun g => Gn g ∨ g = v)) (k + 1) R' l' := by
  have hG' : ∀ g, Gn g ∨ g = v → fOk W g := fun g h => h.elim (hG g) (fun e => e ▸ hv)
  have hne : ∀ s, s < k → l s ≠ f := fun s hs e => hf (e ▸ hz s hs)
  refine ⟨fun s hs => ?_, fun s t hs ht e => ?_, fun x hx hx0 => ?_⟩
  · by_cases q : s = k
    · subst q
      rw [hRk, hlk]
      exact ⟨(fSpn_sub hG').smul c (fSpn_u hG hv hu), fMul hI hc hf, fun j hj => by show c * u j = 0; rw [hf0 j hj]; grind⟩
    · have hs : s < k := by omega
      rw [(hR s hs).1, (hR s hs).2]
      exact ⟨fSpn_mono hG' (fun g h => fSpn_of (Or.inl h)) (hE.1 s hs).1, (hE.1 s hs).2⟩
  · by_cases q : s = k
    · by_cases q2 : t = k
      · rw [q, q2]
      · have ht : t < k := by omega
        rw [q, hlk, (hR t ht).2] at e
        exact (hne t ht e.symm).elim
    · have hs : s < k := by omega
      by_cases q2 : t = k
      · rw [q2, hlk, (hR s hs).2] at e
        exact (hne s hs e).elim
      · have ht : t < k := by omega
        rw [(hR s hs).2, (hR t ht).2] at e
        exact hE.2.1 s t hs ht e
  · obtain ⟨a, rfl⟩ := fEch_add0 hG hE hv hu hz hx (fun s hs => by
      have := hx0 s (by omega)
      rw [(hR s hs).2] at this; exact this)
    have h1 : a * u f = 0 := by
      have := hx0 k (by omega)
      rw [hlk] at this; exact this
    have ha : a = 0 := Classical.byContradiction fun q => fMul hI q hf h1
    funext i
    rw [ha]; show 0 * u i = 0; grind
theorem fOne {p : Nat} [NeZero p] (hI : fInv p) : 1 < p ∧ (((1 : Fin p).val : Nat) : Int) = 1 := by
  have hp := fP (p := p)
  have h1 : 1 < p := by
    refine Nat.lt_of_not_le fun q => hI.1 ?_
    apply Fin.ext
    have := (1 : Fin p).2
    have := (0 : Fin p).2
    omega
  refine ⟨h1, ?_⟩
  show ((1 % p : Nat) : Int) = 1
  rw [Nat.mod_eq_of_lt h1]; rfl
section YE2
variable {F e t lim W k : Nat} {C : yC} {O : zO} {l : Nat → Nat}
theorem y_firstNotZero {p : Nat} [NeZero p] {R : Nat → fV p} (hF : fF F) (hK : C.1 e = some (1, lim)) (hT : C.1 t = some (5, 0)) (h : eAt (O e) W k R l) {u : fV p} (hu : fRow W (zA (O t) 0) u) : ((∀ j, j < W → u j = 0) → zX1_firstNotZero F C e (some t) O = some (-1, O)) ∧ (∀ f : Nat, f < W → u f ≠ 0 → (∀ j, j < f → u j = 0) → zX1_firstNotZero F C e (some t) O = some ((f : Int), O)) := by
  have hW := h.2.1.1
  have h3 := h.1.1
  have key : ∀ (P : Option (Int × zO) → Prop) (Q : Nat → Prop), Q 0 → (∀ y, y < W → Q y → u y = 0 → Q (y + 1)) → (∀ y, y < W → Q y → u y ≠ 0 → P (some ((y : Int), O))) → (Q W → P (some (-1, O))) → P (zX1_firstNotZero F C e (some t) O) := by
    intro P Q q0 q1 q2 q3
    refine iX1_firstNotZero_l2 (I := fun v0 v1 v2 w => e = v0 ∧ some t = v1 ∧ O = w ∧ ∃ y : Nat, y = v2 ∧ y ≤ W ∧ Q y) (μ := fun _ _ v2 _ => (W - v2).toNat) (P := P) ?_ F _ _ _ _ ⟨rfl, rfl, rfl, 0, rfl, by omega, q0⟩ (by unfold fF at hF; omega)
    rintro r _ _ _ _ ⟨rfl, rfl, rfl, y, rfl, hy, hq⟩ ih
    unfold zX1_firstNotZero_h2
    rw [yFI_o hK, h3]
    by_cases q : y = W
    · subst q
      rw [zLe_t (by omega)]; exact q3 hq
    · have hy : y < W := by omega
      have hb := fV_lt (u y)
      have hp : p < 100 := h.2.1.2
      rw [zLe_f (by omega), yLd_o hT (by omega), hu y hy]
      by_cases z : u y = 0
      · rw [zEq_t (by have := fV_0.mpr z; omega)]
        exact ih _ _ _ _ ⟨rfl, rfl, rfl, y + 1, rfl, by omega, q1 y hy hq z⟩ (by omega)
      · rw [zEq_f (by have : ((u y).val : Int) ≠ 0 := fun q => z (fV_0.mp q); omega)]
        exact q2 y hy hq z
  constructor
  · intro hz
    exact key (fun r => r = some (-1, O)) (fun _ => True) trivial (fun _ _ _ _ => trivial) (fun y hy _ z => (z (hz y hy)).elim) (fun _ => rfl)
  · intro f hf hf1 hf0
    refine key (fun r => r = some ((f : Int), O)) (fun y => y ≤ f) (by omega) (fun y hy hq z => ?_) (fun y hy hq z => ?_) (fun q => by omega)
    · rcases Nat.eq_or_lt_of_le hq with e | e
      · subst e; exact (hf1 z).elim
      · omega
    · rcases Nat.eq_or_lt_of_le hq with e | e
      · rw [e]
      · exact (z (hf0 y e)).elim
theorem y_inverseOf {p : Nat} [NeZero p] {R : Nat → fV p} (hF : fF F) (hI : fInv p) (hK : C.1 e = some (1, lim)) (h : eAt (O e) W k R l) {a : Fin p} (ha : a ≠ 0) : ∃ b : Fin p, a * b = 1 ∧ zX1_inverseOf F C e ((a.val : Nat) : Int) O = some (((b.val : Nat) : Int), O) := by
  obtain ⟨b, hb⟩ := hI.2 a ha
  have h1 := fOne hI
  have hp : p < 100 := h.2.1.2
  have h4 := h.1.2.1
  have hb2 := fV_lt b
  have ha2 := fV_lt a
  have hb1 : 1 ≤ b.val := by
    refine Nat.pos_of_ne_zero fun q => ?_
    have : b = 0 := fV_0.mp (by omega)
    rw [this] at hb
    exact hI.1 (by grind)
  refine iX1_inverseOf_l2 (I := fun v0 v1 v2 w => e = v0 ∧ ((a.val : Nat) : Int) = v1 ∧ O = w ∧ ∃ y : Nat, y = v2 ∧ 1 ≤ y ∧ y ≤ b.val) (μ := fun _ _ v2 _ => (p - v2).toNat) (P := fun r => ∃ b : Fin p, a * b = 1 ∧ r = some (((b.val : Nat) : Int), O)) ?_ F _ _ _ _ ⟨rfl, rfl, rfl, 1, rfl, by omega, hb1⟩ (by unfold fF at hF; omega)
  rintro r _ _ _ _ ⟨rfl, rfl, rfl, y, rfl, hy1, hy2⟩ ih
  unfold zX1_inverseOf_h2
  have hm : 0 ≤ ((a.val : Nat) : Int) * (y : Int) ∧ ((a.val : Nat) : Int) * (y : Int) ≤ 100 * 100 := ⟨Int.mul_nonneg (by omega) (by omega), Int.mul_le_mul (by omega) (by omega) (by omega) (by omega)⟩
  rw [yFI_o hK, h4, zLe_f (by omega), yFI_o hK, h4, yC1_o (y_modC (p := p) hp (by omega)), fC_mul, fC_v]
  have hc := fV_lt (a * fC (y : Int))
  by_cases q : a * fC (y : Int) = 1
  · rw [zEq_t (by rw [q, h1.2]; omega)]
    refine ⟨fC (y : Int), q, ?_⟩
    rw [fC_val, Int.emod_eq_of_lt (by omega) (by omega)]
  · have q2 : (((a * fC (y : Int)).val : Nat) : Int) ≠ 1 := fun z => q (Fin.ext (by have := h1.2; omega))
    rw [zEq_f (by omega)]
    have hne : y ≠ b.val := fun z => q (by rw [z, fC_v]; exact hb)
    exact ih _ _ _ _ ⟨rfl, rfl, rfl, y + 1, rfl, by omega, by omega⟩ (by omega)
theorem y_add {p : Nat} [NeZero p] {R : Nat → fV p} {Gn : fV p → Prop} (hF : fF F) (hI : fInv p) (hK : C.1 e = some (1, lim)) (hT : C.1 t = some (5, 0)) (hl98 : lim ≤ 98) (hl : k < lim ∨ (k ≤ lim ∧ W ≤ lim)) (h : eAt (O e) W k R l) (hG : ∀ g, Gn g → fOk W g) (hE : fEch (fSpn W Gn) k R l) {v : fV p} (hv : ∀ j : Nat, j < W → (-2147483648 ≤ zA (O t) 0 j ∧ zA (O t) 0 j < 2147483648) ∧ fC (zA (O t) 0 j) = v j) (hvo : fOk W v) : ∃ f S' k' R' l', zX1_add F C e (some t) O = some (oup (oW O t 0 f) e S') ∧ eAt S' W k' R' l' ∧ fEch (fSpn W (fun g => Gn g ∨ g = v)) k' R' l' ∧ k ≤ k' ∧ k' ≤ k + 1 ∧ (∀ s, s < k → R' s = R s ∧ l' s = l s) ∧ ((∀ s, s < k → v (l s) = 0) → ∀ f0, v f0 = 1 → (∀ j, j < f0 → v j = 0) → k' = k + 1 ∧ l' k = f0 ∧ R' k = v) := by
  have het : e ≠ t := fun q => by rw [q, hT] at hK; cases hK
  have hkW := eAt_k h
  have hp := fP (p := p)
  have hp2 := h.2.1.2
  have hW := h.2.1.1
  have hone := fOne hI
  let P : Option zO → Prop := fun r => ∃ f S' k' R' l', r = some (oup (oW O t 0 f) e S') ∧ eAt S' W k' R' l' ∧ fEch (fSpn W (fun g => Gn g ∨ g = v)) k' R' l' ∧ k ≤ k' ∧ k' ≤ k + 1 ∧ (∀ s, s < k → R' s = R s ∧ l' s = l s) ∧ ((∀ s, s < k → v (l s) = 0) → ∀ f0, v f0 = 1 → (∀ j, j < f0 → v j = 0) → k' = k + 1 ∧ l' k = f0 ∧ R' k = v)
  unfold zX1_add
  refine iX1_add_l2 (I := fun v0 v1 v2 w => e = v0 ∧ some t = v1 ∧ ∃ (y : Nat) (f : Int → Int), y = v2 ∧ y ≤ W ∧ oW O t 0 f = w ∧ (∀ j : Nat, j < y → f j = (((v j).val : Nat) : Int)) ∧ ∀ j : Nat, y ≤ j → j < W → f j = zA (O t) 0 j) (μ := fun _ _ v2 _ => (W - v2).toNat) (P := P) ?_ F _ _ _ _ ⟨rfl, rfl, 0, zA (O t) 0, rfl, by omega, oW_e O t 0, fun j hj => by omega, fun _ _ _ => rfl⟩ (by unfold fF at hF; omega)
  rintro r _ _ _ _ ⟨rfl, rfl, y, f, rfl, hy, rfl, hf1, hf2⟩ ih
  unfold zX1_add_h2
  rw [yFI_o hK, oW_n het, h.1.1]
  by_cases q : y = W
  · subst q
    rw [zLe_t (by omega)]
    dsimp only
    rw [yO_o hK]
    obtain ⟨f1, u, r1, r2, r3, r4, r5, r6⟩ := y_reduce (F := F) (O := oW O t 0 f) hF hK hT (show k ≤ lim by omega) (by rw [oW_n het]; exact h) (v := v) (by rw [oW_f]; exact hf1) hvo
    rw [oW_W] at r1
    have hu := r5 (fSpn y Gn) (fSpn_sub hG) (fun s hs => (hE.1 s hs).1)
    obtain ⟨n1, n2⟩ := y_firstNotZero (F := F) (O := oW O t 0 f1) hF hK hT (by rw [oW_n het]; exact h) (by rw [oW_f]; exact r2)
    rw [yC0_o r1, yO_o hK]
    by_cases hz : ∀ j, j < y → u j = 0
    · have hz0 : u = fZ := by
        funext j
        rcases Nat.lt_or_ge j y with c | c
        · exact hz j c
        · exact r3 j c
      rw [yC1_o (n1 hz), zLt_t (by omega)]
      refine ⟨f1, O e, k, R, l, ?_, h, fEch_addZ hG hE hvo hu r4 hz0, by omega, by omega, fun s hs => ⟨rfl, rfl⟩, fun hv0 f0 hf0 _ => ?_⟩
      · congr 1
        funext b
        by_cases c : b = e
        · rw [c, oup_s, oW_n het]
        · rw [oup_n c]
      · have := r6 hv0
        rw [← this, hz0] at hf0
        exact (hI.1 hf0.symm).elim
    · obtain ⟨j0, hj0⟩ := Classical.not_forall.mp hz
      obtain ⟨hj1, hj2⟩ := Classical.not_imp.mp hj0
      obtain ⟨f0, -, c2, c3⟩ := fFirst hj2
      have c4 : f0 < y := Nat.not_le.mp fun q => c2 (r3 f0 q)
      obtain ⟨ib, hib1, hib2⟩ := y_inverseOf (F := F) (O := oW O t 0 f1) hF hI hK (by rw [oW_n het]; exact h) c2
      have hibz : ib ≠ 0 := fun q => by rw [q] at hib1; exact hI.1 (by grind)
      let R' : Nat → fV p := fun s => if s = k then (fun i => ib * u i) else R s
      let l' : Nat → Nat := fun s => if s = k then f0 else l s
      have hR'k : R' k = fun i => ib * u i := if_pos rfl
      have hl'k : l' k = f0 := if_pos rfl
      have hR's : ∀ s, s < k → R' s = R s ∧ l' s = l s := fun s hs => ⟨if_neg (by omega), if_neg (by omega)⟩
      have hEn := fEch_addN hI hG hE hvo hu r4 c2 c3 hibz hR's hR'k hl'k
      have hk1 : k + 1 ≤ y := by
        have := fEch_count hI (fSpn_sub (fun g (h : Gn g ∨ g = v) => h.elim (hG g) (fun e => e ▸ hvo))) hEn
        rw [this]; exact nC_le _ _
      have hkl : k < lim := by omega
      rw [yC1_o (n2 f0 c4 c2 c3), zLt_f (by omega), yFI_o hK, oW_n het, h.1.2.2, yAR_o hK, yLnE_o hK, zLt_t (by omega), yLd_o hT (by omega), oW_f, r2 f0 c4, yO_o hK, yC1_o hib2]
      have hib3 := fV_lt ib
      refine iX1_add_l68 (I := fun v0 v1 v2 v3 v4 w => e = v0 ∧ some t = v1 ∧ f0 = v2 ∧ ((ib.val : Nat) : Int) = v3 ∧ ∃ (z : Nat) (g : Int → Int), z = v4 ∧ z ≤ y ∧ oup (oW O t 0 f1) e (zwA (O e) 0 g) = w ∧ (∀ j : Nat, j < z → g ((k : Int) * 98 + j) = (((ib * u j).val : Nat) : Int)) ∧ ∀ i : Int, i < (k : Int) * 98 → g i = zA (O e) 0 i) (μ := fun _ _ _ _ v4 _ => (y - v4).toNat) (P := P) ?_ F _ _ _ _ _ _ ⟨rfl, rfl, rfl, rfl, 0, zA (O e) 0, rfl, by omega, ?_, fun j hj => by omega, fun _ _ => rfl⟩ (by unfold fF at hF; omega)
      · rintro r3' _ _ _ _ _ _ ⟨rfl, rfl, rfl, rfl, z, g, rfl, hz1, rfl, hg1, hg2⟩ ih2
        unfold zX1_add_h68
        have te : t ≠ e := fun q => het q.symm
        rw [yFI_o hK, oup_s, zwA_I, h.1.1]
        by_cases q3 : z = y
        · subst q3
          rw [zLe_t (by omega)]
          dsimp only
          rw [yAR_o hK, yFI_o hK, oup_s, zwA_I, h.1.2.2, ySE_o hK (by omega), oup_s, oup_u, yAR_o hK, yFI_o hK, oup_s, zI_uA, zwA_I, h.1.2.2, ySt_o hK (by omega), oup_s, oup_u, yFI_o hK, oup_s, zI_uA, zI_uA, zwA_I, h.1.2.2, yPI_o hK, oup_s, oup_u]
          refine ⟨f1, _, k + 1, R', l', rfl, ⟨⟨?_, ?_, ?_⟩, h.2.1, fun s hs => ?_, fun j hj hjs => ?_⟩, hEn, by omega, by omega, hR's, fun hv0 f2 hf2 hf20 => ?_⟩
          · simp only [zI_uI, zI_uA, zwA_I]; exact h.1.1
          · simp only [zI_uI, zI_uA, zwA_I]; exact h.1.2.1
          · simp only [zI_uI]; rfl
          · simp only [zA_uI, zA_uA]
            by_cases c : s = k
            · subst c
              rw [hl'k, hR'k]
              refine ⟨⟨c4, ?_, ?_⟩, ?_, fun j hj => ?_, fun i hi => ?_, fun j hj => ?_⟩
              · simp [zup]
              · simp [zup]
              · show ib * u f0 = 1
                grind
              · show ib * u j = 0
                rw [c3 j hj]; grind
              · show ib * u i = 0
                rw [r3 i hi]; grind
              · simp only [zwA_s]
                have := hg1 j hj
                simpa using this
            · have hs : s < k := by omega
              rw [(hR's s hs).1, (hR's s hs).2]
              have hh := h.2.2.1 s hs
              refine ⟨⟨hh.1.1, ?_, ?_⟩, hh.2.1, hh.2.2.1, hh.2.2.2.1, fun j hj => ?_⟩
              · have := hh.1.2.1
                simp [zup, zwA_n]
                rw [if_neg (by omega)]; exact this
              · have hne : l s ≠ f0 := fun e => c2 (e ▸ r4 s hs)
                have := hh.1.2.2
                simp [zup, zwA_n]
                rw [if_neg (by omega)]; exact this
              · have := hh.2.2.2.2 j hj
                simp [zwA_s]
                rw [hg2 _ (by omega)]; exact this
          · simp only [zA_uI, zA_uA]
            have hj0 : j ≠ f0 := fun e => hjs k (by omega) (by rw [hl'k, e])
            have := h.2.2.2 j hj (fun s hs e => hjs s (by omega) (by rw [(hR's s hs).2]; exact e))
            simp [zup, zwA_n]
            rw [if_neg (by omega)]; exact this
          · have hu2 := r6 hv0
            have hf02 : f0 = f2 := by
              rcases Nat.lt_trichotomy f0 f2 with c | c | c
              · exact (c2 (by rw [hu2]; exact hf20 f0 c)).elim
              · exact c
              · have c5 := c3 f2 c
                rw [hu2, hf2] at c5
                exact (hI.1 c5).elim
            refine ⟨rfl, by rw [hl'k, hf02], ?_⟩
            rw [hR'k]
            have hb1 : ib = 1 := by
              rw [hf02, hu2, hf2] at hib1
              grind
            funext i
            rw [hb1, hu2]; grind
        · have hzy : z < y := by omega
          have hb2 := fV_lt (u z)
          have hm : 0 ≤ ((u z).val : Int) * ((ib.val : Nat) : Int) ∧ ((u z).val : Int) * ((ib.val : Nat) : Int) ≤ 100 * 100 := ⟨Int.mul_nonneg hb2.1 hib3.1, Int.mul_le_mul (by omega) (by omega) hib3.1 (by omega)⟩
          rw [zLe_f (by omega), yAR_o hK, yFI_o hK, oup_s, zwA_I, h.1.2.2, yLd_o hT (by omega), oup_n te, oW_f, r2 z hzy, yFI_o hK, oup_s, zwA_I, h.1.2.1, yC1_o (y_modC (p := p) hp2 (by omega)), ySE_o hK (by omega), oup_s, oup_u, zwA_u]
          refine ih2 _ _ _ _ _ _ ⟨rfl, rfl, rfl, rfl, z + 1, _, rfl, by omega, rfl, fun j hj => ?_, fun i hi => ?_⟩ (by omega)
          · by_cases c : j = z
            · rw [c, zup_s, fC_mul, fC_v, fC_v]
              congr 2; grind
            · rw [zup_n (by omega)]; exact hg1 j (by omega)
          · rw [zup_n (by omega)]; exact hg2 i hi
      · rw [zwA_e]
        funext b
        by_cases c : b = e
        · rw [c, oup_s, oW_n het]
        · rw [oup_n c]
  · have hyW : y < W := by omega
    have hvy := hv y hyW
    rw [zLe_f (by omega), yLd_o hT (by omega), oW_f, hf2 y (Nat.le_refl _) hyW, yFI_o hK, oW_n het, h.1.2.1, yC1_o (y_modC (p := p) hp2 hvy.1), ySt_o hT (by omega), oW_st, hvy.2]
    refine ih _ _ _ _ ⟨rfl, rfl, y + 1, _, rfl, by omega, rfl, fun j hj => ?_, fun j hj hjW => ?_⟩ (by omega)
    · by_cases c : j = y
      · rw [c, zup_s]
      · rw [zup_n (by omega)]; exact hf1 j (by omega)
    · rw [zup_n (by omega)]; exact hf2 j (by omega) hjW
end YE2
