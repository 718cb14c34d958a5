/-! THE CLASS'S ROWS THAT LEAD: reduce -/
def zwA (S : zS) (k : Nat) (f : Int → Int) : zS := (S.1, S.2.1, fun l => if l = k then f else zA S l, S.2.2.2)
theorem zwA_s (S : zS) (k : Nat) (f : Int → Int) : zA (zwA S k f) k = f := if_pos rfl
theorem zwA_n {S : zS} {k l : Nat} {f : Int → Int} (h : l ≠ k) : zA (zwA S k f) l = zA S l := if_neg h
theorem zwA_I (S : zS) (k : Nat) (f : Int → Int) : zI (zwA S k f) = zI S := rfl
theorem zwA_e (S : zS) (k : Nat) : zwA S k (zA S k) = S := by
  have : (fun l => if l = k then zA S k else zA S l) = zA S := by
    funext l
    by_cases h : l = k
    · rw [if_pos h, h]
    · rw [if_neg h]
  unfold zwA; rw [this]; rfl
theorem zwA_u (S : zS) (k : Nat) (f : Int → Int) (i x : Int) : zuA (zwA S k f) k i x = zwA S k (zup f i x) := by
  have : (fun l => if l = k then zup (zA (zwA S k f) k) i x else zA (zwA S k f) l) = fun l => if l = k then zup f i x else zA S l := by
    funext l
    by_cases h : l = k
    · rw [if_pos h, if_pos h, zwA_s]
    · rw [if_neg h, if_neg h, zwA_n h]
  unfold zuA; rw [this]; rfl
theorem oup_u (O : zO) (a : Nat) (S S' : zS) : oup (oup O a S) a S' = oup O a S' := by
  funext b
  by_cases h : b = a
  · rw [h, oup_s, oup_s]
  · rw [oup_n h, oup_n h, oup_n h]
theorem oup_e (O : zO) (a : Nat) : oup O a (O a) = O := by
  funext b
  by_cases h : b = a
  · rw [h, oup_s]
  · rw [oup_n h]
/-- object t with its row k as f -/
def oW (O : zO) (t k : Nat) (f : Int → Int) : zO := oup O t (zwA (O t) k f)
theorem oW_n {O : zO} {t k a : Nat} {f : Int → Int} (h : a ≠ t) : oW O t k f a = O a := oup_n h
theorem oW_s (O : zO) (t k : Nat) (f : Int → Int) : oW O t k f t = zwA (O t) k f := oup_s _ _ _
theorem oW_st (O : zO) (t k : Nat) (f : Int → Int) (i x : Int) : oup (oW O t k f) t (zuA (oW O t k f t) k i x) = oW O t k (zup f i x) := by
  unfold oW; rw [oup_u, oup_s, zwA_u]
theorem oW_e (O : zO) (t k : Nat) : oW O t k (zA (O t) k) = O := by
  unfold oW; rw [zwA_e, oup_e]
theorem oW_f (O : zO) (t k : Nat) (f : Int → Int) : zA (oW O t k f t) k = f := by rw [oW_s, zwA_s]
theorem oW_W (O : zO) (t k : Nat) (f g : Int → Int) : oW (oW O t k f) t k g = oW O t k g := by
  unfold oW
  rw [oup_u, oup_s]
  congr 1
  unfold zwA
  congr 3
  funext l
  by_cases h : l = k
  · rw [if_pos h, if_pos h]
  · rw [if_neg h, if_neg h]; exact if_neg h
def fRow {p : Nat} (W : Nat) (f : Int → Int) (v : fV p) : Prop := ∀ j : Nat, j < W → f j = (((v j).val : Nat) : Int)
/-- the class's rows that lead: so wide, so many, R with their leads l -/
def eAt {p : Nat} [NeZero p] (S : zS) (W k : Nat) (R : Nat → fV p) (l : Nat → Nat) : Prop :=
  (zI S 3 = W ∧ zI S 4 = p ∧ zI S 5 = k) ∧ (W ≤ 98 ∧ p < 100) ∧ (∀ s, s < k → (l s < W ∧ zA S 1 s = l s ∧ zA S 2 (l s) = s) ∧ R s (l s) = 1 ∧ (∀ j, j < l s → R s j = 0) ∧ fOk W (R s) ∧ ∀ j : Nat, j < W → zA S 0 ((s : Int) * 98 + j) = (((R s j).val : Nat) : Int)) ∧ ∀ j : Nat, j < W → (∀ s, s < k → l s ≠ j) → zA S 2 j = -1
section YE
variable {F e t lim W k : Nat} {C : yC} {O : zO} {l : Nat → Nat}
theorem y_leadsAt {p : Nat} [NeZero p] {R : Nat → fV p} (hK : C.1 e = some (1, lim)) (h : eAt (O e) W k R l) {j : Nat} (hj : j < W) : ((∃ s, s < k ∧ l s = j) → zX1_leadsAt F C e j O = some (1, O)) ∧ ((∀ s, s < k → l s ≠ j) → zX1_leadsAt F C e j O = some (0, O)) := by
  obtain ⟨h1, h2, h3, h4⟩ := h
  unfold zX1_leadsAt
  rw [yAR_o hK, yLd_o hK (by omega)]
  constructor
  · rintro ⟨s, hs, rfl⟩
    have hw := h3 s hs
    have hk : s < 2147483648 := Nat.lt_of_le_of_lt (m := 1000) (Nat.le_of_not_lt fun q => ?_) (by decide)
    · rw [hw.1.2.2, zLt_f (by omega)]
    · have h9 := nC_inj (P := fun s => s < 1000) (Q := fun _ => True) (n := 1000) (m := W) l (fun i hi _ => ⟨(h3 i (by omega)).1.1, trivial⟩) (fun i j hi hj _ _ e => by
        have a1 := (h3 i (by omega)).1.2.2
        have a2 := (h3 j (by omega)).1.2.2
        rw [e, a2] at a1
        omega)
      rw [nC_all (fun _ h => h), nC_all (fun _ _ => trivial)] at h9
      omega
  · intro hs
    rw [h4 j hj hs, zLt_t (by omega)]
theorem eAt_k {p : Nat} [NeZero p] {S : zS} {R : Nat → fV p} (h : eAt S W k R l) : k ≤ W := by
  obtain ⟨h1, h2, h3, h4⟩ := h
  have h9 := nC_inj (P := fun _ => True) (Q := fun _ => True) (n := k) (m := W) l (fun i hi _ => ⟨(h3 i hi).1.1, trivial⟩) (fun i j hi hj _ _ e => by
    have a1 := (h3 i hi).1.2.2
    have a2 := (h3 j hj).1.2.2
    rw [e, a2] at a1
    omega)
  rw [nC_all (fun _ _ => trivial), nC_all (fun _ _ => trivial)] at h9
  exact h9
theorem y_reduce {p : Nat} [NeZero p] {R : Nat → fV p} (hF : fF F) (hK : C.1 e = some (1, lim)) (hT : C.1 t = some (5, 0)) (hl : k ≤ lim) (h : eAt (O e) W k R l) {v : fV p} (hv : fRow W (zA (O t) 0) v) (hvo : fOk W v) : ∃ f u, zX1_reduce F C e (some t) O = some (oW O t 0 f) ∧ fRow W f u ∧ fOk W u ∧ (∀ s, s < k → u (l s) = 0) ∧ (∀ V : fV p → Prop, fSub W V → (∀ s, s < k → V (R s)) → V (fun i => u i - v i)) ∧ ((∀ s, s < k → v (l s) = 0) → u = v) := by
  have het : e ≠ t := fun q => by rw [q, hT] at hK; cases hK
  have hkW := eAt_k h
  obtain ⟨h1, h2, h3, h4⟩ := h
  have hp := fP (p := p)
  let Q : Int → zO → Prop := fun y w => ∃ (y' : Nat) (f : Int → Int) (u : fV p), y = y' ∧ y' ≤ W ∧ w = oW O t 0 f ∧ fRow W f u ∧ fOk W u ∧ (∀ s, s < k → l s < y' → u (l s) = 0) ∧ (∀ V : fV p → Prop, fSub W V → (∀ s, s < k → V (R s)) → V (fun i => u i - v i)) ∧ ((∀ s, s < k → v (l s) = 0) → u = v)
  let P : Option zO → Prop := fun r => ∃ f u, r = some (oW O t 0 f) ∧ fRow W f u ∧ fOk W u ∧ (∀ s, s < k → u (l s) = 0) ∧ (∀ V : fV p → Prop, fSub W V → (∀ s, s < k → V (R s)) → V (fun i => u i - v i)) ∧ ((∀ s, s < k → v (l s) = 0) → u = v)
  refine iX1_reduce_l2 (I := fun v0 v1 v2 w => e = v0 ∧ some t = v1 ∧ Q v2 w) (μ := fun _ _ v2 _ => (W - v2).toNat) (P := P) ?_ F _ _ _ _ ⟨rfl, rfl, 0, zA (O t) 0, v, rfl, by omega, (oW_e O t 0).symm, hv, hvo, fun s _ q => by omega, fun V hV _ => ?_, fun _ => rfl⟩ (by unfold fF at hF; omega)
  · rintro r _ _ _ _ ⟨rfl, rfl, y, f, u, rfl, hy, rfl, hf, huo, hu0, hus, huv⟩ ih
    unfold zX1_reduce_h2 zX1_reduce_b99
    rw [yFI_o hK, oW_n het, h1.1]
    by_cases q : y = W
    · subst q
      rw [zLe_t (by omega)]
      exact ⟨f, u, rfl, hf, huo, fun s hs => hu0 s hs (h3 s hs).1.1, hus, huv⟩
    · have hy : y < W := by omega
      have hb := fV_lt (u y)
      rw [zLe_f (by omega), yLd_o hT (by omega), oW_f, hf y hy]
      have go : (∀ s, s < k → l s = y → u (l s) = 0) → P (r e (some t) ((y : Int) + 1) (oW O t 0 f)) := fun hh => ih e (some t) ((y : Int) + 1) _ ⟨rfl, rfl, y + 1, f, u, rfl, by omega, rfl, hf, huo, fun s hs hlt => by
        rcases Nat.lt_or_ge (l s) y with z | z
        · exact hu0 s hs z
        · exact hh s hs (by omega), hus, huv⟩ (by omega)
      by_cases z0 : u y = 0
      · rw [zEq_t (by have := fV_0.mpr z0; omega)]
        exact go fun s hs e => by rw [e]; exact z0
      · have z1 : ((u y).val : Int) ≠ 0 := fun q => z0 (fV_0.mp q)
        rw [zEq_f (by omega), yO_o hK]
        have hle := y_leadsAt (F := F) (O := oW O t 0 f) hK (by rw [oW_n het]; exact ⟨h1, h2, h3, h4⟩) hy
        by_cases hx : ∃ s, s < k ∧ l s = y
        · rw [yC1_o (hle.1 hx), zEq_f (by omega), yAR_o hK, yLd_o hK (by omega), oW_n het]
          obtain ⟨s, hs, rfl⟩ := hx
          have hr := h3 s hs
          rw [hr.1.2.2, yFI_o hK, oW_n het, h1.2.1, yLd_o hT (by omega), oW_f, hf _ hy]
          have hsh : fC ((p : Int) - ((u (l s)).val : Int)) = - u (l s) := by
            rw [fC_sub, fC_p, fC_v]; grind
          generalize hshv : (p : Int) - ((u (l s)).val : Int) = sh at hsh ⊢
          have hshb : 0 ≤ sh ∧ sh ≤ 100 := by omega
          refine iX1_reduce_l47 (I := fun v0 v1 v2 v3 v4 v5 w => e = v0 ∧ some t = v1 ∧ l s = v2 ∧ (s : Int) * 98 = v3 ∧ sh = v4 ∧ ∃ (z : Nat) (g : Int → Int), z = v5 ∧ l s ≤ z ∧ z ≤ W ∧ oW O t 0 g = w ∧ fRow W g (fun j => if l s ≤ j ∧ j < z then u j + - u (l s) * R s j else u j)) (μ := fun _ _ _ _ _ v5 _ => (W - v5).toNat) (P := P) ?_ F _ _ _ _ _ _ _ ⟨rfl, rfl, rfl, rfl, rfl, l s, f, rfl, by omega, by omega, rfl, fun j hj => ?_⟩ (by unfold fF at hF; omega)
          · rintro r2 _ _ _ _ _ _ _ ⟨rfl, rfl, rfl, rfl, rfl, z, g, rfl, hz1, hz2, rfl, hg⟩ ih2
            unfold zX1_reduce_h47 zX1_reduce_b93
            rw [yFI_o hK, oW_n het, h1.1]
            by_cases q3 : z = W
            · subst q3
              rw [zLe_t (by omega)]
              have e1 : (fun j => if l s ≤ j ∧ j < z then u j + - u (l s) * R s j else u j) = fAx u (- u (l s)) (R s) := by
                funext j
                show _ = u j + - u (l s) * R s j
                by_cases c1 : l s ≤ j ∧ j < z
                · rw [if_pos c1]
                · rw [if_neg c1]
                  rcases Nat.lt_or_ge j (l s) with c2 | c2
                  · rw [hr.2.2.1 j c2]; grind
                  · rw [hr.2.2.2.1 j (by omega)]; grind
              rw [e1] at hg
              refine ih e (some t) ((l s : Nat) + 1 : Int) _ ⟨rfl, rfl, l s + 1, g, _, rfl, by omega, rfl, hg, fun i hi => ?_, fun s' hs' hlt => ?_, fun V hV hR => ?_, fun hv0 => ?_⟩ (by omega)
              · show u i + - u (l s) * R s i = 0
                rw [huo i hi, hr.2.2.2.1 i hi]; grind
              · show u (l s') + - u (l s) * R s (l s') = 0
                rcases Nat.lt_or_ge (l s') (l s) with c2 | c2
                · rw [hu0 s' hs' c2, hr.2.2.1 _ c2]; grind
                · rw [show l s' = l s by omega, hr.2.1]; grind
              · have c1 := hV.2.2 _ (R s) (- u (l s)) (hus V hV hR) (hR s hs)
                have c2 : fAx (fun i => u i - v i) (- u (l s)) (R s) = fun i => fAx u (- u (l s)) (R s) i - v i := by
                  funext i; show u i - v i + - u (l s) * R s i = u i + - u (l s) * R s i - v i; grind
                rw [c2] at c1; exact c1
              · have := huv hv0
                exact (z0 (by rw [this]; exact hv0 s hs)).elim
            · have hzW : z < W := by omega
              have hb2 := fV_lt (R s z)
              have hb3 := fV_lt ((if l s ≤ z ∧ z < z then u z + - u (l s) * R s z else u z))
              have hm : 0 ≤ sh * ((R s z).val : Int) ∧ sh * ((R s z).val : Int) ≤ 100 * 100 := ⟨Int.mul_nonneg hshb.1 hb2.1, Int.mul_le_mul hshb.2 (by omega) hb2.1 (by omega)⟩
              have hlm : ((lim * 98 : Nat) : Int) = (lim : Int) * 98 := by omega
              rw [zLe_f (by omega), yAR_o hK, yLE_o hK (by omega), oW_n het, hr.2.2.2.2 z hzW]
              have hgz : g z = ((u z).val : Int) := by
                rw [hg z hzW]
                show ((((if l s ≤ z ∧ z < z then u z + - u (l s) * R s z else u z) : Fin p).val : Nat) : Int) = _
                rw [if_neg (by omega)]
              have step : ∀ g2, fRow W g2 (fun j => if l s ≤ j ∧ j < z + 1 then u j + - u (l s) * R s j else u j) → P (r2 e (some t) (l s : Nat) ((s : Int) * 98) sh ((z : Int) + 1) (oW O t 0 g2)) := fun g2 hg2 => ih2 e (some t) (l s : Nat) ((s : Int) * 98) sh ((z : Int) + 1) _ ⟨rfl, rfl, rfl, rfl, rfl, z + 1, g2, rfl, by omega, by omega, rfl, hg2⟩ (by omega)
              by_cases c0 : R s z = 0
              · rw [zEq_t (by have := fV_0.mpr c0; omega)]
                refine step g fun j hj => ?_
                rw [hg j hj]
                show ((((if l s ≤ j ∧ j < z then _ else _ : Fin p)).val : Nat) : Int) = (((if l s ≤ j ∧ j < z + 1 then _ else _ : Fin p).val : Nat) : Int)
                by_cases c1 : j = z
                · subst c1
                  rw [if_neg (by omega), if_pos (by omega), c0]
                  congr 2; grind
                · by_cases c2 : l s ≤ j ∧ j < z
                  · rw [if_pos c2, if_pos (by omega)]
                  · rw [if_neg c2, if_neg (by omega)]
              · have c3 : ((R s z).val : Int) ≠ 0 := fun q => c0 (fV_0.mp q)
                have hb4 := fV_lt (u z)
                rw [zEq_f (by omega), yLd_o hT (by omega), oW_f, hgz, yFI_o hK, oW_n het, h1.2.1, yC1_o (y_modC (p := p) h2.2 (by omega)), ySt_o hT (by omega), oW_st]
                refine step _ fun j hj => ?_
                show zup g z _ j = (((if l s ≤ j ∧ j < z + 1 then _ else _ : Fin p).val : Nat) : Int)
                by_cases c1 : j = z
                · subst c1
                  rw [zup_s, if_pos (by omega), fC_add, fC_mul, fC_v, fC_v, hsh]
                · rw [zup_n (by omega), hg j hj]
                  show ((((if l s ≤ j ∧ j < z then _ else _ : Fin p)).val : Nat) : Int) = _
                  by_cases c2 : l s ≤ j ∧ j < z
                  · rw [if_pos c2, if_pos (by omega)]
                  · rw [if_neg c2, if_neg (by omega)]
          · rw [hf j hj]
            show _ = ((((if l s ≤ j ∧ j < l s then _ else _ : Fin p)).val : Nat) : Int)
            rw [if_neg (by omega)]
        · have hx2 : ∀ s, s < k → l s ≠ y := fun s hs e => hx ⟨s, hs, e⟩
          rw [yC1_o (hle.2 hx2), zEq_t (by omega)]
          exact go fun s hs e => (hx2 s hs e).elim
  · have e0 : (fun i => v i - v i) = (fZ : fV p) := by funext i; show v i - v i = 0; grind
    rw [e0]; exact hV.2.1
end YE
