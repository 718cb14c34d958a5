/-! THE CLASS: rows begun; vectors that stay; bound rows -/
def oK (O O' : zO) (t e : Nat) : Prop := (∀ a, a ≠ t → a ≠ e → O' a = O a) ∧ zI (O' t) = zI (O t)
theorem oK.rf {O : zO} {t e : Nat} : oK O O t e := ⟨fun _ _ _ => rfl, rfl⟩
theorem oK.tr {O O1 O2 : zO} {t e : Nat} (h1 : oK O O1 t e) (h2 : oK O1 O2 t e) : oK O O2 t e := ⟨fun a ha hb => (h2.1 a ha hb).trans (h1.1 a ha hb), h2.2.trans h1.2⟩
theorem oK.row {O O1 : zO} {t e : Nat} (h : oK O O1 t e) (f : Int → Int) : oK O (oW O1 t 0 f) t e := h.tr ⟨fun a ha _ => oW_n ha, by rw [oW_s]; rfl⟩
theorem oK.obj {O O1 : zO} {t e : Nat} (h : oK O O1 t e) (hte : t ≠ e) (S : zS) : oK O (oup O1 e S) t e := h.tr ⟨fun a _ hb => oup_n hb, by rw [oup_n hte]⟩
theorem fEch_nil {p W k : Nat} [NeZero p] {G : fV p → Prop} (h : ∀ g, ¬ G g) (R : Nat → fV p) (l : Nat → Nat) (hk : k = 0) : fEch (fSpn W G) k R l := by
  subst hk
  refine ⟨fun s hs => by omega, fun s t hs => by omega, fun v hv _ => ?_⟩
  refine hv (fun v => v = fZ) ⟨fun v e i _ => by rw [e]; rfl, rfl, fun u v c hu hv => ?_⟩ (fun g hg => (h g hg).elim)
  rw [hu, hv]; funext i; show (0 : Fin p) + c * 0 = 0; grind
/-- those of a family of rows that come before one -/
def GP {p : Nat} (n r lo : Nat) (gg : Nat → Nat → fV p) (x i : Nat) (g : fV p) : Prop := ∃ x' i', lo ≤ x' ∧ x' < n ∧ i' < r ∧ (x' < x ∨ (x' = x ∧ i' < i)) ∧ g = gg x' i'
section GPS
variable {n r lo x i : Nat}
theorem GP_step {p : Nat} {gg : Nat → Nat → fV p} (hlo : lo ≤ x) (hx : x < n) (hi : i < r) (g : fV p) : (GP n r lo gg x i g ∨ g = gg x i) ↔ GP n r lo gg x (i + 1) g := by
  constructor
  · rintro (⟨x', i', h1, h2, h3, h4, h5⟩ | rfl)
    · exact ⟨x', i', h1, h2, h3, by omega, h5⟩
    · exact ⟨x, i, hlo, hx, hi, by omega, rfl⟩
  · rintro ⟨x', i', h1, h2, h3, h4, h5⟩
    by_cases c : x' = x ∧ i' = i
    · rw [c.1, c.2] at h5; exact Or.inr h5
    · exact Or.inl ⟨x', i', h1, h2, h3, by omega, h5⟩
theorem GP_next {p : Nat} {gg : Nat → Nat → fV p} (g : fV p) : GP n r lo gg x r g ↔ GP n r lo gg (x + 1) 0 g := by
  constructor
  · rintro ⟨x', i', h1, h2, h3, h4, h5⟩; exact ⟨x', i', h1, h2, h3, by omega, h5⟩
  · rintro ⟨x', i', h1, h2, h3, h4, h5⟩; exact ⟨x', i', h1, h2, h3, by omega, h5⟩
theorem GP_0 {p : Nat} {gg : Nat → Nat → fV p} (g : fV p) : ¬ GP n r lo gg lo 0 g := by
  rintro ⟨x', i', h1, h2, h3, h4, h5⟩; omega
theorem GP_end {p : Nat} {gg : Nat → Nat → fV p} (g : fV p) : GP n r lo gg n 0 g ↔ ∃ x' i', lo ≤ x' ∧ x' < n ∧ i' < r ∧ g = gg x' i' := by
  constructor
  · rintro ⟨x', i', h1, h2, h3, h4, h5⟩; exact ⟨x', i', h1, h2, h3, h5⟩
  · rintro ⟨x', i', h1, h2, h3, h5⟩; exact ⟨x', i', h1, h2, h3, by omega, h5⟩
end GPS
/-- the row of an element less the unit's -/
def gU {p : Nat} [NeZero p] (r : Nat) (M : Nat → Nat → Nat → Int) (x i : Nat) : fV p := fun j => if j < r then fC (M x i j - (if i = j then 1 else 0)) else 0
def gVu {p : Nat} [NeZero p] (n r : Nat) (M : Nat → Nat → Nat → Int) (g : fV p) : Prop := ∃ x i, 0 ≤ x ∧ x < n ∧ i < r ∧ g = gU r M x i
section YFU
variable {F A g t b s e n p r lim W : Nat} {C : yC} {O O' : zO} {T : Nat → Nat → Nat} {M : Nat → Nat → Nat → Int}
theorem y_begin {p : Nat} [NeZero p] (hK : C.1 e = some (1, lim)) (hW : W ≤ 98) (hp : p < 100) (R : Nat → fV p) (l : Nat → Nat) : ∃ S', zX1_begin F C e W p O = some (oup O e S') ∧ eAt S' W 0 R l := by
  unfold zX1_begin
  rw [yPI_o hK, yPI_o hK, oup_s, oup_u, yPI_o hK, oup_s, oup_u, yAR_o hK, yFill_o hK, oup_s, oup_u]
  refine ⟨_, rfl, ⟨rfl, rfl, rfl⟩, ⟨hW, hp⟩, fun s hs => by omega, fun j hj _ => ?_⟩
  show (if (0 : Int) ≤ j ∧ (j : Int) < (98 : Nat) then (-1 : Int) else _) = -1
  rw [if_pos (by omega)]
theorem yAct.keep (h : yAct C O A g t n T p r M) (h1 : O' A = O A) (h2 : O' g = O g) : yAct C O' A g t n T p r M := by
  unfold yAct at *
  rw [h1, h2]; exact h
theorem yAct.ne (h : yAct C O A g t n T p r M) : A ≠ t ∧ g ≠ t ∧ A ≠ g := by
  refine ⟨fun q => ?_, fun q => ?_, fun q => ?_⟩
  · have := h.1.1; rw [q, h.1.2.2.1] at this; cases this
  · have := h.1.2.1; rw [q, h.1.2.2.1] at this; cases this
  · have := h.1.1; rw [q, h.1.2.1] at this; cases this
theorem yAct.neE (h : yAct C O A g t n T p r M) (hK : C.1 e = some (1, lim)) : A ≠ e ∧ g ≠ e ∧ t ≠ e := by
  refine ⟨fun q => ?_, fun q => ?_, fun q => ?_⟩
  · have := h.1.1; rw [q, hK] at this; cases this
  · have := h.1.2.1; rw [q, hK] at this; cases this
  · have := h.1.2.2.1; rw [q, hK] at this; cases this
theorem yAct.k (h : yAct C O A g t n T p r M) (hK : C.1 e = some (1, lim)) (hk : oK O O' t e) : yAct C O' A g t n T p r M := h.keep (hk.1 A h.ne.1 (h.neE hK).1) (hk.1 g h.ne.2.1 (h.neE hK).2.1)
theorem y_findUnmoved {p : Nat} [NeZero p] (hF : fF F) (hI : fInv p) (h : yAct C O A g t n T p r M) (hK : C.1 e = some (1, 98)) : ∃ (O1 : zO) (k : Nat) (R : Nat → fV p) (l : Nat → Nat), zX5_findUnmoved F C t (some A) (some e) O = some O1 ∧ (∀ a, a ≠ t → a ≠ e → O1 a = O a) ∧ (∀ i, i ≠ 3 → i ≠ 4 → zI (O1 t) i = zI (O t) i) ∧ zI (O1 t) 3 = (r : Int) - k ∧ zI (O1 t) 4 = (k : Nat) ∧ fEch (fSpn r (gVu (p := p) n r M)) k R l ∧ k ≤ r := by
  obtain ⟨hr1, hr2⟩ := h.2.2.2.2.2.1
  obtain ⟨hp1, hp2⟩ := h.2.2.2.2.1
  have hn := h.2.2.1
  have hte := (h.neE hK).2.2
  have hT := h.1.2.2.1
  obtain ⟨S0, b1, b2⟩ := y_begin (F := F) (O := O) (p := p) (W := r) hK (by omega) (by omega) (fun _ => fZ) (fun _ => 0)
  unfold zX5_findUnmoved
  rw [yFI_o h.1.1, yFI_o h.1.1, h.2.2.2.1.1, h.2.2.2.1.2, yO_o hK, yC0_o b1]
  let P : Option zO → Prop := fun x => ∃ (O1 : zO) (k : Nat) (R : Nat → fV p) (l : Nat → Nat), x = some O1 ∧ (∀ a, a ≠ t → a ≠ e → O1 a = O a) ∧ (∀ i, i ≠ 3 → i ≠ 4 → zI (O1 t) i = zI (O t) i) ∧ zI (O1 t) 3 = (r : Int) - k ∧ zI (O1 t) 4 = (k : Nat) ∧ fEch (fSpn r (gVu (p := p) n r M)) k R l ∧ k ≤ r
  let Q : Nat → Nat → zO → Prop := fun x i w => oK O w t e ∧ ∃ k R l, eAt (p := p) (w e) r k R l ∧ fEch (fSpn r (GP n r 0 (gU (p := p) r M) x i)) k R l
  refine iX5_findUnmoved_l14 (I := fun v0 v1 v2 v3 w => t = v0 ∧ some A = v1 ∧ some e = v2 ∧ ∃ x : Nat, x = v3 ∧ x ≤ n ∧ Q x 0 w) (μ := fun _ _ _ v3 _ => (n - v3).toNat) (P := P) ?_ F _ _ _ _ _ ⟨rfl, rfl, rfl, 0, rfl, by omega, oK.rf.obj hte S0, 0, _, _, by rw [oup_s]; exact b2, fEch_nil (fun g => GP_0 g) _ _ rfl⟩ (by unfold fF at hF; omega)
  rintro ra _ _ _ _ w ⟨rfl, rfl, rfl, x, rfl, hx, hq⟩ ih
  unfold zX5_findUnmoved_h14
  have ha := h.k hK hq.1
  rw [yFR_o ha.1.1 ha.1.2.2.2.2, yFI_o ha.1.2.1, ha.2.1.1]
  by_cases q : x = n
  · rw [zLe_t (by omega)]
    dsimp only
    obtain ⟨hk, k, R, l, e1, e2⟩ := hq
    rw [q, fSpn_congr (fun g => GP_end g)] at e2
    rw [yFI_o hK, e1.1.2.2, yPI_o hT, yFI_o ha.1.1, oup_n (h.ne.1), ha.2.2.2.1.2, yFI_o hT, oup_s, yPI_o hT, oup_s, oup_u]
    refine ⟨_, k, R, l, rfl, fun a h1 h2 => ?_, fun i h1 h2 => ?_, ?_, ?_, e2, eAt_k e1⟩
    · rw [oup_n h1]; exact hk.1 a h1 h2
    · rw [oup_s, zI_uI, if_neg h1, zI_uI, if_neg h2, hk.2]
    · rw [oup_s, zI_uI, if_pos rfl, zI_uI, if_pos rfl]
    · rw [oup_s, zI_uI, if_neg (by decide), zI_uI, if_pos rfl]
  · have hx : x < n := by omega
    rw [zLe_f (by omega)]
    refine iX5_findUnmoved_l28 (I := fun v0 v1 v2 v3 v4 w => t = v0 ∧ some A = v1 ∧ some e = v2 ∧ x = v3 ∧ ∃ i : Nat, i = v4 ∧ i ≤ r ∧ Q x i w) (μ := fun _ _ _ _ v4 _ => (r - v4).toNat) (P := P) ?_ F _ _ _ _ _ _ ⟨rfl, rfl, rfl, rfl, 0, rfl, by omega, hq⟩ (by unfold fF at hF; omega)
    rintro rb _ _ _ _ _ w1 ⟨rfl, rfl, rfl, rfl, i, rfl, hi, hq1⟩ ih2
    unfold zX5_findUnmoved_h28
    have ha1 := h.k hK hq1.1
    rw [yFI_o ha1.1.1, ha1.2.2.2.1.2]
    by_cases q2 : i = r
    · rw [zLe_t (by omega)]
      refine ih _ _ _ _ _ ⟨rfl, rfl, rfl, x + 1, rfl, by omega, hq1.1, ?_⟩ (by omega)
      obtain ⟨k, R, l, e1, e2⟩ := hq1.2
      rw [q2, fSpn_congr (fun g => GP_next g)] at e2
      exact ⟨k, R, l, e1, e2⟩
    · have hi : i < r := by omega
      rw [zLe_f (by omega)]
      refine iX5_findUnmoved_l40 (I := fun v0 v1 v2 v3 v4 v5 w => t = v0 ∧ some A = v1 ∧ some e = v2 ∧ x = v3 ∧ i = v4 ∧ ∃ (j : Nat) (f : Int → Int), j = v5 ∧ j ≤ r ∧ oW w1 t 0 f = w ∧ ∀ j' : Nat, j' < j → f j' = M x i j' - (if i = j' then 1 else 0)) (μ := fun _ _ _ _ _ v5 _ => (r - v5).toNat) (P := P) ?_ F _ _ _ _ _ _ _ ⟨rfl, rfl, rfl, rfl, rfl, 0, zA (w1 t) 0, rfl, by omega, oW_e w1 t 0, fun j' hj => by omega⟩ (by unfold fF at hF; omega)
      rintro rc _ _ _ _ _ _ _ ⟨rfl, rfl, rfl, rfl, rfl, j, f, rfl, hj, rfl, hf⟩ ih3
      unfold zX5_findUnmoved_h40 zX5_findUnmoved_b76
      have ha2 := h.k hK (hq1.1.row f)
      rw [yFI_o ha2.1.1, ha2.2.2.2.1.2]
      by_cases q3 : j = r
      · rw [zLe_t (by omega)]
        dsimp only
        obtain ⟨k, R, l, e1, e2⟩ := hq1.2
        have hG : ∀ g, GP n r 0 (gU (p := p) r M) x i g → fOk r g := by
          rintro g ⟨x', i', -, -, -, -, rfl⟩ j hj
          exact if_neg (by omega)
        have hmb := fun j' (hj' : j' < r) => (h.2.2.2.2.2.2 x i j' hx (by omega) (by omega)).2
        obtain ⟨f2, S', k', R', l', c1, c2, c3, -⟩ := y_add (F := F) (O := oW w1 t 0 f) (v := gU r M x i) hF hI hK hT (Nat.le_refl _) (Or.inr ⟨by have := eAt_k e1; omega, by omega⟩) (by rw [oW_n hte.symm]; exact e1) hG e2 (fun j' hj' => by
          rw [oW_f, hf j' (by omega)]
          have := hmb j' hj'
          refine ⟨by split <;> omega, ?_⟩
          unfold gU; rw [if_pos hj']) (fun j' hj' => if_neg (by omega))
        rw [yAR_o hT, yO_o hK, yC0_o c1]
        refine ih2 _ _ _ _ _ _ ⟨rfl, rfl, rfl, rfl, i + 1, rfl, by omega, ((hq1.1.row f).row f2).obj hte S', k', R', l', by rw [oup_s]; exact c2, ?_⟩ (by omega)
        rw [fSpn_congr (fun g => (GP_step (Nat.zero_le x) hx hi g).symm)]; exact c3
      · have hj : j < r := by omega
        have step : ∀ x1, x1 = M x i j - (if i = j then 1 else 0) → P (ySt C 5 0 98 (some t) j x1 (oW w1 t 0 f) fun w77 => rc t (some A) (some e) x i ((j : Int) + 1) w77) := fun x1 hx1 => by
          rw [ySt_o hT (by omega), oW_st]
          refine ih3 _ _ _ _ _ _ _ ⟨rfl, rfl, rfl, rfl, rfl, j + 1, _, rfl, by omega, rfl, fun j' hj' => ?_⟩ (by omega)
          by_cases c : j' = j
          · rw [c, zup_s, hx1]
          · rw [zup_n (by omega)]; exact hf j' (by omega)
        rw [zLe_f (by omega), yAR_o hT, yO_o ha2.1.1, yC1_o (ha2.entry hx (by omega) (by omega))]
        by_cases c : i = j
        · rw [zEq_t (by omega)]
          exact step _ (by rw [if_pos c])
        · rw [zEq_f (by omega)]
          exact step _ (by rw [if_neg c])
end YFU
