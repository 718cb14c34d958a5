/-! THE MODEL: pairs that are cocycles -/
/-- what is orthogonal to rows in steps, with a 1 at one free place -/
def nvP {p : Nat} [NeZero p] (W k : Nat) (R : Nat → fV p) (l : Nat → Nat) (q : Nat) (v : fV p) : Prop := fOk W v ∧ v q = 1 ∧ (∀ j, j < W → j ≠ q → (∀ s, s < k → l s ≠ j) → v j = 0) ∧ ∀ s, s < k → v (l s) = - R s q
theorem nvP_nul {p W k q : Nat} [NeZero p] (hI : fInv p) {Gn : fV p → Prop} (hG : ∀ g, Gn g → fOk W g) {R : Nat → fV p} {l : Nat → Nat} (hE : fRref (fSpn W Gn) k R l) (hq : q < W) (hql : ∀ s, s < k → l s ≠ q) {v : fV p} (hv : nvP W k R l q v) : fNul W Gn v ∧ fTail (fNul W Gn) q := by
  have hS := fSpn_sub hG
  have hl := fEch_lead hI hS hE.1
  have hlW : ∀ s, s < k → l s < W := fun s hs => fLead_lt hS ((hl _).mpr ⟨s, hs, rfl⟩)
  have hdot : ∀ s, s < k → fDot (R s) v W = 0 := by
    intro s hs
    rw [fDot_sum]
    -- two places: q and the lead
    have key : ∀ m, m ≤ W → fSum (fun j => R s j * v j) m = (if q < m then R s q else 0) + (if l s < m then - R s q else 0) := by
      intro m
      induction m with
      | zero => intro _; rw [if_neg (by omega), if_neg (by omega)]; show (0 : Fin p) = 0 + 0; grind
      | succ m ih =>
        intro hm
        show fSum _ m + R s m * v m = _
        rw [ih (by omega)]
        by_cases c1 : m = q
        · rw [c1, if_neg (by omega), if_pos (show q < q + 1 by omega), hv.2.1]
          have := hql s hs
          by_cases c2 : l s < q
          · rw [if_pos c2, if_pos (by omega)]; grind
          · rw [if_neg c2, if_neg (by omega)]; grind
        · by_cases c2 : m = l s
          · rw [c2, if_neg (show ¬ l s < l s by omega), if_pos (show l s < l s + 1 by omega), hv.2.2.2 s hs, hE.2.1 s s hs hs, if_pos rfl]
            by_cases c3 : q < l s
            · rw [if_pos c3, if_pos (by omega)]; grind
            · rw [if_neg c3, if_neg (by omega)]; grind
          · have hz : R s m * v m = 0 := by
              by_cases c3 : ∃ t, t < k ∧ l t = m
              · obtain ⟨t, ht, rfl⟩ := c3
                have hst : s ≠ t := fun e => c2 (by rw [e])
                rw [hE.2.1 s t hs ht, if_neg hst]; grind
              · rw [hv.2.2.1 m (by omega) c1 (fun t ht e => c3 ⟨t, ht, e⟩)]; grind
            rw [hz]
            have e1 : (q < m + 1) = (q < m) := by apply propext; omega
            have e2 : (l s < m + 1) = (l s < m) := by apply propext; omega
            simp only [e1, e2]
            grind
    rw [key W (Nat.le_refl _), if_pos hq, if_pos (hlW s hs)]; grind
  have h3 : fNul W (fun g => ∃ s, s < k ∧ g = R s) v := ⟨hv.1, by rintro g ⟨s, hs, rfl⟩; exact hdot s hs⟩
  have hnul : fNul W Gn v := ⟨hv.1, fun g hg => fNul_spn (by rintro g ⟨s, hs, rfl⟩; exact hS.1 _ (hE.1.1 s hs).1) h3 (fEch_gen hI hS hE.1 (fSpn_of hg))⟩
  refine ⟨hnul, v, hnul, by rw [hv.2.1]; exact hI.1, fun j hj => ?_⟩
  rcases Nat.lt_or_ge j W with c | c
  · by_cases c3 : ∃ t, t < k ∧ l t = j
    · obtain ⟨t, ht, rfl⟩ := c3
      rw [hv.2.2.2 t ht, (hE.1.1 t ht).2.2 q hj]; grind
    · exact hv.2.2.1 j c (by omega) (fun t ht e => c3 ⟨t, ht, e⟩)
  · exact hv.1 j c
theorem nvP_ex {p W k q : Nat} [NeZero p] {R : Nat → fV p} {l : Nat → Nat} (hlW : ∀ s, s < k → l s < W) (hinj : ∀ s t, s < k → t < k → l s = l t → s = t) (hq : q < W) (hql : ∀ s, s < k → l s ≠ q) : ∃ v : fV p, nvP W k R l q v := by
  classical
  let v : fV p := fun j => if j = q then 1 else if h : ∃ s, s < k ∧ l s = j then - R (Classical.choose h) q else 0
  refine ⟨v, fun i hi => ?_, if_pos rfl, fun j hj hne hf => ?_, fun s hs => ?_⟩
  · have e : ¬ ∃ s, s < k ∧ l s = i := by rintro ⟨s, hs, e⟩; have := hlW s hs; omega
    show (if i = q then 1 else if h : ∃ s, s < k ∧ l s = i then - R (Classical.choose h) q else 0) = 0
    rw [if_neg (by omega), dif_neg e]
  · have e : ¬ ∃ s, s < k ∧ l s = j := by rintro ⟨s, hs, e⟩; exact hf s hs e
    show (if j = q then 1 else if h : ∃ s, s < k ∧ l s = j then - R (Classical.choose h) q else 0) = 0
    rw [if_neg hne, dif_neg e]
  · have e : ∃ t, t < k ∧ l t = l s := ⟨s, hs, rfl⟩
    show (if l s = q then 1 else if h : ∃ t, t < k ∧ l t = l s then - R (Classical.choose h) q else 0) = _
    rw [if_neg (hql s hs), dif_pos e]
    have := Classical.choose_spec e
    rw [hinj _ s this.1 hs this.2]
/-- how many rows, how many dimensions -/
theorem fNul_dim {p W k : Nat} [NeZero p] (hI : fInv p) {Gn : fV p → Prop} (hG : ∀ g, Gn g → fOk W g) {R : Nat → fV p} {l : Nat → Nat} (hE : fRref (fSpn W Gn) k R l) : nC (fLead (fNul W Gn)) W + k = W := by
  have hS := fSpn_sub hG
  have hl := fEch_lead hI hS hE.1
  have hlW : ∀ s, s < k → l s < W := fun s hs => fLead_lt hS ((hl _).mpr ⟨s, hs, rfl⟩)
  have h1 := fNul_count hI hG (fun i hi hni => by
    have hq : ∀ s, s < k → l s ≠ i := fun s hs e => hni ((hl i).mpr ⟨s, hs, e⟩)
    obtain ⟨v, hv⟩ := nvP_ex (R := R) hlW hE.1.2.1 hi hq
    exact (nvP_nul hI hG hE hi hq hv).2)
  rw [← fEch_count hI hS hE.1] at h1
  exact h1
section MPR
variable {F m g n p r W : Nat} {Z Z' : zS} {T : Nat → Nat → Nat} {M : Nat → Nat → Nat → Int} {f g2 h2 : Int → Int} {c : Int}
theorem cR0_ok {p : Nat} [NeZero p] {x y z i : Nat} (hy : 1 ≤ y) (hyn : y < n) (hz : 1 ≤ z) (hzn : z < n) : ∀ k, k ≤ r → fOk ((n - 1) * (n - 1) * r) (cR0 (p := p) n r M x y z i k)
  | 0, _ => fZ_ok
  | k + 1, hk => fAx_ok (cR0_ok hy hyn hz hzn k (by omega)) (pl_lt hy hyn hz hzn (by omega))
theorem cR_ok {p : Nat} [NeZero p] (G : zGrp n T) {x y z i : Nat} (hx : 1 ≤ x) (hxn : x < n) (hy : 1 ≤ y) (hyn : y < n) (hz : 1 ≤ z) (hzn : z < n) (hi : i < r) : fOk ((n - 1) * (n - 1) * r) (cR (p := p) n r T M x y z i) := by
  have h1 := G.2.1 y z hyn hzn
  have h2 := G.2.1 x y hxn hyn
  unfold cR
  refine fAx_ok ?_ (pl_lt hx hxn hy hyn hi)
  unfold cR2
  have e1 : fOk ((n - 1) * (n - 1) * r) (cR1 (p := p) n r T M x y z i) := by
    unfold cR1
    split
    · exact cR0_ok hy hyn hz hzn r (Nat.le_refl _)
    · exact fAx_ok (cR0_ok hy hyn hz hzn r (Nat.le_refl _)) (pl_lt hx hxn (by omega) h1 hi)
  split
  · exact e1
  · exact fAx_ok e1 (pl_lt (by omega) h2 hz hzn hi)
theorem m_equation {p : Nat} [NeZero p] (hF : fF F) (h : mBo Z m g n T p r M) {x y z i : Nat} (hx : 1 ≤ x) (hxn : x < n) (hy : 1 ≤ y) (hyn : y < n) (hz : 1 ≤ z) (hzn : z < n) (hi : i < r) : ∃ f', zX7_equation F x y z i (mS Z f g2 h2 c) = some (mS Z f' g2 h2 c) ∧ fRow (p := p) ((n - 1) * (n - 1) * r) f' (cR n r T M x y z i) := by
  obtain ⟨hr1, hr2⟩ := h.1.2.2.2.2.2.1
  obtain ⟨hp1, hp2⟩ := h.1.2.2.2.2.1
  have hn := h.1.2.2.1
  have h98 := pl_98 hn hr2
  have hZ := fun f => h.s f g2 h2 c
  have hyz := h.G.2.1 y z hyn hzn
  have hxy := h.G.2.1 x y hxn hyn
  have h23 := h.2.2.2.2.2
  generalize hW : (n - 1) * (n - 1) * r = W at *
  have plW : ∀ x y i, 1 ≤ x → x < n → 1 ≤ y → y < n → i < r → pl n r x y i < W := fun x y i a1 a2 a3 a4 a5 => by rw [← hW]; exact pl_lt a1 a2 a3 a4 a5
  have e37 : ∀ f, zI (mS Z f g2 h2 c) 37 = (r : Nat) := fun f => (hZ f).2.2.2.2.1
  have e38 : ∀ f, zI (mS Z f g2 h2 c) 38 = (g : Nat) := fun f => (hZ f).2.2.1
  have e39 : ∀ f, zI (mS Z f g2 h2 c) 39 = (m : Nat) := fun f => (hZ f).2.1
  obtain ⟨f1, c1, c2⟩ := m_clear (F := F) (Z := Z) (f := f) (g2 := g2) (h2 := h2) (c := c) hF
  have hf1 : fRow W f1 (fZ : fV p) := fun j hj => by
    rw [c2 j (by omega) (by omega)]; exact (fV_0.mpr rfl).symm
  let P : Option zS → Prop := fun x' => ∃ f', x' = some (mS Z f' g2 h2 c) ∧ fRow (p := p) W f' (cR n r T M x y z i)
  have s3 : ∀ f, fRow (p := p) W f (cR2 n r T M x y z i) → P (zX7_equation_b109 F x y i (mS Z f g2 h2 c)) := by
    intro f hf
    unfold zX7_equation_b109
    obtain ⟨f', a1, a2⟩ := m_put (F := F) (Z := Z) (g2 := g2) (h2 := h2) (c := c) (v := -1) (e := -1) (by omega) h23 h98 hf (plW x y i hx hxn hy hyn hi) (by omega) (by rw [fC_neg, fC_1])
    rw [zC1_o ((hZ f).place hx hy), zC0_o a1]
    exact ⟨f', rfl, a2⟩
  have s2 : ∀ f, fRow (p := p) W f (cR1 n r T M x y z i) → P (zX7_equation_b90 F x y z i (T x y : Nat) (mS Z f g2 h2 c)) := by
    intro f hf
    unfold zX7_equation_b90
    by_cases q : T x y = 0
    · rw [zLe_t (by omega)]
      refine s3 f ?_
      unfold cR2; rw [if_pos q]; exact hf
    · obtain ⟨f', a1, a2⟩ := m_put (F := F) (Z := Z) (g2 := g2) (h2 := h2) (c := c) (v := -1) (e := -1) (by omega) h23 h98 hf (plW (T x y) z i (by omega) hxy hz hzn hi) (by omega) (by rw [fC_neg, fC_1])
      rw [zLe_f (by omega), zC1_o ((hZ f).place (by omega) hz), zC0_o a1]
      refine s3 f' ?_
      unfold cR2; rw [if_neg q]; exact a2
  unfold zX7_equation
  rw [zC0_o c1]
  refine iX7_equation_l7 (I := fun v1 v2 v3 v4 v5 w => x = v1 ∧ y = v2 ∧ z = v3 ∧ i = v4 ∧ ∃ (j : Nat) (f : Int → Int), j = v5 ∧ j ≤ r ∧ mS Z f g2 h2 c = w ∧ fRow W f (cR0 (p := p) n r M x y z i j)) (μ := fun _ _ _ _ v5 _ => (r - v5).toNat) (P := P) ?_ F _ _ _ _ _ _ ⟨rfl, rfl, rfl, rfl, 0, f1, rfl, by omega, rfl, hf1⟩ (by unfold fF at hF; omega)
  rintro ra _ _ _ _ _ _ ⟨rfl, rfl, rfl, rfl, j, f3, rfl, hj, rfl, hf3⟩ ih
  unfold zX7_equation_h7
  rw [e37]
  by_cases q : j = r
  · rw [zLe_t (by omega)]
    dsimp only
    rw [q] at hf3
    rw [e38, zC1_o ((hZ f3).mulG hyn hzn), e38, zC1_o ((hZ f3).mulG hxn hyn)]
    by_cases q2 : T y z = 0
    · rw [zLe_t (by omega)]
      refine s2 f3 ?_
      unfold cR1; rw [if_pos q2]; exact hf3
    · obtain ⟨f', a1, a2⟩ := m_put (F := F) (Z := Z) (g2 := g2) (h2 := h2) (c := c) (v := 1) (e := 1) (by omega) h23 h98 hf3 (plW x (T y z) i hx hxn (by omega) hyz hi) (by omega) fC_1
      rw [zLe_f (by omega), zC1_o ((hZ f3).place hx (by omega)), zC0_o a1]
      refine s2 f' ?_
      unfold cR1; rw [if_neg q2]; exact a2
  · have hjr : j < r := by omega
    have hmb := (h.1.2.2.2.2.2.2 x i j hxn (by omega) (by omega)).2
    obtain ⟨f', a1, a2⟩ := m_put (F := F) (Z := Z) (g2 := g2) (h2 := h2) (c := c) (v := M x i j) (e := mC M x i j) (by omega) h23 h98 hf3 (plW y z j hy hyn hz hzn hjr) (by omega) rfl
    rw [zLe_f (by omega), zC1_o ((hZ f3).place hy hz), e39, zC1_o ((hZ f3).mat hxn (by omega) (by omega)), zC0_o a1]
    exact ih _ _ _ _ _ _ ⟨rfl, rfl, rfl, rfl, j + 1, f', rfl, by omega, rfl, a2⟩ (by omega)
end MPR
