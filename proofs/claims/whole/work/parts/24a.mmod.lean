/-! THE MODEL'S MODULES -/
def mMd (Z : zS) (m g n : Nat) (T : Nat → Nat → Nat) (p r : Nat) (M : Nat → Nat → Nat → Int) : Prop :=
  m < 6 ∧ yG Z g n T ∧ n ≤ 8 ∧ (zA Z 8 m = g ∧ zA Z 9 m = p ∧ zA Z 10 m = r) ∧ (1 < p ∧ p ≤ 5) ∧ (1 ≤ r ∧ r ≤ 2) ∧ ∀ x i j : Nat, x < n → i < 2 → j < 2 → zA Z 11 (32 * (m : Int) + 4 * x + 2 * i + j) = M x i j ∧ 0 ≤ M x i j ∧ M x i j < p
/-- the module looked at -/
def mCx (Z : zS) (m g n p r : Nat) : Prop := zI Z 39 = m ∧ zI Z 38 = g ∧ zI Z 36 = n ∧ zI Z 37 = r ∧ zI Z 23 = p
def mBo (Z : zS) (m g n : Nat) (T : Nat → Nat → Nat) (p r : Nat) (M : Nat → Nat → Nat → Int) : Prop := mMd Z m g n T p r M ∧ mCx Z m g n p r
section MMD
variable {F m g n p r W : Nat} {Z Z' : zS} {T : Nat → Nat → Nat} {M : Nat → Nat → Nat → Int} {f g2 h2 : Int → Int} {c : Int}
theorem mBo.k (h : mBo Z m g n T p r M) (h1 : ∀ k, k < 12 → zA Z' k = zA Z k) (h2 : zI Z' 39 = zI Z 39 ∧ zI Z' 38 = zI Z 38 ∧ zI Z' 36 = zI Z 36 ∧ zI Z' 37 = zI Z 37 ∧ zI Z' 23 = zI Z 23) : mBo Z' m g n T p r M := by
  unfold mBo mMd mCx yG at *
  rw [h1 8 (by omega), h1 9 (by omega), h1 10 (by omega), h1 11 (by omega), h1 1 (by omega), h1 2 (by omega), h2.1, h2.2.1, h2.2.2.1, h2.2.2.2.1, h2.2.2.2.2]
  exact h
theorem mBo.s (h : mBo Z m g n T p r M) (f g2 h2 : Int → Int) (c : Int) : mBo (mS Z f g2 h2 c) m g n T p r M := by
  refine h.k (fun k hk => ?_) ⟨rfl, rfl, rfl, rfl, rfl⟩
  show (if k = 25 then f else if k = 26 then g2 else if k = 27 then h2 else zA Z k) = zA Z k
  rw [if_neg (by omega), if_neg (by omega), if_neg (by omega)]
theorem mBo.mat (h : mBo Z m g n T p r M) {x i j : Nat} (hx : x < n) (hi : i < 2) (hj : j < 2) : zX7_matrix F (m : Nat) x i j Z = some (M x i j, Z) := by
  have := h.1.1
  have := h.1.2.2.1
  unfold zX7_matrix
  rw [zLd_o (by omega), (h.1.2.2.2.2.2.2 x i j hx hi hj).1]
theorem mBo.G (h : mBo Z m g n T p r M) : zGrp n T := h.1.2.1.G
theorem mBo.place (h : mBo Z m g n T p r M) {x y i : Nat} (hx : 1 ≤ x) (hy : 1 ≤ y) : zX7_placeOf F x y i Z = some ((pl n r x y i : Int), Z) := by
  unfold zX7_placeOf
  rw [h.2.2.2.1, h.2.2.2.2.1, ← pl_e hx hy h.G.1]
  congr 2
  have : ((((x : Int) - 1) * ((n : Int) - 1) + (y : Int)) - 1) * (r : Int) = ((x : Int) - 1) * ((n : Int) - 1) * r + ((y : Int) - 1) * r := by
    rw [Int.add_sub_assoc, Int.add_mul]
  omega
theorem mBo.mulG (h : mBo Z m g n T p r M) {x y : Nat} (hx : x < n) (hy : y < n) : zX7_prod F (g : Nat) x y Z = some ((T x y : Int), Z) := h.1.2.1.mul hx hy
theorem m_clear (hF : fF F) : ∃ f', zX7_clearLine F (mS Z f g2 h2 c) = some (mS Z f' g2 h2 c) ∧ ∀ j : Int, 0 ≤ j → j < 98 → f' j = 0 := by
  refine iX7_clearLine_l2 (I := fun v1 w => ∃ (y : Nat) (f' : Int → Int), y = v1 ∧ y ≤ 98 ∧ mS Z f' g2 h2 c = w ∧ ∀ j : Int, 0 ≤ j → j < y → f' j = 0) (μ := fun v1 _ => (98 - v1).toNat) (P := fun x => ∃ f', x = some (mS Z f' g2 h2 c) ∧ ∀ j : Int, 0 ≤ j → j < 98 → f' j = 0) ?_ F _ _ ⟨0, f, rfl, by omega, rfl, fun j h1 h2 => by omega⟩ (by unfold fF at hF; omega)
  rintro r _ _ ⟨y, f', rfl, hy, rfl, hf⟩ ih
  unfold zX7_clearLine_h2
  by_cases q : y = 98
  · rw [zLe_t (by omega)]
    exact ⟨f', rfl, fun j h1 h2 => hf j h1 (by omega)⟩
  · rw [zLe_f (by omega), zSt_o (by omega), mS_u25]
    refine ih _ _ ⟨y + 1, _, rfl, by omega, rfl, fun j h1 h2 => ?_⟩ (by omega)
    by_cases c : j = y
    · rw [c, zup_s]
    · rw [zup_n c]; exact hf j h1 (by omega)
theorem t_mod2 {a p : Int} (hp : 0 < p) : (a.tmod p + p).tmod p = a % p := by
  have h1 : 0 ≤ a.tmod p + p := by
    have := Int.lt_tmod_of_pos a hp
    omega
  rw [Int.tmod_eq_emod_of_nonneg h1, Int.add_emod_right]
  have : (a.tmod p) % p = a % p := by
    have h2 := Int.tmod_add_tdiv_mul a p
    have h3 : a.tmod p = a + p * (-(a.tdiv p)) := by
      have : a.tdiv p * p = p * a.tdiv p := Int.mul_comm _ _
      rw [Int.mul_neg]; omega
    rw [h3, Int.add_mul_emod_self_left]
  exact this
theorem m_addTo {p : Nat} [NeZero p] (hp : p < 100) (h23 : zI Z 23 = p) {pos : Nat} {v : Int} (hpos : pos < 98) (hf : 0 ≤ f pos ∧ f pos < p) (hv : -1000 ≤ v ∧ v ≤ 1000) : zX7_addTo F pos v (mS Z f g2 h2 c) = some (mS Z (zup f pos (((fC (f pos + v) : Fin p).val : Nat) : Int)) g2 h2 c) := by
  have hp0 := fP (p := p)
  unfold zX7_addTo
  have h1 : (f pos + v).tmod p < p ∧ -(p : Int) < (f pos + v).tmod p := ⟨Int.tmod_lt_of_pos _ (by omega), Int.lt_tmod_of_pos _ (by omega)⟩
  rw [mS_A25, zLd_o (by omega), mS_23, h23, zRem_o (by omega), zRem_o (by omega), t_mod2 (by omega), fC_e, zSt_o (by omega), mS_u25]
theorem fRow_up {p W pos : Nat} [NeZero p] {f : Int → Int} {u : fV p} {v : Int} (h : fRow W f u) (hp : pos < W) : fRow W (zup f pos (((fC (f pos + v) : Fin p).val : Nat) : Int)) (fAx u (fC v) (fUnit pos)) := by
  intro j hj
  by_cases q : j = pos
  · rw [q, zup_s, h pos hp, fC_add, fC_v]
    congr 2
    show u pos + fC v = u pos + fC v * (if pos = pos then 1 else 0)
    rw [if_pos rfl]; grind
  · rw [zup_n (by omega), h j hj]
    congr 2
    show u j = u j + fC v * (if j = pos then 1 else 0)
    rw [if_neg q]; grind
/-- a line with one more at a place -/
theorem m_put {p W pos : Nat} [NeZero p] {u : fV p} {v : Int} {e : Fin p} (hp : p < 100) (h23 : zI Z 23 = p) (hW : W ≤ 98) (h : fRow W f u) (hpos : pos < W) (hv : -1000 ≤ v ∧ v ≤ 1000) (he : fC v = e) : ∃ f', zX7_addTo F pos v (mS Z f g2 h2 c) = some (mS Z f' g2 h2 c) ∧ fRow W f' (fAx u e (fUnit pos)) := by
  have hb := fV_lt (u pos)
  refine ⟨_, m_addTo hp h23 (by omega) (by rw [h pos hpos]; exact hb) hv, ?_⟩
  rw [← he]; exact fRow_up h hpos
theorem mRows_0 {p : Nat} {g h : Int → Int} {R : Nat → fV p} {l : Nat → Nat} : mRows W 0 g h R l := fun s hs => by omega
theorem fRref_nil {p W : Nat} [NeZero p] {G : fV p → Prop} (h : ∀ g, ¬ G g) (R : Nat → fV p) (l : Nat → Nat) : fRref (fSpn W G) 0 R l := ⟨fEch_nil h R l rfl, fun s t hs => by omega, fun s t _ ht => by omega⟩
/-- settles, over a state of this form -/
theorem m_set {p k W : Nat} [NeZero p] {R : Nat → fV p} {l : Nat → Nat} {Gn G' : fV p → Prop} (hF : fF F) (hI : fInv p) (h1 : zI Z 23 = p) (h2' : zI Z 24 = W) (hb : p < 100 ∧ W ≤ 98) (h : mRows W k g2 h2 R l) (hG : ∀ g, Gn g → fOk W g) (hE : fRref (fSpn W Gn) k R l) {v : fV p} (hv : fRow W f v) (hvo : fOk W v) (hG' : ∀ g, (Gn g ∨ g = v) ↔ G' g) : ∃ f' g' h' k' R' l', zX7_settles F (mS Z f g2 h2 (k : Nat)) = some (mS Z f' g' h' (k' : Nat)) ∧ mRows W k' g' h' R' l' ∧ fRref (fSpn W G') k' R' l' := by
  obtain ⟨f', g', h', k', R', l', a1, a2, a3⟩ := m_settles (F := F) (Z := mS Z f g2 h2 (k : Nat)) hF hI ⟨h1, h2', rfl⟩ hb h hG hE hv hvo
  refine ⟨f', g', h', k', R', l', ?_, a2, by rw [← fSpn_congr hG']; exact a3⟩
  rw [a1]
  congr 1
  show (fun l => if l = 28 then _ else zI (mS Z f g2 h2 (k : Nat)) l, zJ Z, fun l => if l = 25 then f' else if l = 26 then g' else if l = 27 then h' else zA (mS Z f g2 h2 (k : Nat)) l, zB Z) = mS Z f' g' h' (k' : Nat)
  have e1 : (fun l => if l = 28 then ((k' : Nat) : Int) else zI (mS Z f g2 h2 (k : Nat)) l) = fun l => if l = 28 then ((k' : Nat) : Int) else zI Z l := by
    funext l
    by_cases q : l = 28
    · rw [if_pos q, if_pos q]
    · rw [if_neg q, if_neg q]; exact if_neg q
  have e2 : (fun l => if l = 25 then f' else if l = 26 then g' else if l = 27 then h' else zA (mS Z f g2 h2 (k : Nat)) l) = fun l => if l = 25 then f' else if l = 26 then g' else if l = 27 then h' else zA Z l := by
    funext l
    by_cases q : l = 25
    · rw [if_pos q, if_pos q]
    · rw [if_neg q, if_neg q]
      by_cases q2 : l = 26
      · rw [if_pos q2, if_pos q2]
      · rw [if_neg q2, if_neg q2]
        by_cases q3 : l = 27
        · rw [if_pos q3, if_pos q3]
        · rw [if_neg q3, if_neg q3]
          show (if l = 25 then f else if l = 26 then g2 else if l = 27 then h2 else zA Z l) = zA Z l
          rw [if_neg q, if_neg q2, if_neg q3]
  rw [e1, e2]; rfl
theorem m_dimNone {p : Nat} [NeZero p] (hF : fF F) (hI : fInv p) (h : mBo Z m g n T p r M) : ∃ f g2 h2 k R l, zX7_dimensionNone F Z = some (zuA (zuA (mS (zuI Z 24 (r : Nat)) f g2 h2 (k : Nat)) 30 0 ((r : Int) - (k : Nat))) 30 2 (k : Nat)) ∧ mRows (p := p) r k g2 h2 R l ∧ fRref (fSpn r (gVu (p := p) n r M)) k R l := by
  obtain ⟨hr1, hr2⟩ := h.1.2.2.2.2.2.1
  obtain ⟨hp1, hp2⟩ := h.1.2.2.2.2.1
  have hn := h.1.2.2.1
  let Z1 := zuI Z 24 (r : Nat)
  have hZ1 : ∀ f g2 h2 c, mBo (mS Z1 f g2 h2 c) m g n T p r M := fun f g2 h2 c => mBo.s (h.k (fun k _ => rfl) ⟨rfl, rfl, rfl, rfl, rfl⟩) f g2 h2 c
  have e0 : zuI (zuI Z 28 0) 24 (zI Z 37) = mS Z1 (zA Z 25) (zA Z 26) (zA Z 27) ((0 : Nat) : Int) := by
    have e1 : zuI (zuI Z 28 0) 24 (zI Z 37) = zuI Z1 28 0 := by
      rw [h.2.2.2.2.1]
      show (fun l => if l = 24 then ((r : Nat) : Int) else if l = 28 then 0 else zI Z l, Z.2) = (fun l => if l = 28 then 0 else if l = 24 then ((r : Nat) : Int) else zI Z l, Z.2)
      congr 1
      funext l
      by_cases q : l = 24
      · rw [if_pos q, if_neg (by omega), if_pos q]
      · rw [if_neg q, if_neg q]
    have e2 := mS_ui (Z := Z1) (f := zA Z1 25) (g := zA Z1 26) (h := zA Z1 27) (c := zI Z1 28) 0
    rw [mS_e] at e2
    rw [e1, e2]; rfl
  have hWn : ∀ f g2 h2 c, zI (mS Z1 f g2 h2 c) 24 = (r : Nat) := fun f g2 h2 c => rfl
  unfold zX7_dimensionNone
  rw [zPI_o, zPI_o]
  have e0' : zuI (zuI Z 28 0) 24 (zI Z 37) = mS Z1 (zA Z 25) (zA Z 26) (zA Z 27) ((0 : Nat) : Int) := e0
  rw [e0']
  let P : Option zS → Prop := fun x => ∃ f g2 h2 k R l, x = some (zuA (zuA (mS Z1 f g2 h2 (k : Nat)) 30 0 ((r : Int) - (k : Nat))) 30 2 (k : Nat)) ∧ mRows (p := p) r k g2 h2 R l ∧ fRref (fSpn r (gVu (p := p) n r M)) k R l
  let Q : Nat → Nat → zS → Prop := fun x i w => ∃ f g2 h2 k R l, mS Z1 f g2 h2 (k : Nat) = w ∧ mRows (p := p) r k g2 h2 R l ∧ fRref (fSpn r (GP n r 0 (gU (p := p) r M) x i)) k R l
  refine iX7_dimensionNone_l15 (I := fun v1 w => ∃ x : Nat, x = v1 ∧ x ≤ n ∧ Q x 0 w) (μ := fun v1 _ => (n - v1).toNat) (P := P) ?_ F _ _ ⟨0, rfl, by omega, _, _, _, 0, fun _ => fZ, fun _ => 0, rfl, mRows_0, fRref_nil (fun g => GP_0 g) _ _⟩ (by unfold fF at hF; omega)
  rintro ra _ _ ⟨x, rfl, hx, f, g2, h2, k, R, l, rfl, e1, e2⟩ ih
  unfold zX7_dimensionNone_h15
  rw [(hZ1 f g2 h2 k).2.2.2.1]
  by_cases q : x = n
  · rw [zLe_t (by omega)]
    dsimp only
    rw [zSt_o (by omega), zSt_o (by omega), (hZ1 f g2 h2 k).2.2.2.2.1, mS_28]
    rw [q, fSpn_congr (fun g => GP_end g)] at e2
    exact ⟨f, g2, h2, k, R, l, rfl, e1, e2⟩
  · have hx : x < n := by omega
    rw [zLe_f (by omega)]
    refine iX7_dimensionNone_l25 (I := fun v1 v2 w => x = v1 ∧ ∃ i : Nat, i = v2 ∧ i ≤ r ∧ Q x i w) (μ := fun _ v2 _ => (r - v2).toNat) (P := P) ?_ F _ _ _ ⟨rfl, 0, rfl, by omega, f, g2, h2, k, R, l, rfl, e1, e2⟩ (by unfold fF at hF; omega)
    rintro rb _ _ _ ⟨rfl, i, rfl, hi, f, g2, h2, k, R, l, rfl, e1, e2⟩ ih2
    unfold zX7_dimensionNone_h25
    rw [(hZ1 f g2 h2 k).2.2.2.2.1]
    by_cases q2 : i = r
    · rw [zLe_t (by omega)]
      refine ih _ _ ⟨x + 1, rfl, by omega, f, g2, h2, k, R, l, rfl, e1, ?_⟩ (by omega)
      rw [q2, fSpn_congr (fun g => GP_next g)] at e2; exact e2
    · have hi : i < r := by omega
      obtain ⟨f1, c1, c2⟩ := m_clear (F := F) (Z := Z1) (f := f) (g2 := g2) (h2 := h2) (c := (k : Nat)) hF
      rw [zLe_f (by omega), zC0_o c1]
      refine iX7_dimensionNone_l39 (I := fun v1 v2 v3 w => x = v1 ∧ i = v2 ∧ ∃ (j : Nat) (f : Int → Int), j = v3 ∧ j ≤ r ∧ mS Z1 f g2 h2 (k : Nat) = w ∧ fRow r f (fun j' => if j' < j then gU (p := p) r M x i j' else 0)) (μ := fun _ _ v3 _ => (r - v3).toNat) (P := P) ?_ F _ _ _ _ ⟨rfl, rfl, 0, f1, rfl, by omega, rfl, fun j' hj' => by
        rw [c2 j' (by omega) (by omega)]
        show (0 : Int) = (((if j' < 0 then gU (p := p) r M x i j' else 0).val : Nat) : Int)
        rw [if_neg (by omega)]; exact (fV_0.mpr rfl).symm⟩ (by unfold fF at hF; omega)
      rintro rc _ _ _ _ ⟨rfl, rfl, j, f3, rfl, hj, rfl, hf⟩ ih3
      unfold zX7_dimensionNone_h39 zX7_dimensionNone_b70
      rw [(hZ1 f3 g2 h2 k).2.2.2.2.1]
      by_cases q3 : j = r
      · rw [zLe_t (by omega)]
        dsimp only
        have hG : ∀ g, GP n r 0 (gU (p := p) r M) x i g → fOk r g := by
          rintro g ⟨x', i', -, -, -, -, rfl⟩ j hj
          exact if_neg (by omega)
        obtain ⟨f4, g4, h4, k4, R4, l4, d1, d2, d3⟩ := m_set (F := F) (Z := Z1) (f := f3) (G' := GP n r 0 (gU (p := p) r M) x (i + 1)) hF hI h.2.2.2.2.2 rfl ⟨by omega, by omega⟩ e1 hG e2 (v := gU r M x i) (fun j' hj' => by
          rw [hf j' hj']
          show (((if j' < j then gU (p := p) r M x i j' else 0).val : Nat) : Int) = _
          rw [if_pos (by omega)]) (fun j hj => if_neg (by omega)) (fun g => GP_step (Nat.zero_le x) hx hi g)
        rw [zC0_o d1]
        exact ih2 _ _ _ ⟨rfl, i + 1, rfl, by omega, f4, g4, h4, k4, R4, l4, rfl, d2, d3⟩ (by omega)
      · have hj : j < r := by omega
        have hmb := (h.1.2.2.2.2.2.2 x i j hx (by omega) (by omega)).2
        have step : ∀ v, v = M x i j - (if i = j then 1 else 0) → P (zC0 (zX7_addTo F j v (mS Z1 f3 g2 h2 (k : Nat))) fun q71 => rc x i ((j : Int) + 1) q71) := fun v hv => by
          obtain ⟨f5, a1, a2⟩ := m_put (F := F) (Z := Z1) (g2 := g2) (h2 := h2) (c := (k : Nat)) (v := v) (by omega) h.2.2.2.2.2 (by omega) hf hj (by rw [hv]; split <;> omega) rfl
          rw [zC0_o a1]
          refine ih3 _ _ _ _ ⟨rfl, rfl, j + 1, f5, rfl, by omega, rfl, fun j' hj' => ?_⟩ (by omega)
          rw [a2 j' hj']
          congr 2
          show (if j' < j then gU (p := p) r M x i j' else 0) + fC v * (if j' = j then 1 else 0) = if j' < j + 1 then gU (p := p) r M x i j' else 0
          by_cases c : j' = j
          · rw [c, if_neg (by omega), if_pos rfl, if_pos (by omega)]
            unfold gU
            rw [if_pos hj, hv]; grind
          · rw [if_neg c]
            by_cases c2 : j' < j
            · rw [if_pos c2, if_pos (by omega)]; grind
            · rw [if_neg c2, if_neg (by omega)]; grind
        have e39 : zI (mS Z1 f3 g2 h2 (k : Nat)) 39 = (m : Nat) := (hZ1 f3 g2 h2 k).2.1
        rw [zLe_f (by omega), e39, zC1_o ((hZ1 f3 g2 h2 k).mat hx (by omega) (by omega))]
        by_cases c : i = j
        · rw [zEq_t (by omega)]
          exact step _ (by rw [if_pos c])
        · rw [zEq_f (by omega)]
          exact step _ (by rw [if_neg c])
end MMD
