/-! THE MODEL: dimension 1; equations of pairs -/
def G4 {p : Nat} (D : Nat → Nat → Nat → Nat → Prop) (gg : Nat → Nat → Nat → Nat → fV p) (a b c d : Nat) (g : fV p) : Prop := ∃ a' b' c' d', D a' b' c' d' ∧ gM4 a b c d a' b' c' d' ∧ g = gg a' b' c' d'
theorem G4_cg {p : Nat} {D : Nat → Nat → Nat → Nat → Prop} {gg : Nat → Nat → Nat → Nat → fV p} {a b c d a2 b2 c2 d2 : Nat} (h : ∀ a' b' c' d', D a' b' c' d' → (gM4 a b c d a' b' c' d' ↔ gM4 a2 b2 c2 d2 a' b' c' d')) (g : fV p) : G4 D gg a b c d g ↔ G4 D gg a2 b2 c2 d2 g := by
  constructor
  · rintro ⟨a', b', c', d', h1, h2, h3⟩; exact ⟨a', b', c', d', h1, (h _ _ _ _ h1).mp h2, h3⟩
  · rintro ⟨a', b', c', d', h1, h2, h3⟩; exact ⟨a', b', c', d', h1, (h _ _ _ _ h1).mpr h2, h3⟩
theorem G4_step {p : Nat} {D : Nat → Nat → Nat → Nat → Prop} {gg : Nat → Nat → Nat → Nat → fV p} {a b c d a2 b2 c2 d2 : Nat} (hD : D a b c d) (h : ∀ a' b' c' d', D a' b' c' d' → (gM4 a2 b2 c2 d2 a' b' c' d' ↔ gM4 a b c d a' b' c' d' ∨ (a' = a ∧ b' = b ∧ c' = c ∧ d' = d))) (g : fV p) : (G4 D gg a b c d g ∨ g = gg a b c d) ↔ G4 D gg a2 b2 c2 d2 g := by
  constructor
  · rintro (⟨a', b', c', d', h1, h2, h3⟩ | h3)
    · exact ⟨a', b', c', d', h1, (h _ _ _ _ h1).mpr (Or.inl h2), h3⟩
    · exact ⟨a, b, c, d, hD, (h _ _ _ _ hD).mpr (Or.inr ⟨rfl, rfl, rfl, rfl⟩), h3⟩
  · rintro ⟨a', b', c', d', h1, h2, h3⟩
    rcases (h _ _ _ _ h1).mp h2 with h4 | ⟨rfl, rfl, rfl, rfl⟩
    · exact Or.inl ⟨a', b', c', d', h1, h4, h3⟩
    · exact Or.inr h3
section MD1
variable {F m g n p r W : Nat} {Z Z' : zS} {T : Nat → Nat → Nat} {M : Nat → Nat → Nat → Int} {f g2 h2 : Int → Int} {c : Int}
def e1A {p : Nat} [NeZero p] (r : Nat) (T : Nat → Nat → Nat) (x y i : Nat) : fV p := if T x y = 0 then fZ else fAx fZ 1 (fUnit (p1 r (T x y) i))
def e1C {p : Nat} [NeZero p] (r : Nat) (T : Nat → Nat → Nat) (M : Nat → Nat → Nat → Int) (x y i : Nat) : Nat → fV p
  | 0 => fAx (e1A r T x y i) (-1) (fUnit (p1 r x i))
  | k + 1 => fAx (e1C r T M x y i k) (fC (-(M x i k))) (fUnit (p1 r y k))
def D3 (n r : Nat) (a b c d : Nat) : Prop := (1 ≤ a ∧ a < n) ∧ (1 ≤ b ∧ b < n) ∧ c < r ∧ d = 0
def g1E {p : Nat} [NeZero p] (n r : Nat) (T : Nat → Nat → Nat) (M : Nat → Nat → Nat → Int) (g : fV p) : Prop := ∃ x y i, 1 ≤ x ∧ x < n ∧ 1 ≤ y ∧ y < n ∧ i < r ∧ g = e1C r T M x y i r
theorem fZ_ok {p W : Nat} [NeZero p] : fOk W (fZ : fV p) := fun _ _ => rfl
theorem fAx_ok {p W q : Nat} [NeZero p] {u : fV p} {a : Fin p} (h : fOk W u) (hq : q < W) : fOk W (fAx u a (fUnit q)) := fun i hi => by
  show u i + a * (if i = q then 1 else 0) = 0
  rw [h i hi, if_neg (by omega)]; grind
theorem e1A_ok {p : Nat} [NeZero p] (G : zGrp n T) {x y i : Nat} (hx : x < n) (hy : y < n) (hi : i < r) : fOk ((n - 1) * r) (e1A (p := p) r T x y i) := by
  have := G.2.1 x y hx hy
  unfold e1A
  split
  · exact fZ_ok
  · exact fAx_ok fZ_ok (p1_lt (by omega) this hi)
theorem e1C_ok {p : Nat} [NeZero p] (G : zGrp n T) {x y i : Nat} (hx1 : 1 ≤ x) (hx : x < n) (hy1 : 1 ≤ y) (hy : y < n) (hi : i < r) : ∀ k, k ≤ r → fOk ((n - 1) * r) (e1C (p := p) r T M x y i k)
  | 0, _ => fAx_ok (e1A_ok G hx hy hi) (p1_lt hx1 hx hi)
  | k + 1, hk => fAx_ok (e1C_ok G hx1 hx hy1 hy hi k (by omega)) (p1_lt hy1 hy (by omega))
theorem e1_dot {p : Nat} [NeZero p] (G : zGrp n T) (h : fV p) {x y i : Nat} (hx1 : 1 ≤ x) (hx : x < n) (hy1 : 1 ≤ y) (hy : y < n) (hi : i < r) : fDot (e1C r T M x y i r) h ((n - 1) * r) = -1 * cbv r T M h x y i := by
  have hxy := G.2.1 x y hx hy
  have e0 : fDot (e1A r T x y i) h ((n - 1) * r) = sv r h (T x y) i := by
    unfold e1A sv
    by_cases q : T x y = 0
    · rw [if_pos q, if_pos q]
      exact fDot_z _ _ _ fun j _ => by show (0 : Fin p) * _ = 0; grind
    · rw [if_neg q, if_neg q, fDot_ax, fDot_unit (p1_lt (by omega) hxy hi)]
      have : fDot (fZ : fV p) h ((n - 1) * r) = 0 := fDot_z _ _ _ fun j _ => by show (0 : Fin p) * _ = 0; grind
      rw [this]; grind
  have key : ∀ k, k ≤ r → fDot (e1C r T M x y i k) h ((n - 1) * r) = sv r h (T x y) i + -1 * sv r h x i + -1 * fSum (fun j => mC M x i j * sv r h y j) k := by
    intro k
    induction k with
    | zero =>
      intro _
      show fDot (fAx _ _ _) h _ = _ + -1 * 0
      rw [fDot_ax, e0, fDot_unit (p1_lt hx1 hx hi)]
      have : sv r h x i = h (p1 r x i) := if_neg (by omega)
      rw [this]; grind
    | succ k ih =>
      intro hk
      show fDot (fAx (e1C r T M x y i k) (fC (-(M x i k))) (fUnit (p1 r y k))) h _ = _ + -1 * (fSum _ k + mC M x i k * sv r h y k)
      rw [fDot_ax, ih (by omega), fDot_unit (p1_lt hy1 hy (by omega)), fC_neg]
      have : sv r h y k = h (p1 r y k) := if_neg (by omega)
      rw [this]
      show _ + -(mC M x i k) * _ = _
      grind
  rw [key r (Nat.le_refl _)]
  unfold cbv
  grind
theorem g1E_ker {p : Nat} [NeZero p] (G : zGrp n T) (h : fV p) : fNul ((n - 1) * r) (g1E n r T M) h ↔ fKer ((n - 1) * r) (cbD n r T M) h := by
  constructor
  · rintro ⟨h1, h2⟩
    refine ⟨h1, ?_⟩
    funext q
    show cbD n r T M h q = 0
    by_cases hq : q < (n - 1) * (n - 1) * r
    · obtain ⟨a1, a2, a3, a4, a5, a6⟩ := pl_ex hq
      rw [← a6, cbD_at h a1 a2 a3 a4 a5]
      have := h2 _ ⟨_, _, _, a1, a2, a3, a4, a5, rfl⟩
      rw [e1_dot G h a1 a2 a3 a4 a5] at this
      grind
    · exact if_neg hq
  · rintro ⟨h1, h2⟩
    refine ⟨h1, ?_⟩
    rintro g ⟨x, y, i, a1, a2, a3, a4, a5, rfl⟩
    rw [e1_dot G h a1 a2 a3 a4 a5, ← cbD_at h a1 a2 a3 a4 a5, h2]
    show -1 * (0 : Fin p) = 0
    grind
theorem m_base (Z : zS) (w : Int) : zuI (zuI Z 28 0) 24 w = mS (zuI Z 24 w) (zA Z 25) (zA Z 26) (zA Z 27) ((0 : Nat) : Int) := by
  have e1 : zuI (zuI Z 28 0) 24 w = zuI (zuI Z 24 w) 28 0 := by
    show (fun l => if l = 24 then w else if l = 28 then 0 else zI Z l, Z.2) = (fun l => if l = 28 then 0 else if l = 24 then w else zI Z l, Z.2)
    congr 1
    funext l
    by_cases q : l = 24
    · rw [if_pos q, if_neg (by omega), if_pos q]
    · rw [if_neg q, if_neg q]
  have e2 := mS_ui (Z := zuI Z 24 w) (f := zA Z 25) (g := zA Z 26) (h := zA Z 27) (c := zI (zuI Z 24 w) 28) 0
  have e3 : mS (zuI Z 24 w) (zA Z 25) (zA Z 26) (zA Z 27) (zI (zuI Z 24 w) 28) = zuI Z 24 w := mS_e
  rw [e3] at e2
  rw [e1, e2]; rfl
theorem m_put1 {p W pos : Nat} [NeZero p] {u : fV p} {v : Int} {e : Fin p} {q : Int} (hp : p < 100) (h23 : zI Z 23 = p) (hW : W ≤ 98) (h : fRow W f u) (hpos : pos < W) (hv : -1000 ≤ v ∧ v ≤ 1000) (he : fC v = e) (hq : q = pos) : ∃ f', zX7_addTo F q v (mS Z f g2 h2 c) = some (mS Z f' g2 h2 c) ∧ fRow W f' (fAx u e (fUnit pos)) := by
  rw [hq]; exact m_put hp h23 hW h hpos hv he
theorem m_dimOne {p : Nat} [NeZero p] (hF : fF F) (hI : fInv p) (h : mBo Z m g n T p r M) : ∃ f g2 h2 k R l, zX7_dimensionOne F Z = some (zuA (mS (zuI Z 24 (((n - 1) * r : Nat) : Int)) f g2 h2 (k : Nat)) 30 1 ((((n - 1) * r : Nat) : Int) - (k : Nat))) ∧ mRows (p := p) ((n - 1) * r) k g2 h2 R l ∧ fRref (fSpn ((n - 1) * r) (g1E (p := p) n r T M)) k R l := by
  obtain ⟨hr1, hr2⟩ := h.1.2.2.2.2.2.1
  obtain ⟨hp1, hp2⟩ := h.1.2.2.2.2.1
  have hn := h.1.2.2.1
  have hn0 := h.G.1
  have h14 : (n - 1) * r ≤ 14 := Nat.le_trans (Nat.mul_le_mul (show n - 1 ≤ 7 by omega) hr2) (by omega)
  have eW : ((zI Z 36) - 1) * (zI Z 37) = (((n - 1) * r : Nat) : Int) := by
    rw [h.2.2.2.1, h.2.2.2.2.1, Int.natCast_mul, Int.natCast_sub hn0]; rfl
  unfold zX7_dimensionOne
  rw [zPI_o, zPI_o, eW, m_base]
  generalize hWd : (n - 1) * r = W at *
  let Z1 := zuI Z 24 (W : Int)
  have hZ1 : ∀ f g2 h2 c, mBo (mS Z1 f g2 h2 c) m g n T p r M := fun f g2 h2 c => mBo.s (h.k (fun k _ => rfl) ⟨rfl, rfl, rfl, rfl, rfl⟩) f g2 h2 c
  have p1W : ∀ x i, 1 ≤ x → x < n → i < r → p1 r x i < W := fun x i a b c => by rw [← hWd]; exact p1_lt a b c
  have p1e : ∀ x i : Nat, 1 ≤ x → ((x : Int) - 1) * (r : Int) + (i : Int) = ((p1 r x i : Nat) : Int) := fun x i hx => by
    unfold p1
    rw [Int.natCast_add, Int.natCast_mul, Int.natCast_sub hx]; rfl
  let gg : Nat → Nat → Nat → Nat → fV p := fun x y i _ => e1C r T M x y i r
  have hGok : ∀ a b c d g, G4 (D3 n r) gg a b c d g → fOk W g := by
    rintro a b c d g ⟨a', b', c', d', ⟨⟨h1, h2⟩, ⟨h3, h4⟩, h5, h6⟩, -, rfl⟩
    rw [← hWd]; exact e1C_ok h.G h1 h2 h3 h4 h5 r (Nat.le_refl _)
  let P : Option zS → Prop := fun x => ∃ f g2 h2 k R l, x = some (zuA (mS Z1 f g2 h2 (k : Nat)) 30 1 ((W : Int) - (k : Nat))) ∧ mRows (p := p) W k g2 h2 R l ∧ fRref (fSpn W (g1E (p := p) n r T M)) k R l
  let Q : Nat → Nat → Nat → zS → Prop := fun x y i w => ∃ f g2 h2 k R l, mS Z1 f g2 h2 (k : Nat) = w ∧ mRows (p := p) W k g2 h2 R l ∧ fRref (fSpn W (G4 (D3 n r) gg x y i 0)) k R l
  have Qcg : ∀ {x y i x2 y2 i2 w}, Q x y i w → (∀ a' b' c' d', D3 n r a' b' c' d' → (gM4 x y i 0 a' b' c' d' ↔ gM4 x2 y2 i2 0 a' b' c' d')) → Q x2 y2 i2 w := by
    rintro x y i x2 y2 i2 w ⟨f, g2, h2, k, R, l, q1, q2, q3⟩ hh
    exact ⟨f, g2, h2, k, R, l, q1, q2, by rw [← fSpn_congr (G4_cg hh)]; exact q3⟩
  refine iX7_dimensionOne_l22 (I := fun v1 w => ∃ x : Nat, x = v1 ∧ 1 ≤ x ∧ x ≤ n ∧ Q x 1 0 w) (μ := fun v1 _ => (n - v1).toNat) (P := P) ?_ F _ _ ⟨1, rfl, by omega, hn0, _, _, _, 0, fun _ => fZ, fun _ => 0, rfl, mRows_0, fRref_nil (fun g => by rintro ⟨a', b', c', d', h1, h2, h3⟩; unfold gM4 D3 at *; omega) _ _⟩ (by unfold fF at hF; omega)
  rintro ra _ _ ⟨x, rfl, hx1, hx, hq⟩ ih
  unfold zX7_dimensionOne_h22
  have e36 : ∀ w, (∃ f g2 h2 k, mS Z1 f g2 h2 (k : Nat) = w) → zI w 36 = (n : Nat) := by
    rintro w ⟨f, g2, h2, k, rfl⟩; exact h.2.2.2.1
  have e37 : ∀ w, (∃ f g2 h2 k, mS Z1 f g2 h2 (k : Nat) = w) → zI w 37 = (r : Nat) := by
    rintro w ⟨f, g2, h2, k, rfl⟩; exact h.2.2.2.2.1
  have ofQ : ∀ {x y i w}, Q x y i w → ∃ f g2 h2, ∃ k : Nat, mS Z1 f g2 h2 (k : Nat) = w := by
    rintro x y i w ⟨f, g2, h2, k, R, l, q1, q2, q3⟩; exact ⟨f, g2, h2, k, q1⟩
  rw [e36 _ (ofQ hq)]
  by_cases q : x = n
  · rw [zLe_t (by omega)]
    obtain ⟨f, g2, h2, k, R, l, rfl, e1, e2⟩ := hq
    dsimp only
    have e24 : zI (mS Z1 f g2 h2 (k : Nat)) 24 = (W : Int) := rfl
    rw [zSt_o (by omega), mS_28, e24]
    refine ⟨f, g2, h2, k, R, l, rfl, e1, ?_⟩
    have : fSpn W (G4 (D3 n r) gg x 1 0 0) = fSpn W (g1E (p := p) n r T M) := fSpn_congr fun g => by
      constructor
      · rintro ⟨a', b', c', d', ⟨⟨h1, h2⟩, ⟨h3, h4⟩, h5, h6⟩, -, h7⟩
        exact ⟨a', b', c', h1, h2, h3, h4, h5, h7⟩
      · rintro ⟨a', b', c', h1, h2, h3, h4, h5, h7⟩
        exact ⟨a', b', c', 0, ⟨⟨h1, h2⟩, ⟨h3, h4⟩, h5, rfl⟩, by unfold gM4; omega, h7⟩
    rw [← this]; exact e2
  · have hxn : x < n := by omega
    rw [zLe_f (by omega)]
    refine iX7_dimensionOne_l32 (I := fun v1 v2 w => x = v1 ∧ ∃ y : Nat, y = v2 ∧ 1 ≤ y ∧ y ≤ n ∧ Q x y 0 w) (μ := fun _ v2 _ => (n - v2).toNat) (P := P) ?_ F _ _ _ ⟨rfl, 1, rfl, by omega, hn0, hq⟩ (by unfold fF at hF; omega)
    rintro rb _ _ _ ⟨rfl, y, rfl, hy1, hy, hq⟩ ih2
    unfold zX7_dimensionOne_h32
    rw [e36 _ (ofQ hq)]
    by_cases q2 : y = n
    · rw [zLe_t (by omega)]
      exact ih _ _ ⟨x + 1, rfl, by omega, by omega, Qcg hq fun a' b' c' d' hd => by unfold gM4 D3 at *; omega⟩ (by omega)
    · have hyn : y < n := by omega
      have hxy := h.G.2.1 x y hxn hyn
      rw [zLe_f (by omega)]
      refine iX7_dimensionOne_l42 (I := fun v1 v2 v3 w => x = v1 ∧ y = v2 ∧ ∃ i : Nat, i = v3 ∧ i ≤ r ∧ Q x y i w) (μ := fun _ _ v3 _ => (r - v3).toNat) (P := P) ?_ F _ _ _ _ ⟨rfl, rfl, 0, rfl, by omega, hq⟩ (by unfold fF at hF; omega)
      rintro rc _ _ _ _ ⟨rfl, rfl, i, rfl, hi, hq⟩ ih3
      unfold zX7_dimensionOne_h42
      rw [e37 _ (ofQ hq)]
      by_cases q3 : i = r
      · rw [zLe_t (by omega)]
        exact ih2 _ _ _ ⟨rfl, y + 1, rfl, by omega, by omega, Qcg hq fun a' b' c' d' hd => by unfold gM4 D3 at *; omega⟩ (by omega)
      · have hir : i < r := by omega
        obtain ⟨f, g2, h2, k, R, l, rfl, e1, e2⟩ := hq
        obtain ⟨f1, c1, c2⟩ := m_clear (F := F) (Z := Z1) (f := f) (g2 := g2) (h2 := h2) (c := (k : Nat)) hF
        have hf1 : fRow W f1 (fZ : fV p) := fun j hj => by
          rw [c2 j (by omega) (by omega)]; exact (fV_0.mpr rfl).symm
        rw [zLe_f (by omega), zC0_o c1]
        have e38 : zI (mS Z1 f1 g2 h2 (k : Nat)) 38 = (g : Nat) := (hZ1 f1 g2 h2 k).2.2.1
        have s2 : ∀ f3, fRow W f3 (e1A (p := p) r T x y i) → P (zX7_dimensionOne_b87 F rc (fun v1 v2 w => rb v1 (v2 + 1) w) x y i (mS Z1 f3 g2 h2 (k : Nat))) := by
          intro f3 hf3
          unfold zX7_dimensionOne_b87
          obtain ⟨f4, a1, a2⟩ := m_put1 (F := F) (Z := Z1) (f := f3) (g2 := g2) (h2 := h2) (c := (k : Nat)) (v := -1) (e := -1) (q := ((x : Int) - 1) * (r : Int) + i) (by omega) h.2.2.2.2.2 (by omega) hf3 (p1W x i hx1 hxn hir) (by omega) (by rw [fC_neg, fC_1]) (p1e x i hx1)
          have e37' : zI (mS Z1 f3 g2 h2 (k : Nat)) 37 = (r : Nat) := (hZ1 f3 g2 h2 k).2.2.2.2.1
          rw [e37', zC0_o a1]
          refine iX7_dimensionOne_l105 (I := fun v1 v2 v3 v5 w => x = v1 ∧ y = v2 ∧ i = v3 ∧ ∃ (j : Nat) (f : Int → Int), j = v5 ∧ j ≤ r ∧ mS Z1 f g2 h2 (k : Nat) = w ∧ fRow W f (e1C (p := p) r T M x y i j)) (μ := fun _ _ _ v5 _ => (r - v5).toNat) (P := P) ?_ F _ _ _ _ _ ⟨rfl, rfl, rfl, 0, f4, rfl, by omega, rfl, a2⟩ (by unfold fF at hF; omega)
          rintro rd _ _ _ _ _ ⟨rfl, rfl, rfl, j, f5, rfl, hj, rfl, hf5⟩ ih4
          unfold zX7_dimensionOne_h105
          have e37'' : zI (mS Z1 f5 g2 h2 (k : Nat)) 37 = (r : Nat) := (hZ1 f5 g2 h2 k).2.2.2.2.1
          have e39 : zI (mS Z1 f5 g2 h2 (k : Nat)) 39 = (m : Nat) := (hZ1 f5 g2 h2 k).2.1
          rw [e37'']
          by_cases q4 : j = r
          · rw [zLe_t (by omega)]
            dsimp only
            rw [q4] at hf5
            obtain ⟨f6, g6, h6, k6, R6, l6, d1, d2, d3⟩ := m_set (F := F) (Z := Z1) (f := f5) (G' := G4 (D3 n r) gg x y (i + 1) 0) hF hI h.2.2.2.2.2 rfl ⟨by omega, by omega⟩ e1 (hGok x y i 0) e2 (v := e1C r T M x y i r) hf5 (by rw [← hWd]; exact e1C_ok h.G hx1 hxn hy1 hyn hir r (Nat.le_refl _)) (fun g => G4_step (D := D3 n r) (gg := gg) ⟨⟨hx1, hxn⟩, ⟨hy1, hyn⟩, hir, rfl⟩ (fun a' b' c' d' hd => by unfold gM4 D3 at *; omega) g)
            rw [zC0_o d1]
            exact ih3 _ _ _ _ ⟨rfl, rfl, i + 1, rfl, by omega, f6, g6, h6, k6, R6, l6, rfl, d2, d3⟩ (by omega)
          · have hjr : j < r := by omega
            have hmb := (h.1.2.2.2.2.2.2 x i j hxn (by omega) (by omega)).2
            obtain ⟨f6, b1, b2⟩ := m_put1 (F := F) (Z := Z1) (f := f5) (g2 := g2) (h2 := h2) (c := (k : Nat)) (v := -(M x i j)) (q := ((y : Int) - 1) * (r : Int) + j) (by omega) h.2.2.2.2.2 (by omega) hf5 (p1W y j hy1 hyn hjr) (by omega) rfl (p1e y j hy1)
            rw [zLe_f (by omega), e39, zC1_o ((hZ1 f5 g2 h2 k).mat hxn (by omega) (by omega)), zC0_o b1]
            exact ih4 _ _ _ _ _ ⟨rfl, rfl, rfl, j + 1, f6, rfl, by omega, rfl, b2⟩ (by omega)
        rw [e38, zC1_o ((hZ1 f1 g2 h2 k).mulG hxn hyn)]
        by_cases q5 : T x y = 0
        · rw [zLe_t (by omega)]
          refine s2 f1 ?_
          unfold e1A; rw [if_pos q5]; exact hf1
        · have e37' : zI (mS Z1 f1 g2 h2 (k : Nat)) 37 = (r : Nat) := (hZ1 f1 g2 h2 k).2.2.2.2.1
          obtain ⟨f4, a1, a2⟩ := m_put1 (F := F) (Z := Z1) (f := f1) (g2 := g2) (h2 := h2) (c := (k : Nat)) (v := 1) (e := 1) (q := ((T x y : Int) - 1) * (r : Int) + i) (by omega) h.2.2.2.2.2 (by omega) hf1 (p1W _ i (by omega) hxy hir) (by omega) fC_1 (p1e _ i (by omega))
          rw [zLe_f (by omega), e37', zC0_o a1]
          refine s2 f4 ?_
          unfold e1A; rw [if_neg q5]; exact a2
end MD1
