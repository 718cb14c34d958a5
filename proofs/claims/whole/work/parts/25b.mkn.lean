/-! THE MODEL: know -/
/-- what is kept outside the scratch cells -/
def kF (Z Z1 : zS) : Prop := (∀ k, k < 25 → zA Z1 k = zA Z k) ∧ (∀ k, k < 23 → zI Z1 k = zI Z k) ∧ zJ Z1 = zJ Z ∧ zB Z1 = zB Z
theorem kF.rf {Z : zS} : kF Z Z := ⟨fun _ _ => rfl, fun _ _ => rfl, rfl, rfl⟩
theorem kF.tr {Z Z1 Z2 : zS} (h1 : kF Z Z1) (h2 : kF Z1 Z2) : kF Z Z2 := ⟨fun k hk => (h2.1 k hk).trans (h1.1 k hk), fun k hk => (h2.2.1 k hk).trans (h1.2.1 k hk), h2.2.2.1.trans h1.2.2.1, h2.2.2.2.trans h1.2.2.2⟩
theorem kF.uI {Z Z1 : zS} (h : kF Z Z1) {j : Nat} (hj : 23 ≤ j) (x : Int) : kF Z (zuI Z1 j x) := h.tr ⟨fun _ _ => rfl, fun k hk => if_neg (by omega), rfl, rfl⟩
theorem kF.uA {Z Z1 : zS} (h : kF Z Z1) {j : Nat} (hj : 25 ≤ j) (i x : Int) : kF Z (zuA Z1 j i x) := h.tr ⟨fun k hk => if_neg (by omega), fun _ _ => rfl, rfl, rfl⟩
theorem kF.wA {Z Z1 : zS} (h : kF Z Z1) {j : Nat} (hj : 25 ≤ j) (f : Int → Int) : kF Z (zwA Z1 j f) := h.tr ⟨fun k hk => if_neg (by omega), fun _ _ => rfl, rfl, rfl⟩
theorem kF.S {Z Z1 : zS} (h : kF Z Z1) (f g2 h2 : Int → Int) (c : Int) : kF Z (mS Z1 f g2 h2 c) := h.tr ⟨fun k hk => by
  show (if k = 25 then f else if k = 26 then g2 else if k = 27 then h2 else zA Z1 k) = zA Z1 k
  rw [if_neg (by omega), if_neg (by omega), if_neg (by omega)], fun k hk => if_neg (by omega), rfl, rfl⟩
def kRows {p : Nat} (W k : Nat) (g : Int → Int) (R : Nat → fV p) : Prop := ∀ s, s < k → ∀ j : Nat, j < W → g (98 * (s : Int) + j) = (((R s j).val : Nat) : Int)
/-- what it knows -/
def mKn {p : Nat} [NeZero p] (n r : Nat) (T : Nat → Nat → Nat) (M : Nat → Nat → Nat → Int) (Z : zS) : Prop := ∃ (kB k k0 : Nat) (RB R R0 : Nat → fV p) (lB l l0 : Nat → Nat), mRows ((n - 1) * (n - 1) * r) kB (zA Z 31) (zA Z 32) RB lB ∧ fRref (fSpn ((n - 1) * (n - 1) * r) (gB (p := p) n r T M)) kB RB lB ∧ fRref (NS (p := p) n r T M) k R l ∧ kRows ((n - 1) * (n - 1) * r) k (zA Z 33) R ∧ zI Z 35 = k ∧ fRref (fSpn r (gVu (p := p) n r M)) k0 R0 l0 ∧ zA Z 30 0 = (r : Int) - k0 ∧ zA Z 30 2 = k0 ∧ zA Z 30 1 = (((n - 1) * r : Nat) : Int) - kB ∧ zA Z 30 3 = (kB : Int) + k ∧ zA Z 30 4 = kB
section MKW
variable {F m g n p r : Nat} {Z Z' : zS} {T : Nat → Nat → Nat} {M : Nat → Nat → Nat → Int}
theorem mMd.k (h : mMd Z m g n T p r M) (h1 : kF Z Z') : mMd Z' m g n T p r M := by
  unfold mMd yG at *
  rw [h1.1 8 (by omega), h1.1 9 (by omega), h1.1 10 (by omega), h1.1 11 (by omega), h1.1 1 (by omega), h1.1 2 (by omega)]
  exact h
theorem m_start (h : mMd Z m g n T p r M) : ∃ Z1, zX7_start F (m : Nat) Z = some Z1 ∧ mBo Z1 m g n T p r M ∧ kF Z Z1 ∧ (∀ k, zA Z1 k = zA Z k) ∧ ∀ k, k < 39 → k ≠ 23 → k ≠ 38 → k ≠ 36 → k ≠ 37 → zI Z1 k = zI Z k := by
  have hm := h.1
  have hg := h.2.1.1
  unfold zX7_start
  rw [zPI_o, zLd_o (by omega), h.2.2.2.1.1, zPI_o, zLd_o (by omega)]
  rw [h.2.1.2.1, zPI_o, zLd_o (by omega)]
  rw [show zA Z 10 (m : Nat) = r from h.2.2.2.1.2.2, zPI_o, zLd_o (by omega)]
  rw [show zA Z 9 (m : Nat) = p from h.2.2.2.1.2.1, zPI_o]
  have hk : kF Z (zuI (zuI (zuI (zuI (zuI Z 39 (m : Nat)) 38 (g : Nat)) 36 (n : Nat)) 37 (r : Nat)) 23 (p : Nat)) := ((((kF.rf.uI (by omega) _).uI (by omega) _).uI (by omega) _).uI (by omega) _).uI (by omega) _
  refine ⟨_, rfl, ⟨h.k hk, rfl, rfl, rfl, rfl, rfl⟩, hk, fun _ => rfl, fun k a1 a2 a3 a4 a5 => ?_⟩
  show (if k = 23 then _ else if k = 37 then _ else if k = 36 then _ else if k = 38 then _ else if k = 39 then _ else zI Z k) = _
  rw [if_neg a2, if_neg a5, if_neg a4, if_neg a3, if_neg (by omega)]
/-- what the first four steps leave -/
def knA {p : Nat} [NeZero p] (m n r : Nat) (T : Nat → Nat → Nat) (M : Nat → Nat → Nat → Int) (Z4 : zS) (k0 k1 kC kB m' : Nat) (R0 R1 RC RB : Nat → fV p) (l0 l1 lC lB cs : Nat → Nat) (GV : Int → Int) (V : Nat → fV p) : Prop := fRref (fSpn r (gVu (p := p) n r M)) k0 R0 l0 ∧ fRref (fSpn ((n - 1) * r) (g1E (p := p) n r T M)) k1 R1 l1 ∧ fRref (fSpn ((n - 1) * (n - 1) * r) (gC (p := p) n r T M fun _ => True)) kC RC lC ∧ csP ((n - 1) * (n - 1) * r) kC RC lC ((n - 1) * (n - 1) * r) m' GV cs V ∧ mRows ((n - 1) * (n - 1) * r) kB (zA Z4 31) (zA Z4 32) RB lB ∧ fRref (fSpn ((n - 1) * (n - 1) * r) (gB (p := p) n r T M)) kB RB lB ∧ zA Z4 30 0 = (r : Int) - k0 ∧ zA Z4 30 2 = k0 ∧ zA Z4 30 1 = (((n - 1) * r : Nat) : Int) - k1 ∧ zA Z4 30 3 = m' ∧ zA Z4 34 = GV ∧ zI Z4 29 = (m : Nat) ∧ zI Z4 24 = ((n - 1) * (n - 1) * r : Nat) ∧ zA Z4 30 4 = kB
theorem m_kn1 {p : Nat} [NeZero p] {Zq : zS} (hF : fF F) (hI : fInv p) (h : mMd Z m g n T p r M) (b0 : mBo Zq m g n T p r M) (k0F : kF Z Zq) (h29 : zI Zq 29 = (m : Nat)) : ∃ Z4 k0 k1 kC kB m' R0 R1 RC RB l0 l1 lC lB cs GV V, (∀ K : zS → Option zS, (zC0 (zX7_dimensionNone F Zq) fun q42 => zC0 (zX7_dimensionOne F q42) fun q46 => zC0 (zX7_pairs F q46) fun q50 => zC0 (zX7_bounds F q50) K) = K Z4) ∧ mBo Z4 m g n T p r M ∧ kF Z Z4 ∧ knA (p := p) m n r T M Z4 k0 k1 kC kB m' R0 R1 RC RB l0 l1 lC lB cs GV V := by
  obtain ⟨f1, g1, h1, k0, R0, l0, t1, t2, t3⟩ := m_dimNone (F := F) hF hI b0
  generalize hZ1 : zuA (zuA (mS (zuI Zq 24 (r : Nat)) f1 g1 h1 (k0 : Nat)) 30 0 ((r : Int) - (k0 : Nat))) 30 2 (k0 : Nat) = Z1 at t1
  have k1F : kF Z Z1 := by rw [← hZ1]; exact (((k0F.uI (by omega) _).S _ _ _ _).uA (by omega) _ _).uA (by omega) _ _
  have b1 : mBo Z1 m g n T p r M := ⟨h.k k1F, by rw [← hZ1]; exact b0.2⟩
  have d1 : zA Z1 30 0 = (r : Int) - k0 ∧ zA Z1 30 2 = k0 ∧ zI Z1 29 = (m : Nat) := by rw [← hZ1]; exact ⟨rfl, rfl, h29⟩
  obtain ⟨f2, g2, h2, k1, R1, l1, u1, u2, u3⟩ := m_dimOne (F := F) hF hI b1
  generalize hZ2 : zuA (mS (zuI Z1 24 (((n - 1) * r : Nat) : Int)) f2 g2 h2 (k1 : Nat)) 30 1 ((((n - 1) * r : Nat) : Int) - (k1 : Nat)) = Z2 at u1
  have k2F : kF Z Z2 := by rw [← hZ2]; exact ((k1F.uI (by omega) _).S _ _ _ _).uA (by omega) _ _
  have b2 : mBo Z2 m g n T p r M := ⟨h.k k2F, by rw [← hZ2]; exact b1.2⟩
  have d2 : zA Z2 30 0 = (r : Int) - k0 ∧ zA Z2 30 2 = k0 ∧ zA Z2 30 1 = (((n - 1) * r : Nat) : Int) - k1 ∧ zI Z2 29 = (m : Nat) := by
    rw [← hZ2]
    exact ⟨d1.1, d1.2.1, rfl, d1.2.2⟩
  obtain ⟨f3, g3, h3, kC, RC, lC, GV, m', cs, V, v1, v2, v3, v4⟩ := m_pairs (F := F) hF hI b2
  generalize hZ3 : zuA (zwA (mS (zuI Z2 24 (((n - 1) * (n - 1) * r : Nat) : Int)) f3 g3 h3 (kC : Nat)) 34 GV) 30 3 (m' : Nat) = Z3 at v1
  have k3F : kF Z Z3 := by rw [← hZ3]; exact (((k2F.uI (by omega) _).S _ _ _ _).wA (by omega) _).uA (by omega) _ _
  have b3 : mBo Z3 m g n T p r M := ⟨h.k k3F, by rw [← hZ3]; exact b2.2⟩
  have d3 : zA Z3 30 0 = (r : Int) - k0 ∧ zA Z3 30 2 = k0 ∧ zA Z3 30 1 = (((n - 1) * r : Nat) : Int) - k1 ∧ zA Z3 30 3 = m' ∧ zA Z3 34 = GV ∧ zI Z3 29 = (m : Nat) ∧ zI Z3 24 = ((n - 1) * (n - 1) * r : Nat) := by
    rw [← hZ3]
    exact ⟨d2.1, d2.2.1, d2.2.2.1, rfl, rfl, d2.2.2.2, rfl⟩
  obtain ⟨f4, g4, h4, kB, RB, lB, Gb, Lb, w1, w2, w3⟩ := m_bounds (F := F) hF hI b3 d3.2.2.2.2.2.2
  generalize hZ4 : zwA (zwA (zuA (mS Z3 f4 g4 h4 (kB : Nat)) 30 4 (kB : Nat)) 31 Gb) 32 Lb = Z4 at w1
  have k4F : kF Z Z4 := by rw [← hZ4]; exact (((k3F.S _ _ _ _).uA (by omega) _ _).wA (by omega) _).wA (by omega) _
  have b4 : mBo Z4 m g n T p r M := ⟨h.k k4F, by rw [← hZ4]; exact b3.2⟩
  have d4 : zA Z4 30 0 = (r : Int) - k0 ∧ zA Z4 30 2 = k0 ∧ zA Z4 30 1 = (((n - 1) * r : Nat) : Int) - k1 ∧ zA Z4 30 3 = m' ∧ zA Z4 34 = GV ∧ zI Z4 29 = (m : Nat) ∧ zI Z4 24 = ((n - 1) * (n - 1) * r : Nat) ∧ zA Z4 30 4 = kB ∧ zA Z4 31 = Gb ∧ zA Z4 32 = Lb := by
    rw [← hZ4]
    exact ⟨d3.1, d3.2.1, d3.2.2.1, d3.2.2.2.1, d3.2.2.2.2.1, d3.2.2.2.2.2.1, d3.2.2.2.2.2.2, rfl, rfl, rfl⟩
  obtain ⟨x1, x2, x3, x4, x5, x6, x7, x8, x9, x10⟩ := d4
  refine ⟨Z4, k0, k1, kC, kB, m', R0, R1, RC, RB, l0, l1, lC, lB, cs, GV, V, fun K => by rw [zC0_o t1, zC0_o u1, zC0_o v1, zC0_o w1], b4, k4F, t3, u3, v3, v4, ?_, w3, x1, x2, x3, x4, x5, x6, x7, x8⟩
  rw [x9, x10]; exact w2
def knG {p : Nat} [NeZero p] (Z : zS) (m g n : Nat) (T : Nat → Nat → Nat) (r : Nat) (M : Nat → Nat → Nat → Int) (x : Option zS) : Prop := ∃ Z1, x = some Z1 ∧ mBo Z1 m g n T p r M ∧ zI Z1 24 = ((n - 1) * (n - 1) * r : Nat) ∧ zI Z1 29 = (m : Nat) ∧ mKn (p := p) n r T M Z1 ∧ kF Z Z1
theorem m_kn2 {p : Nat} [NeZero p] {Z4 : zS} {k0 k1 kC kB m' : Nat} {R0 R1 RC RB : Nat → fV p} {l0 l1 lC lB cs : Nat → Nat} {GV : Int → Int} {V : Nat → fV p} (hF : fF F) (hI : fInv p) (h : mMd Z m g n T p r M) (hsd : sdM (p := p) n r T M) (b4 : mBo Z4 m g n T p r M) (k4F : kF Z Z4) (hA : knA (p := p) m n r T M Z4 k0 k1 kC kB m' R0 R1 RC RB l0 l1 lC lB cs GV V) : knG (p := p) Z m g n T r M (zX7_know_l64 F (fun (w : zS) => zPI 35 (zI w 28) w fun w126 => zX7_know_l131 F F (0 : Int) w126) F (0 : Int) (zuI Z4 28 0)) := by
  have hm := h.1
  have hr' : 1 ≤ r ∧ r ≤ 2 := h.2.2.2.2.2.1
  have hr : r = 1 ∨ r = 2 := by omega
  obtain ⟨hp1, hp2⟩ := h.2.2.2.2.1
  have hn := h.2.2.1
  have G := h.2.1.G
  have hn0 := G.1
  have h98 := pl_98 hn hr'.2
  have h14 : (n - 1) * r ≤ 14 := Nat.le_trans (Nat.mul_le_mul (show n - 1 ≤ 7 by omega) hr'.2) (by omega)
  let W := (n - 1) * (n - 1) * r
  obtain ⟨t3, u3, v3, v4, w2, w3, x1, x2, x3, x4, x5, x6, x7, x8⟩ := hA
  have hS4 : zuI Z4 28 0 = mS Z4 (zA Z4 25) (zA Z4 26) (zA Z4 27) ((0 : Nat) : Int) := by
    have e2 := mS_ui (Z := Z4) (f := zA Z4 25) (g := zA Z4 26) (h := zA Z4 27) (c := zI Z4 28) 0
    rw [mS_e] at e2; exact e2
  rw [hS4]
  have hgB := fun g (hg : gB (p := p) n r T M g) => gB_ok hg
  have hSB := fSpn_sub hgB
  have hGC : ∀ g, gC (p := p) n r T M (fun _ => True) g → fOk ((n - 1) * (n - 1) * r) g := by
    rintro g ⟨x, y, z, i, -, a1, a2, a3, a4, a5, a6, a7, rfl⟩
    exact cR_ok G a1 a2 a3 a4 a5 a6 a7
  have hkB := gB_few hI w3.1
  have hm'C : m' + kC = W := by
    have q1 := fEch_count hI (fSpn_sub hGC) v3.1
    have q2 := nC_not (fLead (fSpn ((n - 1) * (n - 1) * r) (gC (p := p) n r T M fun _ => True))) W
    have q3 : nC (fun q => ∀ s, s < kC → lC s ≠ q) W = nC (fun i => ¬ fLead (fSpn ((n - 1) * (n - 1) * r) (gC (p := p) n r T M fun _ => True)) i) W := nC_congr fun i _ => by
      rw [fEch_lead hI (fSpn_sub hGC) v3.1]
      exact ⟨fun a ⟨s, hs, e⟩ => a s hs e, fun a s hs e => a ⟨s, hs, e⟩⟩
    have q4 := v4.1
    have q5 : kC = nC (fLead (fSpn ((n - 1) * (n - 1) * r) (gC (p := p) n r T M fun _ => True))) W := q1
    have q6 : m' = nC (fun q => ∀ s, s < kC → lC s ≠ q) W := q4
    omega
  have hW98 : W ≤ 98 := h98
  let uk : (Nat → fV p) → Nat → Prop := fun u c => fOk W (u c) ∧ fSpn W (gB n r T M) (fun i => u c i - V c i) ∧ ∀ s, s < kB → u c (lB s) = 0
  refine iX7_know_l64 (I := fun a w => ∃ c : Nat, c = a ∧ c ≤ m' ∧ ∃ f g h k R l u, mS Z4 f g h ((k : Nat) : Int) = w ∧ mRows (p := p) W k g h R l ∧ fRref (fSpn W (fun v => ∃ c', c' < c ∧ v = u c')) k R l ∧ ∀ c', c' < c → uk u c') (μ := fun a _ => (m' - a).toNat) (P := knG (p := p) Z m g n T r M) ?_ F _ _ ⟨0, rfl, by omega, _, _, _, 0, fun _ => fZ, fun _ => 0, fun _ => fZ, rfl, mRows_0, fRref_nil (by rintro g ⟨c, hc, -⟩; omega) _ _, fun c hc => by omega⟩ (by unfold fF at hF; omega)
  rintro ra _ _ ⟨c, rfl, hc, f, g5, h5, k, R, l, u, rfl, y1, y2, y3⟩ ih
  unfold zX7_know_h64
  have A30 : ∀ f g h k, zA (mS Z4 f g h k) 30 = zA Z4 30 := fun _ _ _ _ => rfl
  have huk : ∀ g, (∃ c', c' < c ∧ g = u c') → fOk W g := by rintro g ⟨c', hc', rfl⟩; exact (y3 c' hc').1
  rw [zLd_o (by omega), A30, x4]
  by_cases c2 : c = m'
  · rw [zLe_t (by omega)]
    dsimp only
    rw [zPI_o, mS_28]
    subst c2
    have hNS := NS_span hI G hsd hr (W := W) rfl v3 w3.1 (V := V) (u := u) (m := c) (fun q hq hql => by
      obtain ⟨c', a1, a2⟩ := v4.2.2 q hq hql
      exact ⟨c', a1, by rw [← a2]; exact (v4.2.1 c' a1).2.2.1⟩) (fun c' hc' => (nvP_nul hI hGC v3 (v4.2.1 c' hc').1 (v4.2.1 c' hc').2.1 (v4.2.1 c' hc').2.2.1).1) y3
    have hNSe : fSpn W (fun v => ∃ c', c' < c ∧ v = u c') = NS n r T M := by
      funext x; exact propext (hNS x)
    rw [hNSe] at y2
    have hk98 : k ≤ 98 := by
      have := fEch_count hI (fAway_sub (fNul_sub _)) y2.1
      have h9 := nC_le (fLead (NS (p := p) n r T M)) W
      have h10 : k = nC (fLead (NS (p := p) n r T M)) W := this
      omega
    have hdim : c = kB + k := by
      have q1 := (fAway_count hI (fNul_sub _) hSB (fun v hv => gB_Z2 G hsd hr hv) w3.1).2
      have q2 := fEch_count hI hSB w3.1
      have q3 := fEch_count hI (fAway_sub (fNul_sub _)) y2.1
      have q4 := fNul_dim hI hGC v3
      have q5 : nC (fLead (fNul W (gC (p := p) n r T M fun _ => True))) W = nC (fLead (fSpn W (gB (p := p) n r T M))) W + nC (fLead (NS (p := p) n r T M)) W := q1
      have q6 : kB = nC (fLead (fSpn W (gB (p := p) n r T M))) W := q2
      have q7 : k = nC (fLead (NS (p := p) n r T M)) W := q3
      have q8 : nC (fLead (fNul W (gC (p := p) n r T M fun _ => True))) W + kC = W := q4
      omega
    have hk1 : k1 = kB := by
      have hg1 : ∀ g, g1E (p := p) n r T M g → fOk ((n - 1) * r) g := by
        rintro g ⟨x, y, i, a1, a2, a3, a4, a5, rfl⟩
        exact e1C_ok G a1 a2 a3 a4 a5 r (Nat.le_refl _)
      have q1 := fNul_dim hI hg1 u3
      have q2 : fNul ((n - 1) * r) (g1E (p := p) n r T M) = fKer ((n - 1) * r) (cbD (p := p) n r T M) := by
        funext x; exact propext (g1E_ker G x)
      rw [q2] at q1
      omega
    let St : zS := zuI (mS Z4 f g5 h5 (k : Nat)) 35 (k : Nat)
    have hSt : zuI (mS Z4 f g5 h5 (k : Nat)) 35 (k : Nat) = zwA St 33 (zA St 33) := (zwA_e _ _).symm
    rw [hSt]
    have kStF : ∀ G33, kF Z (zwA St 33 G33) := fun G33 => ((k4F.S _ _ _ _).uI (by omega) _).wA (by omega) _
    refine iX7_know_l131 (I := fun a w => ∃ (q : Nat) (G33 : Int → Int), q = a ∧ q ≤ 98 * k ∧ zwA St 33 G33 = w ∧ ∀ i : Nat, i < q → G33 i = g5 i) (μ := fun a _ => (98 * k - a).toNat) (P := knG (p := p) Z m g n T r M) ?_ F _ _ ⟨0, _, rfl, by omega, rfl, fun i hi => by omega⟩ (by unfold fF at hF; omega)
    rintro rb _ _ ⟨q, G33, rfl, hq, rfl, z1⟩ ih2
    unfold zX7_know_h131
    have a28 : zI (zwA St 33 G33) 28 = (k : Nat) := rfl
    have a26 : zA (zwA St 33 G33) 26 = g5 := rfl
    rw [a28, a26]
    by_cases c3 : q = 98 * k
    · rw [zLe_t (by omega)]
      refine ⟨_, rfl, ⟨h.k (kStF G33), b4.2⟩, x7, x6, ?_, kStF G33⟩
      refine ⟨kB, k, k0, RB, R, R0, lB, l, l0, ?_, w3, y2, ?_, rfl, t3, x1, x2, ?_, ?_, x8⟩
      ·         exact w2
      · intro s hs j hj
        have hj' : j < W := hj
        show G33 (98 * (s : Int) + j) = _
        have := z1 (98 * s + j) (by omega)
        have e : ((98 * s + j : Nat) : Int) = 98 * (s : Int) + j := by omega
        rw [e] at this
        rw [this]; exact (y1 s hs).2.2 j hj'
      · show zA Z4 30 1 = _
        rw [x3, hk1]
      · show zA Z4 30 3 = _
        rw [x4]; omega
    · rw [zLe_f (by omega), zLd_o (by omega), zSt_o (by omega), zwA_u]
      refine ih2 _ _ ⟨q + 1, _, rfl, by omega, rfl, fun i hi => ?_⟩ (by omega)
      by_cases c4 : i = q
      · rw [c4, zup_s]
      · rw [zup_n (by omega)]; exact z1 i (by omega)
  · have hcm : c < m' := by omega
    obtain ⟨e1, e2, e3, e4⟩ := v4.2.1 c hcm
    rw [zLe_f (by omega)]
    refine iX7_know_l76 (I := fun a b w => c = a ∧ ∃ (j : Nat) (f' : Int → Int), j = b ∧ j ≤ W ∧ mS Z4 f' g5 h5 ((k : Nat) : Int) = w ∧ ∀ j' : Nat, j' < j → f' j' = (((V c j').val : Nat) : Int)) (μ := fun _ b _ => (W - b).toNat) (P := knG (p := p) Z m g n T r M) ?_ F _ _ _ ⟨rfl, 0, f, rfl, by omega, rfl, fun j hj => by omega⟩ (by unfold fF at hF; omega)
    rintro rb _ _ _ ⟨rfl, j, f', rfl, hj, rfl, z1⟩ ih2
    unfold zX7_know_h76
    rw [mS_24, x7]
    by_cases c3 : j = W
    · rw [zLe_t (by omega)]
      dsimp only
      have hv : fRow W (zA (mS Z4 f' g5 h5 ((k : Nat) : Int)) 25) (V c) := fun j' hj' => z1 j' (by omega)
      obtain ⟨f6, u6, o1, o2, o3, o4, o5⟩ := m_lessBound (F := F) (Z := mS Z4 f' g5 h5 ((k : Nat) : Int)) (p := p) (k := kB) (W := W) (l := lB) (R := RB) hF ⟨b4.2.2.2.2.2, x7, x8⟩ ⟨by omega, hW98, by omega⟩ (by
                exact w2) (fun s hs => ⟨hSB.1 _ (w3.1.1 s hs).1, fun t ht => w3.2.1 s t hs ht⟩) hv e3.1
      rw [zC0_o o1, mS_w25]
      let u' : Nat → fV p := fun c' => if c' = c then u6 else u c'
      have hu'c : u' c = u6 := if_pos rfl
      have hu'n : ∀ c', c' < c → u' c' = u c' := fun c' hc' => if_neg (by omega)
      obtain ⟨f7, g7, h7, k7, R7, l7, r1, r2, r3⟩ := m_set (F := F) (Z := Z4) (f := f6) (G' := fun v => ∃ c', c' < c + 1 ∧ v = u' c') hF hI b4.2.2.2.2.2 x7 ⟨by omega, hW98⟩ y1 huk y2 (v := u6) o2 o3 (fun g' => by
        constructor
        · rintro (⟨c', a1, rfl⟩ | rfl)
          · exact ⟨c', by omega, (hu'n c' a1).symm⟩
          · exact ⟨c, by omega, hu'c.symm⟩
        · rintro ⟨c', a1, rfl⟩
          by_cases a2 : c' = c
          · exact Or.inr (by rw [a2]; exact hu'c)
          · exact Or.inl ⟨c', by omega, hu'n c' (by omega)⟩)
      rw [zC0_o r1]
      refine ih _ _ ⟨c + 1, by omega, by omega, f7, g7, h7, k7, R7, l7, u', rfl, r2, r3, fun c' hc' => ?_⟩ (by omega)
      by_cases a2 : c' = c
      · rw [a2]
        show fOk W (u' c) ∧ fSpn W (gB n r T M) (fun i => u' c i - V c i) ∧ ∀ s, s < kB → u' c (lB s) = 0
        rw [hu'c]
        exact ⟨o3, o5 _ hSB (fun s hs => (w3.1.1 s hs).1), o4⟩
      · show fOk W (u' c') ∧ fSpn W (gB n r T M) (fun i => u' c' i - V c' i) ∧ ∀ s, s < kB → u' c' (lB s) = 0
        rw [hu'n c' (by omega)]
        exact y3 c' (by omega)
    · have hjW : j < W := by omega
      have a34 : zA (mS Z4 f' g5 h5 ((k : Nat) : Int)) 34 = GV := x5
      rw [zLe_f (by omega), a34, zLd_o (by omega), e4 j hjW, zSt_o (by omega), mS_u25]
      refine ih2 _ _ _ ⟨rfl, j + 1, _, rfl, by omega, rfl, fun j' hj' => ?_⟩ (by omega)
      by_cases c4 : j' = j
      · rw [c4, zup_s]
      · rw [zup_n (by omega)]; exact z1 j' (by omega)
theorem m_know {p : Nat} [NeZero p] (hF : fF F) (hI : fInv p) (h : mMd Z m g n T p r M) (hsd : sdM (p := p) n r T M) (h29 : -2147483648 ≤ zI Z 29 ∧ zI Z 29 < 2147483648) (hkn : zI Z 29 = (m : Nat) → mKn (p := p) n r T M Z) : ∃ Z1, zX7_know F (m : Nat) Z = some Z1 ∧ mBo Z1 m g n T p r M ∧ zI Z1 24 = ((n - 1) * (n - 1) * r : Nat) ∧ zI Z1 29 = (m : Nat) ∧ mKn (p := p) n r T M Z1 ∧ kF Z Z1 := by
  have hm := h.1
  have hr' : 1 ≤ r ∧ r ≤ 2 := h.2.2.2.2.2.1
  have hr : r = 1 ∨ r = 2 := by omega
  obtain ⟨hp1, hp2⟩ := h.2.2.2.2.1
  have hn := h.2.2.1
  have G := h.2.1.G
  have hn0 := G.1
  have h98 := pl_98 hn hr'.2
  have h14 : (n - 1) * r ≤ 14 := Nat.le_trans (Nat.mul_le_mul (show n - 1 ≤ 7 by omega) hr'.2) (by omega)
  obtain ⟨Z0, s1, s2, s3, s4, s5⟩ := m_start (F := F) h
  unfold zX7_know
  rw [zC0_o s1]
  have e29 : zI Z0 29 = zI Z 29 := s5 29 (by omega) (by omega) (by omega) (by omega) (by omega)
  by_cases c1 : zI Z 29 = (m : Nat)
  · rw [zEq_t (by omega), zPI_o]
    refine ⟨_, rfl, s2.k (fun k _ => rfl) ⟨rfl, rfl, rfl, rfl, rfl⟩, ?_, ?_, ?_, s3.uI (by omega) _⟩
    · show ((zI Z0 36) - 1) * ((zI Z0 36) - 1) * (zI Z0 37) = _
      rw [s2.2.2.2.1, s2.2.2.2.2.1]
      have : ((n : Int) - 1) = ((n - 1 : Nat) : Int) := by omega
      rw [this]; simp
    · show zI Z0 29 = _
      rw [e29]; exact c1
    · have := hkn c1
      unfold mKn at *
      have e35 : zI (zuI Z0 24 ((((zI Z0 36) - (1 : Int)) * ((zI Z0 36) - (1 : Int))) * (zI Z0 37))) 35 = zI Z 35 := s5 35 (by omega) (by omega) (by omega) (by omega) (by omega)
      rw [e35]
      have eA : ∀ k, zA (zuI Z0 24 ((((zI Z0 36) - (1 : Int)) * ((zI Z0 36) - (1 : Int))) * (zI Z0 37))) k = zA Z k := s4
      simp only [eA]
      exact this
  · rw [zEq_f (by omega), zPI_o]
    have b0 : mBo (zuI Z0 29 (m : Nat)) m g n T p r M := s2.k (fun k _ => rfl) ⟨rfl, rfl, rfl, rfl, rfl⟩
    have k0F : kF Z (zuI Z0 29 (m : Nat)) := s3.uI (by omega) _
    obtain ⟨Z4, k0, k1, kC, kB, m', R0, R1, RC, RB, l0, l1, lC, lB, cs, GV, V, a1, a2, a3, a4⟩ := m_kn1 (F := F) (p := p) hF hI h b0 k0F rfl
    rw [a1, zPI_o]
    exact m_kn2 hF hI h hsd a2 a3 a4
end MKW
