/-! THE MODEL: pairs, their equations and what obeys them -/
def D4 (n r : Nat) (a b c d : Nat) : Prop := (1 ≤ a ∧ a < n) ∧ (1 ≤ b ∧ b < n) ∧ (1 ≤ c ∧ c < n) ∧ d < r
/-- rows of a line each, one for each free place -/
def csP {p : Nat} [NeZero p] (W k : Nat) (R : Nat → fV p) (l : Nat → Nat) (y m : Nat) (G : Int → Int) (cs : Nat → Nat) (V : Nat → fV p) : Prop := m = nC (fun q => ∀ s, s < k → l s ≠ q) y ∧ (∀ c, c < m → cs c < y ∧ (∀ s, s < k → l s ≠ cs c) ∧ nvP W k R l (cs c) (V c) ∧ ∀ j : Nat, j < W → G (98 * (c : Int) + j) = (((V c j).val : Nat) : Int)) ∧ ∀ q, q < y → (∀ s, s < k → l s ≠ q) → ∃ c, c < m ∧ cs c = q
section MPS
variable {F m g n p r W : Nat} {Z Z' : zS} {T : Nat → Nat → Nat} {M : Nat → Nat → Nat → Int} {f g2 h2 : Int → Int} {c : Int}
theorem m_pairs {p : Nat} [NeZero p] (hF : fF F) (hI : fInv p) (h : mBo Z m g n T p r M) : ∃ f g2 h2 k R l G m' cs V, zX7_pairs F Z = some (zuA (zwA (mS (zuI Z 24 (((n - 1) * (n - 1) * r : Nat) : Int)) f g2 h2 (k : Nat)) 34 G) 30 3 (m' : Nat)) ∧ mRows (p := p) ((n - 1) * (n - 1) * r) k g2 h2 R l ∧ fRref (fSpn ((n - 1) * (n - 1) * r) (gC (p := p) n r T M fun _ => True)) k R l ∧ csP ((n - 1) * (n - 1) * r) k R l ((n - 1) * (n - 1) * r) m' G cs V := by
  obtain ⟨hr1, hr2⟩ := h.1.2.2.2.2.2.1
  obtain ⟨hp1, hp2⟩ := h.1.2.2.2.2.1
  have hn := h.1.2.2.1
  have hn0 := h.G.1
  have h98 := pl_98 hn hr2
  have eW : (((zI Z 36) - 1) * ((zI Z 36) - 1)) * (zI Z 37) = (((n - 1) * (n - 1) * r : Nat) : Int) := by
    rw [h.2.2.2.1, h.2.2.2.2.1, Int.natCast_mul, Int.natCast_mul, Int.natCast_sub hn0]; rfl
  unfold zX7_pairs
  rw [zPI_o, zPI_o, eW, m_base]
  have hGok0 : ∀ a b c d, D4 n r a b c d → fOk ((n - 1) * (n - 1) * r) (cR (p := p) n r T M a b c d) := fun a b c d hd => cR_ok h.G hd.1.1 hd.1.2 hd.2.1.1 hd.2.1.2 hd.2.2.1.1 hd.2.2.1.2 hd.2.2.2
  have hgE : ∀ g, G4 (D4 n r) (cR (p := p) n r T M) n 1 1 0 g ↔ gC n r T M (fun _ => True) g := fun g => by
    constructor
    · rintro ⟨a', b', c', d', ⟨⟨h1, h2⟩, ⟨h3, h4⟩, ⟨h5, h6⟩, h7⟩, -, h8⟩
      exact ⟨a', b', c', d', trivial, h1, h2, h3, h4, h5, h6, h7, h8⟩
    · rintro ⟨a', b', c', d', -, h1, h2, h3, h4, h5, h6, h7, h8⟩
      exact ⟨a', b', c', d', ⟨⟨h1, h2⟩, ⟨h3, h4⟩, ⟨h5, h6⟩, h7⟩, by unfold gM4; omega, h8⟩
  have heq : ∀ {f g2 h2 : Int → Int} {c : Int} {x y z i : Nat}, D4 n r x y z i → ∃ f', zX7_equation F x y z i (mS (zuI Z 24 (((n - 1) * (n - 1) * r : Nat) : Int)) f g2 h2 c) = some (mS (zuI Z 24 (((n - 1) * (n - 1) * r : Nat) : Int)) f' g2 h2 c) ∧ fRow (p := p) ((n - 1) * (n - 1) * r) f' (cR n r T M x y z i) := fun {f g2 h2 c x y z i} hd => m_equation (Z := zuI Z 24 (((n - 1) * (n - 1) * r : Nat) : Int)) hF (h.k (fun k _ => rfl) ⟨rfl, rfl, rfl, rfl, rfl⟩) hd.1.1 hd.1.2 hd.2.1.1 hd.2.1.2 hd.2.2.1.1 hd.2.2.1.2 hd.2.2.2
  generalize hWd : (n - 1) * (n - 1) * r = W at *
  let Z1 := zuI Z 24 (W : Int)
  have hZ1 : ∀ f g2 h2 c, mBo (mS Z1 f g2 h2 c) m g n T p r M := fun f g2 h2 c => mBo.s (h.k (fun k _ => rfl) ⟨rfl, rfl, rfl, rfl, rfl⟩) f g2 h2 c
  have hGok : ∀ a b c d g, G4 (D4 n r) (cR (p := p) n r T M) a b c d g → fOk W g := by
    rintro a b c d g ⟨a', b', c', d', h1, -, rfl⟩
    exact hGok0 _ _ _ _ h1
  let P : Option zS → Prop := fun x => ∃ f g2 h2 k R l G m' cs V, x = some (zuA (zwA (mS Z1 f g2 h2 (k : Nat)) 34 G) 30 3 (m' : Nat)) ∧ mRows (p := p) W k g2 h2 R l ∧ fRref (fSpn W (gC (p := p) n r T M fun _ => True)) k R l ∧ csP W k R l W m' G cs V
  let Q : Nat → Nat → Nat → Nat → zS → Prop := fun x y z i w => ∃ f g2 h2 k R l, mS Z1 f g2 h2 (k : Nat) = w ∧ mRows (p := p) W k g2 h2 R l ∧ fRref (fSpn W (G4 (D4 n r) (cR (p := p) n r T M) x y z i)) k R l
  have Qcg : ∀ {x y z i x2 y2 z2 i2 w}, Q x y z i w → (∀ a' b' c' d', D4 n r a' b' c' d' → (gM4 x y z i a' b' c' d' ↔ gM4 x2 y2 z2 i2 a' b' c' d')) → Q x2 y2 z2 i2 w := by
    rintro x y z i x2 y2 z2 i2 w ⟨f, g2, h2, k, R, l, q1, q2, q3⟩ hh
    exact ⟨f, g2, h2, k, R, l, q1, q2, by rw [← fSpn_congr (G4_cg hh)]; exact q3⟩
  have e36 : ∀ {x y z i w}, Q x y z i w → zI w 36 = (n : Nat) := by
    rintro x y z i w ⟨f, g2, h2, k, R, l, rfl, -⟩; exact h.2.2.2.1
  have e37 : ∀ {x y z i w}, Q x y z i w → zI w 37 = (r : Nat) := by
    rintro x y z i w ⟨f, g2, h2, k, R, l, rfl, -⟩; exact h.2.2.2.2.1
  refine iX7_pairs_l29 (I := fun v1 w => ∃ x : Nat, x = v1 ∧ 1 ≤ x ∧ x ≤ n ∧ Q x 1 1 0 w) (μ := fun v1 _ => (n - v1).toNat) (P := P) ?_ F _ _ ⟨1, rfl, by omega, hn0, _, _, _, 0, fun _ => fZ, fun _ => 0, rfl, mRows_0, fRref_nil (fun g => by rintro ⟨a', b', c', d', h1, h2, h3⟩; unfold gM4 D4 at *; omega) _ _⟩ (by unfold fF at hF; omega)
  rintro ra _ _ ⟨x, rfl, hx1, hx, hq⟩ ih
  unfold zX7_pairs_h29
  rw [e36 hq]
  by_cases q : x = n
  · rw [zLe_t (by omega)]
    dsimp only
    obtain ⟨f, g2, h2, k, R, l, rfl, e1, e2⟩ := hq
    rw [q, fSpn_congr hgE] at e2
    have hS := fSpn_sub (fun g (hg : gC (p := p) n r T M (fun _ => True) g) => by
      obtain ⟨x, y, z, i, -, a1, a2, a3, a4, a5, a6, a7, rfl⟩ := hg
      exact hGok0 x y z i ⟨⟨a1, a2⟩, ⟨a3, a4⟩, ⟨a5, a6⟩, a7⟩ : ∀ g, gC (p := p) n r T M (fun _ => True) g → fOk W g)
    have hkW : k ≤ W := by
      have := fEch_count hI hS e2.1
      rw [this]; exact nC_le _ _
    let S0 : zS := mS Z1 f g2 h2 (k : Nat)
    have hS24 : ∀ G, zI (zwA S0 34 G) 24 = (W : Int) := fun G => rfl
    have hS28 : ∀ G, zI (zwA S0 34 G) 28 = (k : Int) := fun G => rfl
    have hS23 : ∀ G, zI (zwA S0 34 G) 23 = (p : Int) := fun G => h.2.2.2.2.2
    have hS26 : ∀ G, zA (zwA S0 34 G) 26 = g2 := fun G => rfl
    have hS27 : ∀ G, zA (zwA S0 34 G) 27 = h2 := fun G => rfl
    refine iX7_pairs_l112 (I := fun v1 v2 v3 w => ∃ (c s y : Nat) (G : Int → Int) (cs : Nat → Nat) (V : Nat → fV p), c = v1 ∧ s = v2 ∧ y = v3 ∧ y ≤ W ∧ s ≤ k ∧ zwA S0 34 G = w ∧ (∀ t, t < s → l t < y) ∧ (∀ t, s ≤ t → t < k → y ≤ l t) ∧ csP W k R l y c G cs V) (μ := fun _ _ v3 _ => (W - v3).toNat) (P := P) ?_ F _ _ _ _ ⟨0, 0, 0, zA S0 34, fun _ => 0, fun _ => fZ, rfl, rfl, rfl, by omega, by omega, zwA_e S0 34, fun t ht => by omega, fun t _ _ => by omega, rfl, fun c hc => by omega, fun q hq => by omega⟩ (by unfold fF at hF; omega)
    rintro rb _ _ _ _ ⟨c, s, y, G, cs, V, rfl, rfl, rfl, hy, hs, rfl, lo, hi, c1, c2, c3⟩ ih2
    unfold zX7_pairs_h112
    rw [hS24]
    by_cases q2 : y = W
    · rw [zLe_t (by omega)]
      dsimp only
      rw [zSt_o (by omega)]
      rw [q2] at c1 c2 c3
      exact ⟨f, g2, h2, k, R, l, G, c, cs, V, rfl, e1, e2, c1, c2, c3⟩
    · have hyW : y < W := by omega
      rw [zLe_f (by omega), hS28]
      have hcy : c ≤ y := by rw [c1]; exact nC_le _ _
      -- a free place
      have free : (∀ t, t < k → l t ≠ y) → P (zX7_pairs_b144 F rb (fun v1 w => zSt 30 5 3 v1 w fun w257 => some w257) c s y (zwA S0 34 G)) := by
        intro hfree
        unfold zX7_pairs_b144 zX7_pairs_b245
        refine iX7_pairs_l147 (I := fun v1 v2 v3 v4 w => c = v1 ∧ s = v2 ∧ y = v3 ∧ ∃ (j : Nat) (G1 : Int → Int), j = v4 ∧ j ≤ W ∧ zwA S0 34 G1 = w ∧ (∀ j' : Nat, j' < j → G1 (98 * (c : Int) + j') = if j' = y then 1 else 0) ∧ ∀ i : Int, i < 98 * (c : Int) → G1 i = G i) (μ := fun _ _ _ v4 _ => (W - v4).toNat) (P := P) ?_ F _ _ _ _ _ ⟨rfl, rfl, rfl, 0, G, rfl, by omega, rfl, fun j' hj' => by omega, fun _ _ => rfl⟩ (by unfold fF at hF; omega)
        rintro rc _ _ _ _ _ ⟨rfl, rfl, rfl, j, G1, rfl, hj, rfl, hG1, hG2⟩ ih3
        unfold zX7_pairs_h147 zX7_pairs_b178
        rw [hS24]
        by_cases q3 : j = W
        · rw [zLe_t (by omega)]
          dsimp only
          -- the numbers at leads
          refine iX7_pairs_l188 (I := fun v1 v2 v3 v4 w => c = v1 ∧ s = v2 ∧ y = v3 ∧ ∃ (t : Nat) (G3 : Int → Int), t = v4 ∧ t ≤ k ∧ zwA S0 34 G3 = w ∧ (∀ j' : Nat, j' < W → (∀ t', t' < t → l t' ≠ j') → G3 (98 * (c : Int) + j') = if j' = y then 1 else 0) ∧ (∀ t', t' < t → G3 (98 * (c : Int) + l t') = (((- R t' y : Fin p).val : Nat) : Int)) ∧ ∀ i : Int, i < 98 * (c : Int) → G3 i = G i) (μ := fun _ _ _ v4 _ => (k - v4).toNat) (P := P) ?_ F _ _ _ _ _ ⟨rfl, rfl, rfl, 0, G1, rfl, by omega, rfl, fun j' hj' _ => hG1 j' (by omega), fun t' ht' => by omega, hG2⟩ (by unfold fF at hF; omega)
          rintro rd _ _ _ _ _ ⟨rfl, rfl, rfl, t, G3, rfl, ht, rfl, u1, u2, u3⟩ ih4
          unfold zX7_pairs_h188
          rw [hS28]
          by_cases q4 : t = k
          · rw [zLe_t (by omega)]
            dsimp only
            rw [q4] at u1 u2
            let v : fV p := fun j => if j < W then fC (G3 (98 * (c : Int) + j)) else 0
            have hv : nvP W k R l y v := by
              refine ⟨fun i hi => if_neg (by omega), ?_, fun j hj hne hf => ?_, fun t' ht' => ?_⟩
              · show (if y < W then fC (G3 (98 * (c : Int) + y)) else 0) = 1
                rw [if_pos hyW, u1 y hyW hfree, if_pos rfl, fC_1]
              · show (if j < W then fC (G3 (98 * (c : Int) + j)) else 0) = 0
                rw [if_pos hj, u1 j hj hf, if_neg hne, fC_0]
              · show (if l t' < W then fC (G3 (98 * (c : Int) + (l t' : Nat))) else 0) = _
                rw [if_pos (e1 t' ht').2.1, u2 t' ht', fC_v]
            have hvG : ∀ j : Nat, j < W → G3 (98 * (c : Int) + j) = (((v j).val : Nat) : Int) := fun j hj => by
              show _ = (((if j < W then fC (G3 (98 * (c : Int) + j)) else 0 : Fin p).val : Nat) : Int)
              rw [if_pos hj]
              by_cases c5 : ∃ t', t' < k ∧ l t' = j
              · obtain ⟨t', ht', rfl⟩ := c5
                rw [u2 t' ht', fC_v]
              · rw [u1 j hj (fun t' ht' e => c5 ⟨t', ht', e⟩)]
                by_cases c6 : j = y
                · rw [if_pos c6, fC_1, (fOne hI).2]
                · rw [if_neg c6, fC_0]; exact (fV_0.mpr rfl).symm
            refine ih2 _ _ _ _ ⟨c + 1, s, y + 1, G3, fun i => if i = c then y else cs i, fun i => if i = c then v else V i, rfl, rfl, rfl, by omega, hs, rfl, fun t' ht' => by have := lo t' ht'; omega, fun t' h1 h2' => by
              have := hi t' h1 h2'
              have := hfree t' h2'
              omega, ?_, fun i hic => ?_, fun q' hq' hf => ?_⟩ (by omega)
            · have hfr : (fun q => ∀ s, s < k → l s ≠ q) y := hfree
              rw [nC_t hfr, ← c1]
            · dsimp only
              by_cases c5 : i = c
              · rw [if_pos c5, if_pos c5, c5]
                exact ⟨by omega, hfree, hv, hvG⟩
              · rw [if_neg c5, if_neg c5]
                have := c2 i (by omega)
                exact ⟨by omega, this.2.1, this.2.2.1, fun j hj => by rw [u3 _ (by omega)]; exact this.2.2.2 j hj⟩
            · by_cases c5 : q' = y
              · exact ⟨c, by omega, by dsimp only; rw [if_pos rfl, c5]⟩
              · obtain ⟨i, hic, e⟩ := c3 q' (by omega) hf
                exact ⟨i, by omega, by dsimp only; rw [if_neg (by omega)]; exact e⟩
          · have htk : t < k := by omega
            obtain ⟨a1, a2, a3⟩ := e1 t htk
            have hb := fV_lt (R t y)
            rw [zLe_f (by omega), hS27, zLd_o (by omega), a1, hS26, zLd_o (by omega), a3 y hyW, hS23, zRem_C (p := p) (by omega) (by omega), zSt_o (by omega), zwA_u]
            refine ih4 _ _ _ _ _ ⟨rfl, rfl, rfl, t + 1, _, rfl, by omega, rfl, fun j' hj' hf => ?_, fun t' ht' => ?_, fun i hic => ?_⟩ (by omega)
            · have := hf t (by omega)
              rw [zup_n (by omega)]
              exact u1 j' hj' (fun t' ht' => hf t' (by omega))
            · by_cases c5 : t' = t
              · rw [c5, zup_s, fC_sub, fC_p, fC_v]
                congr 2
              · have : l t' ≠ l t := fun e => c5 (e2.1.2.1 t' t (by omega) htk e)
                rw [zup_n (by omega)]
                exact u2 t' (by omega)
            · rw [zup_n (by omega)]; exact u3 i hic
        · have hjW : j < W := by omega
          rw [zLe_f (by omega)]
          have st : ∀ v : Int, v = (if j = y then 1 else 0) → P (zSt 34 9604 (98 * (c : Int) + j) v (zwA S0 34 G1) fun w178 => rc c s y ((j : Int) + 1) w178) := fun v hv => by
            rw [zSt_o (by omega), zwA_u]
            refine ih3 _ _ _ _ _ ⟨rfl, rfl, rfl, j + 1, _, rfl, by omega, rfl, fun j' hj' => ?_, fun i hic => ?_⟩ (by omega)
            · by_cases c5 : j' = j
              · rw [c5, zup_s, hv]
              · rw [zup_n (by omega)]; exact hG1 j' (by omega)
            · rw [zup_n (by omega)]; exact hG2 i hic
          by_cases c5 : j = y
          · rw [zEq_t (by omega)]
            exact st 1 (by rw [if_pos c5])
          · rw [zEq_f (by omega)]
            exact st 0 (by rw [if_neg c5])
      by_cases q3 : s = k
      · rw [zLe_t (by omega)]
        exact free fun t ht e => by have := lo t (by omega); omega
      · have hsk : s < k := by omega
        obtain ⟨a1, a2, a3⟩ := e1 s hsk
        rw [zLe_f (by omega), hS27, zLd_o (by omega), a1]
        by_cases q4 : l s = y
        · rw [zEq_t (by omega)]
          unfold zX7_pairs_b245
          have hnf : ¬ (fun q => ∀ s, s < k → l s ≠ q) y := fun z => z s hsk q4
          refine ih2 _ _ _ _ ⟨c, s + 1, y + 1, G, cs, V, rfl, rfl, rfl, by omega, by omega, rfl, fun t ht => ?_, fun t h1 h2' => ?_, by rw [nC_f hnf]; exact c1, fun i hic => ?_, fun q' hq' hf => ?_⟩ (by omega)
          · by_cases c5 : t = s
            · rw [c5]; omega
            · have := lo t (by omega); omega
          · have := e2.2.2 s t (by omega) h2'
            omega
          · have := c2 i hic
            exact ⟨by omega, this.2⟩
          · exact c3 q' (by
              rcases Nat.lt_or_ge q' y with c5 | c5
              · exact c5
              · exact (hf s hsk (by omega)).elim) hf
        · rw [zEq_f (by omega)]
          refine free fun t ht e => ?_
          rcases Nat.lt_or_ge t s with c5 | c5
          · have := lo t c5; omega
          · rcases Nat.eq_or_lt_of_le c5 with c6 | c6
            · exact q4 (by rw [c6]; exact e)
            · have := e2.2.2 s t c6 ht
              have := hi s (Nat.le_refl _) hsk
              omega
  · have hxn : x < n := by omega
    rw [zLe_f (by omega)]
    refine iX7_pairs_l39 (I := fun v1 v2 w => x = v1 ∧ ∃ y : Nat, y = v2 ∧ 1 ≤ y ∧ y ≤ n ∧ Q x y 1 0 w) (μ := fun _ v2 _ => (n - v2).toNat) (P := P) ?_ F _ _ _ ⟨rfl, 1, rfl, by omega, hn0, hq⟩ (by unfold fF at hF; omega)
    rintro rb _ _ _ ⟨rfl, y, rfl, hy1, hy, hq⟩ ih2
    unfold zX7_pairs_h39
    rw [e36 hq]
    by_cases q2 : y = n
    · rw [zLe_t (by omega)]
      exact ih _ _ ⟨x + 1, rfl, by omega, by omega, Qcg hq fun a' b' c' d' hd => by unfold gM4 D4 at *; omega⟩ (by omega)
    · have hyn : y < n := by omega
      rw [zLe_f (by omega)]
      refine iX7_pairs_l49 (I := fun v1 v2 v3 w => x = v1 ∧ y = v2 ∧ ∃ z : Nat, z = v3 ∧ 1 ≤ z ∧ z ≤ n ∧ Q x y z 0 w) (μ := fun _ _ v3 _ => (n - v3).toNat) (P := P) ?_ F _ _ _ _ ⟨rfl, rfl, 1, rfl, by omega, hn0, hq⟩ (by unfold fF at hF; omega)
      rintro rc _ _ _ _ ⟨rfl, rfl, z, rfl, hz1, hz, hq⟩ ih3
      unfold zX7_pairs_h49
      rw [e36 hq]
      by_cases q3 : z = n
      · rw [zLe_t (by omega)]
        exact ih2 _ _ _ ⟨rfl, y + 1, rfl, by omega, by omega, Qcg hq fun a' b' c' d' hd => by unfold gM4 D4 at *; omega⟩ (by omega)
      · have hzn : z < n := by omega
        rw [zLe_f (by omega)]
        refine iX7_pairs_l60 (I := fun v1 v2 v3 v4 w => x = v1 ∧ y = v2 ∧ z = v3 ∧ ∃ i : Nat, i = v4 ∧ i ≤ r ∧ Q x y z i w) (μ := fun _ _ _ v4 _ => (r - v4).toNat) (P := P) ?_ F _ _ _ _ _ ⟨rfl, rfl, rfl, 0, rfl, by omega, hq⟩ (by unfold fF at hF; omega)
        rintro rd _ _ _ _ _ ⟨rfl, rfl, rfl, i, rfl, hi, hq⟩ ih4
        unfold zX7_pairs_h60
        rw [e37 hq]
        by_cases q4 : i = r
        · rw [zLe_t (by omega)]
          exact ih3 _ _ _ _ ⟨rfl, rfl, z + 1, rfl, by omega, by omega, Qcg hq fun a' b' c' d' hd => by unfold gM4 D4 at *; omega⟩ (by omega)
        · have hir : i < r := by omega
          have hD : D4 n r x y z i := ⟨⟨hx1, hxn⟩, ⟨hy1, hyn⟩, ⟨hz1, hzn⟩, hir⟩
          obtain ⟨f, g2, h2, k, R, l, rfl, e1, e2⟩ := hq
          obtain ⟨f1, a1, a2⟩ := heq (f := f) (g2 := g2) (h2 := h2) (c := (k : Nat)) hD
          obtain ⟨f6, g6, h6, k6, R6, l6, d1, d2, d3⟩ := m_set (F := F) (Z := Z1) (f := f1) (G' := G4 (D4 n r) (cR (p := p) n r T M) x y z (i + 1)) hF hI h.2.2.2.2.2 rfl ⟨by omega, h98⟩ e1 (hGok x y z i) e2 (v := cR n r T M x y z i) a2 (hGok0 _ _ _ _ hD) (fun g => G4_step (D := D4 n r) (gg := cR (p := p) n r T M) hD (fun a' b' c' d' hd => by unfold gM4 D4 at *; omega) g)
          rw [zLe_f (by omega), zC0_o a1, zC0_o d1]
          exact ih4 _ _ _ _ _ ⟨rfl, rfl, rfl, i + 1, rfl, by omega, f6, g6, h6, k6, R6, l6, rfl, d2, d3⟩ (by omega)
end MPS
