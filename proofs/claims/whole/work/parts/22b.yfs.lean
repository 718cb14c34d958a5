/-! THE CLASS: standards found -/
def isFr (W k : Nat) (l : Nat → Nat) (j : Nat) : Prop := ∀ s, s < k → l s ≠ W - 1 - j
/-- the rows so far: the standards of the free places, in order -/
def stR {p : Nat} [NeZero p] (W k : Nat) (R : Nat → fV p) (l : Nat → Nat) (y m : Nat) (Rs : Nat → fV p) (ls : Nat → Nat) : Prop := m = nC (isFr W k l) y ∧ (∀ i, i < m → ls i < y ∧ ls i < W ∧ isFr W k l (ls i) ∧ stF W k R l (ls i) (Rs i)) ∧ (∀ i j, i < j → j < m → ls i < ls j) ∧ ∀ j, j < y → isFr W k l j → ∃ i, i < m ∧ ls i = j
section YFS
variable {F A g t b s e n p r k : Nat} {C : yC} {O : zO} {T : Nat → Nat → Nat} {M : Nat → Nat → Nat → Int} {l : Nat → Nat}
theorem y_findStandards {p : Nat} [NeZero p] {R : Nat → fV p} (hF : fF F) (hI : fInv p) (h : yAct C O A g t n T p r M) (hK : C.1 e = some (1, 98)) (hs : C.1 s = some (1, 12)) (hts : C.2 t 2 = some s) (hse : s ≠ e) (hE : eAt (O e) ((n - 1) * (n - 1) * r) k R l) (h12 : nC (isFr ((n - 1) * (n - 1) * r) k l) ((n - 1) * (n - 1) * r) ≤ 12) : ∃ (O1 : zO) (m : Nat) (Rs : Nat → fV p) (ls : Nat → Nat), zX5_findStandards F C t (some A) (some e) O = some O1 ∧ (∀ a, a ≠ t → a ≠ s → O1 a = O a) ∧ (∀ i, i ≠ 6 → zI (O1 t) i = zI (O t) i) ∧ zI (O1 t) 6 = (p : Int) ^ m ∧ eAt (O1 s) ((n - 1) * (n - 1) * r) m Rs ls ∧ stR ((n - 1) * (n - 1) * r) k R l ((n - 1) * (n - 1) * r) m Rs ls := by
  obtain ⟨hr1, hr2⟩ := h.2.2.2.2.2.1
  obtain ⟨hp1, hp2⟩ := h.2.2.2.2.1
  have hn := h.2.2.1
  have hT := h.1.2.2.1
  have h98 := pl_98 hn hr2
  have hts' := (h.neE hs).2.2
  have hte := (h.neE hK).2.2
  generalize hW : (n - 1) * (n - 1) * r = W at *
  have hkW := eAt_k hE
  unfold zX5_findStandards
  obtain ⟨S0, b1, b2⟩ := y_begin (F := F) (O := O) (p := p) (W := W) hs h98 (by omega) (fun _ => fZ) (fun _ => 0)
  rw [yO_o h.1.1, yC1_o h.places, hW, yFR_o hT hts, yFI_o h.1.1, h.2.2.2.1.1, yO_o hs, yC0_o b1]
  let P : Option zO → Prop := fun x => ∃ (O1 : zO) (m : Nat) (Rs : Nat → fV p) (ls : Nat → Nat), x = some O1 ∧ (∀ a, a ≠ t → a ≠ s → O1 a = O a) ∧ (∀ i, i ≠ 6 → zI (O1 t) i = zI (O t) i) ∧ zI (O1 t) 6 = (p : Int) ^ m ∧ eAt (O1 s) W m Rs ls ∧ stR W k R l W m Rs ls
  refine iX5_findStandards_l20 (I := fun v0 v1 v2 v3 v4 w => t = v0 ∧ some A = v1 ∧ some e = v2 ∧ W = v3 ∧ ∃ (y m : Nat) (Rs : Nat → fV p) (ls : Nat → Nat), y = v4 ∧ y ≤ W ∧ oK O w t s ∧ eAt (w s) W m Rs ls ∧ fEch (fSpn W (fun g => ∃ i, i < m ∧ g = Rs i)) m Rs ls ∧ stR W k R l y m Rs ls) (μ := fun _ _ _ _ v4 _ => (W - v4).toNat) (P := P) ?_ F _ _ _ _ _ _ ⟨rfl, rfl, rfl, rfl, 0, 0, _, _, rfl, by omega, oK.rf.obj hts' S0, by rw [oup_s]; exact b2, fEch_nil (fun g => by rintro ⟨i, hi, -⟩; omega) _ _ rfl, rfl, fun i hi => by omega, fun i j _ hj => by omega, fun j hj => by omega⟩ (by unfold fF at hF; omega)
  rintro ra _ _ _ _ _ w ⟨rfl, rfl, rfl, rfl, y, m, Rs, ls, rfl, hy, hk, e1, e2, e3⟩ ih
  have hw := h.k hs hk
  have hwe : w e = O e := hk.1 e hte.symm (fun q => hse q.symm)
  unfold zX5_findStandards_h20 zX5_findStandards_b62
  by_cases q : y = W
  · rw [zLe_t (by omega)]
    dsimp only
    have hm : m < 1000 := by
      have := e3.1
      rw [q] at this; omega
    rw [yFI_o hw.1.1, hw.2.2.2.1.1, yFR_o hT hts, yFI_o hs, e1.1.2.2, yC1_o (y_power hF hm), yPI_o hT]
    refine ⟨_, m, Rs, ls, rfl, fun a ha1 ha2 => by rw [oup_n ha1]; exact hk.1 a ha1 ha2, fun i hi => by rw [oup_s, zI_uI, if_neg hi, hk.2], by rw [oup_s, zI_uI, if_pos rfl], by rw [oup_n hts'.symm]; exact e1, ?_⟩
    rw [q] at e3; exact e3
  · have hyW : y < W := by omega
    have ey : ((W : Int) - 1) - (y : Int) = ((W - 1 - y : Nat) : Int) := by omega
    have hle := y_leadsAt (F := F) (O := w) hK (by rw [hwe]; exact hE) (show W - 1 - y < W by omega)
    rw [zLe_f (by omega), yO_o hK, ey]
    by_cases hx : ∃ s, s < k ∧ l s = W - 1 - y
    · rw [yC1_o (hle.1 hx), zEq_f (by omega)]
      have hnf : ¬ isFr W k l y := fun z => by obtain ⟨s', hs', e'⟩ := hx; exact z s' hs' e'
      refine ih _ _ _ _ _ _ ⟨rfl, rfl, rfl, rfl, y + 1, m, Rs, ls, rfl, by omega, hk, e1, e2, by rw [nC_f hnf]; exact e3.1, fun i hi => ?_, e3.2.2.1, fun j hj hfj => ?_⟩ (by omega)
      · have := e3.2.1 i hi
        exact ⟨by omega, this.2⟩
      · exact e3.2.2.2 j (by
          rcases Nat.lt_or_ge j y with c | c
          · exact c
          · exact (hnf (by rw [← show j = y by omega]; exact hfj)).elim) hfj
    · have hfr : isFr W k l y := fun s' hs' e' => hx ⟨s', hs', e'⟩
      have hm1 : m + 1 ≤ 12 := by
        have a1 : nC (isFr W k l) (y + 1) ≤ nC (isFr W k l) W := by
          have := nC_split (isFr W k l) (y + 1) (W - (y + 1))
          rw [show y + 1 + (W - (y + 1)) = W by omega] at this
          omega
        rw [nC_t hfr, ← e3.1] at a1
        omega
      obtain ⟨f, u, f1, f2, f3⟩ := y_writeStandard (F := F) (O := w) hF hI hT hK (by omega) hp2 (by rw [hwe]; exact hE) hyW hfr
      have hG : ∀ g, (∃ i, i < m ∧ g = Rs i) → fOk W g := by
        rintro g ⟨i, hi, rfl⟩
        exact (e1.2.2.1 i hi).2.2.2.1
      obtain ⟨f4, S', k', R', l', d1, d2, d3, d4, d5, d6, d7⟩ := y_add (F := F) (O := oW w t 0 f) (v := u) hF hI hs hT (by omega) (Or.inl (show m < 12 by omega)) (by rw [oW_n hts'.symm]; exact e1) hG e2 (fun j hj => by
        have hb := fV_lt (u j)
        rw [oW_f, f2 j hj, fC_v]
        exact ⟨by omega, rfl⟩) f3.1
      have hz : ∀ i, i < m → u (ls i) = 0 := fun i hi => by
        have := e3.2.1 i hi
        exact f3.2.2.2.1 (ls i) this.2.1 (by omega) this.2.2.1
      obtain ⟨g1, g2, g3⟩ := d7 hz y f3.2.1 f3.2.2.1
      rw [yC1_o (hle.2 hfr), zEq_t (by omega), yFI_o hw.1.1, hw.2.2.2.1.1, yO_o hT, yC0_o f1, yFR_o hT hts, yAR_o hT, yO_o hs, yC0_o d1]
      refine ih _ _ _ _ _ _ ⟨rfl, rfl, rfl, rfl, y + 1, m + 1, R', l', rfl, by omega, ((hk.row _).row f4).obj hts' S', by rw [oup_s, ← g1]; exact d2, ?_, by rw [nC_t hfr, ← e3.1], fun i hi => ?_, fun i j hij hj => ?_, fun j hj hfj => ?_⟩ (by omega)
      · have : fSpn W (fun g => (∃ i, i < m ∧ g = Rs i) ∨ g = u) = fSpn W (fun g => ∃ i, i < m + 1 ∧ g = R' i) := fSpn_congr fun g => by
          constructor
          · rintro (⟨i, hi, rfl⟩ | rfl)
            · exact ⟨i, by omega, (d6 i hi).1.symm⟩
            · exact ⟨m, by omega, g3.symm⟩
          · rintro ⟨i, hi, rfl⟩
            by_cases c : i = m
            · rw [c]; exact Or.inr g3
            · exact Or.inl ⟨i, by omega, (d6 i (by omega)).1⟩
        rw [← this, ← g1]; exact d3
      · by_cases c : i = m
        · rw [c, g2, g3]
          exact ⟨by omega, hyW, hfr, f3⟩
        · have := e3.2.1 i (by omega)
          rw [(d6 i (by omega)).1, (d6 i (by omega)).2]
          exact ⟨by omega, this.2⟩
      · by_cases c : j = m
        · rw [c, g2, (d6 i (by omega)).2]
          exact (e3.2.1 i (by omega)).1
        · rw [(d6 i (by omega)).2, (d6 j (by omega)).2]
          exact e3.2.2.1 i j hij (by omega)
      · by_cases c : j = y
        · exact ⟨m, by omega, by rw [g2, c]⟩
        · obtain ⟨i, hi, e'⟩ := e3.2.2.2 j (by omega) hfj
          exact ⟨i, by omega, by rw [(d6 i hi).2]; exact e'⟩
end YFS
/-! what the standards are -/
theorem fEch_gen {p W k : Nat} [NeZero p] (hI : fInv p) {V : fV p → Prop} (hV : fSub W V) {R : Nat → fV p} {l : Nat → Nat} (hE : fEch V k R l) {v : fV p} (hv : V v) : fSpn W (fun g => ∃ s, s < k ∧ g = R s) v := by
  have hRo : ∀ g, (∃ s, s < k ∧ g = R s) → fOk W g := by
    rintro g ⟨s, hs, rfl⟩; exact hV.1 _ (hE.1 s hs).1
  have hS := fSpn_sub hRo
  obtain ⟨u, a1, a2, a3, -⟩ := fRed hI hS (k := k) (R := R) (l := l) (fun s hs => ⟨fSpn_of ⟨s, hs, rfl⟩, (hE.1 s hs).2⟩) V hV (fun w hw => hw V hV (by rintro g ⟨s, hs, rfl⟩; exact (hE.1 s hs).1)) hv W
  have hu := hE.2.2 u a1 (fun s hs => a3 s hs (fLead_lt hV ⟨R s, (hE.1 s hs).1, (hE.1 s hs).2.1, (hE.1 s hs).2.2⟩))
  rw [hu] at a2
  have := hS.smul (-1) a2
  have e : (fun i => -1 * ((fZ : fV p) i - v i)) = v := by funext i; show -1 * ((0 : Fin p) - v i) = v i; grind
  rw [e] at this; exact this
/-- the rows found are the ones in order of all that obey the equations, taken backwards -/
theorem stR_rref {p W k m : Nat} [NeZero p] (hI : fInv p) {GE : fV p → Prop} (hGE : ∀ g, GE g → fOk W g) {R : Nat → fV p} {l : Nat → Nat} (hE : fEch (fSpn W GE) k R l) (h1 : ∀ s, s < k → R s (l s) = 1 ∧ l s < W) {Rs : Nat → fV p} {ls : Nat → Nat} (hs : stR W k R l W m Rs ls) {N : fV p → Prop} (hN : ∀ f, N f ↔ fOk W f ∧ fNul W GE (rv W f)) : fRref N m Rs ls := by
  obtain ⟨s1, s2, s3, s4⟩ := hs
  have hRok : ∀ s, s < k → fOk W (R s) := fun s hs => (fSpn_sub hGE).1 _ (hE.1 s hs).1
  have hNd : ∀ f, fOk W f → (N f ↔ ∀ s, s < k → dB W (R s) f W = 0) := fun f hf => by
    rw [hN]
    constructor
    · rintro ⟨-, h2⟩ s hs
      rw [← dB_dot]
      exact fNul_spn hGE h2 (hE.1 s hs).1
    · intro h2
      refine ⟨hf, fun i hi => if_neg (by omega), fun g hg => ?_⟩
      have h3 : fNul W (fun g => ∃ s, s < k ∧ g = R s) (rv W f) := ⟨fun i hi => if_neg (by omega), by
        rintro g ⟨s, hs, rfl⟩
        rw [dB_dot]; exact h2 s hs⟩
      exact fNul_spn (by rintro g ⟨s, hs, rfl⟩; exact hRok s hs) h3 (fEch_gen hI (fSpn_sub hGE) hE (fSpn_of hg))
  refine ⟨⟨fun i hi => ?_, fun i j hi hj e => ?_, fun v hv hv0 => ?_⟩, fun i j hi hj => ?_, s3⟩
  · obtain ⟨a1, a2, a3, a4⟩ := s2 i hi
    exact ⟨(hNd _ a4.1).mpr a4.2.2.2.2, by rw [a4.2.1]; exact hI.1, a4.2.2.1⟩
  · rcases Nat.lt_trichotomy i j with c | c | c
    · have := s3 i j c hj; omega
    · exact c
    · have := s3 j i c hi; omega
  · -- none but 0 is 0 at all free places
    have hvo := ((hN v).mp hv).1
    have hd := (hNd v hvo).mp hv
    refine Classical.byContradiction fun hne => ?_
    have hex : ∃ i, v i ≠ 0 := Classical.byContradiction fun q => hne (by
      funext i
      exact Classical.byContradiction fun z => q ⟨i, z⟩)
    obtain ⟨i0, hi0⟩ := hex
    obtain ⟨q, -, q2, q3⟩ := fFirst hi0
    have hqW : q < W := Nat.not_le.mp fun z => q2 (hvo q z)
    by_cases c : isFr W k l q
    · obtain ⟨i, hi, e⟩ := s4 q hqW c
      exact q2 (by rw [← e]; exact hv0 i hi)
    · obtain ⟨s, hs⟩ := Classical.not_forall.mp c
      obtain ⟨hs, hls⟩ := Classical.not_imp.mp hs
      have hls : l s = W - 1 - q := Classical.not_not.mp hls
      have h2 := hd s hs
      unfold dB at h2
      rw [fSum_one hqW fun j hj hne => by
        rcases Nat.lt_or_ge j q with z | z
        · rw [q3 j z]; grind
        · rw [(hE.1 s hs).2.2 (W - 1 - j) (by omega)]; grind] at h2
      rw [← hls, (h1 s hs).1] at h2
      exact q2 (by grind)
  · obtain ⟨a1, a2, a3, a4⟩ := s2 i hi
    obtain ⟨b1, b2, b3, b4⟩ := s2 j hj
    by_cases c : i = j
    · rw [if_pos c, ← c, a4.2.1]
    · rw [if_neg c]
      refine a4.2.2.2.1 (ls j) b2 (fun e => c ?_) b3
      rcases Nat.lt_trichotomy i j with z | z | z
      · have := s3 i j z hj; omega
      · exact z
      · have := s3 j i z hi; omega
