/-! THE MODEL: what it knows of a module -/
section MKM
variable {n m g r k : Nat} {T : Nat → Nat → Nat} {M : Nat → Nat → Nat → Int}
theorem sv_z {p : Nat} [NeZero p] (h : fV p) (i : Nat) : sv r h 0 i = 0 := if_pos rfl
theorem pv_cb {p : Nat} [NeZero p] (G : zGrp n T) (hM : sdM (p := p) n r T M) (h : fV p) {x y i : Nat} (hx : x < n) (hy : y < n) (hi : i < r) : pv n r (cbD n r T M h) x y i = cbv r T M h x y i := by
  by_cases c1 : x = 0
  · rw [c1]
    unfold cbv
    rw [sv_z, (G.2.2.1 y hy).1, fSum_one hi fun j hj hne => by rw [hM.1 i j hi hj, if_neg (fun e => hne e.symm)]; grind]
    rw [hM.1 i i hi hi, if_pos rfl]
    show (if 0 = 0 ∨ y = 0 then 0 else _) = _
    rw [if_pos (Or.inl rfl)]; grind
  · by_cases c2 : y = 0
    · rw [c2]
      unfold cbv
      rw [fSum_z fun j _ => by rw [sv_z]; grind, (G.2.2.1 x hx).2]
      show (if x = 0 ∨ 0 = 0 then 0 else _) = _
      rw [if_pos (Or.inr rfl)]; grind
    · show (if x = 0 ∨ y = 0 then 0 else _) = _
      rw [if_neg (by omega), cbD_at h (by omega) hx (by omega) hy hi]
theorem cb_Z2 {p : Nat} [NeZero p] (G : zGrp n T) (hM : sdM (p := p) n r T M) (hr : r = 1 ∨ r = 2) (h : fV p) : Z2 n r T M (cbD n r T M h) := by
  unfold Z2
  refine (Z2_iff G (fun _ => True) _).mpr ⟨fun i hi => if_neg (by omega), fun x y z i _ _ hx _ hy _ hz hi => ?_⟩
  have hxy := G.2.1 x y hx hy
  have hyz := G.2.1 y z hy hz
  have as1 : T (T x y) z = T x (T y z) := G.2.2.2.1 x y z hx hy hz
  have hm := fun k hk => hM.2 x y i k hx hy hi hk
  have hp := fun x y i hx hy hi => pv_cb G hM h (x := x) (y := y) (i := i) hx hy hi
  unfold cL
  rw [hp _ _ i hx hyz hi, hp _ _ i hxy hz hi, hp _ _ i hx hy hi, fSum_congr fun j hj => by rw [hp _ _ j hy hz hj]]
  unfold cbv
  rw [as1]
  rcases hr with e | e
  · subst e
    have hm0 := hm 0 (by omega)
    simp only [fSum] at *
    rw [hm0]
    have e0 : i = 0 := by omega
    subst e0
    grind
  · subst e
    have hm0 := hm 0 (by omega)
    have hm1 := hm 1 (by omega)
    simp only [fSum] at *
    rw [hm0, hm1]
    grind
theorem gB_Z2 {p : Nat} [NeZero p] (G : zGrp n T) (hM : sdM (p := p) n r T M) (hr : r = 1 ∨ r = 2) {f : fV p} (h : fSpn ((n - 1) * (n - 1) * r) (gB n r T M) f) : Z2 n r T M f := by
  refine h _ (fNul_sub _) ?_
  rintro g ⟨u, j, -, -, -, rfl⟩
  exact cb_Z2 G hM hr _
/-- what is orthogonal is made of the lines V, and up to B of the lines u -/
theorem nvP_both {p W : Nat} [NeZero p] (hI : fInv p) {Gn : fV p → Prop} (hG : ∀ g, Gn g → fOk W g) {R : Nat → fV p} {l : Nat → Nat} (hE : fRref (fSpn W Gn) k R l) {m : Nat} {V u : Nat → fV p} {B : fV p → Prop} (hB : fSub W B) (hV : ∀ q, q < W → (∀ s, s < k → l s ≠ q) → ∃ c, c < m ∧ nvP W k R l q (V c)) (hu : ∀ c, c < m → fOk W (u c) ∧ B (fun i => u c i - V c i)) {f : fV p} (hf : fNul W Gn f) : ∃ g2, fSpn W (fun g => ∃ c, c < m ∧ g = u c) g2 ∧ B (fun i => g2 i - f i) := by
  have hS := fSpn_sub hG
  have hN := fNul_sub (p := p) (W := W) Gn
  have hU : fSub W (fSpn W (fun g => ∃ c, c < m ∧ g = u c)) := fSpn_sub (by rintro g ⟨c, hc, rfl⟩; exact (hu c hc).1)
  have key : ∀ q, q ≤ W → ∃ g g2, fNul W Gn g ∧ fSpn W (fun g => ∃ c, c < m ∧ g = u c) g2 ∧ B (fun i => g2 i - g i) ∧ ∀ j, j < q → (∀ s, s < k → l s ≠ j) → g j = f j := by
    intro q
    induction q with
    | zero =>
      intro _
      refine ⟨fZ, fZ, hN.2.1, hU.2.1, ?_, fun j hj => by omega⟩
      have e : (fun i => (fZ : fV p) i - (fZ : fV p) i) = (fZ : fV p) := by funext i; show (0 : Fin p) - 0 = 0; grind
      rw [e]; exact hB.2.1
    | succ q ih =>
      intro hq
      obtain ⟨g, g2, h1, h2, h3, h4⟩ := ih (by omega)
      by_cases c1 : ∀ s, s < k → l s ≠ q
      · obtain ⟨c, hc, hv⟩ := hV q (by omega) c1
        have hn := (nvP_nul hI hG hE (by omega) c1 hv).1
        refine ⟨fAx g (f q - g q) (V c), fAx g2 (f q - g q) (u c), hN.2.2 _ _ _ h1 hn, hU.2.2 _ _ _ h2 (fSpn_of ⟨c, hc, rfl⟩), ?_, fun j hj hjl => ?_⟩
        · have := hB.2.2 _ _ (f q - g q) h3 (hu c hc).2
          have e : fAx (fun i => g2 i - g i) (f q - g q) (fun i => u c i - V c i) = fun i => fAx g2 (f q - g q) (u c) i - fAx g (f q - g q) (V c) i := by
            funext i; show g2 i - g i + (f q - g q) * (u c i - V c i) = g2 i + (f q - g q) * u c i - (g i + (f q - g q) * V c i); grind
          rw [e] at this; exact this
        · show g j + (f q - g q) * V c j = f j
          by_cases c2 : j = q
          · rw [c2, hv.2.1]; grind
          · rw [hv.2.2.1 j (by omega) c2 hjl, h4 j (by omega) hjl]; grind
      · refine ⟨g, g2, h1, h2, h3, fun j hj hjl => h4 j ?_ hjl⟩
        by_cases c2 : j = q
        · subst c2; exact (c1 hjl).elim
        · omega
  obtain ⟨g, g2, h1, h2, h3, h4⟩ := key W (Nat.le_refl _)
  refine ⟨g2, h2, ?_⟩
  have hd := hN.sub h1 hf
  have e : g = f := by
    funext j
    rcases Nat.lt_or_ge j W with c | c
    · by_cases c2 : ∀ s, s < k → l s ≠ j
      · exact h4 j c c2
      · have c3 : ∃ s, s < k ∧ l s = j := Classical.byContradiction fun q => c2 fun s hs e => q ⟨s, hs, e⟩
        obtain ⟨s, hs, rfl⟩ := c3
        have h5 := fNul_spn hG hd (hE.1.1 s hs).1
        rw [fDot_one (R s) _ W (l s) c (fun j hj hne => by
          show R s j * (g j - f j) = 0
          by_cases c4 : ∃ t, t < k ∧ l t = j
          · obtain ⟨t, ht, rfl⟩ := c4
            have hst : s ≠ t := fun e => hne (by rw [e])
            rw [hE.2.1 s t hs ht, if_neg hst]; grind
          · rw [h4 j hj (fun t ht e => c4 ⟨t, ht, e⟩)]; grind), hE.2.1 s s hs hs, if_pos rfl] at h5
        have h6 : (1 : Fin p) * (g (l s) - f (l s)) = 0 := h5
        grind
    · rw [h1.1 j c, hf.1 j c]
  rw [← e]; exact h3
/-- the lines, less their bounds, make the standards -/
theorem NS_span {p W m : Nat} [NeZero p] (hI : fInv p) (G : zGrp n T) (hM : sdM (p := p) n r T M) (hr : r = 1 ∨ r = 2) (hW : W = (n - 1) * (n - 1) * r) {R : Nat → fV p} {l : Nat → Nat} (hE : fRref (fSpn W (gC (p := p) n r T M fun _ => True)) k R l) {kB : Nat} {RB : Nat → fV p} {lB : Nat → Nat} (hEB : fEch (fSpn W (gB (p := p) n r T M)) kB RB lB) {V u : Nat → fV p} (hV : ∀ q, q < W → (∀ s, s < k → l s ≠ q) → ∃ c, c < m ∧ nvP W k R l q (V c)) (hVn : ∀ c, c < m → Z2 n r T M (V c)) (hu : ∀ c, c < m → fOk W (u c) ∧ fSpn W (gB n r T M) (fun i => u c i - V c i) ∧ ∀ s, s < kB → u c (lB s) = 0) (f : fV p) : fSpn W (fun g => ∃ c, c < m ∧ g = u c) f ↔ NS n r T M f := by
  subst hW
  have hGC : ∀ g, gC (p := p) n r T M (fun _ => True) g → fOk ((n - 1) * (n - 1) * r) g := by
    rintro g ⟨x, y, z, i, -, a1, a2, a3, a4, a5, a6, a7, rfl⟩
    exact cR_ok G a1 a2 a3 a4 a5 a6 a7
  have hB := fSpn_sub (fun g (hg : gB (p := p) n r T M g) => gB_ok hg)
  have hl := fEch_lead hI hB hEB
  have hN : fSub ((n - 1) * (n - 1) * r) (NS (p := p) n r T M) := fAway_sub (fNul_sub _)
  have hZ : fSub ((n - 1) * (n - 1) * r) (Z2 (p := p) n r T M) := fNul_sub _
  have hun : ∀ c, c < m → NS n r T M (u c) := by
    intro c hc
    refine ⟨?_, fun i hi => ?_⟩
    · have := hZ.add (gB_Z2 G hM hr (hu c hc).2.1) (hVn c hc)
      have e : (fun i => (u c i - V c i) + V c i) = u c := by funext i; grind
      rw [e] at this; exact this
    · obtain ⟨s, hs, rfl⟩ := (hl i).mp hi
      exact (hu c hc).2.2 s hs
  constructor
  · intro h
    refine h _ hN ?_
    rintro g ⟨c, hc, rfl⟩
    exact hun c hc
  · intro h
    obtain ⟨g2, h1, h2⟩ := nvP_both hI hGC hE hB hV (fun c hc => ⟨(hu c hc).1, (hu c hc).2.1⟩) h.1
    have h3 : NS n r T M g2 := h1 _ hN (by rintro g ⟨c, hc, rfl⟩; exact hun c hc)
    have h4 := hEB.2.2 _ h2 (fun s hs => by
      show g2 (lB s) - f (lB s) = 0
      rw [h3.2 _ ((hl _).mpr ⟨s, hs, rfl⟩), h.2 _ ((hl _).mpr ⟨s, hs, rfl⟩)]; grind)
    have e : g2 = f := by
      funext i
      have h5 : g2 i - f i = 0 := congrFun h4 i
      grind
    rw [← e]; exact h1
end MKM
