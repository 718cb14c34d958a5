/-! THE CLASS SOLVES A MODULE -/
theorem NS_h12 {p n r kb k : Nat} [NeZero p] {T : Nat → Nat → Nat} {M : Nat → Nat → Nat → Int} (hI : fInv p) (G : zGrp n T) (hn : n ≤ 8) (hM : sdM (p := p) n r T M) (hr : r = 1 ∨ r = 2) {GE : fV p → Prop} (hGE : ∀ g, GE g → fOk ((n - 1) * (n - 1) * r) g) {R : Nat → fV p} {l : Nat → Nat} (hE : fEch (fSpn ((n - 1) * (n - 1) * r) GE) k R l) (h1 : ∀ s, s < k → R s (l s) = 1 ∧ l s < (n - 1) * (n - 1) * r) (hN : ∀ f, NS n r T M f ↔ fOk ((n - 1) * (n - 1) * r) f ∧ fNul ((n - 1) * (n - 1) * r) GE (rv ((n - 1) * (n - 1) * r) f)) {Rb : Nat → fV p} {lb : Nat → Nat} (hB : fEch (fSpn ((n - 1) * (n - 1) * r) (gB (p := p) n r T M)) kb Rb lb) (hu : ∀ fr, fr < (n - 1) * (n - 1) * r → isFr ((n - 1) * (n - 1) * r) k l fr → ∃ u, stF ((n - 1) * (n - 1) * r) k R l fr u) : nC (isFr ((n - 1) * (n - 1) * r) k l) ((n - 1) * (n - 1) * r) ≤ 12 := by
  classical
  generalize hW : (n - 1) * (n - 1) * r = W at *
  obtain ⟨e, e1, e2, e3⟩ := nEnum (isFr W k l) W
  let Rs : Nat → fV p := fun i => if q : ∃ u, stF W k R l (e i) u then q.choose else fZ
  have hRs : ∀ i, i < nC (isFr W k l) W → stF W k R l (e i) (Rs i) := fun i hi => by
    have q := hu (e i) (e1 i hi).1 (e1 i hi).2
    show stF W k R l (e i) (if q : ∃ u, stF W k R l (e i) u then q.choose else fZ)
    rw [dif_pos q]
    exact q.choose_spec
  have mono : ∀ j, j < nC (isFr W k l) W → ∀ i, i < j → e i < e j := by
    intro j
    induction j with
    | zero => intro _ i hi; omega
    | succ j ih =>
      intro hj i hi
      have h2 := e2 j hj
      by_cases c : i = j
      · rw [c]; exact h2
      · have := ih (by omega) i (by omega)
        omega
  have hst : stR W k R l W (nC (isFr W k l) W) Rs e := ⟨rfl, fun i hi => ⟨(e1 i hi).1, (e1 i hi).1, (e1 i hi).2, hRs i hi⟩, fun i j hij hj => mono j hj i hij, fun j hj hfr => e3 j hj hfr⟩
  have hR := stR_rref hI hGE hE h1 hst hN
  obtain ⟨m, m1, m2⟩ := Ctl_all (p := p) G hn hM hr
  have := Ctl_few hI G hM m2 hR (by rw [hW]; exact hB)
  rcases hr with rfl | rfl <;> omega
section SLV
variable {F x m A g t b s n r : Nat} {C C' : yC} {w w1 : gW} {O O1 : zO} {S : oSt} {Z : zS} {T : Nat → Nat → Nat} {M : Nat → Nat → Nat → Int}
/-- more objects, the old ones as they were -/
def cEx (C C' : yC) : Prop := ∀ a q, C.1 a = some q → C'.1 a = some q ∧ ∀ k, C'.2 a k = C.2 a k
theorem cEx.rf : cEx C C := fun _ _ h => ⟨h, fun _ => rfl⟩
theorem cEx.tr {C2 : yC} (h1 : cEx C C') (h2 : cEx C' C2) : cEx C C2 := fun a q h => ⟨(h2 a q (h1 a q h).1).1, fun k => ((h2 a q (h1 a q h).1).2 k).trans ((h1 a q h).2 k)⟩
theorem yAct.cx {p : Nat} (h : yAct C O A g t n T p r M) (hc : cEx C C') : yAct C' O A g t n T p r M := by
  obtain ⟨⟨a1, a2, a3, a4, a5⟩, h2⟩ := h
  exact ⟨⟨(hc A _ a1).1, (hc g _ a2).1, (hc t _ a3).1, ((hc A _ a1).2 1).trans a4, ((hc A _ a1).2 2).trans a5⟩, h2⟩
/-- what a module of the class refers to -/
def yKd (C : yC) (A t b s : Nat) : Prop := C.1 b = some (1, 14) ∧ C.2 t 1 = some b ∧ C.1 s = some (1, 12) ∧ C.2 t 2 = some s
theorem yKd.cx (h : yKd C A t b s) (ht : C.1 t = some (5, 0)) (hc : cEx C C') : yKd C' A t b s := by
  obtain ⟨a1, a2, a3, a4⟩ := h
  exact ⟨(hc b _ a1).1, ((hc t _ ht).2 1).trans a2, (hc s _ a3).1, ((hc t _ ht).2 2).trans a4⟩
theorem oup_k (O : zO) (a b k : Nat) (v : Int) (l : Nat) (hl : l ≠ k ∨ b ≠ a) : zI (oup O a (zuI (O a) k v) b) l = zI (O b) l := by
  by_cases c : b = a
  · subst c
    rw [oup_s]
    exact if_neg (by omega)
  · rw [oup_n c]
theorem yAct.i6 {p : Nat} {v : Int} (h : yAct C O A g t n T p r M) : yAct C (oup O A (zuI (O A) 6 v)) A g t n T p r M := by
  have ne := h.ne
  obtain ⟨h1, h2, h3, h4, h5, h6, h7⟩ := h
  refine ⟨h1, by rw [oup_n (by omega)]; exact h2, h3, ⟨?_, ?_⟩, h5, h6, by rw [oup_s]; exact h7⟩
  · rw [oup_k O A A 6 v 3 (by omega)]; exact h4.1
  · rw [oup_k O A A 6 v 4 (by omega)]; exact h4.2
theorem w_solve_b35 {p e : Nat} [NeZero p] (hF : fF F) (hI : fInv p) (h : hW C x m w O S Z) (hA : yAct C O A g t n T p r M) (hk : yKd C A t b s) (hG : gSt (O g) n T) (he : oP S 6 = some e) (hK : C.1 e = some (1, 98)) (hs : sdV n p r T M = 0) : ∃ (w' : gW) (O' : zO), mX6_solve_b35 F x (some A) w = some w' ∧ hW C x m w' O' S Z ∧ (∀ a, a ≠ A → a ≠ t → a ≠ b → a ≠ s → a ≠ e → a ≠ g → O' a = O a) ∧ gSt (O' g) n T ∧ yAct C O' A g t n T p r M ∧ zI (O' A) 5 = zI (O A) 5 ∧ zI (O' A) 6 = 1 ∧ ySol p O' t b s n r T M := by
  obtain ⟨kb, hb, htb, hs', hts⟩ : ∃ k : Nat, C.1 b = some (1, 14) ∧ C.2 t 1 = some b ∧ C.1 s = some (1, 12) ∧ C.2 t 2 = some s := ⟨0, hk⟩
  have hC := h.1
  have kA := hA.1.1
  have kg := hA.1.2.1
  have kt := hA.1.2.2.1
  have rt := hA.1.2.2.2.1
  have G := hA.2.1.2.2.1
  have hn8 := hA.2.2.1
  have hp := hA.2.2.2.2.1
  have hr2 := hA.2.2.2.2.2.1
  have hr : r = 1 ∨ r = 2 := by omega
  have hM := sdM_of (p := p) G hs
  have ne := hA.ne
  have neE := hA.neE hK
  have neB := hA.neE hb
  have neS := hA.neE hs'
  have nbe : b ≠ e := fun u => by rw [u, hK] at hb; cases hb
  have nse : s ≠ e := fun u => by rw [u, hK] at hs'; cases hs'
  have nbs : b ≠ s := fun u => by rw [u, hs'] at hb; cases hb
  -- unmoved
  obtain ⟨O1, k0, R0, l0, u1, u2, u3, u4, u5, u6, u7⟩ := y_findUnmoved hF hI hA hK
  obtain ⟨w1, e1, h1⟩ := h.y0 (rX5_findUnmoved (v1' := some A) (v2' := some e) hC hF rfl rfl h.2.1) u1
  have hA1 : yAct C O1 A g t n T p r M := hA.keep (u2 A (by omega) (by omega)) (u2 g (by omega) (by omega))
  -- bounds
  obtain ⟨O2, kB, RB, lB, b1, b2, b3, b4, b5, b6⟩ := y_findBounds hF hI hA1 hb htb
  obtain ⟨w2, e2, h2⟩ := h1.y0 (rX5_findBounds (v1' := some A) hC hF rfl h1.2.1) b1
  have hA2 : yAct C O2 A g t n T p r M := hA1.keep (b2 A (by omega) (by omega)) (b2 g (by omega) (by omega))
  have kB14 : kB ≤ 14 := by
    have := gB_few hI b6
    have : (n - 1) * r ≤ 14 := by rcases hr with rfl | rfl <;> omega
    omega
  have hG2 : gSt (O2 g) n T := by rw [b2 g (by omega) (by omega), u2 g (by omega) (by omega)]; exact hG
  -- equations
  obtain ⟨w3, O3, k, R, l, L, gm, e3, h3, c1, c2, c3, c4, c5, c6, c7⟩ := w_weq hF hI h2 hA2 hG2 hK hb htb kB14 b5 (fun i hi => (b5.2.2.1 i hi).1.1)
  have pos := zMost_pos c7
  have hGE : ∀ g', gQ (p := p) n r L T M gm (gL ((n - 1) * (n - 1) * r) lB kB) L 0 0 0 g' → fOk ((n - 1) * (n - 1) * r) g' := fun g' hg' => gQ_ok (fun g2 hg2 => gL_ok (fun i hi => (b5.2.2.1 i hi).1.1) hg2) hg'
  have hN := NS_iff (p := p) hI G hM hr pos c7.2.2.1.2.2.2.2 b6
  have hu : ∀ fr, fr < (n - 1) * (n - 1) * r → isFr ((n - 1) * (n - 1) * r) k l fr → ∃ u, stF ((n - 1) * (n - 1) * r) k R l fr u := fun fr h1 h2 => by
    obtain ⟨f, u, -, -, q⟩ := y_writeStandard (t := t) hF hI kt hK (by have := fEch_count hI (fSpn_sub fun g hg => hGE g hg) c6; have := nC_le (fLead (fSpn ((n - 1) * (n - 1) * r) (gQ (p := p) n r L T M gm (gL ((n - 1) * (n - 1) * r) lB kB) L 0 0 0))) ((n - 1) * (n - 1) * r); have := pl_98 hn8 hr2.2; omega) hp.2 c5 h1 h2
    exact ⟨u, q⟩
  have h1' : ∀ s, s < k → R s (l s) = 1 ∧ l s < (n - 1) * (n - 1) * r := fun i hi => ⟨(c5.2.2.1 i hi).2.1, (c5.2.2.1 i hi).1.1⟩
  have h12 := NS_h12 hI G hn8 hM hr hGE c6 h1' hN b6 hu
  -- standards
  obtain ⟨O4, H, Rs, ls, s1, s2, s3, s4, s5, s6⟩ := y_findStandards hF hI c4 hK hs' hts nse c5 h12
  obtain ⟨w4, e4, h4⟩ := h3.y0 (rX5_findStandards (v1' := some A) (v2' := some e) hC hF rfl rfl h3.2.1) s1
  have href := stR_rref hI hGE c6 h1' s6 hN
  have H12 : H ≤ 12 := by have := s6.1; omega
  have hA4 : yAct C O4 A g t n T p r M := c4.keep (s2 A (by omega) (by omega)) (s2 g (by omega) (by omega))
  obtain ⟨w5, e5, e5', h5⟩ := h4.cI kA (k := 6) rfl (1 : Int)
  refine ⟨w5, _, ?_, h5, ?_, ?_, hA4.i6, ?_, ?_, ?_⟩
  · have f1 : gFR 0 1 (some A) w = some (some t) := by rw [h.cFR kA (k := 1) rfl, rt]
    have f6 : ∀ {w' : gW} {O' : zO}, hW C x m w' O' S Z → gFR 6 6 (some x) w' = some (some e) := fun hw => by
      rw [hw.2.2.1.rP 6 rfl, he]
    unfold mX6_solve_b35
    rw [f1, Option.bind_some, f6 h, Option.bind_some, h.gO kt, Option.bind_some, e1, Option.bind_some, h1.gO kt, Option.bind_some, e2, Option.bind_some, f6 h2, Option.bind_some, h2.gO kt, Option.bind_some, e3, Option.bind_some, f6 h3, Option.bind_some, h3.gO kt, Option.bind_some, e4, Option.bind_some]
    exact (congrArg (fun o => o.bind fun w74 => some w74) e5).trans rfl
  · intro a q1 q2 q3 q4 q5 q6
    rw [oup_n q1, s2 a q2 q4, c1 a q2 q5 q6, b2 a q2 q3, u2 a q2 q5]
  · rw [oup_n (by omega), s2 g (by omega) (by omega)]; exact c3
  · rw [oup_k O4 A A 6 _ 5 (by omega), s2 A (by omega) (by omega), c1 A (by omega) (by omega) (by omega), b2 A (by omega) (by omega), u2 A (by omega) (by omega)]
  · rw [oup_s]; rfl
  · have eb : O4 b = O2 b := by rw [s2 b (by omega) (by omega), c1 b (by omega) (by omega) (fun u => neB.2.1 u.symm)]
    have h0 : k0 = dm0 p n r M := fEch_count hI (fSpn_sub fun g hg => by obtain ⟨x, i, -, -, -, rfl⟩ := hg; exact fun j hj => if_neg (by omega)) u6
    refine ⟨kB, H, RB, Rs, lB, ls, ?_, kB14, b6, ?_, H12, href, ?_, ?_, ?_, ?_⟩
    · rw [oup_n (by omega), eb]; exact b5
    · rw [oup_n (by omega)]; exact s5
    · rw [oup_n (by omega), s3 3 (by omega), c2, b3 3 (by omega), u4, h0]
    · rw [oup_n (by omega), s3 4 (by omega), c2, b3 4 (by omega), u5, h0]
    · rw [oup_n (by omega), s3 5 (by omega), c2, b4]
    · rw [oup_n (by omega), s4, Int.natCast_pow]
end SLV
