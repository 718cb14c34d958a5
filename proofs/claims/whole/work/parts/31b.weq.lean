/-! THE CLASS WRITES ITS EQUATIONS -/
section WEQ
variable {F x m A g t b s e n r kb : Nat} {C : yC} {w w1 : gW} {O O1 : zO} {S : oSt} {Z : zS} {T : Nat → Nat → Nat} {M : Nat → Nat → Nat → Int} {lb : Nat → Nat}
theorem hW.fr (h : hW C x m w O S Z) (r : oRep C O1 w1) (f : oFr C w w1) : hW C x m w1 O1 S Z := by
  obtain ⟨a1, a2, a3, a4, a5, a6, a7, a8⟩ := h
  refine ⟨a1, r, a3.sm lyX_ok (by omega) fun b h1 h2 => f.2 b fun a q hq => ?_, a4.sm lyZ_ok (by omega) fun b h1 h2 => f.2 b fun a q hq => ?_, fun a q hq => ?_, by rw [f.1]; exact a6, by rw [f.1]; exact a7, a8⟩
  · have := a5 a q hq; omega
  · have := a5 a q hq; omega
  · rw [f.1]; exact a5 a q hq
/-- a number of an object is set -/
theorem hW.cI (h : hW C x m w O S Z) {a k : Nat} {q : Nat × Nat} (hq : C.1 a = some q) (hk : (LY q)[k]? = some (0, 0, 0)) (v : Int) : ∃ w', gP q.1 k (some a) (.inl (Int32.ofInt v)) w = some w' ∧ w'.2 = w.2 ∧ hW C x m w' (oup O a (zuI (O a) k v)) S Z := by
  obtain ⟨w', e1, e2, e3⟩ := (h.2.1 a q hq).pI (LY_ok q) (SZ_pos q) k hk (Int32.ofInt v)
  rw [cvO_uI] at e2
  exact ⟨w', e1, e3.1, h.o hq e2 e3⟩
theorem hW.cFI (h : hW C x m w O S Z) {a k : Nat} {q : Nat × Nat} (hq : C.1 a = some q) (hk : (LY q)[k]? = some (0, 0, 0)) : gFI q.1 k (some a) w = some (Int32.ofInt (zI (O a) k)) := (h.2.1 a q hq).rI k hk
theorem hW.cFR (h : hW C x m w O S Z) {a k : Nat} {q : Nat × Nat} (hq : C.1 a = some q) (hk : (LY q)[k]? = some (4, 0, 0)) : gFR q.1 k (some a) w = some (C.2 a k) := (h.2.1 a q hq).rP k hk
/-- what the makers' rows are over -/
theorem zMost_pos {L : Nat} {gm : Nat → Nat} (h : zMost n T L gm) : ∀ i, i < L → 1 ≤ gm i ∧ gm i < n := by
  obtain ⟨-, -, ⟨-, e1, e2, e3, -⟩, -⟩ := h
  have up : ∀ i, i < L → 1 ≤ gm i := by
    intro i
    induction i with
    | zero => intro h0; exact e3 h0
    | succ i ih => intro hi; have := e2 i hi; have := ih (by omega); omega
  exact fun i hi => ⟨up i hi, e1 i hi⟩
theorem w_weq {p : Nat} [NeZero p] {Rb : Nat → fV p} (hF : fF F) (hI : fInv p) (h : hW C x m w O S Z) (hA : yAct C O A g t n T p r M) (hG : gSt (O g) n T) (hK : C.1 e = some (1, 98)) (hb : C.1 b = some (1, 14)) (htb : C.2 t 1 = some b) (hkb : kb ≤ 14) (hB : eAt (O b) ((n - 1) * (n - 1) * r) kb Rb lb) (hlb : ∀ i, i < kb → lb i < (n - 1) * (n - 1) * r) : ∃ (w' : gW) (O' : zO) (k : Nat) (R : Nat → fV p) (l : Nat → Nat) (L : Nat) (gm : Nat → Nat), mX5_writeEquations F t (some A) (some e) w = some w' ∧ hW C x m w' O' S Z ∧ (∀ a, a ≠ t → a ≠ e → a ≠ g → O' a = O a) ∧ zI (O' t) = zI (O t) ∧ gSt (O' g) n T ∧ yAct C O' A g t n T p r M ∧ eAt (O' e) ((n - 1) * (n - 1) * r) k R l ∧ fEch (fSpn ((n - 1) * (n - 1) * r) (gQ n r L T M gm (gL ((n - 1) * (n - 1) * r) lb kb) L 0 0 0)) k R l ∧ zMost n T L gm := by
  obtain ⟨kA, kg, kt, rt, rg⟩ := hA.1
  have hpp := hA.2.2.2.2.1
  have hp3 := hA.2.2.2.1.1
  have hn8 := hA.2.2.1
  have hr2 := hA.2.2.2.2.2.1
  have h98 := pl_98 hn8 hr2.2
  have ne := hA.ne
  have neE := hA.neE hK
  have nbe : b ≠ e := fun u => by rw [u, hK] at hb; cases hb
  have hC := h.1
  generalize hW' : (n - 1) * (n - 1) * r = W at *
  -- begin
  obtain ⟨w1, e1, h1⟩ := h.y1 (rX0_places hC hF h.2.1) hA.places
  rw [hW'] at e1
  obtain ⟨S', b1, b2⟩ := y_begin (F := F) (C := C) (O := O) (W := W) hK h98 (show p < 100 by omega) (fun _ _ => (0 : Fin p)) (fun _ => 0)
  obtain ⟨w2, e2, h2⟩ := h1.y0 (rX1_begin (v1' := (Int32.ofInt (W : Nat) - (1 : Int32)) + (1 : Int32)) (v2' := Int32.ofInt (zI (O A) 3)) hC hF (by
    show _ = Int32.ofInt ((W : Nat) : Int)
    rw [show (1 : Int32) = Int32.ofInt 1 from rfl, ← Int32.ofInt_sub, ← Int32.ofInt_add, show ((W : Nat) : Int) - 1 + 1 = (W : Nat) by omega]) (by rw [hp3]) h1.2.1) b1
  have fI3 : gFI 0 3 (some A) w1 = some (Int32.ofInt (zI (O A) 3)) := h1.cFI (q := (0, 0)) kA rfl
  have ok2 : ∀ a, a ≠ e → (oup O e S') a = O a := fun a ha => oup_n ha
  have hA2 : yAct C (oup O e S') A g t n T p r M := hA.keep (ok2 A neE.1) (ok2 g neE.2.1)
  have hB2 : eAt (oup O e S' b) W kb Rb lb := by rw [ok2 b nbe]; exact hB
  have hE2 : eAt (p := p) (oup O e S' e) W 0 (fun _ _ => (0 : Fin p)) (fun _ => 0) := by rw [oup_s]; exact b2
  -- what the first loop leaves
  let HH : zO → Prop := fun Y => oK (oup O e S') Y t e ∧ ∃ (k : Nat) (R : Nat → fV p) (l : Nat → Nat), eAt (Y e) W k R l ∧ fEch (fSpn W (gL W lb kb)) k R l
  let kk : Nat → Option Nat → Option Nat → zO → Option zO := fun a1 a2 a3 Y => @ite _ (a1 = t ∧ a2 = some A ∧ a3 = some e ∧ HH Y) (Classical.propDecidable _) (some Y) none
  let E : zO → gW → Prop := fun Y q => ∃ (O' : zO) (k : Nat) (R : Nat → fV p) (l : Nat → Nat) (L : Nat) (gm : Nat → Nat), hW C x m q O' S Z ∧ (∀ a, a ≠ t → a ≠ e → a ≠ g → O' a = O a) ∧ zI (O' t) = zI (O t) ∧ gSt (O' g) n T ∧ yAct C O' A g t n T p r M ∧ eAt (O' e) W k R l ∧ fEch (fSpn W (gQ n r L T M gm (gL W lb kb) L 0 0 0)) k R l ∧ zMost n T L gm
  have cont : ∀ (a1 : Nat) (a2 : Option Nat) (a3 : Option Nat) (Y : zO) (b2 : (Option Nat)) (b3 : (Option Nat)) (w : gW), b2 = a2 → b3 = a3 → oRep C Y w → oFr C w2 w → zR E (kk a1 a2 a3 Y) ((gFR 0 2 b2 w).bind fun t73 => (gO 2 t73 w).bind fun a76 => (mX2_findMakers F a76 w).bind fun q76 => mX5_writeEquations_l84 F F a1 b2 b3 q76.1 (0 : Int32) q76.2) := by
    intro a1 a2 a3 Y b2 b3 w q2 q3 hY hf
    intro r hr
    have hcond : a1 = t ∧ a2 = some A ∧ a3 = some e ∧ HH Y := Classical.byContradiction fun u => by
      have : kk a1 a2 a3 Y = none := if_neg u
      rw [this] at hr; cases hr
    have hkk : kk a1 a2 a3 Y = some Y := if_pos hcond
    obtain ⟨rfl, rfl, rfl, hOK, k, R, l, he1, he2⟩ := hcond
    subst q2 q3
    rw [hkk] at hr
    cases hr
    have hw := h2.fr hY hf
    have eg : Y g = O g := (hOK.1 g ne.2.1 neE.2.1).trans (ok2 g neE.2.1)
    obtain ⟨w3, O3, L, gm, f1, f2, f3, f4, f5, f6, f7⟩ := hw.mk hF kg (by rw [eg]; exact hG)
    have hYA : yAct C Y A g a1 n T p r M := hA2.k hK hOK
    have e3A : O3 A = Y A := f3 A ne.2.2
    have hA3 : yAct C O3 A g a1 n T p r M := by
      obtain ⟨u1, u2, u3, u4, u5, u6, u7⟩ := hYA
      exact ⟨u1, f4.1, u3, by rw [e3A]; exact u4, u5, u6, by rw [e3A]; exact u7⟩
    have e3e : O3 e = Y e := f3 e fun u => neE.2.1 u.symm
    have pos := zMost_pos f5
    obtain ⟨O4, k', R', l', z1, z2, z3, z4⟩ := y_we2 (G1 := gL W lb kb) (L := L) (gm := gm) hF hI hA3 hK (by rw [hW']; exact fun g' hg' => gL_ok hlb hg') (by rw [hW', e3e]; exact he1) (by rw [hW']; exact he2) f5.1 (fun i hi => ⟨f7 i hi, pos i hi⟩)
    rw [hW'] at z3 z4
    obtain ⟨w4, y1, y2⟩ := f2.y0 (rX5_writeEquations_l84 (w0 := w3) hC hF F a1 (some A) (some e) (L : Int) 0 O3 (some A) (some e) (nI L) 0 w3 rfl rfl (iO_nat L).symm rfl f2.2.1 oFr.rf) z1
    have ff : gFR 0 2 (some A) w = some (some g) := by
      have := hw.cFR (q := (0, 0)) kA (k := 2) rfl
      rw [rg] at this; exact this
    refine ⟨w4, ?_, O4, k', R', l', L, gm, y2, fun a q1 q2 q3 => ?_, ?_, ?_, ?_, z3, z4, f5⟩
    · rw [ff, Option.bind_some, hw.gO kg, Option.bind_some, f1, Option.bind_some]
      exact y1
    · rw [z2.1 a q1 q2, f3 a q3, hOK.1 a q1 q2, ok2 a q2]
    · rw [z2.2, f3 a1 fun u => ne.2.1 u.symm, hOK.2, ok2 a1 neE.2.2]
    · rw [z2.1 g ne.2.1 neE.2.1]; exact f4
    · exact hA3.k hK z2
  have rl := rX5_writeEquations_l21 (w0 := w2) (E := E) (k72 := kk) (k72' := fun (v0 : Nat) (v1 : Option Nat) (v2 : Option Nat) (w : gW) => (gFR 0 2 v1 w).bind fun t73 => (gO 2 t73 w).bind fun a76 => (mX2_findMakers F a76 w).bind fun q76 => mX5_writeEquations_l84 F F v0 v1 v2 q76.1 (0 : Int32) q76.2) hC hF cont F t (some A) (some e) ((W : Int) - 1) 0 (oup O e S') (some A) (some e) (Int32.ofInt (W : Nat) - (1 : Int32)) 0 w2 rfl rfl (by rw [show (1 : Int32) = Int32.ofInt 1 from rfl, ← Int32.ofInt_sub]) rfl h2.2.1 oFr.rf
  have hz : ∃ Y, zX5_writeEquations_l21 F C kk F t (some A) (some e) ((W : Int) - 1) 0 (oup O e S') = some Y := by
    have := y_we1 (k := 0) (kk := kk) (P := fun o => ∃ Y, o = some Y) hF hI hA2 hK hb htb nbe hkb (by rw [hW']; exact hB2) (by rw [hW']; exact hE2) (fun O1 k R l q1 q2 q3 => by
      rw [hW'] at q2 q3
      exact ⟨O1, if_pos ⟨rfl, rfl, rfl, q1, k, R, l, q2, q3⟩⟩)
    rw [hW'] at this
    exact this
  obtain ⟨Y, hY⟩ := hz
  obtain ⟨q, hq, O', k, R, l, L, gm, r1, r2, r3, r4, r5, r6, r7, r8⟩ := rl Y hY
  refine ⟨q, O', k, R, l, L, gm, ?_, r1, r2, r3, r4, r5, r6, r7, r8⟩
  unfold mX5_writeEquations
  rw [h.gO kA, Option.bind_some, e1, Option.bind_some]
  dsimp only
  rw [fI3, Option.bind_some, h1.gO hK, Option.bind_some, e2, Option.bind_some]
  exact hq
end WEQ
