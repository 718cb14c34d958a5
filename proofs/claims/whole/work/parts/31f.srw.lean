theorem zA_fl (S : zS) (k len : Nat) (v : Int) (l : Nat) : zA (zfl S k len v) l = if l = k then (fun i => if 0 ≤ i ∧ i < (len : Int) then v else zA S k i) else zA S l := rfl
section SRW
variable {F x m e a1 a2 n1 n2 N : Nat} {C : yC} {w : gW} {O : zO} {S : oSt} {Z : zS} {T1 T2 : Nat → Nat → Nat}
theorem w_search (hF : fF F) (h : hW C x m w O S Z) (hE : C.1 e = some (3, 0)) (hK1 : C.1 a1 = some (2, 0)) (hK2 : C.1 a2 = some (2, 0)) (G1 : gSt (O a1) n1 T1) (G2 : gSt (O a2) n2 T2) (h12 : a1 = a2 → n1 = n2 ∧ T1 = T2) (hN : N ≤ 20000) : ∃ (w' : gW) (O' : zO) (L : Nat) (q : Nat → Nat), mX3_search F e (some a1) (some a2) (nI N) w = some (Int32.ofInt (smR n1 T1 n2 T2 L q N), w') ∧ hW C x m w' O' S Z ∧ (∀ b, b ≠ a1 → b ≠ e → O' b = O b) ∧ gSt (O' a1) n1 T1 ∧ (n1 = n2 → zLike n1 T1 T2 → zMost n1 T1 L q) := by
  have ne1 : a1 ≠ e := fun u => by rw [u, hE] at hK1; cases hK1
  have ne2 : a2 ≠ e := fun u => by rw [u, hE] at hK2; cases hK2
  have s1 : gFI 2 7 (some a1) w = some (nI n1) := by
    rw [h.cFI hK1 (k := 7) rfl, G1.1.1, iO_nat]
  have s2 : gFI 2 7 (some a2) w = some (nI n2) := by
    rw [h.cFI hK2 (k := 7) rfl, G2.1.1, iO_nat]
  have b1 := G1.1.2.1
  have b2 := G2.1.2.1
  unfold mX3_search
  rw [s1, Option.bind_some, s2, Option.bind_some]
  by_cases c : n1 = n2
  · subst c
    rw [if_pos rfl, h.gO hE, Option.bind_some]
    have r1 := h.1.2 a1 e _ _ hK1 hE ne1
    have r2 := h.1.2 a2 e _ _ hK2 hE ne2
    obtain ⟨w1, f, r, e1, e2, e3, e4⟩ := c_likeInPeriods hF G1.1.2.2.1 G2.1.2.2.1 (h.2.1 e _ hE) (zAt_of h hK1 G1.1) (zAt_of h hK2 G2.1) r1 r2 (zDone_of G1.2.1) (zDone_of G2.2.1)
    have h1 := h.g hE lyM_k e2 e3
    rw [e1, Option.bind_some]
    try dsimp only
    rcases e4 with ⟨rfl, e4⟩ | ⟨rfl, e4⟩
    · rw [if_neg (by decide), h1.gO hK1, Option.bind_some]
      obtain ⟨w2, O2, L, gg, f1, h2, f2, f3, f4, f5, f6⟩ := h1.mk hF hK1 (by rw [oup_n ne1]; exact G1)
      obtain ⟨w3, p1, p2, h3⟩ := h2.cI hE (k := 7) rfl (L : Int)
      have hL := f4.1
      have hgg : ∀ i, i < L → gg i < n1 := f4.2.2.1.2.1
      have O3a : ∀ b, b ≠ e → oup O2 e (zuI (O2 e) 7 (L : Int)) b = O2 b := fun b hb => oup_n hb
      have O37 : zI (oup O2 e (zuI (O2 e) 7 (L : Int)) e) 7 = L := by rw [oup_s]; rfl
      have G21 : gSt (O2 a2) n1 T2 := by
        by_cases t : a2 = a1
        · rw [t, ← (h12 t.symm).2]; exact f3
        · rw [f2 a2 t, oup_n ne2]; exact G2
      obtain ⟨O4, l1, l2, l3⟩ := y_layPaths (F := F) (C := C) (L := L) (q := gg) hF hE hK1 (by rw [O3a a1 ne1]; exact f3.1) hL O37 (fun i hi => by rw [O3a a1 ne1]; exact ⟨f6 i hi, hgg i hi⟩) f4.2.2.1.2.2.2.2
      obtain ⟨w4, q1, h4⟩ := h3.y0 (rX3_layPaths (v1' := some a1) h3.1 hF rfl h3.2.1) l1
      rw [f1, Option.bind_some]
      try dsimp only
      rw [← iO_nat L]
      rw [p1, Option.bind_some, h3.gO hE, Option.bind_some, q1, Option.bind_some]
      have A1 : gSt (O4 a1) n1 T1 := by rw [l2.1 a1 ne1, O3a a1 ne1]; exact f3
      have A2 : gSt (O4 a2) n1 T2 := by rw [l2.1 a2 ne2, O3a a2 ne2]; exact G21
      have A5 : ∀ i : Nat, i < L → zA (O4 a1) 5 i = gg i ∧ gg i < n1 := fun i hi => by rw [l2.1 a1 ne1, O3a a1 ne1]; exact ⟨f6 i hi, hgg i hi⟩
      have A7 : zI (O4 e) 7 = L := by rw [l2.2.1]; exact O37
      refine w_s38 (C := C) (O0 := O4) (S := S) (Z := Z) (x := x) (m := m) (T1 := T1) (T2 := T2) (n := n1) (L := L) (q := gg) (P := fun o => ∃ (w' : gW) (O' : zO) (L : Nat) (q : Nat → Nat), o = some (Int32.ofInt (smR n1 T1 n1 T2 L q N), w') ∧ hW C x m w' O' S Z ∧ (∀ b, b ≠ a1 → b ≠ e → O' b = O b) ∧ gSt (O' a1) n1 T1 ∧ (n1 = n1 → zLike n1 T1 T2 → zMost n1 T1 L q)) hF hE hK1 hK2 A1.1 A2.1 A1.2.1 A2.2.1 e4 hL A7 A5 (fun w5 O5 h5 m5 g5 => ?_) L 0 w4 O4 F (by omega) (by unfold fF at hF; omega) h4 mtK.rf (fun i hi => by omega)
      try dsimp only
      have r4 : gFR 3 4 (some e) w5 = some (some (e + 5)) := h5.cAR hE (k := 4) rfl
      obtain ⟨w6, z1, h6⟩ := h5.cFill hF hE (k := 4) (off := 5) (len := 48) (fun _ => rfl) (by omega) (0 : Int)
      have z1 : mJ7_fill_53178 F (some (e + 5)) 0 w5 = some w6 := z1
      rw [r4, Option.bind_some, z1, Option.bind_some]
      try dsimp only
      have m6 : mtK (fun k => k = 3 ∨ k = 4 ∨ k = 5) O4 (oup O5 e (zfl (O5 e) 4 48 0)) e := by
        refine (m5.wide fun k hk => Or.inr (Or.inr hk)).tr ⟨fun a ha => oup_n ha, by rw [oup_s]; rfl, fun k hk => ?_⟩
        rw [oup_s]
        exact if_neg (by omega)
      obtain ⟨w7, O7, t1, h7, m7⟩ := w_s89 (C := C) (O0 := O4) (S := S) (Z := Z) (x := x) (m := m) (T1 := T1) (T2 := T2) (n := n1) (L := L) (q := gg) hF hE hK1 hK2 A1.1 A2.1 A1.2.1 A2.2.1 e4 hL A7 A5 f4.2.2.1.2.2.2.2 l3 hN N 1 w6 _ F (fun i => smN n1 T1 T2 gg i 0) (by omega) (by unfold fF at hF; omega) (by omega) h6 m6 (fun i hi => by
        rw [oup_s]
        rw [zA_fl, if_neg (by decide)]
        exact ⟨g5 i hi, smN_0 e4 (hgg i hi)⟩) (fun z hz => by
        rw [oup_s]
        have : zA (zfl (O5 e) 4 48 0) 4 (z : Int) = 0 := by rw [zA_fl, if_pos rfl]; exact if_pos (by omega)
        rw [this]; omega)
      refine ⟨w7, O7, L, gg, ?_, h7, fun b hb1 hb2 => ?_, ?_, fun _ _ => f4⟩
      · have t1 : mX3_search_l89 F F e (some a1) (some a2) (nI N) 1 w6 = _ := t1
        rw [t1]
        unfold smR; rw [if_pos ⟨rfl, e4⟩]
      · rw [m7.1 b hb2, l2.1 b hb2, O3a b hb2, f2 b hb1, oup_n hb2]
      · rw [m7.1 a1 ne1]; exact A1
    · rw [if_pos rfl]
      refine ⟨w1, _, 0, fun _ => 0, ?_, h1, fun b _ hb => oup_n hb, by rw [oup_n ne1]; exact G1, fun _ u => absurd u e4⟩
      unfold smR; rw [if_neg fun t => e4 t.2]; rfl
  · rw [if_neg fun u => c (by
      have := congrArg Int32.toInt u
      rw [nI_tI (by omega), nI_tI (by omega)] at this
      omega)]
    refine ⟨w, O, 0, fun _ => 0, ?_, h, fun _ _ _ => rfl, G1, fun u => absurd u c⟩
    unfold smR; rw [if_neg fun t => c t.1]; rfl
end SRW
