/-! A GROUP MORE -/
section AR9
variable {F x m n a j : Nat} {C C' : yC} {w w1 w2 : gW} {O O' : zO} {S S' S1 : oSt} {X : zS} {Z Z' : zS} {T : Nat → Nat → Nat} {f : Int → Int} {gn gn' : Nat → Nat} {gT gT' : Nat → Nat → Nat → Nat} {gc gc' ac : Nat} {z y u : Int} {D : Nat → Prop}
theorem aIn.cx2 (h : aIn C S) (hc : cEx C C') (hs : oQ S' 1 = oQ S 1) : aIn C' S' := by
  obtain ⟨h1, h2⟩ := h
  refine ⟨fun k a hk hq => ?_, fun k k' a a' t b s t' b' s' hk hk' hne hq hq' hs1 hs2 => ?_⟩
  · rw [hs] at hq
    obtain ⟨t, b, s, e⟩ := h1 k a hk hq
    exact ⟨t, b, s, e.cx hc⟩
  · rw [hs] at hq hq'
    obtain ⟨t1, b1, s1, e⟩ := h1 k a hk hq
    obtain ⟨t2, b2, s2, e'⟩ := h1 k' a' hk' hq'
    obtain ⟨q1, q2, q3⟩ := hs1.one (e.cx hc)
    obtain ⟨p1, p2, p3⟩ := hs2.one (e'.cx hc)
    rw [q1, q2, q3, p1, p2, p3]
    exact h2 k k' a a' t1 b1 s1 t2 b2 s2 hk hk' hne hq hq' e e'
theorem aOk.mono2 (h : aOk C O S Z gn gT gc j) (hc : cEx C C') (hs1 : oQ S' 1 j = oQ S 1 j) (hs0 : ∀ k, k < gc → oQ S' 0 k = oQ S 0 k) (hX : ∀ a q, C.1 a = some q → ¬ D a → O' a = O a) (hn : ∀ a t b s, oQ S 1 j = some a → aSl C a t b s → ¬ D a ∧ ¬ D t ∧ ¬ D b ∧ ¬ D s) (hgc : gc ≤ gc') (hgn : ∀ k, k < gc → gn' k = gn k ∧ gT' k = gT k) (hg : ∀ k a, k < gc → oQ S 0 k = some a → yGp (O' a) (gn k) (gT k)) (hz : ∀ (p gi r : Nat) (M : Nat → Nat → Nat → Int) (_ : NeZero p), gi < gc → mOk p Z j gi (gn gi) (gT gi) r M → mOk p Z' j gi (gn gi) (gT gi) r M) : aOk C' O' S' Z' gn' gT' gc' j := by
  obtain ⟨A, g, t, b, s, p, r, gi, M, hp, h1, h2, h3, h4, h5, h6, h7, h8, h9⟩ := h
  have sl : aSl C A t b s := ⟨h5.1.1, h5.1.2.2.2.1, h5.1.2.2.1, h6⟩
  obtain ⟨n1, n2, n3, n4⟩ := hn A t b s h2 sl
  have eA := hX A _ sl.1 n1
  have et := hX t _ sl.2.2.1 n2
  have eb := hX b _ h6.1 n3
  have es := hX s _ h6.2.2.1 n4
  obtain ⟨e1, e2⟩ := hgn gi h3
  refine ⟨A, g, t, b, s, p, r, gi, M, hp, h1, by rw [hs1]; exact h2, by omega, by rw [hs0 gi h3]; exact h4, ?_, h6.cx sl.2.2.1 hc, by rw [eA]; exact h7, ?_, ?_⟩
  · obtain ⟨c1, c2, c3⟩ := h5.cx hc
    rw [e1, e2]
    exact ⟨c1, hg gi g h3 h4, by rw [eA]; exact c3⟩
  · rw [e1, e2]; exact h8.eq eA et eb es
  · rw [e1, e2]; exact hz p gi r M hp h3 h9
theorem sIn.mono (h : sIn C O S Z) (hc : cEx C C') (hs : oQ S' 2 = oQ S 2) (hO : ∀ a, C.1 a = some (4, 0) → O' a = O a) (h4 : zA Z' 4 = zA Z 4) (h5 : zA Z' 5 = zA Z 5) (h6 : zA Z' 6 = zA Z 6) : sIn C' O' S' Z' := by
  obtain ⟨s1, s2⟩ := h
  refine ⟨fun k k' a hk hk' e e' => ?_, fun k hk => ?_⟩
  · rw [hs] at e e'; exact s1 k k' a hk hk' e e'
  · obtain ⟨a, e1, e2, e3, e4⟩ := s2 k hk
    refine ⟨a, by rw [hs]; exact e1, (hc a _ e2).1, ?_⟩
    rw [hO a e2, h4, h5, h6]
    exact ⟨e3, e4⟩
theorem lIn.cx (h : lIn C S) (hc : cEx C C') (hs : oP S' = oP S) : lIn C' S' := ⟨fun e he => by rw [hs] at he; exact (hc e _ (h.1 e he)).1, fun e he => by rw [hs] at he; exact (hc e _ (h.2 e he)).1⟩
theorem w_spare8 (hw : hW C x m w O S Z) (hc : oI S 3 = nI 8) : mX6_spareGroup F x w = some (none, w) := by
  unfold mX6_spareGroup
  rw [hw.xI 3 rfl, Option.bind_some, hc, if_neg (by decide)]
theorem w_spare (hw : hW C x m w O S Z) (hl : LI C O S Z' gn gT gc ac) (h8 : gc < 8) : ∃ (w1 : gW) (C' : yC) (O' : zO) (S' : oSt) (a : Nat), mX6_spareGroup F x w = some (some a, w1) ∧ hW C' x m w1 O' S' Z ∧ LI C' O' S' Z' gn gT gc ac ∧ cEx C C' ∧ C'.1 a = some (2, 0) ∧ oQ S' 0 gc = some a ∧ (∀ b q, C.1 b = some q → O' b = O b) ∧ (∀ k, k ≠ gc → oQ S' 0 k = oQ S 0 k) ∧ (∀ k, oI S' k = oI S k) ∧ (∀ k, k ≠ 0 → oQ S' k = oQ S k) := by
  have hcn := hl.1
  have c3 : oI S 3 = nI gc := hcn.2.1.1
  have r0 : ∀ {w : gW} {C : yC} {O : zO} {S : oSt}, hW C x m w O S Z → gFR 6 0 (some x) w = some (some (x + 1)) := fun h => h.2.2.1.rQ 0 (c := 2) rfl
  have l0 : ∀ {w : gW} {C : yC} {O : zO} {S : oSt}, hW C x m w O S Z → gLR 2 (some (x + 1)) (nI gc) w = some (oQ S 0 gc) := fun h => h.2.2.1.ldR 0 (c := 2) (len := 8) rfl h8 (by decide)
  have fin : ∀ {w : gW} {C : yC} {O : zO} {S : oSt}, hW C x m w O S Z → oI S 3 = nI gc → mX6_spareGroup_b39 F x w = some (oQ S 0 gc, w) := by
    intro w C O S h h3
    unfold mX6_spareGroup_b39
    rw [r0 h, Option.bind_some, h.xI 3 rfl, Option.bind_some, h3, l0 h, Option.bind_some]
  have hd : mX6_spareGroup F x w = (if oQ S 0 gc = none then ((mX2_init F w.2 (gNO 2 [.null, .null, .null, .null, .null, .null, .int 0, .int 0] w)).bind fun q35 => (gSR 2 (some (x + 1)) (nI gc) (some w.2) q35).bind fun w38 => mX6_spareGroup_b39 F x w38) else mX6_spareGroup_b39 F x w) := by
    unfold mX6_spareGroup
    rw [hw.xI 3 rfl, Option.bind_some, c3, if_pos (show nI gc < 8 by rw [show (8 : Int32) = nI 8 from rfl]; exact nI_lt h8 (by omega)), r0 hw, Option.bind_some, Option.bind_some, l0 hw, Option.bind_some, Option.bind_some, Option.bind_some]
  rw [hd]
  rcases q : oQ S 0 gc with _ | a
  · rw [if_pos rfl]
    obtain ⟨w1, e1, s1, h1⟩ := hw.newG (F := F)
    obtain ⟨w2, e2, h2⟩ := h1.rQ 0 2 1 8 0 rfl (by decide) (j := gc) h8 (b := w.2) cNew_s
    have cx := hw.cxN (2, 0)
    have hq : ∀ k, oQ (uQ S 0 (va_up (oQ S 0) gc (some w.2))) 0 k = if k = gc then some w.2 else oQ S 0 k := fun k => by
      show va_up (oQ S) 0 (va_up (oQ S 0) gc (some w.2)) 0 k = _
      rw [va_upS]
      by_cases c : k = gc
      · rw [c, va_upS, if_pos rfl]
      · rw [va_upN c, if_neg c]
    have hq2 : ∀ l, l ≠ 0 → oQ (uQ S 0 (va_up (oQ S 0) gc (some w.2))) l = oQ S l := fun l hl => va_upN hl
    refine ⟨w2, _, _, _, w.2, ?_, h2, ?_, cx, cNew_s, by rw [hq, if_pos rfl], fun b q hb => oup_n (hw.fresh hb), fun k hk => by rw [hq, if_neg hk], fun _ => rfl, hq2⟩
    · rw [e1, Option.bind_some, e2, Option.bind_some, fin h2 c3, hq, if_pos rfl]
    · obtain ⟨-, ⟨g1, g2, g3⟩, a1, a2, s, l⟩ := hl
      have h88 : gc ≤ 8 := by omega
      have fr : ∀ k b, k < 8 → oQ S 0 k = some b → b ≠ w.2 := fun k b hk hb => hw.fresh (g1 k b hk hb)
      have G : ∀ k, k < gc → ∃ b, oQ (uQ S 0 (va_up (oQ S 0) gc (some w.2))) 0 k = some b ∧ gSt (oup O w.2 zZ b) (gn k) (gT k) := fun k hk => by
        obtain ⟨⟨b, e1, e2⟩, -⟩ := g3 k hk
        refine ⟨b, by rw [hq, if_neg (by omega)]; exact e1, ?_⟩
        rw [oup_n (fr k b (by omega) e1)]; exact e2
      refine ⟨hcn, ⟨fun k b hk hb => ?_, fun k k' b hk hk' hb hb' => ?_, fun k hk => ⟨G k hk, (g3 k hk).2⟩⟩, a1.cx2 cx (hq2 1 (by decide)), fun j hj => ?_, s.mono cx (hq2 2 (by decide)) (fun a ha => oup_n (hw.fresh ha)) rfl rfl rfl, l.cx cx rfl⟩
      · rw [hq] at hb
        by_cases c : k = gc
        · rw [if_pos c] at hb; cases hb; exact cNew_s
        · rw [if_neg c] at hb; exact (cx b _ (g1 k b hk hb)).1
      · rw [hq] at hb hb'
        by_cases c : k = gc
        · rw [if_pos c] at hb
          cases hb
          by_cases c' : k' = gc
          · omega
          · rw [if_neg c'] at hb'
            exact (fr k' _ hk' hb' rfl).elim
        · rw [if_neg c] at hb
          by_cases c' : k' = gc
          · rw [if_pos c'] at hb'
            cases hb'
            exact (fr k _ hk hb rfl).elim
          · rw [if_neg c'] at hb'
            exact g2 k k' b hk hk' hb hb'
      · refine (a2 j hj).mono2 (D := fun a => a = w.2) (O' := oup O w.2 zZ) cx (by rw [hq2 1 (by decide)]) (fun k hk => by rw [hq, if_neg (by omega)]) (fun a q ha _ => oup_n (hw.fresh ha)) (fun a t b s _ sl => ⟨hw.fresh sl.1, hw.fresh sl.2.2.1, hw.fresh sl.2.2.2.1, hw.fresh sl.2.2.2.2.2.1⟩) (Nat.le_refl _) (fun _ _ => ⟨rfl, rfl⟩) (fun k a hk ha => ?_) fun p gi r M hp _ o => o
        obtain ⟨⟨b, e1, e2⟩, -⟩ := g3 k hk
        have e : b = a := Option.some.inj (e1.symm.trans ha)
        subst e
        rw [oup_n (fr k b (by omega) e1)]; exact e2.1
  · rw [if_neg (by intro t; cases t), fin hw c3, q]
    exact ⟨w, C, O, S, a, rfl, hw, hl, cEx.rf, hl.2.1.1 gc a h8 q, q, fun _ _ _ => rfl, fun _ _ => rfl, fun _ => rfl, fun _ _ => rfl⟩
theorem w_keep (hF : fF F) (hw : hW C x m w O S Z) (hc : oI S 3 = nI gc) (ka : C.1 a = some (2, 0)) (hz : zAt w2 a n T S1) (G : zGrp n T) (hf : wF a (a + 7) w w2) : ∃ (w3 : gW) (X : zS), mX6_keep F x (some a) w2 = some (nI gc, w3) ∧ hW C x m w3 (oup O a X) (uI S 3 (nI (gc + 1))) Z ∧ gSt X n T := by
  have hw2 := hw.g ka lyG_k hz.1 hf
  obtain ⟨w3, S2, e1, e2, e3, e4, e5⟩ := c_settle hF G hz
  have hw3 := hw2.g ka lyG_k e2.1 e5
  rw [oup_u] at hw3
  obtain ⟨w4, f1, hw4⟩ := hw3.rI 3 rfl (nI (gc + 1))
  refine ⟨w4, unS S2, ?_, hw4, yGp_un e2 G, gDn_un e3 G hz.n31, Or.inl ?_⟩
  · unfold mX6_keep
    rw [hw2.gO ka, Option.bind_some, e1, Option.bind_some, hw3.xI 3 rfl, Option.bind_some, hc, nI_1, f1, Option.bind_some]
  · rw [un_I, e4]; rfl
theorem LI.new (hl : LI C O S Z gn gT gc ac) (h8 : gc < 8) (ha : oQ S 0 gc = some a) (hX : gSt X n T) (hf : tbF Z gc n T n 0 f) : LI C (oup O a X) (uI S 3 (nI (gc + 1))) (gNew Z f gc (n : Nat)) (zPut gn gc n) (fun k => if k = gc then T else gT k) (gc + 1) ac := by
  obtain ⟨⟨c1, ⟨c2, c3⟩, ⟨c4, c5⟩, c6⟩, ⟨g1, g2, g3⟩, a1, a2, s, l⟩ := hl
  have ka := g1 gc a h8 ha
  have hn : n ≤ 48 := hX.1.2.1
  have hi : ∀ k, k ≠ 3 → oI (uI S 3 (nI (gc + 1))) k = oI S k := fun k hk => va_upN hk
  refine ⟨⟨⟨by omega, c1.2⟩, ⟨show va_up (oI S) 3 (nI (gc + 1)) 3 = nI (gc + 1) from va_upS _ _ _, by rw [hi 4 (by decide)]; exact c3⟩, ⟨by rw [gNew_0]; omega, by rw [gNew_I (by decide)]; exact c5⟩, by rw [gNew_I (by decide)]; exact c6⟩, ⟨g1, g2, fun k hk => ?_⟩, a1, fun j hj => ?_, s.mono cEx.rf rfl (fun b hb => oup_n (kd_ne hb ka (by decide))) (gNew_A (by decide) (by decide) (by decide)) (gNew_A (by decide) (by decide) (by decide)) (gNew_A (by decide) (by decide) (by decide)), l⟩
  · by_cases c : k = gc
    · subst c
      try dsimp only
      rw [zPut_s, if_pos rfl, gNew_3, zup_s]
      exact ⟨⟨a, ha, by rw [oup_s]; exact hX⟩, yG_new hf hX.1.2.2.1 hn h8, Or.inl rfl⟩
    · try dsimp only
      rw [zPut_n c, if_neg c, gNew_3, zup_n (by omega)]
      have hkg : k < gc := by omega
      have hk8 : k < 8 := by omega
      obtain ⟨⟨b, e1, e2⟩, e3, e4⟩ := g3 k hkg
      have nb : b ≠ a := fun t => by subst t; exact c (g2 k gc b hk8 h8 e1 ha)
      exact ⟨⟨b, e1, by rw [oup_n nb]; exact e2⟩, yG_old hf e3 hkg, e4⟩
  · refine (a2 j hj).mono2 (D := fun b => b = a) cEx.rf rfl (fun _ _ => rfl) (fun b q hb hD => oup_n hD) (fun a' t b s _ sl => ⟨kd_ne sl.1 ka (by decide), kd_ne sl.2.2.1 ka (by decide), kd_ne sl.2.2.2.1 ka (by decide), kd_ne sl.2.2.2.2.2.1 ka (by decide)⟩) (by omega) (fun k hk => ⟨zPut_n (by omega), if_neg (by omega)⟩) (fun k b hk hb => ?_) fun p gi r M hp hg o => mOk_old hf o hg
    obtain ⟨⟨b', e1, e2⟩, -⟩ := g3 k hk
    have e : b' = b := Option.some.inj (e1.symm.trans hb)
    subst e
    have nb : b' ≠ a := fun t => by
      subst t
      have := g2 k gc b' (by omega) h8 e1 ha
      omega
    rw [oup_n nb]; exact e2.1
end AR9
