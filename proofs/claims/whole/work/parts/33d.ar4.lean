section AR4
variable {F x m n a : Nat} {C C' : yC} {w w1 : gW} {O O' : zO} {S S' : oSt} {S1 : oSt} {Z Z' : zS} {T : Nat → Nat → Nat} {gn : Nat → Nat} {gT : Nat → Nat → Nat → Nat} {gc ac : Nat} {z y u : Int}
theorem hW.cxN (h : hW C x m w O S Z) (q : Nat × Nat) : cEx C (cNew C w.2 q) := fun a q' hq => by
  have := h.fresh hq
  exact ⟨by rw [cNew_n this]; exact hq, fun k => cNew_r this k⟩
theorem w_same {a1 a2 n1 n2 N : Nat} {T1 T2 : Nat → Nat → Nat} (hF : fF F) (h : hW C x m w O S Z) (hl : lIn C S) (hK1 : C.1 a1 = some (2, 0)) (hK2 : C.1 a2 = some (2, 0)) (G1 : gSt (O a1) n1 T1) (G2 : gSt (O a2) n2 T2) (h12 : a1 = a2 → n1 = n2 ∧ T1 = T2) (hN : N ≤ 20000) : ∃ (w' : gW) (C' : yC) (O' : zO) (S' : oSt) (L : Nat) (q : Nat → Nat), ((gFR 6 5 (some x) w).bind fun t38 => if t38 = none then ((mX3_init F w.2 (gNO 3 [.null, .null, .null, .null, .null, .null, .null, .int 0] w)).bind fun q49 => (gP 6 5 (some x) (.inr (.inr (some w.2))) q49).bind fun w52 => mX6_same_b55 F x (nI N) (some a1) (some a2) w52) else mX6_same_b55 F x (nI N) (some a1) (some a2) w) = some (Int32.ofInt (smR n1 T1 n2 T2 L q N), w') ∧ hW C' x m w' O' S' Z ∧ cEx C C' ∧ rSm S S' ∧ lIn C' S' ∧ (∀ b q, C.1 b = some q → b ≠ a1 → q ≠ (3, 0) → O' b = O b) ∧ gSt (O' a1) n1 T1 ∧ (n1 = n2 → zLike n1 T1 T2 → zMost n1 T1 L q) := by
  have r5 : ∀ {w : gW} {C : yC} {O : zO} {S : oSt}, hW C x m w O S Z → gFR 6 5 (some x) w = some (oP S 5) := fun h => h.2.2.1.rP 5 rfl
  have fin : ∀ {w : gW} {C : yC} {O : zO} {S : oSt} (e : Nat), hW C x m w O S Z → oP S 5 = some e → C.1 e = some (3, 0) → C.1 a1 = some (2, 0) → C.1 a2 = some (2, 0) → gSt (O a1) n1 T1 → gSt (O a2) n2 T2 → ∃ (w' : gW) (O' : zO) (L : Nat) (q : Nat → Nat), mX6_same_b55 F x (nI N) (some a1) (some a2) w = some (Int32.ofInt (smR n1 T1 n2 T2 L q N), w') ∧ hW C x m w' O' S Z ∧ (∀ b, b ≠ a1 → b ≠ e → O' b = O b) ∧ gSt (O' a1) n1 T1 ∧ (n1 = n2 → zLike n1 T1 T2 → zMost n1 T1 L q) := by
    intro w C O S e h he hE hK1 hK2 G1 G2
    obtain ⟨w', O', L, q, e1, e2, e3, e4, e5⟩ := w_search hF h hE hK1 hK2 G1 G2 h12 hN
    refine ⟨w', O', L, q, ?_, e2, e3, e4, e5⟩
    unfold mX6_same_b55
    rw [r5 h, Option.bind_some, he, h.gO hE, Option.bind_some, e1, Option.bind_some]
  rw [r5 h, Option.bind_some]
  rcases c : oP S 5 with _ | e
  · obtain ⟨w2, e2, s2, h2⟩ := h.newM (F := F)
    obtain ⟨w3, e3, h3⟩ := h2.rP 5 rfl (some w.2)
    have cx := h.cxN (3, 0)
    have n1' := h.fresh hK1
    have n2' := h.fresh hK2
    obtain ⟨w', O', L, q, f1, f2, f3, f4, f5⟩ := fin w.2 h3 rfl cNew_s (cx a1 _ hK1).1 (cx a2 _ hK2).1 (by rw [oup_n n1']; exact G1) (by rw [oup_n n2']; exact G2)
    refine ⟨w', _, O', _, L, q, ?_, f2, cx, ⟨fun _ => rfl, rfl⟩, ⟨fun e he => ?_, fun e he => ?_⟩, fun b q hb h1 h2 => ?_, f4, f5⟩
    · rw [if_pos rfl, e2, Option.bind_some, e3, Option.bind_some]; exact f1
    · have he : some w.2 = some e := he
      cases he
      exact cNew_s
    · exact (cx e _ (hl.2 e he)).1
    · rw [f3 b h1 (h.fresh hb), oup_n (h.fresh hb)]
  · rw [if_neg (by intro t; cases t)]
    have hE := hl.1 e c
    obtain ⟨w', O', L, q, f1, f2, f3, f4, f5⟩ := fin e h c hE hK1 hK2 G1 G2
    exact ⟨w', C, O', S, L, q, f1, f2, cEx.rf, rSm.rf, hl, fun b q hb h1 h2 => f3 b h1 fun t => by
      rw [t, hE] at hb
      exact h2 (Option.some.inj hb).symm, f4, f5⟩
theorem k_same (hF : fG F) (h : WI x m w) (hz : i32 z) (hy : i32 y) (hu : i32 u) : aOK x m w (fun w => mX6_same F x (Int32.ofInt z) (Int32.ofInt y) (Int32.ofInt u) w) (fun w => mX7_same F m (Int32.ofInt z) (Int32.ofInt y) (Int32.ofInt u) w) := by
  have hF0 : fF F := by unfold fG at hF; unfold fF; omega
  obtain ⟨C, O, S, Z, gn, gT, gc, ac, hw, hl⟩ := h
  obtain ⟨⟨c1, c2⟩, ⟨c3, c4⟩, ⟨c5, c6⟩, c7⟩ := hl.1
  have hGs := hl.gs
  have ga := w_groupAt (F := F) hw c3 c1 hz
  have gb := w_groupAt (F := F) hw c3 c1 hy
  have e0 : (0 : Int32) = Int32.ofInt 0 := rfl
  have e20 : (20000 : Int32) = Int32.ofInt 20000 := rfl
  have bad : ¬ ((0 ≤ z ∧ z < zI Z 0) ∧ (0 ≤ y ∧ y < zI Z 0) ∧ 0 ≤ u ∧ u ≤ 20000) → mX6_same F x (Int32.ofInt z) (Int32.ofInt y) (Int32.ofInt u) w = some (Int32.ofInt (-1), w) → aOK x m w (fun w => mX6_same F x (Int32.ofInt z) (Int32.ofInt y) (Int32.ofInt u) w) (fun w => mX7_same F m (Int32.ofInt z) (Int32.ofInt y) (Int32.ofInt u) w) := fun hb e => aOK.of (v := -1) (w1 := w) e hw (rX7_same rfl rfl rfl hw.2.2.2.1) (m_same1 hGs hz hy hu hb) hl
  by_cases c : 0 ≤ z ∧ z < gc
  · obtain ⟨k, rfl⟩ : ∃ k : Nat, z = k := ⟨z.toNat, by omega⟩
    obtain ⟨a, q1, q2, q3, q4, q5⟩ := hl.g (k := k) (by omega)
    rw [if_pos c, Int.toNat_natCast, q1] at ga
    by_cases d : 0 ≤ y ∧ y < gc
    · obtain ⟨k', rfl⟩ : ∃ k : Nat, y = k := ⟨y.toNat, by omega⟩
      obtain ⟨a', p1, p2, p3, p4, p5⟩ := hl.g (k := k') (by omega)
      rw [if_pos d, Int.toNat_natCast, p1] at gb
      by_cases f : 0 ≤ u ∧ u ≤ 20000
      · obtain ⟨N, rfl⟩ : ∃ k : Nat, u = k := ⟨u.toNat, by omega⟩
        have h12 : a = a' → gn k = gn k' ∧ gT k = gT k' := fun t => by
          subst t
          have := hl.2.1.2.1 k k' a (by omega) (by omega) q1 p1
          subst this
          exact ⟨rfl, rfl⟩
        obtain ⟨w1, C', O', S', L, q, t1, t2, t3, t4, t5, t6, t7, t8⟩ := w_same (N := N) hF0 hw hl.2.2.2.2.2 q2 p2 q3 p3 h12 (by omega)
        obtain ⟨Z1, r1, r2⟩ := m_same (N := N) hF hGs q4 p4 (by omega) (by omega) (by omega) t8 q5
        refine aOK.of (w1 := w1) ?_ t2 (rX7_same rfl rfl rfl t2.2.2.2.1) r1 (hl.grp (a := k) (by omega) q1 t3 t4 t5 t6 t7 r2)
        try dsimp only
        unfold mX6_same
        rw [hw.gO6, Option.bind_some, ga, Option.bind_some]
        try dsimp only
        rw [hw.gO6, Option.bind_some, gb, Option.bind_some]
        try dsimp only
        rw [if_neg (by intro t; cases t), if_neg (by intro t; cases t), e0, if_neg (fun t => by have := (iO_lt ⟨hu, by omega⟩).mp t; omega), e20, if_pos ((iO_le ⟨hu, by omega⟩).mpr f.2), iO_nat N]
        exact t1
      · refine bad (by omega) ?_
        unfold mX6_same
        rw [hw.gO6, Option.bind_some, ga, Option.bind_some]
        try dsimp only
        rw [hw.gO6, Option.bind_some, gb, Option.bind_some]
        try dsimp only
        rw [if_neg (by intro t; cases t), if_neg (by intro t; cases t), e0]
        by_cases f1 : u < 0
        · rw [if_pos ((iO_lt ⟨hu, by omega⟩).mpr f1)]; rfl
        · rw [if_neg (fun t => f1 ((iO_lt ⟨hu, by omega⟩).mp t)), e20, if_neg (fun t => f ⟨by omega, (iO_le ⟨hu, by omega⟩).mp t⟩)]; rfl
    · rw [if_neg d] at gb
      refine bad (by omega) ?_
      unfold mX6_same
      rw [hw.gO6, Option.bind_some, ga, Option.bind_some]
      try dsimp only
      rw [hw.gO6, Option.bind_some, gb, Option.bind_some]
      try dsimp only
      rw [if_neg (by intro t; cases t), if_pos rfl]; rfl
  · rw [if_neg c] at ga
    refine bad (by omega) ?_
    unfold mX6_same
    rw [hw.gO6, Option.bind_some, ga, Option.bind_some]
    try dsimp only
    rw [hw.gO6, Option.bind_some, gb, Option.bind_some]
    try dsimp only
    rw [if_pos rfl]; rfl
end AR4
