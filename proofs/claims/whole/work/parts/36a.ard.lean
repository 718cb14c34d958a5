theorem oI_s (S : oSt) (k : Nat) (v : Int32) : oI (uI S k v) k = v := va_upS (oI S) k v
theorem oI_n (S : oSt) {k l : Nat} (v : Int32) (h : l ≠ k) : oI (uI S k v) l = oI S l := va_upN (f := oI S) h
section ARD
variable {F x m n a : Nat} {C C' : yC} {w w1 w2 : gW} {O O' : zO} {S S' S1 : oSt} {X : zS} {Z Z' : zS} {gn gn' : Nat → Nat} {gT gT' : Nat → Nat → Nat → Nat} {gc gc' ac : Nat} {z y u : Int}
theorem LI.leave {k : Nat} (hl : LI C O S Z gn gT gc (k + 1)) : LI C O (uI S 4 (nI k)) (zuI (zuI Z 7 k) 29 (-4)) gn gT gc k := by
  obtain ⟨⟨c1, ⟨c2, c3⟩, ⟨c4, c5⟩, c6⟩, g, a1, a2, s, l⟩ := hl
  refine ⟨⟨⟨c1.1, by omega⟩, ⟨(oI_n S _ (by decide)).trans c2, oI_s _ _ _⟩, ⟨c4, rfl⟩, ?_⟩, g, a1, fun j hj => ?_, s, l⟩
  · show -2147483648 ≤ (-4 : Int) ∧ (-4 : Int) < 2147483648
    omega
  · obtain ⟨A, g', t, b, s', p, r, gi, M, hp, h1, h2, h3, h4, h5, h6, h7, h8, ⟨o1, o2, o3, o4⟩⟩ := a2 j (by omega)
    refine ⟨A, g', t, b, s', p, r, gi, M, hp, h1, h2, h3, h4, h5, h6, h7, h8, o1, ?_, ?_, fun e => ?_⟩
    · show (j : Int) < (k : Int) ∧ (k : Int) ≤ 6
      omega
    · show -2147483648 ≤ (-4 : Int) ∧ (-4 : Int) < 2147483648
      omega
    · have e : (-4 : Int) = (j : Nat) := e
      omega
theorem k_leave (h : WI x m w) : aOK x m w (fun w => mX6_leave F x w) (fun w => mX7_leave F m w) := by
  obtain ⟨C, O, S, Z, gn, gT, gc, ac, hw, hl⟩ := h
  obtain ⟨⟨c1, c2⟩, ⟨c3, c4⟩, ⟨c5, c6⟩, c7⟩ := hl.1
  rcases ac with _ | k
  · refine aOK.of (v := -4) (w1 := w) ?_ hw (rX7_leave hw.2.2.2.1) (m_leave0 (by omega)) hl
    try dsimp only
    unfold mX6_leave
    rw [hw.xI 4 rfl, Option.bind_some, c4, if_pos (show nI 0 = 0 from rfl)]; rfl
  · obtain ⟨w1, e1, hw1⟩ := hw.rI 4 rfl (nI k)
    have e0 : nI (k + 1) - 1 = nI k := by rw [← nI_1, Int32.add_sub_cancel]
    refine aOK.of (v := (k : Nat)) (w1 := w1) ?_ hw1 (rX7_leave hw1.2.2.2.1) (m_leave (k := k) (by omega) (by omega)) hl.leave
    try dsimp only
    unfold mX6_leave
    rw [hw.xI 4 rfl, Option.bind_some, c4, if_neg (show ¬ nI (k + 1) = 0 from fun t => by have := (nI_inj (b := 0) (by omega) (by omega)).mp t; omega), Option.bind_some, e0, e1, Option.bind_some, hw1.xI 4 rfl, Option.bind_some, iO_nat]
    rw [oI_s]
theorem LI.dropped {g : Nat} (hl : LI C O S Z gn gT (g + 1) ac) (hn : ∀ j : Nat, j < ac → zA Z 8 j ≠ g) : LI C O (uI S 3 (nI g)) (zuI Z 0 g) gn gT g ac := by
  obtain ⟨⟨c1, ⟨c2, c3⟩, ⟨c4, c5⟩, c6⟩, ⟨g1, g2, g3⟩, a1, a2, s, l⟩ := hl
  refine ⟨⟨⟨by omega, c1.2⟩, ⟨oI_s _ _ _, (oI_n S _ (by decide)).trans c3⟩, ⟨rfl, c5⟩, c6⟩, ⟨g1, g2, fun k hk => g3 k (by omega)⟩, a1, fun j hj => ?_, s, l⟩
  obtain ⟨A, g', t, b, s', p, r, gi, M, hp, h1, h2, h3, h4, h5, h6, h7, h8, h9⟩ := a2 j hj
  have := hn j hj
  have e8 := h9.1.2.2.2.1.1
  exact ⟨A, g', t, b, s', p, r, gi, M, hp, h1, h2, by omega, h4, h5, h6, h7, h8, h9⟩
theorem w_drop {g a0 : Nat} {k54 : Nat → gW → Option (Int32 × gW)} {P : Option (Int32 × gW) → Prop} (hw : hW C x m w O S Z) (hl : LI C O S Z gn gT (g + 1) ac) (h0 : oQ S 0 g = some a0) (K1 : (∃ j : Nat, j < ac ∧ zA Z 8 j = g) → P (some ((-2 : Int32), w))) (K2 : (∀ j : Nat, j < ac → zA Z 8 j ≠ g) → P (k54 x w)) : ∀ (d j fu : Nat), j + d = ac → d < fu → (∀ i : Nat, i < j → zA Z 8 i ≠ g) → P (mX6_drop_l24 F k54 fu x (some a0) (nI j) w) := by
  have c2 : ac ≤ 6 := hl.1.1.2
  have c1 : g + 1 ≤ 8 := hl.1.1.1
  have c4 : oI S 4 = nI ac := hl.1.2.1.2
  intro d
  induction d with
  | zero =>
    intro j fu hj hfu hn
    obtain ⟨fu, rfl⟩ : ∃ k, fu = k + 1 := ⟨fu - 1, by omega⟩
    show P (mX6_drop_h24 F (mX6_drop_l24 F k54 fu) k54 x (some a0) (nI j) w)
    unfold mX6_drop_h24
    rw [hw.xI 4 rfl, Option.bind_some, c4, if_pos (nI_le (by omega) (by omega))]
    exact K2 fun i hi => hn i (by omega)
  | succ d ih =>
    intro j fu hj hfu hn
    obtain ⟨fu, rfl⟩ : ∃ k, fu = k + 1 := ⟨fu - 1, by omega⟩
    show P (mX6_drop_h24 F (mX6_drop_l24 F k54 fu) k54 x (some a0) (nI j) w)
    obtain ⟨A, g', t, b, s', p, r, gi, M, hp, h1, h2, h3, h4, h5, h6, h7, h8, h9⟩ := hl.2.2.2.1 j (by omega)
    have e8 := h9.1.2.2.2.1.1
    have r0 : gFR 6 1 (some x) w = some (some (x + 2)) := hw.2.2.1.rQ 1 (c := 0) rfl
    have l0 : gLR 0 (some (x + 2)) (nI j) w = some (oQ S 1 j) := hw.2.2.1.ldR 1 (c := 0) (len := 6) rfl (by omega) (by decide)
    have f2 : gFR 0 2 (some A) w = some (some g') := by rw [hw.cFR h5.1.1 (k := 2) rfl, h5.1.2.2.2.2]
    unfold mX6_drop_h24
    rw [hw.xI 4 rfl, Option.bind_some, c4, if_neg (nI_ge (by omega) (by omega)), r0, Option.bind_some, l0, Option.bind_some, h2, f2, Option.bind_some]
    by_cases c : gi = g
    · have e : g' = a0 := by rw [c, h0] at h4; exact (Option.some.inj h4).symm
      rw [if_pos (by rw [e])]
      exact K1 ⟨j, by omega, by omega⟩
    · have e : g' ≠ a0 := fun t => by
        subst t
        exact c (hl.2.1.2.1 gi g g' (by omega) (by omega) h4 h0)
      rw [if_neg (fun t => e (Option.some.inj t)), nI_1]
      refine ih (j + 1) fu (by omega) (by omega) fun i hi => ?_
      by_cases q : i = j
      · rw [q]; omega
      · exact hn i (by omega)
theorem k_drop (hF : fF F) (h : WI x m w) : aOK x m w (fun w => mX6_drop F x w) (fun w => mX7_drop F m w) := by
  obtain ⟨C, O, S, Z, gn, gT, gc, ac, hw, hl⟩ := h
  obtain ⟨⟨c1, c2⟩, ⟨c3, c4⟩, ⟨c5, c6⟩, c7⟩ := hl.1
  rcases gc with _ | g
  · refine aOK.of (v := -4) (w1 := w) ?_ hw (rX7_drop hw.2.2.2.1) (m_drop0 (by omega)) hl
    try dsimp only
    unfold mX6_drop
    rw [hw.xI 3 rfl, Option.bind_some, c3, if_pos (show nI 0 = 0 from rfl)]; rfl
  · have e0 : nI (g + 1) - 1 = nI g := by rw [← nI_1, Int32.add_sub_cancel]
    obtain ⟨a0, q1, q2, -⟩ := hl.g (k := g) (by omega)
    have r0 : gFR 6 0 (some x) w = some (some (x + 1)) := hw.2.2.1.rQ 0 (c := 2) rfl
    have l0 : gLR 2 (some (x + 1)) (nI g) w = some (oQ S 0 g) := hw.2.2.1.ldR 0 (c := 2) (len := 8) rfl (by omega) (by decide)
    have h8 : ∀ j : Nat, j < ac → 0 ≤ zA Z 8 j ∧ zA Z 8 j < 8 := fun j hj => by
      obtain ⟨A, g', t, b, s', p, r, gi, M, hp, h1, h2, h3, h4, h5, h6, h7, h8, h9⟩ := hl.2.2.2.1 j hj
      have e8 := h9.1.2.2.2.1.1
      omega
    obtain ⟨d1, d2⟩ := m_drop (F := F) (Z := Z) (g := g) hF (by omega) (by omega) c6 c2 h8
    have hd : ∀ o, mX6_drop_l24 F (fun (v0 : Nat) (w : gW) => (gFI 6 3 (some v0) w).bind fun t56 => (gP 6 3 (some v0) (.inl (t56 - (1 : Int32))) w).bind fun w61 => (gFI 6 3 (some v0) w61).bind fun t65 => some (t65, w61)) F x (some a0) (nI 0) w = o → mX6_drop F x w = o := fun o ho => by
      unfold mX6_drop
      rw [hw.xI 3 rfl, Option.bind_some, c3, if_neg (show ¬ nI (g + 1) = 0 from fun t => by have := (nI_inj (b := 0) (by omega) (by omega)).mp t; omega), r0, Option.bind_some, Option.bind_some, e0, l0, Option.bind_some, q1]
      exact ho
    have key : ∀ o, mX6_drop_l24 F (fun (v0 : Nat) (w : gW) => (gFI 6 3 (some v0) w).bind fun t56 => (gP 6 3 (some v0) (.inl (t56 - (1 : Int32))) w).bind fun w61 => (gFI 6 3 (some v0) w61).bind fun t65 => some (t65, w61)) F x (some a0) (nI 0) w = o → aOK x m w (fun _ => o) (fun w => mX7_drop F m w) := fun o ho => by
      rw [← ho]
      refine w_drop (P := fun o => aOK x m w (fun _ => o) (fun w => mX7_drop F m w)) hw hl q1 (fun e => ?_) (fun e => ?_) ac 0 F (by omega) (by unfold fF at hF; omega) (fun i hi => by omega)
      · exact aOK.of (v := -2) (w1 := w) rfl hw (rX7_drop hw.2.2.2.1) (d1 e) hl
      · obtain ⟨w1, e1, hw1⟩ := hw.rI 3 rfl (nI g)
        refine aOK.of (v := (g : Nat)) (w1 := w1) ?_ hw1 (rX7_drop hw1.2.2.2.1) (d2 e) (hl.dropped e)
        try dsimp only
        rw [hw.xI 3 rfl, Option.bind_some, c3, e0, e1, Option.bind_some, hw1.xI 3 rfl, Option.bind_some, iO_nat, oI_s]
    obtain ⟨v, w1, w2, p1, p2, p3⟩ := key _ rfl
    exact ⟨v, w1, w2, hd _ p1, p2, p3⟩
end ARD
