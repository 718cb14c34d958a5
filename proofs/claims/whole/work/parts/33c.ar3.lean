section AR3
variable {F x m n a : Nat} {C C' : yC} {w w1 : gW} {O O' : zO} {S S' : oSt} {S1 : oSt} {Z Z' : zS} {T : Nat → Nat → Nat} {gn : Nat → Nat} {gT : Nat → Nat → Nat → Nat} {gc ac : Nat} {z y u : Int}
theorem k_about (hF : fF F) (h : WI x m w) (hz : i32 z) (hy : i32 y) : aOK x m w (fun w => mX6_about F x (Int32.ofInt z) (Int32.ofInt y) w) (fun w => mX7_about F m (Int32.ofInt z) (Int32.ofInt y) w) := by
  obtain ⟨C, O, S, Z, gn, gT, gc, ac, hw, hl⟩ := h
  obtain ⟨⟨c1, c2⟩, ⟨c3, c4⟩, ⟨c5, c6⟩, c7⟩ := hl.1
  have hGs := hl.gs
  have ga := w_groupAt (F := F) hw c3 c1 hz
  by_cases c : 0 ≤ z ∧ z < gc
  · obtain ⟨k, rfl⟩ : ∃ k : Nat, z = k := ⟨z.toNat, by omega⟩
    obtain ⟨a, q1, q2, q3, q4, q5⟩ := hl.g (k := k) (by omega)
    rw [if_pos c, Int.toNat_natCast, q1] at ga
    have hn := q3.1.2.1
    have G := q3.1.2.2.1
    have hA := zAt_of hw q2 q3.1
    have hD := zDone_of (C := C) q3.2.1
    obtain ⟨w5, O5, L, gg, p1, p2, p3, p4, p5, p6, p7⟩ := hw.mk hF q2 q3
    have h5 : ∀ L', zLst (gn k) (gT k) L' → L' ≤ 5 := fun L' t => by
      rw [zLst_one t p5]; exact p5.1
    obtain ⟨r, Z1, e1, e2, r0, r1, r2, r3, r4, r5, r6⟩ := m_about (F := F) hF hGs q4 (by omega) hy q5 h5
    have hd : mX6_about F x (Int32.ofInt (k : Nat)) (Int32.ofInt y) w = (if (Int32.ofInt y) = (0 : Int32) then ((mX2_countCentral F a w).bind fun q53 => some (q53.1, q53.2)) else if (Int32.ofInt y) = (1 : Int32) then ((mX2_countDerived F a w).bind fun q58 => some (q58.1, q58.2)) else if (Int32.ofInt y) = (2 : Int32) then ((mX2_exponent F a w).bind fun q63 => some (q63.1, q63.2)) else if (Int32.ofInt y) = (3 : Int32) then ((mX2_countTurnClasses F a w).bind fun q68 => some (q68.1, q68.2)) else if (Int32.ofInt y) = (4 : Int32) then ((mX2_countCentral F a w).bind fun q73 => (gFI 2 7 (some a) q73.2).bind fun t77 => if q73.1 = t77 then some ((1 : Int32), q73.2) else some ((0 : Int32), q73.2)) else if (Int32.ofInt y) = (5 : Int32) then ((mX2_findMakers F a w).bind fun q90 => some (q90.1, q90.2)) else some ((-1 : Int32), w)) := by
      unfold mX6_about
      rw [hw.gO6, Option.bind_some, ga, Option.bind_some]
      try dsimp only
      rw [if_neg (by intro t; cases t), hw.gO q2]
      rfl
    have hs : ∀ v : Int, r = v → (fun w => mX6_about F x (Int32.ofInt (k : Nat)) (Int32.ofInt y) w) w = some (Int32.ofInt v, w) → aOK x m w (fun w => mX6_about F x (Int32.ofInt (k : Nat)) (Int32.ofInt y) w) (fun w => mX7_about F m (Int32.ofInt (k : Nat)) (Int32.ofInt y) w) := fun v ev hf => by
      subst ev
      exact aOK.of hf hw (rX7_about rfl rfl hw.2.2.2.1) e1 (hl.sm e2)
    by_cases u0 : y = 0
    · refine hs _ (r0 u0) ?_
      show mX6_about F x (Int32.ofInt (k : Nat)) (Int32.ofInt y) w = _
      rw [hd, u0, if_pos (show Int32.ofInt 0 = 0 from rfl), c_countCentral hF hA, Option.bind_some, iO_nat]
    · have d0 : ¬ Int32.ofInt y = 0 := fun t => u0 ((iO_eq (b := 0) ⟨hy, by omega⟩).mp t)
      by_cases u1 : y = 1
      · obtain ⟨w1, S1, p1, p2⟩ := c_countDerived hF G hA hD
        have hw1 := hw.g q2 lyG_k p2.1.1 p2.2.1
        refine aOK.of (w1 := w1) (v := r) ?_ hw1 (rX7_about rfl rfl hw1.2.2.2.1) e1 (hl.grp (a := k) (by omega) q1 cEx.rf rSm.rf hl.2.2.2.2.2 (fun b q _ hb _ => oup_n hb) (by rw [oup_s]; exact gSt_zK q3 p2) e2)
        show mX6_about F x (Int32.ofInt (k : Nat)) (Int32.ofInt y) w = _
        rw [hd, r1 u1, if_neg d0, u1, if_pos (show Int32.ofInt 1 = 1 from rfl), p1, Option.bind_some, iO_nat]
      · have d1 : ¬ Int32.ofInt y = 1 := fun t => u1 ((iO_eq (b := 1) ⟨hy, by omega⟩).mp t)
        by_cases u2 : y = 2
        · refine hs _ (r2 u2) ?_
          show mX6_about F x (Int32.ofInt (k : Nat)) (Int32.ofInt y) w = _
          rw [hd, if_neg d0, if_neg d1, u2, if_pos (show Int32.ofInt 2 = 2 from rfl), c_exponent hF G hA hD, Option.bind_some, iO_nat]
        · have d2 : ¬ Int32.ofInt y = 2 := fun t => u2 ((iO_eq (b := 2) ⟨hy, by omega⟩).mp t)
          by_cases u3 : y = 3
          · refine hs _ (r3 u3) ?_
            show mX6_about F x (Int32.ofInt (k : Nat)) (Int32.ofInt y) w = _
            rw [hd, if_neg d0, if_neg d1, if_neg d2, u3, if_pos (show Int32.ofInt 3 = 3 from rfl), c_countTurnClasses hF G hA hD, Option.bind_some, iO_nat]
          · have d3 : ¬ Int32.ofInt y = 3 := fun t => u3 ((iO_eq (b := 3) ⟨hy, by omega⟩).mp t)
            by_cases u4 : y = 4
            · refine hs _ (r4 u4) ?_
              have hle := nC_le (zCen (gn k) (gT k)) (gn k)
              show mX6_about F x (Int32.ofInt (k : Nat)) (Int32.ofInt y) w = _
              rw [hd, if_neg d0, if_neg d1, if_neg d2, if_neg d3, u4, if_pos (show Int32.ofInt 4 = 4 from rfl), c_countCentral hF hA, Option.bind_some]
              try dsimp only
              rw [hA.sz, Option.bind_some]
              by_cases t : nC (zCen (gn k) (gT k)) (gn k) = gn k
              · rw [if_pos ((nI_inj (by omega) (by omega)).mpr t), if_pos t]; rfl
              · rw [if_neg (fun t' => t ((nI_inj (by omega) (by omega)).mp t')), if_neg t]; rfl
            · have d4 : ¬ Int32.ofInt y = 4 := fun t => u4 ((iO_eq (b := 4) ⟨hy, by omega⟩).mp t)
              by_cases u5 : y = 5
              · obtain ⟨L', el, lst⟩ := r5 u5
                have eL := zLst_one lst p5
                refine aOK.of (w1 := w5) (v := r) ?_ p2 (rX7_about rfl rfl p2.2.2.2.1) e1 (hl.grp (a := k) (by omega) q1 cEx.rf rSm.rf hl.2.2.2.2.2 (fun b q _ hb _ => p3 b hb) p4 e2)
                show mX6_about F x (Int32.ofInt (k : Nat)) (Int32.ofInt y) w = _
                rw [hd, if_neg d0, if_neg d1, if_neg d2, if_neg d3, if_neg d4, u5, if_pos (show Int32.ofInt 5 = 5 from rfl), p1, Option.bind_some, el, eL, iO_nat]
              · have d5 : ¬ Int32.ofInt y = 5 := fun t => u5 ((iO_eq (b := 5) ⟨hy, by omega⟩).mp t)
                refine hs _ (r6 (by omega)) ?_
                show mX6_about F x (Int32.ofInt (k : Nat)) (Int32.ofInt y) w = _
                rw [hd, if_neg d0, if_neg d1, if_neg d2, if_neg d3, if_neg d4, if_neg d5]; rfl
  · rw [if_neg c] at ga
    refine aOK.of (v := -1) (w1 := w) ?_ hw (rX7_about rfl rfl hw.2.2.2.1) (m_about1 hGs hz (by omega)) hl
    try dsimp only
    unfold mX6_about
    rw [hw.gO6, Option.bind_some, ga, Option.bind_some]
    try dsimp only
    rw [if_pos rfl]; rfl
theorem k_sound (hF : fF F) (h : WI x m w) (hz : i32 z) : aOK x m w (fun w => mX6_sound F x (Int32.ofInt z) w) (fun w => mX7_sound F m (Int32.ofInt z) w) := by
  obtain ⟨C, O, S, Z, gn, gT, gc, ac, hw, hl⟩ := h
  obtain ⟨⟨c1, c2⟩, ⟨c3, c4⟩, ⟨c5, c6⟩, c7⟩ := hl.1
  have ga := w_actionAt (F := F) hw c4 c2 hz
  by_cases c : 0 ≤ z ∧ z < ac
  · obtain ⟨k, rfl⟩ : ∃ k : Nat, z = k := ⟨z.toNat, by omega⟩
    obtain ⟨A, g, t, b, s, p, r, gi, M, hp, h1, h2, h3, h4, h5, h6, h7, h8, h9⟩ := hl.2.2.2.1 k (by omega)
    rw [if_pos c, Int.toNat_natCast, h2] at ga
    obtain ⟨w1, e1, hw1⟩ := hw.y1 (rX0_firstUnsound hw.1 hF hw.2.1) (h5.firstUnsound hF)
    refine aOK.of (w1 := w1) ?_ hw1 (rX7_sound rfl hw1.2.2.2.1) (m_sound hF h9.1 h9.2.1) hl
    try dsimp only
    unfold mX6_sound
    rw [hw.gO6, Option.bind_some, ga, Option.bind_some]
    try dsimp only
    rw [if_neg (by intro t; cases t), hw.gO h5.1.1, Option.bind_some, e1, Option.bind_some]
  · rw [if_neg c] at ga
    refine aOK.of (v := -1) (w1 := w) ?_ hw (rX7_sound rfl hw.2.2.2.1) (m_noMod (F := F) hz (by omega) (by omega)).2.2.2.2.2 hl
    try dsimp only
    unfold mX6_sound
    rw [hw.gO6, Option.bind_some, ga, Option.bind_some]
    try dsimp only
    rw [if_pos rfl]; rfl
theorem k_count (h : WI x m w) (hz : i32 z) : aOK x m w (fun w => mX6_count F x (Int32.ofInt z) w) (fun w => mX7_count F m (Int32.ofInt z) w) := by
  obtain ⟨C, O, S, Z, gn, gT, gc, ac, hw, hl⟩ := h
  obtain ⟨⟨c1, c2⟩, ⟨c3, c4⟩, ⟨c5, c6⟩, c7⟩ := hl.1
  obtain ⟨a, s1, s2, s3, s4, s5, s6⟩ := hl.2.2.2.2.1.2 0 (by omega)
  have hm := m_count (F := F) (Z := Z) (v := z) hz (by
    have e : ((0 : Nat) : Int) = 0 := rfl
    rw [e] at s6
    rcases s6 with ⟨_, t⟩ | ⟨t1, t⟩ <;> omega)
  refine aOK.of (w1 := w) ?_ hw (rX7_count rfl hw.2.2.2.1) hm hl
  try dsimp only
  unfold mX6_count
  by_cases u0 : z = 0
  · rw [u0, if_pos (show Int32.ofInt 0 = 0 from rfl), if_pos rfl, hw.xI 3 rfl, Option.bind_some, c3, c5, iO_nat]
  · rw [if_neg (show ¬ Int32.ofInt z = 0 from fun t => u0 ((iO_eq (b := 0) ⟨hz, by omega⟩).mp t)), if_neg u0]
    by_cases u1 : z = 1
    · rw [u1, if_pos (show Int32.ofInt 1 = 1 from rfl), if_pos rfl, hw.xI 4 rfl, Option.bind_some, c4, c6, iO_nat]
    · rw [if_neg (show ¬ Int32.ofInt z = 1 from fun t => u1 ((iO_eq (b := 1) ⟨hz, by omega⟩).mp t)), if_neg u1]
      by_cases u2 : z = 2
      · have r0 : gFR 6 2 (some x) w = some (some (x + 3)) := hw.2.2.1.rQ 2 (c := 4) rfl
        have l0 : gLR 4 (some (x + 3)) (0 : Int32) w = some (oQ S 2 0) := hw.2.2.1.ldR 2 (c := 4) (len := 4) rfl (j := 0) (by omega) (by decide)
        rw [u2, if_pos (show Int32.ofInt 2 = 2 from rfl), if_pos rfl, r0, Option.bind_some, l0, Option.bind_some, s1, hw.cFI s2 (k := 1) rfl, Option.bind_some]
        have e : ((0 : Nat) : Int) = 0 := rfl
        rw [e] at s6
        have s4 : zI (O a) 2 = zA Z 5 0 := s4
        rcases s6 with ⟨t1, t2⟩ | ⟨t1, t2⟩
        · rw [t1, if_pos (show Int32.ofInt (-1) = -1 from rfl), if_pos t2]; rfl
        · rw [if_neg (show ¬ Int32.ofInt (zI (O a) 1) = -1 from fun t => by have := (iO_eq (b := -1) ⟨by omega, by omega⟩).mp t; omega), if_neg (show ¬ zA Z 4 0 = -4 by omega), Option.bind_some, l0, Option.bind_some, s1, hw.cFI s2 (k := 2) rfl, Option.bind_some, s4]
      · rw [if_neg (show ¬ Int32.ofInt z = 2 from fun t => u2 ((iO_eq (b := 2) ⟨hz, by omega⟩).mp t)), if_neg u2]; rfl
end AR3
