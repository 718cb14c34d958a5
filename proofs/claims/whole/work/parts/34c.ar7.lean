section AR7
variable {F x m n a j : Nat} {C C' : yC} {w w1 : gW} {O O' : zO} {S S' : oSt} {Z Z' : zS} {T : Nat → Nat → Nat} {M : Nat → Nat → Nat → Int} {gn : Nat → Nat} {gT : Nat → Nat → Nat → Nat} {gc ac : Nat} {z y u t1 t2 : Int}
theorem k_twist (hF : fF F) (h : WI x m w) (hz : i32 z) (hy : i32 y) (hu : i32 u) (h1 : i32 t1) (h2 : i32 t2) : aOK x m w (fun w => mX6_twist F x (Int32.ofInt z) (Int32.ofInt y) (Int32.ofInt u) (Int32.ofInt t1) (Int32.ofInt t2) w) (fun w => mX7_twist F m (Int32.ofInt z) (Int32.ofInt y) (Int32.ofInt u) (Int32.ofInt t1) (Int32.ofInt t2) w) := by
  obtain ⟨C, O, S, Z, gn, gT, gc, ac, hw, hl⟩ := h
  obtain ⟨⟨c1, c2⟩, ⟨c3, c4⟩, ⟨c5, c6⟩, c7⟩ := hl.1
  have hGs := hl.gs
  have ga := w_actionAt (F := F) hw c4 c2 hz
  by_cases c : 0 ≤ z ∧ z < ac
  · obtain ⟨k, rfl⟩ : ∃ k : Nat, z = k := ⟨z.toNat, by omega⟩
    obtain ⟨A, g, t, b, s, p, r, gi, M, hp, w1, C', O', S', e1, e2, e3, hw1, e4, e5, sm, fin⟩ := w_slv (j := k) hF hw hl (by omega)
    rw [if_pos c, Int.toNat_natCast, e1] at ga
    have hI := sm.1
    have hm := sm.2.2.2.2.1
    have hgi := sm.2.2.2.2.2.1
    have hpp := sm.2.1.2.2.2.2.1
    have hrr := sm.2.1.2.2.2.2.2.1
    have hn8 := sm.2.1.2.2.1
    have f2 : gFR 0 2 (some A) w = some (some g) := by rw [hw.cFR e2.1.1 (k := 2) rfl, e2.1.2.2.2.2]
    have f4 : gFI 0 4 (some A) w = some (Int32.ofInt (r : Nat)) := by rw [hw.cFI e2.1.1 (k := 4) rfl, e2.2.2.2.1.2]
    have hx := w_has (F := F) hw e2.1.2.1 e2.2.1.1 (by omega) hu
    have hy' := w_has (F := F) hw e2.1.2.1 e2.2.1.1 (by omega) h1
    have bad : ¬ ((0 ≤ u ∧ u < gn gi) ∧ (0 ≤ t1 ∧ t1 < gn gi) ∧ 0 ≤ t2 ∧ t2 < r) → mX6_twist F x (Int32.ofInt (k : Nat)) (Int32.ofInt y) (Int32.ofInt u) (Int32.ofInt t1) (Int32.ofInt t2) w = some (Int32.ofInt (-1), w) → aOK x m w (fun w => mX6_twist F x (Int32.ofInt (k : Nat)) (Int32.ofInt y) (Int32.ofInt u) (Int32.ofInt t1) (Int32.ofInt t2) w) (fun w => mX7_twist F m (Int32.ofInt (k : Nat)) (Int32.ofInt y) (Int32.ofInt u) (Int32.ofInt t1) (Int32.ofInt t2) w) := fun hb e => aOK.of (v := -1) (w1 := w) e hw (rX7_twist rfl rfl rfl rfl rfl hw.2.2.2.1) (m_twist0 hGs hm (by omega) hu h1 h2 hb) hl
    by_cases d1 : 0 ≤ u ∧ u < gn gi
    · by_cases d2 : 0 ≤ t1 ∧ t1 < gn gi
      · by_cases d3 : 0 ≤ t2 ∧ t2 < r
        · obtain ⟨a1, rfl⟩ : ∃ i : Nat, u = i := ⟨u.toNat, by omega⟩
          obtain ⟨a2, rfl⟩ : ∃ i : Nat, t1 = i := ⟨t1.toNat, by omega⟩
          obtain ⟨a3, rfl⟩ : ∃ i : Nat, t2 = i := ⟨t2.toNat, by omega⟩
          obtain ⟨w2, q2, hw2⟩ := w_refusal (z := y) hF hw1 sm hy
          have l1 := lk_r (p := p) (n := gn gi) (r := r) (T := gT gi) (M := M) (v := y)
          obtain ⟨Z1, v, r1, r2, r3, r4, r5⟩ := m_twist1K (F := F) (v := y) (x := a1) (y := a2) (i := a3) hF hI hGs hm (by omega) hy (by omega) (by omega) (by omega)
          have hd : mX6_twist F x (Int32.ofInt (k : Nat)) (Int32.ofInt y) (Int32.ofInt (a1 : Nat)) (Int32.ofInt (a2 : Nat)) (Int32.ofInt (a3 : Nat)) w = (if Int32.ofInt (lkV p (gn gi) r (gT gi) M y) = 0 then ((mX5_numberOf F t (some A) (Int32.ofInt y) (Int32.ofInt (a1 : Nat)) (Int32.ofInt (a2 : Nat)) (Int32.ofInt (a3 : Nat)) w2).bind fun q91 => some (q91.1, q91.2)) else some (Int32.ofInt (lkV p (gn gi) r (gT gi) M y), w2)) := by
            unfold mX6_twist
            rw [hw.gO6, Option.bind_some, ga, Option.bind_some]
            try dsimp only
            rw [if_neg (by intro t; cases t), f2, Option.bind_some, hw.gO e2.1.2.1, Option.bind_some, hx, Option.bind_some, if_pos d1]
            try dsimp only
            rw [if_neg (by decide), f2, Option.bind_some, hw.gO e2.1.2.1, Option.bind_some, hy', Option.bind_some, if_pos d2]
            try dsimp only
            rw [if_neg (by decide), if_neg (show ¬ Int32.ofInt (a3 : Nat) < 0 from fun t => by have := (iO_lt (b := 0) ⟨h2, by omega⟩).mp t; omega), f4, Option.bind_some, if_pos ((iO_lt ⟨h2, by omega⟩).mpr d3.2), hw.gO6, Option.bind_some, e3, Option.bind_some, q2, Option.bind_some]
            try dsimp only
            rw [sm.rt hw2, Option.bind_some, hw2.gO sm.2.1.1.2.2.1, Option.bind_some]
          by_cases d4 : lkV p (gn gi) r (gT gi) M y = 0
          · obtain ⟨s0, y0, y1⟩ := lk_0 d4
            obtain ⟨o1, o2⟩ := sm.2.2.2.1.1 s0
            obtain ⟨kB, kk, RB, R, lB, l, o3, o4, o5, o6, o7, o8, o9⟩ := o2
            obtain ⟨i, rfl⟩ : ∃ i : Nat, y = i := ⟨y.toNat, by omega⟩
            obtain ⟨w3, p1, hw3⟩ := hw2.y1 (rX5_numberOf (v1' := some A) hw2.1 hF rfl rfl rfl rfl rfl hw2.2.1) (y_numberOf (F := F) (R := R) (c := i) (x := a1) (y := a2) (i := a3) hF sm.2.1 sm.2.2.1.2.2.1 sm.2.2.1.2.2.2 o7 o6 (by unfold i32 at hy; omega) (by omega) (by omega) (by omega))
            refine aOK.of (w1 := w3) ?_ hw3 (rX7_twist rfl rfl rfl rfl rfl hw3.2.2.2.1) r1 (fin Z1 r2 r3)
            show mX6_twist F x (Int32.ofInt (k : Nat)) _ (Int32.ofInt (a1 : Nat)) (Int32.ofInt (a2 : Nat)) (Int32.ofInt (a3 : Nat)) w = _
            rw [hd, if_pos ((iO_z0 (by unfold i32; omega)).mpr d4), p1, Option.bind_some, r5 d4 kk R l o8, Int.toNat_natCast]
          · refine aOK.of (w1 := w2) ?_ hw2 (rX7_twist rfl rfl rfl rfl rfl hw2.2.2.2.1) r1 (fin Z1 r2 r3)
            show mX6_twist F x (Int32.ofInt (k : Nat)) _ (Int32.ofInt (a1 : Nat)) (Int32.ofInt (a2 : Nat)) (Int32.ofInt (a3 : Nat)) w = _
            rw [hd, if_neg (fun t => d4 ((iO_z0 (by unfold i32; omega)).mp t)), r4 d4]
        · refine bad (fun t => d3 t.2.2) ?_
          unfold mX6_twist
          rw [hw.gO6, Option.bind_some, ga, Option.bind_some]
          try dsimp only
          rw [if_neg (by intro t; cases t), f2, Option.bind_some, hw.gO e2.1.2.1, Option.bind_some, hx, Option.bind_some, if_pos d1]
          try dsimp only
          rw [if_neg (by decide), f2, Option.bind_some, hw.gO e2.1.2.1, Option.bind_some, hy', Option.bind_some, if_pos d2]
          try dsimp only
          rw [if_neg (by decide)]
          by_cases d5 : t2 < 0
          · rw [if_pos (show Int32.ofInt t2 < 0 from (iO_lt (b := 0) ⟨h2, by omega⟩).mpr d5)]; rfl
          · rw [if_neg (show ¬ Int32.ofInt t2 < 0 from fun t => d5 ((iO_lt (b := 0) ⟨h2, by omega⟩).mp t)), f4, Option.bind_some, if_neg (fun t => d3 ⟨by omega, (iO_lt ⟨h2, by omega⟩).mp t⟩)]; rfl
      · refine bad (fun t => d2 t.2.1) ?_
        unfold mX6_twist
        rw [hw.gO6, Option.bind_some, ga, Option.bind_some]
        try dsimp only
        rw [if_neg (by intro t; cases t), f2, Option.bind_some, hw.gO e2.1.2.1, Option.bind_some, hx, Option.bind_some, if_pos d1]
        try dsimp only
        rw [if_neg (by decide), f2, Option.bind_some, hw.gO e2.1.2.1, Option.bind_some, hy', Option.bind_some, if_neg d2]
        try dsimp only
        rw [if_pos rfl]; rfl
    · refine bad (fun t => d1 t.1) ?_
      unfold mX6_twist
      rw [hw.gO6, Option.bind_some, ga, Option.bind_some]
      try dsimp only
      rw [if_neg (by intro t; cases t), f2, Option.bind_some, hw.gO e2.1.2.1, Option.bind_some, hx, Option.bind_some, if_neg d1]
      try dsimp only
      rw [if_pos rfl]; rfl
  · rw [if_neg c] at ga
    refine aOK.of (v := -1) (w1 := w) ?_ hw (rX7_twist rfl rfl rfl rfl rfl hw.2.2.2.1) ((m_noMod (F := F) hz (by omega) (by omega)).2.2.2.1 y u t1 t2) hl
    try dsimp only
    unfold mX6_twist
    rw [hw.gO6, Option.bind_some, ga, Option.bind_some]
    try dsimp only
    rw [if_pos rfl]; rfl
end AR7
