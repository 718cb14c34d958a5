section ARC
variable {F x m n a : Nat} {C C' : yC} {w w1 w2 : gW} {O O' : zO} {S S' S1 : oSt} {X : zS} {Z Z' : zS} {T : Nat → Nat → Nat} {f : Int → Int} {gn gn' : Nat → Nat} {gT gT' : Nat → Nat → Nat → Nat} {gc gc' ac : Nat} {z y u : Int} {D : Nat → Prop}
theorem k_over (hF : fF F) (h : WI x m w) (hz : i32 z) (hy : i32 y) : aOK x m w (fun w => mX6_over F x (Int32.ofInt z) (Int32.ofInt y) w) (fun w => mX7_over F m (Int32.ofInt z) (Int32.ofInt y) w) := by
  obtain ⟨C, O, S, Z, gn, gT, gc, ac, hw, hl⟩ := h
  obtain ⟨⟨c1, c2⟩, ⟨c3, c4⟩, ⟨c5, c6⟩, c7⟩ := hl.1
  have ga := w_actionAt (F := F) hw c4 c2 hz
  by_cases c : 0 ≤ z ∧ z < ac
  · obtain ⟨k, rfl⟩ : ∃ k : Nat, z = k := ⟨z.toNat, by omega⟩
    obtain ⟨A, g, t, b, s, p, r, gi, M, hp, w1, C', O', S', e1, e2, e3, hw1, e4, e5, sm, fin⟩ := w_slv (j := k) hF hw hl (by omega)
    rw [if_pos c, Int.toNat_natCast, e1] at ga
    have hI := sm.1
    have hm := sm.2.2.2.2.1
    have hgi := sm.2.2.2.2.2.1
    have hpp := sm.2.1.2.2.2.2.1
    have hrr := sm.2.1.2.2.2.2.2.1
    have hn8 := sm.2.1.2.2.1
    obtain ⟨w2, f2, hw2⟩ := w_refusal (z := y) hF hw1 sm hy
    have l1 := lk_r (p := p) (n := gn gi) (r := r) (T := gT gi) (M := M) (v := y)
    obtain ⟨q1, q2⟩ := ov_pw (r := r) hpp hrr
    have hq48 : p ^ r * gn gi ≤ 25 * 8 := Nat.mul_le_mul q2 hn8
    obtain ⟨Z1, r1, r2, r3, r4, r5⟩ := m_overK (F := F) (v := y) (g1 := gc) hF hI hm hy c5 hgi c1
    have hd : mX6_over F x (Int32.ofInt (k : Nat)) (Int32.ofInt y) w = (if Int32.ofInt (lkV p (gn gi) r (gT gi) M y) = 0 then (if Int32.ofInt ((p ^ r * gn gi : Nat) : Int) ≤ 48 then ((mX6_spareGroup F x w2).bind fun q53 => if q53.1 = none then some ((-3 : Int32), q53.2) else ((gO 2 q53.1 q53.2).bind fun a70 => (mX2_fillOver F a70 (some A) (Int32.ofInt y) q53.2).bind fun q70 => (gO 6 (some x) q70).bind fun a76 => (mX6_keep F a76 q53.1 q70).bind fun q76 => some (q76.1, q76.2))) else some ((-3 : Int32), w2)) else some (Int32.ofInt (lkV p (gn gi) r (gT gi) M y), w2)) := by
      have i5 : gFI 0 5 (some A) w2 = some (Int32.ofInt ((p ^ r : Nat) : Int)) := by rw [hw2.cFI sm.2.1.1.1 (k := 5) rfl, sm.2.2.2.2.2.2.1]
      have f2' : gFR 0 2 (some A) w2 = some (some g) := by rw [hw2.cFR sm.2.1.1.1 (k := 2) rfl, sm.2.1.1.2.2.2.2]
      have i7 : gFI 2 7 (some g) w2 = some (Int32.ofInt (gn gi : Nat)) := by rw [hw2.cFI sm.2.1.1.2.1 (k := 7) rfl, sm.2.1.2.1.1]
      unfold mX6_over
      rw [hw.gO6, Option.bind_some, ga, Option.bind_some]
      try dsimp only
      rw [if_neg (by intro t; cases t), hw.gO6, Option.bind_some, e3, Option.bind_some, f2, Option.bind_some]
      try dsimp only
      rw [i5, Option.bind_some, f2', Option.bind_some, i7, Option.bind_some, ← Int32.ofInt_mul, ← Int.natCast_mul, hw2.gO6, Option.bind_some]
    by_cases d1 : lkV p (gn gi) r (gT gi) M y = 0
    · have pz := (iO_z0 (by unfold i32; omega)).mpr d1
      obtain ⟨s0, y0, y1⟩ := lk_0 d1
      obtain ⟨i, rfl⟩ : ∃ i : Nat, y = i := ⟨y.toNat, by omega⟩
      by_cases d2 : p ^ r * gn gi ≤ 48
      · have p48 : Int32.ofInt ((p ^ r * gn gi : Nat) : Int) ≤ 48 := (iO_le (b := 48) ⟨by omega, by omega⟩).mpr (by omega)
        by_cases e8 : gc = 8
        · subst e8
          have h3 : oI S' 3 = nI 8 := by rw [e5.1]; exact c3
          refine aOK.of (v := -3) (w1 := w2) ?_ hw2 (rX7_over rfl rfl hw2.2.2.2.1) (r4 d1 (Or.inl rfl)) (fin Z1 r1 r2)
          show mX6_over F x (Int32.ofInt (k : Nat)) (Int32.ofInt (i : Nat)) w = _
          rw [hd, if_pos pz, if_pos p48, w_spare8 hw2 h3, Option.bind_some]
          try dsimp only
          rw [if_pos rfl]; rfl
        · have h8 : gc < 8 := by omega
          obtain ⟨o1, kB, kk, RB, R, lB, l, o3, o4, o5, o6, o7, o8, o9⟩ := sm.2.2.2.1.1 s0
          obtain ⟨w3, C2, O2, S2, a, s1, hw3, hl3, s2, s3, s4, s5, s6, s7, s8⟩ := w_spare (F := F) hw2 (fin Z1 r1 r2) h8
          have kA := sm.2.1.1.1
          have kg := sm.2.1.1.2.1
          have kt := sm.2.1.1.2.2.1
          have ks := sm.2.2.1.2.2.1
          have hA3 : yAct C2 O2 A g t (gn gi) (gT gi) p r M := (sm.2.1.cx s2).keep (s5 A _ kA) (s5 g _ kg)
          have nga : g ≠ a := fun t => by
            subst t
            have := hl3.2.1.2.1 gi gc g (by omega) h8 (by rw [s6 gi (by omega)]; exact sm.2.2.2.2.2.2.2.1) s4
            omega
          obtain ⟨f, m1, m2⟩ := r5 d1 h8 d2
          rw [Int.toNat_natCast] at m2
          obtain ⟨O3, p1, p2, ⟨p3, p4⟩, p5, p6⟩ := y_fillOver (F := F) (fr := a) (R := R) (c := i) (k := kk) (s := s) hF hA3 (s2 s _ ks).1 (((s2 t _ kt).2 2).trans sm.2.2.1.2.2.2) o7 (by rw [s5 s _ ks]; exact o6) (by unfold i32 at hy; omega) s3 nga (by rw [s5 A _ kA]; exact sm.2.2.2.2.2.2.1) d2
          obtain ⟨w4, g1, hw4⟩ := hw3.y0 (rX2_fillOver (v1' := some A) hw3.1 hF rfl rfl hw3.2.1) p1
          have hM := sdM_of (p := p) sm.2.1.2.1.2.2.1 s0
          have hr' : r = 1 ∨ r = 2 := by omega
          have hgp : yGp (O3 a) (p ^ r * gn gi) (ovT (gn gi) r (gT gi) M (cmb R i kk)) := ⟨p3, d2, ovT_grp sm.2.1.2.1.2.2.1 hM hr' (cmb_Z2 o8 i), p6⟩
          refine aOK.new hF hw4 hl3 p2 h8 s4 (zAt_of hw4 s3 hgp) hgp.2.2.1 (fun w5 hk => ?_) (fun w5 o => rX7_over rfl rfl o) m1 (m2 kk R l o8)
          show mX6_over F x (Int32.ofInt (k : Nat)) (Int32.ofInt (i : Nat)) w = _
          rw [hd, if_pos pz, if_pos p48, s1, Option.bind_some]
          try dsimp only
          rw [if_neg (by intro t; cases t), hw3.gO s3, Option.bind_some, g1, Option.bind_some, hw4.gO6, Option.bind_some, hk, Option.bind_some]
      · refine aOK.of (v := -3) (w1 := w2) ?_ hw2 (rX7_over rfl rfl hw2.2.2.2.1) (r4 d1 (Or.inr (by omega))) (fin Z1 r1 r2)
        show mX6_over F x (Int32.ofInt (k : Nat)) (Int32.ofInt (i : Nat)) w = _
        rw [hd, if_pos pz, if_neg (show ¬ Int32.ofInt ((p ^ r * gn gi : Nat) : Int) ≤ 48 from fun t => by have := (iO_le (b := 48) ⟨by omega, by omega⟩).mp t; omega)]; rfl
    · refine aOK.of (w1 := w2) ?_ hw2 (rX7_over rfl rfl hw2.2.2.2.1) (r3 d1) (fin Z1 r1 r2)
      show mX6_over F x (Int32.ofInt (k : Nat)) (Int32.ofInt y) w = _
      rw [hd, if_neg (fun t => d1 ((iO_z0 (by unfold i32; omega)).mp t))]
  · rw [if_neg c] at ga
    refine aOK.of (v := -1) (w1 := w) ?_ hw (rX7_over rfl rfl hw.2.2.2.1) ((m_noMod2 (F := F) hz (by omega) (by omega)).2.2 y) hl
    try dsimp only
    unfold mX6_over
    rw [hw.gO6, Option.bind_some, ga, Option.bind_some]
    try dsimp only
    rw [if_pos rfl]; rfl
end ARC
