/-! CALLS ABOUT MODULES -/
section AR5
variable {F x m n a j : Nat} {C C' : yC} {w w1 : gW} {O O' : zO} {S S' : oSt} {Z Z' : zS} {T : Nat → Nat → Nat} {M : Nat → Nat → Nat → Int} {gn : Nat → Nat} {gT : Nat → Nat → Nat → Nat} {gc ac : Nat} {z y u : Int}
/-- a module that has been solved, as far as it can -/
def sMd (C' : yC) (O' : zO) (S' : oSt) (Z : zS) (gn : Nat → Nat) (gT : Nat → Nat → Nat → Nat) (gc j A g t b s p r gi : Nat) (M : Nat → Nat → Nat → Int) [NeZero p] : Prop := fInv p ∧ yAct C' O' A g t (gn gi) (gT gi) p r M ∧ yKd C' A t b s ∧ ySd p O' A t b s (gn gi) r (gT gi) M ∧ mOk p Z j gi (gn gi) (gT gi) r M ∧ gi < gc ∧ zI (O' A) 5 = (p ^ r : Nat) ∧ oQ S' 0 gi = some g ∧ gSt (O' g) (gn gi) (gT gi)
theorem w_slv (hF : fF F) (hw : hW C x m w O S Z) (hl : LI C O S Z gn gT gc ac) (hj : j < ac) : ∃ (A g t b s p r gi : Nat) (M : Nat → Nat → Nat → Int) (_ : NeZero p) (w1 : gW) (C' : yC) (O' : zO) (S' : oSt), oQ S 1 j = some A ∧ yAct C O A g t (gn gi) (gT gi) p r M ∧ mX6_solve F x (some A) w = some w1 ∧ hW C' x m w1 O' S' Z ∧ cEx C C' ∧ rSm S S' ∧ sMd C' O' S' Z gn gT gc j A g t b s p r gi M ∧ ∀ Z', kM Z Z' j → mOk p Z' j gi (gn gi) (gT gi) r M → LI C' O' S' Z' gn gT gc ac := by
  obtain ⟨A, g, t, b, s, p, r, gi, M, hp, h1, h2, h3, h4, h5, h6, h7, h8, h9⟩ := hl.2.2.2.1 j hj
  obtain ⟨g', k1, k2, k3, k4, k5⟩ := hl.g h3
  have eg : g' = g := Option.some.inj (k1.symm.trans h4)
  subst eg
  have hli := hl.2.2.2.2.2
  obtain ⟨w1, C', O', S', s1, s2, s3, ⟨s4, s5, s6⟩, s7, s8, s9, s10, s11⟩ := w_solve (A := A) hF h1 hw h5 h6 k3 h8 hli.2
  have hl' : lIn C' S' := ⟨fun e he => by rw [s5] at he; exact (s3 e _ (hli.1 e he)).1, s6⟩
  have h5' : zI (O' A) 5 = (p ^ r : Nat) := by rw [s10]; exact h7
  refine ⟨A, g', t, b, s, p, r, gi, M, hp, w1, C', O', S', h2, h5, s1, s2, s3, s4, ⟨h1, s9, h6.cx h5.1.2.2.1 s3, s11, h9, h3, h5', by rw [s4.2]; exact h4, s8⟩, fun Z' hz hm => ?_⟩
  exact hl.mod hj h1 h2 h3 h4 h5 h6 s3 s4 hl' s7 s8 s9 h5' (ySf_of s11) hz hm
theorem lk_r {p r : Nat} [NeZero p] {v : Int} : lkV p n r T M v = 0 ∨ lkV p n r T M v = -1 ∨ lkV p n r T M v = -2 := by
  unfold lkV
  split
  · omega
  · split
    · split <;> omega
    · omega
theorem lk_0 {p r : Nat} [NeZero p] {v : Int} (h : lkV p n r T M v = 0) : sdV n p r T M = 0 ∧ 0 ≤ v ∧ v < ((p ^ dmH p n r T M : Nat) : Int) := by
  unfold lkV at h
  by_cases c1 : v < 0
  · rw [if_pos c1] at h; omega
  · rw [if_neg c1] at h
    by_cases c2 : sdV n p r T M = 0
    · rw [if_pos c2] at h
      by_cases c3 : v < ((p ^ dmH p n r T M : Nat) : Int)
      · exact ⟨c2, by omega, c3⟩
      · rw [if_neg c3] at h; omega
    · rw [if_neg c2] at h; omega
theorem iO_z0 {v : Int} (hv : i32 v) : Int32.ofInt v = 0 ↔ v = 0 := iO_eq (b := 0) ⟨hv, by omega⟩
theorem w_refusal {A g t b s p r gi : Nat} [NeZero p] (hF : fF F) (hw : hW C x m w O S Z) (h : sMd C O S Z gn gT gc j A g t b s p r gi M) (hz : i32 z) : ∃ w', mX6_refusalOf F (some A) (Int32.ofInt z) w = some (Int32.ofInt (lkV p (gn gi) r (gT gi) M z), w') ∧ hW C x m w' O S Z := hw.y1 (rX6_refusalOf (v0' := some A) hw.1 hF rfl rfl hw.2.1) (y_refusalOf h.1 h.2.1.2.2.2.2.1 h.2.2.2.1 h.2.1.1.1 h.2.1.1.2.2.2.1 h.2.1.1.2.2.1 hz)
theorem k_dimension (hF : fF F) (h : WI x m w) (hz : i32 z) (hy : i32 y) : aOK x m w (fun w => mX6_dimension F x (Int32.ofInt z) (Int32.ofInt y) w) (fun w => mX7_dimension F m (Int32.ofInt z) (Int32.ofInt y) w) := by
  obtain ⟨C, O, S, Z, gn, gT, gc, ac, hw, hl⟩ := h
  obtain ⟨⟨c1, c2⟩, ⟨c3, c4⟩, ⟨c5, c6⟩, c7⟩ := hl.1
  have ga := w_actionAt (F := F) hw c4 c2 hz
  by_cases c : 0 ≤ z ∧ z < ac
  · obtain ⟨k, rfl⟩ : ∃ k : Nat, z = k := ⟨z.toNat, by omega⟩
    obtain ⟨A, g, t, b, s, p, r, gi, M, hp, w1, C', O', S', e1, e2, e3, hw1, e4, e5, sm, fin⟩ := w_slv (j := k) hF hw hl (by omega)
    rw [if_pos c, Int.toNat_natCast, e1] at ga
    have hI := sm.1
    have hm := sm.2.2.2.2.1
    have e0 : (0 : Int32) = Int32.ofInt 0 := rfl
    have e6 : (6 : Int32) = Int32.ofInt 6 := rfl
    by_cases d : 0 ≤ y ∧ y ≤ 6
    · have hd : mX6_dimension F x (Int32.ofInt (k : Nat)) (Int32.ofInt y) w = (if Int32.ofInt (zI (O' A) 6) = 0 then some ((-2 : Int32), w1) else (mX5_dimensionOf F t (Int32.ofInt y) w1).bind fun q39 => some (q39.1, q39.2)) := by
        unfold mX6_dimension
        rw [hw.gO6, Option.bind_some, ga, Option.bind_some]
        try dsimp only
        have i6 : gFI 0 6 (some A) w1 = some (Int32.ofInt (zI (O' A) 6)) := hw1.cFI sm.2.1.1.1 (k := 6) rfl
        have f1 : gFR 0 1 (some A) w1 = some (some t) := by rw [hw1.cFR sm.2.1.1.1 (k := 1) rfl, sm.2.1.1.2.2.2.1]
        rw [if_neg (by intro t; cases t), if_neg (show ¬ Int32.ofInt y < 0 from fun t => by have := (iO_lt (b := 0) ⟨hy, by omega⟩).mp t; omega), if_pos (show Int32.ofInt y ≤ 6 from (iO_le (b := 6) ⟨hy, by omega⟩).mpr d.2), hw.gO6, Option.bind_some, e3, Option.bind_some, i6, Option.bind_some, f1, Option.bind_some, hw1.gO sm.2.1.1.2.2.1, Option.bind_some]
      by_cases s0 : sdV (gn gi) p r (gT gi) M = 0
      · obtain ⟨o1, o2⟩ := sm.2.2.2.1.1 s0
        obtain ⟨w2, p1, hw2⟩ := hw1.y1 (rX5_dimensionOf hw1.1 hF rfl hw1.2.1) (y_dimensionOf (F := F) (v := y) hI o2 sm.2.1.1.2.2.1 sm.2.2.1.1 sm.2.2.1.2.1 sm.2.2.1.2.2.1 sm.2.2.1.2.2.2 d)
        obtain ⟨Z1, r1, r2, r3, -⟩ := m_dim3K (F := F) hF hI hm d s0
        refine aOK.of (w1 := w2) ?_ hw2 (rX7_dimension rfl rfl hw2.2.2.2.1) r1 (fin Z1 r2 r3)
        show mX6_dimension F x (Int32.ofInt (k : Nat)) (Int32.ofInt y) w = _
        rw [hd, o1, if_neg (by decide), p1, Option.bind_some]
      · have o1 := sm.2.2.2.1.2 s0
        have sb := sdV_b (n := gn gi) (p := p) (r := r) (T := gT gi) (M := M) sm.2.1.2.2.1
        refine aOK.of (w1 := w1) (v := -2) ?_ hw1 (rX7_dimension rfl rfl hw1.2.2.2.1) (m_dim2 hF hm d s0 (by omega)) (fin Z kM.rf hm)
        show mX6_dimension F x (Int32.ofInt (k : Nat)) (Int32.ofInt y) w = _
        rw [hd, o1, if_pos (show Int32.ofInt 0 = 0 from rfl)]; rfl
    · refine aOK.of (v := -1) (w1 := w) ?_ hw (rX7_dimension rfl rfl hw.2.2.2.1) (m_dim1 hF hm hy d) hl
      try dsimp only
      unfold mX6_dimension
      rw [hw.gO6, Option.bind_some, ga, Option.bind_some]
      try dsimp only
      rw [if_neg (by intro t; cases t)]
      by_cases d1 : y < 0
      · rw [if_pos (show Int32.ofInt y < 0 from (iO_lt (b := 0) ⟨hy, by omega⟩).mpr d1)]; rfl
      · rw [if_neg (show ¬ Int32.ofInt y < 0 from fun t => d1 ((iO_lt (b := 0) ⟨hy, by omega⟩).mp t)), if_neg (show ¬ Int32.ofInt y ≤ 6 from fun t => d ⟨by omega, (iO_le (b := 6) ⟨hy, by omega⟩).mp t⟩)]; rfl
  · rw [if_neg c] at ga
    refine aOK.of (v := -1) (w1 := w) ?_ hw (rX7_dimension rfl rfl hw.2.2.2.1) ((m_noMod (F := F) hz (by omega) (by omega)).1 y) hl
    try dsimp only
    unfold mX6_dimension
    rw [hw.gO6, Option.bind_some, ga, Option.bind_some]
    try dsimp only
    rw [if_pos rfl]; rfl
theorem k_sum (hF : fF F) (h : WI x m w) (hz : i32 z) (hy : i32 y) (hu : i32 u) : aOK x m w (fun w => mX6_sum F x (Int32.ofInt z) (Int32.ofInt y) (Int32.ofInt u) w) (fun w => mX7_sum F m (Int32.ofInt z) (Int32.ofInt y) (Int32.ofInt u) w) := by
  obtain ⟨C, O, S, Z, gn, gT, gc, ac, hw, hl⟩ := h
  obtain ⟨⟨c1, c2⟩, ⟨c3, c4⟩, ⟨c5, c6⟩, c7⟩ := hl.1
  have ga := w_actionAt (F := F) hw c4 c2 hz
  by_cases c : 0 ≤ z ∧ z < ac
  · obtain ⟨k, rfl⟩ : ∃ k : Nat, z = k := ⟨z.toNat, by omega⟩
    obtain ⟨A, g, t, b, s, p, r, gi, M, hp, w1, C', O', S', e1, e2, e3, hw1, e4, e5, sm, fin⟩ := w_slv (j := k) hF hw hl (by omega)
    rw [if_pos c, Int.toNat_natCast, e1] at ga
    have hI := sm.1
    have hm := sm.2.2.2.2.1
    have hpp := sm.2.1.2.2.2.2.1
    obtain ⟨w2, f2, hw2⟩ := w_refusal (z := y) hF hw1 sm hy
    obtain ⟨Z1, r1, r2, r3⟩ := m_sumK (F := F) (v := y) (w := u) hF hI hm hy hu
    have l1 := lk_r (p := p) (n := gn gi) (r := r) (T := gT gi) (M := M) (v := y)
    have hd : mX6_sum F x (Int32.ofInt (k : Nat)) (Int32.ofInt y) (Int32.ofInt u) w = (if Int32.ofInt (lkV p (gn gi) r (gT gi) M y) = 0 then (mX6_refusalOf F (some A) (Int32.ofInt u) w2).bind fun q36 => mX6_sum_b41 F (Int32.ofInt y) (Int32.ofInt u) (some A) q36.1 q36.2 else mX6_sum_b41 F (Int32.ofInt y) (Int32.ofInt u) (some A) (Int32.ofInt (lkV p (gn gi) r (gT gi) M y)) w2) := by
      unfold mX6_sum
      rw [hw.gO6, Option.bind_some, ga, Option.bind_some]
      try dsimp only
      rw [if_neg (by intro t; cases t), hw.gO6, Option.bind_some, e3, Option.bind_some, f2, Option.bind_some]
    by_cases d1 : lkV p (gn gi) r (gT gi) M y = 0
    · obtain ⟨w3, f3, hw3⟩ := w_refusal (z := u) hF hw2 sm hu
      have l2 := lk_r (p := p) (n := gn gi) (r := r) (T := gT gi) (M := M) (v := u)
      by_cases d2 : lkV p (gn gi) r (gT gi) M u = 0
      · obtain ⟨s0, y0, y1⟩ := lk_0 d1
        obtain ⟨-, u0, u1⟩ := lk_0 d2
        obtain ⟨o1, o2⟩ := sm.2.2.2.1.1 s0
        obtain ⟨n1, n2, n3, n4, n5⟩ := o2.dn hI
        obtain ⟨i, rfl⟩ : ∃ i : Nat, y = i := ⟨y.toNat, by omega⟩
        obtain ⟨j, rfl⟩ : ∃ j : Nat, u = j := ⟨u.toNat, by omega⟩
        have pb := pw_b hpp n5
        obtain ⟨w4, f4, hw4⟩ := hw3.y1 (rX6_addDigits hw3.1 hF rfl rfl rfl rfl hw3.2.1) (y_sumD (F := F) (C := C') (O := O') hF hpp n5 (v := i) (w := j) (by omega) (by omega))
        refine aOK.of (w1 := w4) ?_ hw4 (rX7_sum rfl rfl rfl hw4.2.2.2.1) r1 (fin Z1 r2 r3)
        show mX6_sum F x (Int32.ofInt (k : Nat)) (Int32.ofInt (i : Nat)) (Int32.ofInt (j : Nat)) w = _
        rw [hd, if_pos ((iO_z0 (by unfold i32; omega)).mpr d1), f3, Option.bind_some]
        unfold mX6_sum_b41 smV
        try dsimp only
        have i3 : gFI 0 3 (some A) w3 = some (Int32.ofInt (p : Nat)) := by rw [hw3.cFI sm.2.1.1.1 (k := 3) rfl, sm.2.1.2.2.2.1.1]
        have r1' : gFR 0 1 (some A) w3 = some (some t) := by rw [hw3.cFR sm.2.1.1.1 (k := 1) rfl, sm.2.1.1.2.2.2.1]
        have r2' : gFR 5 2 (some t) w3 = some (some s) := by rw [hw3.cFR sm.2.1.1.2.2.1 (k := 2) rfl, sm.2.2.1.2.2.2]
        have i5 : gFI 1 5 (some s) w3 = some (Int32.ofInt (dmH p (gn gi) r (gT gi) M : Nat)) := by rw [hw3.cFI sm.2.2.1.2.2.1 (k := 5) rfl, n2]
        rw [if_pos ((iO_z0 (by unfold i32; omega)).mpr d2), i3, Option.bind_some, r1', Option.bind_some, r2', Option.bind_some, i5, Option.bind_some, f4, Option.bind_some, if_pos (by omega), if_pos (by omega), Int.toNat_natCast, Int.toNat_natCast]
      · refine aOK.of (w1 := w3) ?_ hw3 (rX7_sum rfl rfl rfl hw3.2.2.2.1) r1 (fin Z1 r2 r3)
        show mX6_sum F x (Int32.ofInt (k : Nat)) (Int32.ofInt y) (Int32.ofInt u) w = _
        rw [hd, if_pos ((iO_z0 (by unfold i32; omega)).mpr d1), f3, Option.bind_some]
        unfold mX6_sum_b41 smV
        try dsimp only
        rw [if_neg (fun t => d2 ((iO_z0 (by unfold i32; omega)).mp t)), if_pos (by omega), if_neg (by omega)]
    · refine aOK.of (w1 := w2) ?_ hw2 (rX7_sum rfl rfl rfl hw2.2.2.2.1) r1 (fin Z1 r2 r3)
      show mX6_sum F x (Int32.ofInt (k : Nat)) (Int32.ofInt y) (Int32.ofInt u) w = _
      rw [hd, if_neg (fun t => d1 ((iO_z0 (by unfold i32; omega)).mp t))]
      unfold mX6_sum_b41 smV
      rw [if_neg (fun t => d1 ((iO_z0 (by unfold i32; omega)).mp t)), if_neg (by omega)]
  · rw [if_neg c] at ga
    refine aOK.of (v := -1) (w1 := w) ?_ hw (rX7_sum rfl rfl rfl hw.2.2.2.1) ((m_noMod2 (F := F) hz (by omega) (by omega)).2.1 y u) hl
    try dsimp only
    unfold mX6_sum
    rw [hw.gO6, Option.bind_some, ga, Option.bind_some]
    try dsimp only
    rw [if_pos rfl]; rfl
end AR5
