section ARA
variable {F x m n a : Nat} {C C' : yC} {w w1 w2 : gW} {O O' : zO} {S S' S1 : oSt} {X : zS} {Z Z' : zS} {T : Nat → Nat → Nat} {f : Int → Int} {gn gn' : Nat → Nat} {gT gT' : Nat → Nat → Nat → Nat} {gc gc' ac : Nat} {z y u : Int} {D : Nat → Prop}
theorem w_keep2 (hF : fF F) (hw2 : hW C x m w2 O S Z) (hc : oI S 3 = nI gc) (ka : C.1 a = some (2, 0)) (hz : zAt w2 a n T S1) (G : zGrp n T) : ∃ (w3 : gW) (X : zS), mX6_keep F x (some a) w2 = some (nI gc, w3) ∧ hW C x m w3 (oup O a X) (uI S 3 (nI (gc + 1))) Z ∧ gSt X n T := by
  obtain ⟨w3, S2, e1, e2, e3, e4, e5⟩ := c_settle hF G hz
  have hw3 := hw2.g ka lyG_k e2.1 e5
  obtain ⟨w4, f1, hw4⟩ := hw3.rI 3 rfl (nI (gc + 1))
  refine ⟨w4, unS S2, ?_, hw4, yGp_un e2 G, gDn_un e3 G hz.n31, Or.inl ?_⟩
  · unfold mX6_keep
    rw [hw2.gO ka, Option.bind_some, e1, Option.bind_some, hw3.xI 3 rfl, Option.bind_some, hc, nI_1, f1, Option.bind_some]
  · rw [un_I, e4]; rfl
theorem aOK.new {f' g' : gW → Option (Int32 × gW)} {Y : Option (Int × zS)} (hF : fF F) (hw : hW C x m w2 O' S Z) (hl : LI C O S Z' gn gT gc ac) (hO : ∀ b, b ≠ a → O' b = O b) (h8 : gc < 8) (ha : oQ S 0 gc = some a) (hz : zAt w2 a n T S1) (G : zGrp n T) (hd : ∀ w3, mX6_keep F x (some a) w2 = some (nI gc, w3) → f' w = some (nI gc, w3)) (r : ∀ w3, oAt 7 lyZ w3 m (cvZ Z) → zR (E1 m w3) Y (g' w3)) (e : Y = some (((gc : Nat) : Int), gNew Z' f gc (n : Nat))) (ht : tbF Z' gc n T n 0 f) : aOK x m w f' g' := by
  have ka := hl.2.1.1 gc a h8 ha
  obtain ⟨w3, X, e1, e2, e3⟩ := w_keep2 hF hw hl.1.2.1.1 ka hz G
  have eO : oup O' a X = oup O a X := by
    funext b
    by_cases c : b = a
    · rw [c, oup_s, oup_s]
    · rw [oup_n c, oup_n c, hO b c]
  rw [eO] at e2
  refine aOK.of (w1 := w3) (v := (gc : Nat)) ?_ e2 (r w3 e2.2.2.2.1) e (hl.new h8 ha e3 ht)
  rw [hd w3 e1, iO_nat]
theorem iO_ltc {v : Int} (hv : i32 v) (k : Int) (hk : i32 k) : Int32.ofInt v < Int32.ofInt k ↔ v < k := iO_lt ⟨hv, hk⟩
theorem k_cyclic (hF : fF F) (h : WI x m w) (hz : i32 z) : aOK x m w (fun w => mX6_cyclic F x (Int32.ofInt z) w) (fun w => mX7_cyclic F m (Int32.ofInt z) w) := by
  obtain ⟨C, O, S, Z, gn, gT, gc, ac, hw, hl⟩ := h
  obtain ⟨⟨c1, c2⟩, ⟨c3, c4⟩, ⟨c5, c6⟩, c7⟩ := hl.1
  by_cases d : 1 ≤ z ∧ z ≤ 48
  · have p1 : ¬ Int32.ofInt z < 1 := fun t => by have := (iO_lt (b := 1) ⟨hz, by omega⟩).mp t; omega
    have p2 : Int32.ofInt z ≤ 48 := (iO_le (b := 48) ⟨hz, by omega⟩).mpr d.2
    by_cases c : gc = 8
    · subst c
      refine aOK.of (v := -3) (w1 := w) ?_ hw (rX7_cyclic rfl hw.2.2.2.1) (m_cyclic8 d (by omega)) hl
      try dsimp only
      unfold mX6_cyclic
      rw [if_neg p1, if_pos p2, hw.gO6, Option.bind_some, w_spare8 hw c3, Option.bind_some]
      try dsimp only
      rw [if_pos rfl]; rfl
    · have h8 : gc < 8 := by omega
      obtain ⟨i, rfl⟩ : ∃ i : Nat, z = i := ⟨z.toNat, by omega⟩
      obtain ⟨w1, C', O', S', a, s1, hw1, hl1, s2, s3, s4, s5, s6, s7, s8⟩ := w_spare (F := F) hw hl h8
      obtain ⟨w2, S1, f1, f2, f3⟩ := c_fillTurns hF (hw1.2.1 a _ s3) (n := i) (by omega) (by omega)
      obtain ⟨f, r1, r2⟩ := m_cyclic (F := F) (Z := Z) (n := i) (g := gc) hF (by omega) c5 h8
      refine aOK.new hF (hw1.g s3 lyG_k f2.1 f3) hl1 (fun b hb => oup_n hb) h8 s4 f2 (zCyc_grp (by omega)) (fun w3 hk => ?_) (fun w3 o => rX7_cyclic rfl o) r1 r2
      try dsimp only
      unfold mX6_cyclic
      rw [if_neg p1, if_pos p2, hw.gO6, Option.bind_some, s1, Option.bind_some]
      try dsimp only
      rw [if_neg (by intro t; cases t), hw1.gO s3, Option.bind_some, iO_nat, f1, Option.bind_some, (hw1.g s3 lyG_k f2.1 f3).gO6, Option.bind_some, hk, Option.bind_some]
  · refine aOK.of (v := -1) (w1 := w) ?_ hw (rX7_cyclic rfl hw.2.2.2.1) (m_cyclic0 hz d) hl
    try dsimp only
    unfold mX6_cyclic
    by_cases d1 : z < 1
    · rw [if_pos (show Int32.ofInt z < 1 from (iO_lt (b := 1) ⟨hz, by omega⟩).mpr d1)]; rfl
    · rw [if_neg (show ¬ Int32.ofInt z < 1 from fun t => d1 ((iO_lt (b := 1) ⟨hz, by omega⟩).mp t)), if_neg (show ¬ Int32.ofInt z ≤ 48 from fun t => d ⟨by omega, (iO_le (b := 48) ⟨hz, by omega⟩).mp t⟩)]; rfl
theorem k_dihedral (hF : fF F) (h : WI x m w) (hz : i32 z) : aOK x m w (fun w => mX6_dihedral F x (Int32.ofInt z) w) (fun w => mX7_dihedral F m (Int32.ofInt z) w) := by
  obtain ⟨C, O, S, Z, gn, gT, gc, ac, hw, hl⟩ := h
  obtain ⟨⟨c1, c2⟩, ⟨c3, c4⟩, ⟨c5, c6⟩, c7⟩ := hl.1
  by_cases d : 1 ≤ z ∧ z ≤ 24
  · have p1 : ¬ Int32.ofInt z < 1 := fun t => by have := (iO_lt (b := 1) ⟨hz, by omega⟩).mp t; omega
    have p2 : Int32.ofInt z ≤ 24 := (iO_le (b := 24) ⟨hz, by omega⟩).mpr d.2
    by_cases c : gc = 8
    · subst c
      refine aOK.of (v := -3) (w1 := w) ?_ hw (rX7_dihedral rfl hw.2.2.2.1) (m_dihedral8 d (by omega)) hl
      try dsimp only
      unfold mX6_dihedral
      rw [if_neg p1, if_pos p2, hw.gO6, Option.bind_some, w_spare8 hw c3, Option.bind_some]
      try dsimp only
      rw [if_pos rfl]; rfl
    · have h8 : gc < 8 := by omega
      obtain ⟨i, rfl⟩ : ∃ i : Nat, z = i := ⟨z.toNat, by omega⟩
      obtain ⟨w1, C', O', S', a, s1, hw1, hl1, s2, s3, s4, s5, s6, s7, s8⟩ := w_spare (F := F) hw hl h8
      obtain ⟨w2, S1, f1, f2, f3⟩ := c_fillDih hF (hw1.2.1 a _ s3) (n := i) (by omega) (by omega)
      obtain ⟨f, r1, r2⟩ := m_dihedral (F := F) (Z := Z) (n := i) (g := gc) hF (by omega) c5 h8
      refine aOK.new hF (hw1.g s3 lyG_k f2.1 f3) hl1 (fun b hb => oup_n hb) h8 s4 f2 (zDih_grp (by omega)) (fun w3 hk => ?_) (fun w3 o => rX7_dihedral rfl o) r1 r2
      try dsimp only
      unfold mX6_dihedral
      rw [if_neg p1, if_pos p2, hw.gO6, Option.bind_some, s1, Option.bind_some]
      try dsimp only
      rw [if_neg (by intro t; cases t), hw1.gO s3, Option.bind_some, iO_nat, f1, Option.bind_some, (hw1.g s3 lyG_k f2.1 f3).gO6, Option.bind_some, hk, Option.bind_some]
  · refine aOK.of (v := -1) (w1 := w) ?_ hw (rX7_dihedral rfl hw.2.2.2.1) (m_dihedral0 hz d) hl
    try dsimp only
    unfold mX6_dihedral
    by_cases d1 : z < 1
    · rw [if_pos (show Int32.ofInt z < 1 from (iO_lt (b := 1) ⟨hz, by omega⟩).mpr d1)]; rfl
    · rw [if_neg (show ¬ Int32.ofInt z < 1 from fun t => d1 ((iO_lt (b := 1) ⟨hz, by omega⟩).mp t)), if_neg (show ¬ Int32.ofInt z ≤ 24 from fun t => d ⟨by omega, (iO_le (b := 24) ⟨hz, by omega⟩).mp t⟩)]; rfl
theorem k_quaternions (hF : fF F) (h : WI x m w) : aOK x m w (fun w => mX6_quaternions F x w) (fun w => mX7_quaternions F m w) := by
  obtain ⟨C, O, S, Z, gn, gT, gc, ac, hw, hl⟩ := h
  obtain ⟨⟨c1, c2⟩, ⟨c3, c4⟩, ⟨c5, c6⟩, c7⟩ := hl.1
  by_cases c : gc = 8
  · subst c
    refine aOK.of (v := -3) (w1 := w) ?_ hw (rX7_quaternions hw.2.2.2.1) (m_quaternions8 (by omega)) hl
    try dsimp only
    unfold mX6_quaternions
    rw [hw.gO6, Option.bind_some, w_spare8 hw c3, Option.bind_some]
    try dsimp only
    rw [if_pos rfl]; rfl
  · have h8 : gc < 8 := by omega
    obtain ⟨w1, C', O', S', a, s1, hw1, hl1, s2, s3, s4, s5, s6, s7, s8⟩ := w_spare (F := F) hw hl h8
    obtain ⟨w2, S1, f1, f2, f3⟩ := c_fillQua hF (hw1.2.1 a _ s3)
    obtain ⟨f, r1, r2⟩ := m_quaternions (F := F) (Z := Z) (g := gc) hF c5 h8
    refine aOK.new hF (hw1.g s3 lyG_k f2.1 f3) hl1 (fun b hb => oup_n hb) h8 s4 f2 zQua_grp (fun w3 hk => ?_) (fun w3 o => rX7_quaternions o) r1 r2
    try dsimp only
    unfold mX6_quaternions
    rw [hw.gO6, Option.bind_some, s1, Option.bind_some]
    try dsimp only
    rw [if_neg (by intro t; cases t), hw1.gO s3, Option.bind_some, f1, Option.bind_some, (hw1.g s3 lyG_k f2.1 f3).gO6, Option.bind_some, hk, Option.bind_some]
theorem k_pair (hF : fF F) (h : WI x m w) (hz : i32 z) (hy : i32 y) : aOK x m w (fun w => mX6_pair F x (Int32.ofInt z) (Int32.ofInt y) w) (fun w => mX7_pair F m (Int32.ofInt z) (Int32.ofInt y) w) := by
  obtain ⟨C, O, S, Z, gn, gT, gc, ac, hw, hl⟩ := h
  obtain ⟨⟨c1, c2⟩, ⟨c3, c4⟩, ⟨c5, c6⟩, c7⟩ := hl.1
  have hGs := hl.gs
  have ga := w_groupAt (F := F) hw c3 c1 hz
  have gb := w_groupAt (F := F) hw c3 c1 hy
  have bad : ¬ ((0 ≤ z ∧ z < zI Z 0) ∧ (0 ≤ y ∧ y < zI Z 0)) → mX6_pair F x (Int32.ofInt z) (Int32.ofInt y) w = some (Int32.ofInt (-1), w) → aOK x m w (fun w => mX6_pair F x (Int32.ofInt z) (Int32.ofInt y) w) (fun w => mX7_pair F m (Int32.ofInt z) (Int32.ofInt y) w) := fun hb e => aOK.of (v := -1) (w1 := w) e hw (rX7_pair rfl rfl hw.2.2.2.1) (m_pair1 hGs hz hy hb) hl
  by_cases c : 0 ≤ z ∧ z < gc
  · obtain ⟨k, rfl⟩ : ∃ k : Nat, z = k := ⟨z.toNat, by omega⟩
    obtain ⟨a1, q1, q2, q3, q4, -⟩ := hl.g (k := k) (by omega)
    rw [if_pos c, Int.toNat_natCast, q1] at ga
    by_cases d : 0 ≤ y ∧ y < gc
    · obtain ⟨k', rfl⟩ : ∃ k : Nat, y = k := ⟨y.toNat, by omega⟩
      obtain ⟨a2, p1, p2, p3, p4, -⟩ := hl.g (k := k') (by omega)
      rw [if_pos d, Int.toNat_natCast, p1] at gb
      have n1 := q3.1.2.1
      have n2 := p3.1.2.1
      have nn : gn k * gn k' ≤ 48 * 48 := Nat.mul_le_mul n1 n2
      have hd : mX6_pair F x (Int32.ofInt (k : Nat)) (Int32.ofInt (k' : Nat)) w = (if Int32.ofInt ((gn k * gn k' : Nat) : Int) ≤ 48 then ((mX6_spareGroup F x w).bind fun q43 => if q43.1 = none then some ((-3 : Int32), q43.2) else ((gO 2 q43.1 q43.2).bind fun a61 => (mX2_fillPair F a61 (some a1) (some a2) q43.2).bind fun q61 => (gO 6 (some x) q61).bind fun a67 => (mX6_keep F a67 q43.1 q61).bind fun q67 => some (q67.1, q67.2))) else some ((-3 : Int32), w)) := by
        have i1 : gFI 2 7 (some a1) w = some (Int32.ofInt (gn k : Nat)) := by rw [hw.cFI q2 (k := 7) rfl, q3.1.1]
        have i2 : gFI 2 7 (some a2) w = some (Int32.ofInt (gn k' : Nat)) := by rw [hw.cFI p2 (k := 7) rfl, p3.1.1]
        unfold mX6_pair
        rw [hw.gO6, Option.bind_some, ga, Option.bind_some]
        try dsimp only
        rw [hw.gO6, Option.bind_some, gb, Option.bind_some]
        try dsimp only
        rw [if_neg (by intro t; cases t), if_neg (by intro t; cases t), i1, Option.bind_some, i2, Option.bind_some, ← Int32.ofInt_mul, ← Int.natCast_mul, hw.gO6, Option.bind_some]
      by_cases e48 : gn k * gn k' ≤ 48
      · have p48 : Int32.ofInt ((gn k * gn k' : Nat) : Int) ≤ 48 := (iO_le (b := 48) ⟨by omega, by omega⟩).mpr (by omega)
        by_cases e8 : gc = 8
        · subst e8
          refine aOK.of (v := -3) (w1 := w) ?_ hw (rX7_pair rfl rfl hw.2.2.2.1) (m_pair3 hGs q4 p4 (by omega) (by omega) (Or.inl (by omega))) hl
          show mX6_pair F x (Int32.ofInt (k : Nat)) (Int32.ofInt (k' : Nat)) w = _
          rw [hd, if_pos p48, w_spare8 hw c3, Option.bind_some]
          try dsimp only
          rw [if_pos rfl]; rfl
        · have h8 : gc < 8 := by omega
          obtain ⟨w1, C', O', S', a, s1, hw1, hl1, s2, s3, s4, s5, s6, s7, s8⟩ := w_spare (F := F) hw hl h8
          have ne : ∀ {k b : Nat}, k < gc → oQ S 0 k = some b → b ≠ a := fun {k b} hk hb t => by
            subst t
            have := hl1.2.1.2.1 k gc b (by omega) h8 (by rw [s6 k (by omega)]; exact hb) s4
            omega
          have ne1 := ne (by omega) q1
          have ne2 := ne (by omega) p1
          have k1 := (s2 a1 _ q2).1
          have k2 := (s2 a2 _ p2).1
          obtain ⟨w2, S1, f1, f2, f3⟩ := c_fillPair hF (hw1.2.1 a _ s3) (zAt_of hw1 k1 (by rw [s5 a1 _ q2]; exact q3.1)) (zAt_of hw1 k2 (by rw [s5 a2 _ p2]; exact p3.1)) (hw1.1.2 a1 a _ _ k1 s3 ne1) (hw1.1.2 a2 a _ _ k2 s3 ne2) e48
          obtain ⟨f, r1, r2⟩ := m_pair (F := F) (Z := Z) (g := gc) hF hGs c5 h8 q4 p4 (by omega) (by omega) e48
          refine aOK.new hF (hw1.g s3 lyG_k f2.1 f3) hl1 (fun b hb => oup_n hb) h8 s4 f2 (zPair_grp q3.1.2.2.1 p3.1.2.2.1) (fun w3 hk => ?_) (fun w3 o => rX7_pair rfl rfl o) r1 r2
          show mX6_pair F x (Int32.ofInt (k : Nat)) (Int32.ofInt (k' : Nat)) w = _
          rw [hd, if_pos p48, s1, Option.bind_some]
          try dsimp only
          rw [if_neg (by intro t; cases t), hw1.gO s3, Option.bind_some, f1, Option.bind_some, (hw1.g s3 lyG_k f2.1 f3).gO6, Option.bind_some, hk, Option.bind_some]
      · refine aOK.of (v := -3) (w1 := w) ?_ hw (rX7_pair rfl rfl hw.2.2.2.1) (m_pair3 hGs q4 p4 (by omega) (by omega) (Or.inr (by omega))) hl
        show mX6_pair F x (Int32.ofInt (k : Nat)) (Int32.ofInt (k' : Nat)) w = _
        rw [hd, if_neg (show ¬ Int32.ofInt ((gn k * gn k' : Nat) : Int) ≤ 48 from fun t => by have := (iO_le (b := 48) ⟨by omega, by omega⟩).mp t; omega)]; rfl
    · rw [if_neg d] at gb
      refine bad (by omega) ?_
      unfold mX6_pair
      rw [hw.gO6, Option.bind_some, ga, Option.bind_some]
      try dsimp only
      rw [hw.gO6, Option.bind_some, gb, Option.bind_some]
      try dsimp only
      rw [if_neg (by intro t; cases t), if_pos rfl]; rfl
  · rw [if_neg c] at ga
    refine bad (by omega) ?_
    unfold mX6_pair
    rw [hw.gO6, Option.bind_some, ga, Option.bind_some]
    try dsimp only
    rw [hw.gO6, Option.bind_some, gb, Option.bind_some]
    try dsimp only
    rw [if_pos rfl]; rfl
end ARA
