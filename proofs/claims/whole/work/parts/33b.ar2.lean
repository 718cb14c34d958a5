section AR2
variable {F x m n a : Nat} {C C' : yC} {w w1 : gW} {O O' : zO} {S S' : oSt} {S1 : oSt} {Z Z' : zS} {T : Nat → Nat → Nat} {gn : Nat → Nat} {gT : Nat → Nat → Nat → Nat} {gc ac : Nat} {z y u : Int}
theorem gSt_zK (hG : gSt (O a) n T) (hk : zK (fun k => k = 1 ∨ k = 2) a n T (cvO C O a) S1 w w1) : gSt (unS S1) n T := by
  obtain ⟨k1, k2, k3, k4⟩ := hk
  have G := hG.1.2.2.1
  have hn := hG.1.2.1
  refine ⟨yGp_un k1 G, gDn_un (fun x hx => ?_) G hn, ?_⟩
  · obtain ⟨d1, d2⟩ := zDone_of (C := C) hG.2.1 x hx
    rw [k3 3 (by decide), k3 4 (by decide)]
    exact ⟨d1, d2⟩
  · have e6 : zI (unS S1) 6 = (Int32.ofInt (zI (O a) 6)).toInt := by rw [un_I, k4]; rfl
    rw [e6]
    rcases hG.2.2 with c | ⟨L, gg, c1, c2, c3⟩
    · left; rw [c]; rfl
    · have hL := c1.1
      have hgg : ∀ i, i < L → gg i < n := c1.2.2.1.2.1
      refine Or.inr ⟨L, gg, c1, by rw [c2, iO_toInt (by omega) (by omega)], fun i hi => ?_⟩
      rw [un_A, k3 5 (by decide)]
      show (Int32.ofInt (zA (O a) 5 ((i : Nat) : Int))).toInt = _
      rw [c3 i hi, iO_toInt (by omega) (by have := hgg i hi; omega)]
theorem nI_inj {a b : Nat} (ha : a < 2147483648) (hb : b < 2147483648) : nI a = nI b ↔ a = b := by
  refine ⟨fun t => ?_, fun t => by rw [t]⟩
  have := congrArg Int32.toInt t
  rw [nI_tI ha, nI_tI hb] at this
  omega
theorem k_made (hF : fF F) (h : WI x m w) (hz : i32 z) (hy : i32 y) (hu : i32 u) : aOK x m w (fun w => mX6_made F x (Int32.ofInt z) (Int32.ofInt y) (Int32.ofInt u) w) (fun w => mX7_made F m (Int32.ofInt z) (Int32.ofInt y) (Int32.ofInt u) w) := by
  obtain ⟨C, O, S, Z, gn, gT, gc, ac, hw, hl⟩ := h
  obtain ⟨⟨c1, c2⟩, ⟨c3, c4⟩, ⟨c5, c6⟩, c7⟩ := hl.1
  have hGs := hl.gs
  have ga := w_groupAt (F := F) hw c3 c1 hz
  by_cases c : 0 ≤ z ∧ z < gc
  · obtain ⟨k, rfl⟩ : ∃ k : Nat, z = k := ⟨z.toNat, by omega⟩
    obtain ⟨a, q1, q2, q3, q4, q5⟩ := hl.g (k := k) (by omega)
    rw [if_pos c, Int.toNat_natCast, q1] at ga
    have hn := q3.1.2.1
    have y1 := q4.2.1
    have h1 := w_has (F := F) hw q2 q3.1.1 hn hy
    have h2 := w_has (F := F) hw q2 q3.1.1 hn hu
    by_cases b1 : 0 ≤ y ∧ y < gn k
    · by_cases b2 : 0 ≤ u ∧ u < gn k
      · obtain ⟨i, rfl⟩ : ∃ i : Nat, y = i := ⟨y.toNat, by omega⟩
        obtain ⟨j, rfl⟩ : ∃ j : Nat, u = j := ⟨u.toNat, by omega⟩
        obtain ⟨w1, S1, p1, p2⟩ := c_countMade hF q3.1.2.2.1 (zAt_of hw q2 q3.1) (x := i) (y := j) (by omega) (by omega)
        have hw1 := hw.g q2 lyG_k p2.1.1 p2.2.1
        obtain ⟨Z1, r1, r2⟩ := m_made (F := F) hF hGs q4 (by omega) (x := i) (y := j) (by omega) (by omega)
        refine aOK.of (w1 := w1) ?_ hw1 (rX7_made rfl rfl rfl hw1.2.2.2.1) r1 (hl.grp (a := k) (by omega) q1 cEx.rf rSm.rf hl.2.2.2.2.2 (fun b q _ hb _ => oup_n hb) (by rw [oup_s]; exact gSt_zK q3 p2) ⟨fun k h1 _ => r2.1 k h1, r2.2, Or.inl (r2.1 3 (by omega))⟩)
        try dsimp only
        unfold mX6_made
        rw [hw.gO6, Option.bind_some, ga, Option.bind_some]
        try dsimp only
        rw [if_neg (by intro t; cases t), hw.gO q2, Option.bind_some, h1, Option.bind_some, if_pos b1]
        try dsimp only
        rw [if_neg (by decide), hw.gO q2, Option.bind_some, h2, Option.bind_some, if_pos b2]
        try dsimp only
        rw [if_neg (by decide), hw.gO q2, Option.bind_some, iO_nat, iO_nat, p1, Option.bind_some, iO_nat]
      · refine aOK.of (v := -1) (w1 := w) ?_ hw (rX7_made rfl rfl rfl hw.2.2.2.1) (m_made1 hGs hz hy hu (by omega)) hl
        try dsimp only
        unfold mX6_made
        rw [hw.gO6, Option.bind_some, ga, Option.bind_some]
        try dsimp only
        rw [if_neg (by intro t; cases t), hw.gO q2, Option.bind_some, h1, Option.bind_some, if_pos b1]
        try dsimp only
        rw [if_neg (by decide), hw.gO q2, Option.bind_some, h2, Option.bind_some, if_neg b2]
        try dsimp only
        rw [if_pos rfl]; rfl
    · refine aOK.of (v := -1) (w1 := w) ?_ hw (rX7_made rfl rfl rfl hw.2.2.2.1) (m_made1 hGs hz hy hu (by omega)) hl
      try dsimp only
      unfold mX6_made
      rw [hw.gO6, Option.bind_some, ga, Option.bind_some]
      try dsimp only
      rw [if_neg (by intro t; cases t), hw.gO q2, Option.bind_some, h1, Option.bind_some, if_neg b1]
      try dsimp only
      rw [if_pos rfl]; rfl
  · rw [if_neg c] at ga
    refine aOK.of (v := -1) (w1 := w) ?_ hw (rX7_made rfl rfl rfl hw.2.2.2.1) (m_made1 hGs hz hy hu (by omega)) hl
    try dsimp only
    unfold mX6_made
    rw [hw.gO6, Option.bind_some, ga, Option.bind_some]
    try dsimp only
    rw [if_pos rfl]; rfl
theorem k_element (hF : fF F) (h : WI x m w) (hz : i32 z) (hy : i32 y) (hu : i32 u) : aOK x m w (fun w => mX6_element F x (Int32.ofInt z) (Int32.ofInt y) (Int32.ofInt u) w) (fun w => mX7_element F m (Int32.ofInt z) (Int32.ofInt y) (Int32.ofInt u) w) := by
  obtain ⟨C, O, S, Z, gn, gT, gc, ac, hw, hl⟩ := h
  obtain ⟨⟨c1, c2⟩, ⟨c3, c4⟩, ⟨c5, c6⟩, c7⟩ := hl.1
  have hGs := hl.gs
  have ga := w_groupAt (F := F) hw c3 c1 hz
  by_cases c : 0 ≤ z ∧ z < gc
  · obtain ⟨k, rfl⟩ : ∃ k : Nat, z = k := ⟨z.toNat, by omega⟩
    obtain ⟨a, q1, q2, q3, q4, q5⟩ := hl.g (k := k) (by omega)
    rw [if_pos c, Int.toNat_natCast, q1] at ga
    have hn := q3.1.2.1
    have y1 := q4.2.1
    have h1 := w_has (F := F) hw q2 q3.1.1 hn hy
    by_cases b1 : 0 ≤ y ∧ y < gn k
    · obtain ⟨i, rfl⟩ : ∃ i : Nat, y = i := ⟨y.toNat, by omega⟩
      have hi : i < gn k := by omega
      refine aOK.of (w1 := w) ?_ hw (rX7_element rfl rfl rfl hw.2.2.2.1) (m_element hF hGs q4 (by omega) hi hu) hl
      try dsimp only
      unfold mX6_element
      rw [hw.gO6, Option.bind_some, ga, Option.bind_some]
      try dsimp only
      rw [if_neg (by intro t; cases t), hw.gO q2, Option.bind_some, h1, Option.bind_some, if_pos b1]
      try dsimp only
      rw [if_neg (by decide)]
      obtain ⟨d3, d4⟩ := q3.2.1 i hi
      by_cases u0 : u = 0
      · rw [u0, if_pos (show Int32.ofInt 0 = 0 from rfl)]
        have r3 : gFR 2 3 (some a) w = some (some (a + 4)) := hw.cAR q2 (k := 3) rfl
        have l3 : gLI (some (a + 4)) (nI i) w = some (Int32.ofInt (zA (O a) 3 (i : Nat))) := hw.cLd q2 (k := 3) rfl (by decide) (by omega)
        rw [r3, Option.bind_some, iO_nat, l3, Option.bind_some, d3, if_pos rfl]
      · rw [if_neg (show ¬ Int32.ofInt u = 0 from fun t => u0 ((iO_eq (b := 0) ⟨hu, by omega⟩).mp t)), if_neg u0]
        by_cases u1 : u = 1
        · rw [u1, if_pos (show Int32.ofInt 1 = 1 from rfl)]
          have r3 : gFR 2 4 (some a) w = some (some (a + 5)) := hw.cAR q2 (k := 4) rfl
          have l3 : gLI (some (a + 5)) (nI i) w = some (Int32.ofInt (zA (O a) 4 (i : Nat))) := hw.cLd q2 (k := 4) rfl (by decide) (by omega)
          rw [r3, Option.bind_some, iO_nat, l3, Option.bind_some, d4, if_pos rfl]
        · rw [if_neg (show ¬ Int32.ofInt u = 1 from fun t => u1 ((iO_eq (b := 1) ⟨hu, by omega⟩).mp t)), if_neg u1]
          by_cases u2 : u = 2
          · rw [u2, if_pos (show Int32.ofInt 2 = 2 from rfl), if_pos rfl, hw.gO q2, Option.bind_some, iO_nat, c_countCommuting hF (zAt_of hw q2 q3.1) hi, Option.bind_some, iO_nat]
          · rw [if_neg (show ¬ Int32.ofInt u = 2 from fun t => u2 ((iO_eq (b := 2) ⟨hu, by omega⟩).mp t)), if_neg u2]
            by_cases u3 : u = 3
            · rw [u3, if_pos (show Int32.ofInt 3 = 3 from rfl), if_pos rfl, hw.gO q2, Option.bind_some, iO_nat, c_leastTurned hF q3.1.2.2.1 (zAt_of hw q2 q3.1) (zDone_of q3.2.1) hi, Option.bind_some, iO_nat]
            · rw [if_neg (show ¬ Int32.ofInt u = 3 from fun t => u3 ((iO_eq (b := 3) ⟨hu, by omega⟩).mp t)), if_neg u3]; rfl
    · refine aOK.of (v := -1) (w1 := w) ?_ hw (rX7_element rfl rfl rfl hw.2.2.2.1) (m_element1 hGs hz hy (by omega)) hl
      try dsimp only
      unfold mX6_element
      rw [hw.gO6, Option.bind_some, ga, Option.bind_some]
      try dsimp only
      rw [if_neg (by intro t; cases t), hw.gO q2, Option.bind_some, h1, Option.bind_some, if_neg b1]
      try dsimp only
      rw [if_pos rfl]; rfl
  · rw [if_neg c] at ga
    refine aOK.of (v := -1) (w1 := w) ?_ hw (rX7_element rfl rfl rfl hw.2.2.2.1) (m_element1 hGs hz hy (by omega)) hl
    try dsimp only
    unfold mX6_element
    rw [hw.gO6, Option.bind_some, ga, Option.bind_some]
    try dsimp only
    rw [if_pos rfl]; rfl
end AR2
