/-! THE CALLS, one by one: both answer the same -/
section AR1
variable {F x m n a : Nat} {C C' : yC} {w w1 : gW} {O O' : zO} {S S' : oSt} {Z Z' : zS} {gn : Nat → Nat} {gT : Nat → Nat → Nat → Nat} {gc ac : Nat} {z y u : Int}
/-- a whole number a cell can hold -/
def i32 (z : Int) : Prop := -2147483648 ≤ z ∧ z < 2147483648
theorem aOK.of {f g : gW → Option (Int32 × gW)} {v : Int} {Y : Option (Int × zS)} (h1 : f w = some (Int32.ofInt v, w1)) (hw : hW C x m w1 O S Z) (r : zR (E1 m w1) Y (g w1)) (e : Y = some (v, Z')) (hl : LI C O S Z' gn gT gc ac) : aOK x m w f g := by
  obtain ⟨w2, e2, h2⟩ := hw.m1 r e
  exact ⟨Int32.ofInt v, w1, w2, h1, e2, hw.gO7, C, O, S, Z', gn, gT, gc, ac, h2, hl⟩
theorem LI.g {k : Nat} (h : LI C O S Z gn gT gc ac) (hk : k < gc) : ∃ a, oQ S 0 k = some a ∧ C.1 a = some (2, 0) ∧ gSt (O a) (gn k) (gT k) ∧ yG Z k (gn k) (gT k) ∧ (zA Z 3 k = -4 ∨ ∃ L : Nat, zA Z 3 k = L ∧ L ≤ 5 ∧ zLst (gn k) (gT k) L) := by
  have hgc : gc ≤ 8 := h.1.1.1
  obtain ⟨g1, g2, g3⟩ := h.2.1
  obtain ⟨⟨a, e1, e2⟩, e3, e4⟩ := g3 k hk
  exact ⟨a, e1, g1 k a (by omega) e1, e2, e3, e4⟩
theorem w_has (hw : hW C x m w O S Z) (ha : C.1 a = some (2, 0)) (h7 : zI (O a) 7 = n) (hn : n ≤ 48) (hz : i32 z) : mX2_has F a (Int32.ofInt z) w = some (if 0 ≤ z ∧ z < n then 1 else 0, w) := by
  have s : gFI 2 7 (some a) w = some (nI n) := by rw [hw.cFI ha (k := 7) rfl, h7, iO_nat]
  rw [c_has s]
  have e : zHas n (Int32.ofInt z) ↔ 0 ≤ z ∧ z < n := by
    unfold zHas
    rw [Int32.lt_iff_toInt_lt, Int32.le_iff_toInt_le, iO_toInt hz.1 hz.2, nI_tI (by omega), Int32.toInt_zero]
    omega
  by_cases c : 0 ≤ z ∧ z < n
  · rw [if_pos c, if_pos (e.mpr c)]
  · rw [if_neg c, if_neg fun t => c (e.mp t)]
theorem m_order1 (hG : mGs Z) (hz : i32 z) (hb : ¬ (0 ≤ z ∧ z < zI Z 0)) : zX7_order F z Z = some (-1, Z) := by
  unfold zX7_order
  rw [zC1_o (y_isGroup hz hG.1), if_neg hb, zEq_t (by omega)]
theorem m_order {g : Nat} {T : Nat → Nat → Nat} (hG : mGs Z) (h : yG Z g n T) (hg : (g : Int) < zI Z 0) : zX7_order F (g : Nat) Z = some (((n : Nat) : Int), Z) := by
  have hb := h.b
  unfold zX7_order
  rw [zC1_o (y_isGroup (a := (g : Nat)) (by omega) hG.1), if_pos (by omega), zEq_f (by omega), h.sz]
theorem k_order (h : WI x m w) (hz : i32 z) : aOK x m w (fun w => mX6_order F x (Int32.ofInt z) w) (fun w => mX7_order F m (Int32.ofInt z) w) := by
  obtain ⟨C, O, S, Z, gn, gT, gc, ac, hw, hl⟩ := h
  obtain ⟨⟨c1, c2⟩, ⟨c3, c4⟩, ⟨c5, c6⟩, c7⟩ := hl.1
  have hGs := hl.gs
  have ga := w_groupAt (F := F) hw c3 c1 hz
  by_cases c : 0 ≤ z ∧ z < gc
  · obtain ⟨k, rfl⟩ : ∃ k : Nat, z = k := ⟨z.toNat, by omega⟩
    obtain ⟨a, q1, q2, q3, q4, q5⟩ := hl.g (k := k) (by omega)
    rw [if_pos c, Int.toNat_natCast, q1] at ga
    refine aOK.of (v := ((gn k : Nat) : Int)) (w1 := w) ?_ hw (rX7_order rfl hw.2.2.2.1) (m_order hGs q4 (by omega)) hl
    try dsimp only
    unfold mX6_order
    rw [hw.gO6, Option.bind_some, ga, Option.bind_some]
    try dsimp only
    rw [if_neg (by intro t; cases t), hw.cFI q2 (k := 7) rfl, Option.bind_some, q3.1.1]
  · rw [if_neg c] at ga
    refine aOK.of (v := -1) (w1 := w) ?_ hw (rX7_order rfl hw.2.2.2.1) (m_order1 hGs hz (by omega)) hl
    try dsimp only
    unfold mX6_order
    rw [hw.gO6, Option.bind_some, ga, Option.bind_some]
    try dsimp only
    rw [if_pos rfl]; rfl
theorem k_product (h : WI x m w) (hz : i32 z) (hy : i32 y) (hu : i32 u) : aOK x m w (fun w => mX6_product F x (Int32.ofInt z) (Int32.ofInt y) (Int32.ofInt u) w) (fun w => mX7_product F m (Int32.ofInt z) (Int32.ofInt y) (Int32.ofInt u) w) := by
  obtain ⟨C, O, S, Z, gn, gT, gc, ac, hw, hl⟩ := h
  obtain ⟨⟨c1, c2⟩, ⟨c3, c4⟩, ⟨c5, c6⟩, c7⟩ := hl.1
  have hGs := hl.gs
  have ga := w_groupAt (F := F) hw c3 c1 hz
  by_cases c : 0 ≤ z ∧ z < gc
  · obtain ⟨k, rfl⟩ : ∃ k : Nat, z = k := ⟨z.toNat, by omega⟩
    obtain ⟨a, q1, q2, q3, q4, q5⟩ := hl.g (k := k) (by omega)
    rw [if_pos c, Int.toNat_natCast, q1] at ga
    have hn := q3.1.2.1
    have y1 := q4.2.1
    have h1 := w_has (F := F) hw q2 q3.1.1 hn hy
    have h2 := w_has (F := F) hw q2 q3.1.1 hn hu
    by_cases b1 : 0 ≤ y ∧ y < gn k
    · by_cases b2 : 0 ≤ u ∧ u < gn k
      · obtain ⟨i, rfl⟩ : ∃ i : Nat, y = i := ⟨y.toNat, by omega⟩
        obtain ⟨j, rfl⟩ : ∃ j : Nat, u = j := ⟨u.toNat, by omega⟩
        refine aOK.of (v := ((gT k i j : Nat) : Int)) (w1 := w) ?_ hw (rX7_product rfl rfl rfl hw.2.2.2.1) (m_product hGs q4 (by omega) (by omega) (by omega)) hl
        try dsimp only
        unfold mX6_product
        rw [hw.gO6, Option.bind_some, ga, Option.bind_some]
        try dsimp only
        rw [if_neg (by intro t; cases t), hw.gO q2, Option.bind_some, h1, Option.bind_some, if_pos b1]
        try dsimp only
        rw [if_neg (by decide), hw.gO q2, Option.bind_some, h2, Option.bind_some, if_pos b2]
        try dsimp only
        rw [if_neg (by decide), hw.gO q2, Option.bind_some, iO_nat, iO_nat, (zAt_of hw q2 q3.1).mul (by omega) (by omega), Option.bind_some, iO_nat]
      · refine aOK.of (v := -1) (w1 := w) ?_ hw (rX7_product rfl rfl rfl hw.2.2.2.1) (m_product1 hGs hz hy hu (by omega)) hl
        try dsimp only
        unfold mX6_product
        rw [hw.gO6, Option.bind_some, ga, Option.bind_some]
        try dsimp only
        rw [if_neg (by intro t; cases t), hw.gO q2, Option.bind_some, h1, Option.bind_some, if_pos b1]
        try dsimp only
        rw [if_neg (by decide), hw.gO q2, Option.bind_some, h2, Option.bind_some, if_neg b2]
        try dsimp only
        rw [if_pos rfl]; rfl
    · refine aOK.of (v := -1) (w1 := w) ?_ hw (rX7_product rfl rfl rfl hw.2.2.2.1) (m_product1 hGs hz hy hu (by omega)) hl
      try dsimp only
      unfold mX6_product
      rw [hw.gO6, Option.bind_some, ga, Option.bind_some]
      try dsimp only
      rw [if_neg (by intro t; cases t), hw.gO q2, Option.bind_some, h1, Option.bind_some, if_neg b1]
      try dsimp only
      rw [if_pos rfl]; rfl
  · rw [if_neg c] at ga
    refine aOK.of (v := -1) (w1 := w) ?_ hw (rX7_product rfl rfl rfl hw.2.2.2.1) (m_product1 hGs hz hy hu (by omega)) hl
    try dsimp only
    unfold mX6_product
    rw [hw.gO6, Option.bind_some, ga, Option.bind_some]
    try dsimp only
    rw [if_pos rfl]; rfl
end AR1
