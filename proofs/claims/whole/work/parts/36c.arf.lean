section ARF
variable {F x m n a : Nat} {C C' : yC} {w w1 w2 : gW} {O O' : zO} {S S' S1 : oSt} {X : zS} {Z Z' : zS} {gn gn' : Nat → Nat} {gT gT' : Nat → Nat → Nat → Nat} {gc gc' ac : Nat} {z y u : Int}
theorem i32_of (x : Int32) : i32 x.toInt := ⟨Int32.le_toInt x, Int32.toInt_lt x⟩
theorem k_lay (hF : fF F) (h : WI x m w) (hz : i32 z) (hy : i32 y) (hu : i32 u) : aOK x m w (fun w => mX6_lay F x (Int32.ofInt z) (Int32.ofInt y) (Int32.ofInt u) w) (fun w => mX7_lay F m (Int32.ofInt z) (Int32.ofInt y) (Int32.ofInt u) w) := by
  obtain ⟨C, O, S, Z, gn, gT, gc, ac, hw, hl⟩ := h
  have gs := w_sheetAt (F := F) hw hz
  by_cases d : 0 ≤ z ∧ z < 4
  · obtain ⟨k, rfl⟩ : ∃ k : Nat, z = k := ⟨z.toNat, by omega⟩
    obtain ⟨sh, s1, s2, s3, s4, s5, s6⟩ := hl.2.2.2.2.1.2 k (by omega)
    rw [if_pos d, Int.toNat_natCast, s1] at gs
    have hd : mX6_lay F x (Int32.ofInt (k : Nat)) (Int32.ofInt y) (Int32.ofInt u) w = (if Int32.ofInt (zI (O sh) 1) = -1 then some ((-11 : Int32), w) else if Int32.ofInt y < 0 then some ((-12 : Int32), w) else if Int32.ofInt y < Int32.ofInt (zI (O sh) 2) then ((mX4_put F sh (Int32.ofInt y) (Int32.ofInt u) w).bind fun q46 => some ((1 : Int32), q46)) else some ((-12 : Int32), w)) := by
      have i1 : gFI 4 1 (some sh) w = some (Int32.ofInt (zI (O sh) 1)) := hw.cFI s2 (k := 1) rfl
      have i2 : gFI 4 2 (some sh) w = some (Int32.ofInt (zI (O sh) 2)) := hw.cFI s2 (k := 2) rfl
      unfold mX6_lay
      rw [hw.gO6, Option.bind_some, gs, Option.bind_some]
      try dsimp only
      rw [if_neg (by intro t; cases t), i1, Option.bind_some, i2, Option.bind_some, hw.gO s2, Option.bind_some]
    rcases s6 with ⟨v1, v2⟩ | ⟨v1, v2⟩
    · refine aOK.of (v := -11) (w1 := w) ?_ hw (rX7_lay rfl rfl rfl hw.2.2.2.1) (m_lay11 (by omega) v2) hl
      show mX6_lay F x (Int32.ofInt (k : Nat)) (Int32.ofInt y) (Int32.ofInt u) w = _
      rw [hd, v1, if_pos (show Int32.ofInt (-1) = -1 from rfl)]; rfl
    · have n1 : ¬ Int32.ofInt (zI (O sh) 1) = -1 := fun t => by have := (iO_eq (b := -1) ⟨by omega, by omega⟩).mp t; omega
      by_cases d1 : 0 ≤ y ∧ y < zI (O sh) 2
      · have hp : zX4_put F C sh y u O = some (oup O sh (zuA (O sh) 0 y (if zI (O sh) 1 = 0 then lyB u else u))) := by
          unfold zX4_put zX4_put_b18
          rw [yAR_o s2, yFI_o s2]
          by_cases c : zI (O sh) 1 = 0
          · rw [zEq_t (by omega), ySt_o s2 (by omega), if_pos c, lyB_8]
          · rw [zEq_f (by omega), ySt_o s2 (by omega), if_neg c]
        obtain ⟨w1, e1, hw1⟩ := hw.y0 (rX4_put hw.1 hF rfl rfl hw.2.1) hp
        have hv : i32 (if zI (O sh) 1 = 0 then lyB u else u) := by
          split
          · rw [← lyB_8]; exact i32_of _
          · exact hu
        have m1 := m_lay (F := F) (Z := Z) (row := k) (i := y) (v := u) (t := zI (O sh) 1) (len := zI (O sh) 2) (by omega) v2 v1 s4.symm s5 d1
        refine aOK.of (w1 := w1) ?_ hw1 (rX7_lay rfl rfl rfl hw1.2.2.2.1) m1 (hl.sheet (k := k) (by omega) s1 (fun j h4 h5 h6 => if_neg h6) (fun _ => rfl) (fun k' hk' => ⟨rfl, rfl, fun i hi => ?_⟩) ⟨fun i hi => ?_, s4, s5, Or.inr ⟨v1, v2⟩⟩)
        · show mX6_lay F x (Int32.ofInt (k : Nat)) (Int32.ofInt y) (Int32.ofInt u) w = _
          rw [hd, if_neg n1, if_neg (show ¬ Int32.ofInt y < 0 from fun t => by have := (iO_lt (b := 0) ⟨hy, by omega⟩).mp t; omega), if_pos ((iO_lt ⟨hy, by omega⟩).mpr d1.2), e1, Option.bind_some]; rfl
        · show zup (zA Z 6) (144 * (k : Int) + y) _ (144 * (k' : Int) + i) = _
          rw [zup_n (by omega)]
        · rw [zA_uA, zA_uA, if_pos rfl, if_pos rfl]
          by_cases c : (i : Int) = y
          · rw [← c, zup_s, zup_s]
            exact ⟨rfl, hv⟩
          · rw [zup_n c, zup_n (by omega)]
            exact s3 i hi
      · refine aOK.of (v := -12) (w1 := w) ?_ hw (rX7_lay rfl rfl rfl hw.2.2.2.1) (m_lay12 (t := zI (O sh) 1) (len := zI (O sh) 2) (by omega) v2 v1 s4.symm s5 hy d1) hl
        show mX6_lay F x (Int32.ofInt (k : Nat)) (Int32.ofInt y) (Int32.ofInt u) w = _
        rw [hd, if_neg n1]
        by_cases d2 : y < 0
        · rw [if_pos (show Int32.ofInt y < 0 from (iO_lt (b := 0) ⟨hy, by omega⟩).mpr d2)]; rfl
        · rw [if_neg (show ¬ Int32.ofInt y < 0 from fun t => d2 ((iO_lt (b := 0) ⟨hy, by omega⟩).mp t)), if_neg (fun t => d1 ⟨by omega, (iO_lt ⟨hy, by omega⟩).mp t⟩)]; rfl
  · rw [if_neg d] at gs
    refine aOK.of (v := -1) (w1 := w) ?_ hw (rX7_lay rfl rfl rfl hw.2.2.2.1) (m_lay1 hz (fun t => d (by omega))) hl
    try dsimp only
    unfold mX6_lay
    rw [hw.gO6, Option.bind_some, gs, Option.bind_some]
    try dsimp only
    rw [if_pos rfl]; rfl
end ARF
