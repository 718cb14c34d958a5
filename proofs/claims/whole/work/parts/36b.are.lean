section ARE
variable {F x m n a : Nat} {C C' : yC} {w w1 w2 : gW} {O O' : zO} {S S' S1 : oSt} {X : zS} {Z Z' : zS} {gn gn' : Nat → Nat} {gT gT' : Nat → Nat → Nat → Nat} {gc gc' ac : Nat} {z y u : Int}
theorem mOk.sh {p j g n r : Nat} [NeZero p] {T : Nat → Nat → Nat} {M : Nat → Nat → Nat → Int} (h : mOk p Z j g n T r M) (hA : ∀ k, k ≠ 4 → k ≠ 5 → k ≠ 6 → zA Z' k = zA Z k) (hI : ∀ k, zI Z' k = zI Z k) : mOk p Z' j g n T r M := by
  unfold mOk mMd yG mKn at *
  rw [hA 1 (by decide) (by decide) (by decide), hA 2 (by decide) (by decide) (by decide), hA 8 (by decide) (by decide) (by decide), hA 9 (by decide) (by decide) (by decide), hA 10 (by decide) (by decide) (by decide), hA 11 (by decide) (by decide) (by decide), hI 7, hI 29, hA 31 (by decide) (by decide) (by decide), hA 32 (by decide) (by decide) (by decide), hA 33 (by decide) (by decide) (by decide), hI 35, hA 30 (by decide) (by decide) (by decide)]
  exact h
theorem LI.sheet {k sh : Nat} (hl : LI C O S Z gn gT gc ac) (hk : k < 4) (e1 : oQ S 2 k = some sh) (hA : ∀ k, k ≠ 4 → k ≠ 5 → k ≠ 6 → zA Z' k = zA Z k) (hI : ∀ k, zI Z' k = zI Z k) (hn : ∀ k' : Nat, k' ≠ k → zA Z' 4 k' = zA Z 4 k' ∧ zA Z' 5 k' = zA Z 5 k' ∧ ∀ i : Nat, i < 144 → zA Z' 6 (144 * (k' : Int) + i) = zA Z 6 (144 * (k' : Int) + i)) (hs : (∀ i : Nat, i < 144 → zA X 0 i = zA Z' 6 (144 * (k : Int) + i) ∧ -2147483648 ≤ zA X 0 i ∧ zA X 0 i < 2147483648) ∧ zI X 2 = zA Z' 5 k ∧ (0 ≤ zI X 2 ∧ zI X 2 ≤ 144) ∧ ((zI X 1 = -1 ∧ zA Z' 4 k = -4) ∨ ((0 ≤ zI X 1 ∧ zI X 1 ≤ 1) ∧ zA Z' 4 k = zI X 1))) : LI C (oup O sh X) S Z' gn gT gc ac := by
  obtain ⟨⟨c1, c2, ⟨c4, c5⟩, c6⟩, ⟨g1, g2, g3⟩, a1, a2, ⟨s1, s2⟩, l⟩ := hl
  have ks : C.1 sh = some (4, 0) := by
    obtain ⟨a, t1, t2, -⟩ := s2 k hk
    have : a = sh := Option.some.inj (t1.symm.trans e1)
    rw [← this]; exact t2
  have G : ∀ k a, k < gc → oQ S 0 k = some a → a ≠ sh := fun k a hk ha => kd_ne (g1 k a (Nat.lt_of_lt_of_le hk c1.1) ha) ks (by decide)
  refine ⟨⟨c1, c2, ⟨by rw [hI]; exact c4, by rw [hI]; exact c5⟩, by rw [hI]; exact c6⟩, ⟨g1, g2, fun k hk => ?_⟩, a1, fun j hj => ?_, ⟨s1, fun k' hk' => ?_⟩, l⟩
  · obtain ⟨⟨b, e1, e2⟩, e3, e4⟩ := g3 k hk
    refine ⟨⟨b, e1, by rw [oup_n (G k b hk e1)]; exact e2⟩, e3.of (hA 1 (by decide) (by decide) (by decide)) (hA 2 (by decide) (by decide) (by decide)), ?_⟩
    rw [hA 3 (by decide) (by decide) (by decide)]; exact e4
  · refine (a2 j hj).mono2 (D := fun b => b = sh) cEx.rf rfl (fun _ _ => rfl) (fun b q hb hD => oup_n hD) (fun a' t b s _ sl => ⟨kd_ne sl.1 ks (by decide), kd_ne sl.2.2.1 ks (by decide), kd_ne sl.2.2.2.1 ks (by decide), kd_ne sl.2.2.2.2.2.1 ks (by decide)⟩) (Nat.le_refl _) (fun _ _ => ⟨rfl, rfl⟩) (fun k b hk hb => ?_) fun p gi r M hp hg o => o.sh hA hI
    rw [oup_n (G k b hk hb)]
    obtain ⟨⟨b', e1, e2⟩, -⟩ := g3 k hk
    have : b' = b := Option.some.inj (e1.symm.trans hb)
    rw [← this]; exact e2.1
  · by_cases c : k' = k
    · subst c
      refine ⟨sh, e1, ks, ?_⟩
      rw [oup_s]; exact hs
    · obtain ⟨a, t1, t2, t3, t4, t5, t6⟩ := s2 k' hk'
      obtain ⟨n1, n2, n3⟩ := hn k' c
      refine ⟨a, t1, t2, ?_⟩
      rw [oup_n (fun t => by subst t; exact c (s1 k' k a hk' hk t1 e1)), n1, n2]
      exact ⟨fun i hi => by rw [n3 i hi]; exact t3 i hi, t4, t5, t6⟩
theorem k_sheet (hF : fF F) (h : WI x m w) (hz : i32 z) (hy : i32 y) (hu : i32 u) : aOK x m w (fun w => mX6_sheet F x (Int32.ofInt z) (Int32.ofInt y) (Int32.ofInt u) w) (fun w => mX7_sheet F m (Int32.ofInt z) (Int32.ofInt y) (Int32.ofInt u) w) := by
  obtain ⟨C, O, S, Z, gn, gT, gc, ac, hw, hl⟩ := h
  have gs := w_sheetAt (F := F) hw hz
  obtain ⟨w0, il, hw0⟩ := w_isLane (z := y) hF hw hy
  by_cases d : 0 ≤ z ∧ z < 4
  · obtain ⟨k, rfl⟩ : ∃ k : Nat, z = k := ⟨z.toNat, by omega⟩
    obtain ⟨sh, s1, s2, -⟩ := hl.2.2.2.2.1.2 k (by omega)
    rw [if_pos d, Int.toNat_natCast, s1] at gs
    by_cases f0 : 0 ≤ y ∧ y ≤ 1
    · rw [if_pos f0] at il
      have hd : mX6_sheet F x (Int32.ofInt (k : Nat)) (Int32.ofInt y) (Int32.ofInt u) w = (if Int32.ofInt u ≤ 144 then (if 0 ≤ Int32.ofInt u then ((mX4_renew F sh (Int32.ofInt y) (Int32.ofInt u) w0).bind fun q39 => some ((1 : Int32), q39)) else some ((-14 : Int32), w0)) else some ((-1 : Int32), w0)) := by
        unfold mX6_sheet
        rw [hw.gO6, Option.bind_some, gs, Option.bind_some]
        try dsimp only
        rw [if_neg (by intro t; cases t), il, Option.bind_some]
        try dsimp only
        rw [if_neg (by decide), hw0.gO s2, Option.bind_some]
      by_cases f1 : u ≤ 144
      · have p1 : Int32.ofInt u ≤ 144 := (iO_le (b := 144) ⟨hu, by omega⟩).mpr f1
        by_cases f2 : 0 ≤ u
        · have p2 : (0 : Int32) ≤ Int32.ofInt u := (iO_le (a := 0) ⟨by omega, hu⟩).mpr f2
          have hr : zX4_renew F C sh y u O = some (oup O sh (zfl (zuI (zuI (O sh) 1 y) 2 u) 0 144 0)) := by
            unfold zX4_renew
            rw [yPI_o s2, yPI_o s2, oup_s, oup_u, yAR_o s2, yFill_o s2, oup_s, oup_u]
          obtain ⟨w1, e1, hw1⟩ := hw0.y0 (rX4_renew hw0.1 hF rfl rfl hw0.2.1) hr
          obtain ⟨f, m1, m2, m3⟩ := m_sheet (F := F) (Z := Z) (row := k) hF (by omega) f0 ⟨f2, f1⟩
          refine aOK.of (w1 := w1) ?_ hw1 (rX7_sheet rfl rfl rfl hw1.2.2.2.1) m1 (hl.sheet (k := k) (by omega) s1 (fun j h4 h5 h6 => ?_) (fun _ => rfl) (fun k' hk' => ⟨?_, ?_, fun i hi => ?_⟩) ⟨fun i hi => ?_, ?_, ?_, Or.inr ?_⟩)
          · show mX6_sheet F x (Int32.ofInt (k : Nat)) (Int32.ofInt y) (Int32.ofInt u) w = _
            rw [hd, if_pos p1, if_pos p2, e1, Option.bind_some]; rfl
          · exact (if_neg h6).trans ((if_neg h5).trans (if_neg h4))
          · show zup (zA Z 4) k y k' = _
            rw [zup_n (by omega)]
          · show zup (zA Z 5) k u k' = _
            rw [zup_n (by omega)]
          · show f _ = _
            exact m3 _ (by omega)
          · rw [zA_fl, if_pos rfl, if_pos (by omega)]
            exact ⟨(m2 i hi).symm, by omega, by omega⟩
          · show u = zup (zA Z 5) k u k
            rw [zup_s]
          · exact ⟨f2, f1⟩
          · refine ⟨f0, ?_⟩
            show zup (zA Z 4) k y k = y
            rw [zup_s]
        · refine aOK.of (v := -14) (w1 := w0) ?_ hw0 (rX7_sheet rfl rfl rfl hw0.2.2.2.1) (m_sheet14 (by omega) f0 ⟨hu.1, by omega⟩) hl
          show mX6_sheet F x (Int32.ofInt (k : Nat)) (Int32.ofInt y) (Int32.ofInt u) w = _
          rw [hd, if_pos p1, if_neg (show ¬ (0 : Int32) ≤ Int32.ofInt u from fun t => f2 ((iO_le (a := 0) ⟨by omega, hu⟩).mp t))]; rfl
      · refine aOK.of (v := -1) (w1 := w0) ?_ hw0 (rX7_sheet rfl rfl rfl hw0.2.2.2.1) (m_sheet1 hz hy hu (fun t => f1 t.2.2)) hl
        show mX6_sheet F x (Int32.ofInt (k : Nat)) (Int32.ofInt y) (Int32.ofInt u) w = _
        rw [hd, if_neg (show ¬ Int32.ofInt u ≤ 144 from fun t => f1 ((iO_le (b := 144) ⟨hu, by omega⟩).mp t))]; rfl
    · rw [if_neg f0] at il
      refine aOK.of (v := -1) (w1 := w0) ?_ hw0 (rX7_sheet rfl rfl rfl hw0.2.2.2.1) (m_sheet1 hz hy hu (fun t => f0 t.2.1)) hl
      try dsimp only
      unfold mX6_sheet
      rw [hw.gO6, Option.bind_some, gs, Option.bind_some]
      try dsimp only
      rw [if_neg (by intro t; cases t), il, Option.bind_some]
      try dsimp only
      rw [if_pos (show Int32.ofInt 0 = 0 from rfl)]; rfl
  · rw [if_neg d] at gs
    refine aOK.of (v := -1) (w1 := w) ?_ hw (rX7_sheet rfl rfl rfl hw.2.2.2.1) (m_sheet1 hz hy hu (fun t => d (by omega))) hl
    try dsimp only
    unfold mX6_sheet
    rw [hw.gO6, Option.bind_some, gs, Option.bind_some]
    try dsimp only
    rw [if_pos rfl]; rfl
theorem i2b (b : BitVec 32) : (b <<< 24).sshiftRight 24 = (b.truncate 8).signExtend 32 := by
  apply BitVec.eq_of_getLsbD_eq
  intro i hi
  rw [BitVec.getLsbD_sshiftRight, BitVec.getLsbD_signExtend]
  by_cases c : i < 8
  · rw [if_pos (show 24 + i < 32 by omega), if_pos c, BitVec.getLsbD_shiftLeft, BitVec.getLsbD_setWidth, show 24 + i - 24 = i by omega]
    simp [c, hi, show ¬ 32 ≤ i by omega, show 24 + i < 32 by omega, show ¬ 24 + i < 24 by omega]
  · rw [if_neg (show ¬ 24 + i < 32 by omega), if_neg c]
    simp [BitVec.msb_eq_getLsbD_last, BitVec.getLsbD_shiftLeft, hi]
theorem lyB_8 (v : Int) : ((Int32.ofInt v).toInt8.toInt32).toInt = lyB v := by
  unfold lyB
  rw [Int32.ofInt_toInt, Int32.ofInt_toInt]
  refine congrArg Int32.toInt ?_
  generalize Int32.ofInt v = x
  apply Int32.toBitVec_inj.mp
  have e : (Int32.ofInt 24 &&& Int32.ofInt 31) = 24 := by decide
  have e2 : ((24 : Int32).toBitVec.smod 32) = 24#32 := by decide
  rw [e, Int32.toBitVec_shiftRight, Int32.toBitVec_shiftLeft, e2]
  have e3 : x.toBitVec.signExtend 8 = x.toBitVec.truncate 8 := BitVec.signExtend_eq_setWidth_of_le _ (by decide)
  show (x.toBitVec.signExtend 8).signExtend 32 = (x.toBitVec <<< 24).sshiftRight 24
  rw [e3]
  exact (i2b x.toBitVec).symm
end ARE
