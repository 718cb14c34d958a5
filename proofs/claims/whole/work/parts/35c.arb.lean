section ARB
variable {F x m n a : Nat} {C C' : yC} {w w1 w2 : gW} {O O' : zO} {S S' S1 : oSt} {X : zS} {Z Z' : zS} {T : Nat → Nat → Nat} {f : Int → Int} {gn gn' : Nat → Nat} {gT gT' : Nat → Nat → Nat → Nat} {gc gc' ac : Nat} {z y u : Int} {D : Nat → Prop}
/-- a group not kept was written -/
theorem LI.spoil (hl : LI C O S Z gn gT gc ac) (h8 : gc < 8) (ha : oQ S 0 gc = some a) (hf : ∀ i : Int, i < 5184 * (gc : Int) → f i = zA Z 2 i) : LI C (oup O a X) S (zwA Z 2 f) gn gT gc ac := by
  obtain ⟨cc, ⟨g1, g2, g3⟩, a1, a2, s, l⟩ := hl
  have ka := g1 gc a h8 ha
  have hA : ∀ k, k ≠ 2 → zA (zwA Z 2 f) k = zA Z k := fun k hk => if_neg hk
  have hG : ∀ k n T, k < gc → yG Z k n T → yG (zwA Z 2 f) k n T := fun k n T hk ⟨b1, b2, b3, b4, b5⟩ => by
    refine ⟨b1, by rw [hA 1 (by decide)]; exact b2, b3, b4, fun x y hx hy => ?_⟩
    rw [zwA_s, hf _ (by omega)]
    exact b5 x y hx hy
  refine ⟨cc, ⟨g1, g2, fun k hk => ?_⟩, a1, fun j hj => ?_, s.mono cEx.rf rfl (fun b hb => oup_n (kd_ne hb ka (by decide))) (hA 4 (by decide)) (hA 5 (by decide)) (hA 6 (by decide)), l⟩
  · obtain ⟨⟨b, e1, e2⟩, e3, e4⟩ := g3 k hk
    have hk8 : k < 8 := Nat.lt_trans hk h8
    have nb : b ≠ a := fun t => by
      subst t
      have := g2 k gc b hk8 h8 e1 ha
      exact Nat.lt_irrefl _ (this ▸ hk)
    refine ⟨⟨b, e1, by rw [oup_n nb]; exact e2⟩, hG k _ _ hk e3, ?_⟩
    rw [hA 3 (by decide)]; exact e4
  · refine (a2 j hj).mono2 (D := fun b => b = a) cEx.rf rfl (fun _ _ => rfl) (fun b q hb hD => oup_n hD) (fun a' t b s _ sl => ⟨kd_ne sl.1 ka (by decide), kd_ne sl.2.2.1 ka (by decide), kd_ne sl.2.2.2.1 ka (by decide), kd_ne sl.2.2.2.2.2.1 ka (by decide)⟩) (by omega) (fun k hk => ⟨rfl, rfl⟩) (fun k b hk hb => ?_) fun p gi r M hp hg o => ?_
    · obtain ⟨⟨b', e1, e2⟩, -⟩ := g3 k hk
      have e : b' = b := Option.some.inj (e1.symm.trans hb)
      subst e
      have nb : b' ≠ a := fun t => by
        subst t
        have := g2 k gc b' (by omega) h8 e1 ha
        omega
      rw [oup_n nb]; exact e2.1
    · obtain ⟨⟨b1, b2, b3, b4, b5, b6, b7⟩, o2, o3, o4⟩ := o
      refine ⟨⟨b1, hG gi _ _ hg b2, b3, ?_, b5, b6, ?_⟩, o2, o3, fun e => ?_⟩
      · rw [hA 8 (by decide), hA 9 (by decide), hA 10 (by decide)]; exact b4
      · rw [hA 11 (by decide)]; exact b7
      · have := o4 e
        unfold mKn at *
        rw [hA 31 (by decide), hA 32 (by decide), hA 33 (by decide), hA 30 (by decide)]
        exact this
theorem k_table (hF : fF F) (h : WI x m w) (hz : i32 z) (hy : i32 y) (hu : i32 u) : aOK x m w (fun w => mX6_table F x (Int32.ofInt z) (Int32.ofInt y) (Int32.ofInt u) w) (fun w => mX7_table F m (Int32.ofInt z) (Int32.ofInt y) (Int32.ofInt u) w) := by
  obtain ⟨C, O, S, Z, gn, gT, gc, ac, hw, hl⟩ := h
  obtain ⟨⟨c1, c2⟩, ⟨c3, c4⟩, ⟨c5, c6⟩, c7⟩ := hl.1
  have gs := w_sheetAt (F := F) hw hz
  obtain ⟨w0, il, hw0⟩ := w_isLane (z := y) hF hw hy
  by_cases d : 0 ≤ z ∧ z < 4
  · obtain ⟨k, rfl⟩ : ∃ k : Nat, z = k := ⟨z.toNat, by omega⟩
    obtain ⟨sh, s1, s2, s3, s4, s5, s6⟩ := hl.2.2.2.2.1.2 k (by omega)
    rw [if_pos d, Int.toNat_natCast, s1] at gs
    by_cases f0 : 0 ≤ y ∧ y ≤ 1
    · rw [if_pos f0] at il
      by_cases f1 : 1 ≤ u ∧ u ≤ 12
      · obtain ⟨i, rfl⟩ : ∃ k : Nat, u = k := ⟨u.toNat, by omega⟩
        have p1 : ¬ Int32.ofInt (i : Nat) < 1 := fun t => by have := (iO_lt (b := 1) ⟨hu, by omega⟩).mp t; omega
        have p2 : Int32.ofInt (i : Nat) ≤ 12 := (iO_le (b := 12) ⟨hu, by omega⟩).mpr f1.2
        have ii : i * i ≤ 12 * 12 := Nat.mul_le_mul (by omega) (by omega)
        have hft := y_fault (F := F) (C := C) (O := O) (t := zI (O sh) 1) (v := y) (len := ((i * i : Nat) : Int)) s2 rfl (by rcases s6 with ⟨t, _⟩ | ⟨t, _⟩ <;> omega) hy (by omega) (by omega)
        obtain ⟨w1, q1, hw1⟩ := hw0.y1 (rX4_faultOfReading hw0.1 hF rfl rfl hw0.2.1) hft
        have mft := m_faultOf (F := F) (Z := Z) (row := k) (t := zA Z 4 (k : Nat)) (v := y) (len := ((i * i : Nat) : Int)) (by omega) rfl (by rcases s6 with ⟨_, t⟩ | ⟨t1, t⟩ <;> omega) hy (by omega) (by omega)
        rw [show zA Z 5 (k : Nat) = zI (O sh) 2 from s4.symm] at mft
        have hd : mX6_table F x (Int32.ofInt (k : Nat)) (Int32.ofInt y) (Int32.ofInt (i : Nat)) w = ((mX4_faultOfReading F sh (Int32.ofInt y) (Int32.ofInt ((i * i : Nat) : Int)) w0).bind fun q38 => if q38.1 = 0 then ((gO 6 (some x) q38.2).bind fun a55 => (mX6_spareGroup F a55 q38.2).bind fun q55 => if q55.1 = none then some ((-3 : Int32), q55.2) else ((gO 2 q55.1 q55.2).bind fun a73 => (mX2_readFrom F a73 (some sh) (Int32.ofInt (i : Nat)) q55.2).bind fun q73 => if q73.1 < 0 then ((gO 6 (some x) q73.2).bind fun a92 => (mX6_keep F a92 q55.1 q73.2).bind fun q92 => some (q92.1, q92.2)) else some (((-100 : Int32) - q73.1), q73.2))) else some (((-10 : Int32) - q38.1), q38.2)) := by
          unfold mX6_table
          rw [hw.gO6, Option.bind_some, gs, Option.bind_some]
          try dsimp only
          rw [if_neg (by intro t; cases t), il, Option.bind_some]
          try dsimp only
          rw [if_neg (by decide), if_neg p1, if_pos p2, hw0.gO s2, Option.bind_some, ← Int32.ofInt_mul, ← Int.natCast_mul]
        have mt : ∀ e, e = (if zA Z 4 (k : Nat) = -4 then (-11 : Int) else if zA Z 4 (k : Nat) = y then (if ((i * i : Nat) : Int) ≤ zI (O sh) 2 then 0 else -12) else -13) → e = 0 ∧ i * i ≤ 144 ∨ e < 0 := fun e he => by
          rw [he]
          split
          · omega
          · split
            · split
              · omega
              · omega
            · omega
        by_cases ok : (if zI (O sh) 1 = -1 then (1 : Int) else if zI (O sh) 1 = y then (if ((i * i : Nat) : Int) ≤ zI (O sh) 2 then 0 else 2) else 3) = 0
        · -- it is read
          have e1 : zI (O sh) 1 ≠ -1 := fun t => by rw [if_pos t] at ok; omega
          rw [if_neg e1] at ok
          have e2 : zI (O sh) 1 = y := Classical.byContradiction fun t => by rw [if_neg t] at ok; omega
          rw [if_pos e2] at ok
          have e3 : ((i * i : Nat) : Int) ≤ zI (O sh) 2 := Classical.byContradiction fun t => by rw [if_neg t] at ok; omega
          rw [if_neg e1, if_pos e2, if_pos e3] at q1
          have e4 : zA Z 4 (k : Nat) = zI (O sh) 1 := by
            rcases s6 with ⟨t, _⟩ | ⟨_, t⟩
            · exact (e1 t).elim
            · exact t
          rw [e4, if_neg (show ¬ zI (O sh) 1 = -4 by omega), if_pos e2, if_pos e3] at mft
          have M := m_table (F := F) (Z := Z) (row := k) (t := y) (n := i) (e := 0) (g := gc) (c := zA (O sh) 0) hF (by omega) f0 (by omega) mft (by omega) c5 c1 (fun j hj => by
            have := s3 j (by omega)
            exact ⟨this.1.symm, this.2⟩)
          by_cases e8 : gc = 8
          · subst e8
            refine aOK.of (v := -3) (w1 := w1) ?_ hw1 (rX7_table rfl rfl rfl hw1.2.2.2.1) (M.2.1 rfl rfl) hl
            show mX6_table F x (Int32.ofInt (k : Nat)) (Int32.ofInt y) (Int32.ofInt (i : Nat)) w = _
            rw [hd, q1, Option.bind_some]
            try dsimp only
            rw [if_pos (show Int32.ofInt 0 = 0 from rfl), hw1.gO6, Option.bind_some, w_spare8 hw1 c3, Option.bind_some]
            try dsimp only
            rw [if_pos rfl]; rfl
          · have h8 : gc < 8 := by omega
            obtain ⟨w2, C', O', S', a, t1, hw2, hl2, t2, t3, t4, t5, t6, t7, t8⟩ := w_spare (F := F) hw1 hl h8
            have ksh := (t2 sh _ s2).1
            have nsh : sh ≠ a := kd_ne ksh t3 (by decide)
            obtain ⟨w3, S1, r1, r2, r3, r4⟩ := c_readFrom (n := i) hF (hw2.2.1 a _ t3) (hw2.2.1 sh _ ksh) (hw2.1.2 sh a _ _ ksh t3 nsh) (by omega) (by omega)
            have eC : oA (cvO C' O' sh) 0 = clC (zA (O sh) 0) := by
              funext j
              show Int32.ofInt (zA (O' sh) 0 ((j : Nat) : Int)) = Int32.ofInt (zA (O sh) 0 ((j : Nat) : Int))
              rw [t5 sh _ s2]
            rw [eC] at r1 r4
            have hw3 := hw2.g t3 lyG_k r3 r2
            obtain ⟨f, f1, f2⟩ := M.2.2 rfl h8
            have cls : ∀ (v : Int32) (w4 : gW), ((mX2_readFrom F a (some sh) (Int32.ofInt (i : Nat)) w2).bind fun q73 => if q73.1 < 0 then ((gO 6 (some x) q73.2).bind fun a92 => (mX6_keep F a92 (some a) q73.2).bind fun q92 => some (q92.1, q92.2)) else some (((-100 : Int32) - q73.1), q73.2)) = some (v, w4) → mX6_table F x (Int32.ofInt (k : Nat)) (Int32.ofInt y) (Int32.ofInt (i : Nat)) w = some (v, w4) := fun v w4 hv => by
              rw [hd, q1, Option.bind_some]
              try dsimp only
              rw [if_pos (show Int32.ofInt 0 = 0 from rfl), hw1.gO6, Option.bind_some, t1, Option.bind_some]
              try dsimp only
              rw [if_neg (by intro t; cases t), hw2.gO t3, Option.bind_some]
              exact hv
            rcases f2 with ⟨f2, f3, f4⟩ | ⟨f2, f3⟩
            · obtain ⟨z1, z2⟩ := r4 f2
              refine aOK.new hF hw3 hl2 (fun b hb => oup_n hb) h8 t4 z1 z2 (fun w4 hk => ?_) (fun w4 o => rX7_table rfl rfl rfl o) f3 f4
              refine cls _ _ ?_
              rw [iO_nat, r1, Option.bind_some]
              try dsimp only
              rw [if_pos f2, hw3.gO6, Option.bind_some, hk, Option.bind_some]
            · refine aOK.of (w1 := w3) ?_ hw3 (rX7_table rfl rfl rfl hw3.2.2.2.1) f3 (hl2.spoil h8 t4 f1)
              refine cls _ _ ?_
              rw [iO_nat, r1, Option.bind_some]
              try dsimp only
              rw [if_neg f2, Int32.ofInt_sub, Int32.ofInt_toInt]; rfl
        · have hneg : ∃ fv : Int, (if zI (O sh) 1 = -1 then (1 : Int) else if zI (O sh) 1 = y then (if ((i * i : Nat) : Int) ≤ zI (O sh) 2 then 0 else 2) else 3) = fv ∧ (if zA Z 4 (k : Nat) = -4 then (-11 : Int) else if zA Z 4 (k : Nat) = y then (if ((i * i : Nat) : Int) ≤ zI (O sh) 2 then 0 else -12) else -13) = -10 - fv ∧ 1 ≤ fv ∧ fv ≤ 3 := by
            rcases s6 with ⟨v1, v2⟩ | ⟨v1, v2⟩
            · exact ⟨1, if_pos v1, by rw [if_pos v2]; rfl, by omega, by omega⟩
            · by_cases g1 : zI (O sh) 1 = y
              · by_cases g2 : ((i * i : Nat) : Int) ≤ zI (O sh) 2
                · rw [if_neg (by omega), if_pos g1, if_pos g2] at ok; omega
                · exact ⟨2, by rw [if_neg (by omega), if_pos g1, if_neg g2], by rw [if_neg (by omega), if_pos (show zA Z 4 (k : Nat) = y by omega), if_neg g2]; rfl, by omega, by omega⟩
              · exact ⟨3, by rw [if_neg (by omega), if_neg g1], by rw [if_neg (by omega), if_neg (show ¬ zA Z 4 (k : Nat) = y by omega)]; rfl, by omega, by omega⟩
          obtain ⟨fv, v1, v2, v3, v4⟩ := hneg
          rw [v1] at q1
          rw [v2] at mft
          have M := m_table (F := F) (Z := Z) (row := k) (t := y) (n := i) (e := -10 - fv) (g := gc) (c := zA (O sh) 0) hF (by omega) f0 (by omega) mft (by omega) c5 c1 (fun j hj => by
            have := s3 j (by omega)
            exact ⟨this.1.symm, this.2⟩)
          refine aOK.of (w1 := w1) ?_ hw1 (rX7_table rfl rfl rfl hw1.2.2.2.1) (M.1 (by omega)) hl
          show mX6_table F x (Int32.ofInt (k : Nat)) (Int32.ofInt y) (Int32.ofInt (i : Nat)) w = _
          rw [hd, q1, Option.bind_some]
          try dsimp only
          rw [if_neg (fun t => by have := (iO_z0 (by unfold i32; omega)).mp t; omega), Int32.ofInt_sub]; rfl
      · refine aOK.of (v := -1) (w1 := w0) ?_ hw0 (rX7_table rfl rfl rfl hw0.2.2.2.1) (m_table0 hz hy hu (fun t => f1 t.2.2)) hl
        try dsimp only
        unfold mX6_table
        rw [hw.gO6, Option.bind_some, gs, Option.bind_some]
        try dsimp only
        rw [if_neg (by intro t; cases t), il, Option.bind_some]
        try dsimp only
        rw [if_neg (by decide)]
        by_cases d1 : u < 1
        · rw [if_pos (show Int32.ofInt u < 1 from (iO_lt (b := 1) ⟨hu, by omega⟩).mpr d1)]; rfl
        · rw [if_neg (show ¬ Int32.ofInt u < 1 from fun t => d1 ((iO_lt (b := 1) ⟨hu, by omega⟩).mp t)), if_neg (show ¬ Int32.ofInt u ≤ 12 from fun t => f1 ⟨by omega, (iO_le (b := 12) ⟨hu, by omega⟩).mp t⟩)]; rfl
    · rw [if_neg f0] at il
      refine aOK.of (v := -1) (w1 := w0) ?_ hw0 (rX7_table rfl rfl rfl hw0.2.2.2.1) (m_table0 hz hy hu (fun t => f0 t.2.1)) hl
      try dsimp only
      unfold mX6_table
      rw [hw.gO6, Option.bind_some, gs, Option.bind_some]
      try dsimp only
      rw [if_neg (by intro t; cases t), il, Option.bind_some]
      try dsimp only
      rw [if_pos (show Int32.ofInt 0 = 0 from rfl)]; rfl
  · rw [if_neg d] at gs
    refine aOK.of (v := -1) (w1 := w) ?_ hw (rX7_table rfl rfl rfl hw.2.2.2.1) (m_table0 hz hy hu (fun t => d (by omega))) hl
    try dsimp only
    unfold mX6_table
    rw [hw.gO6, Option.bind_some, gs, Option.bind_some]
    try dsimp only
    rw [if_pos rfl]; rfl
end ARB
