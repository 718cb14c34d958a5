section AR8
variable {F x m n a j : Nat} {C C' : yC} {w w1 : gW} {O O' : zO} {S S' : oSt} {Z Z' : zS} {T : Nat → Nat → Nat} {M : Nat → Nat → Nat → Int} {gn : Nat → Nat} {gT : Nat → Nat → Nat → Nat} {gc ac : Nat} {z y u t1 t2 : Int}
theorem clV_one {p n r k : Nat} [NeZero p] {v : fV p} {c c' : Int} {R : Nat → fV p} {l : Nat → Nat} (h : clV p n r T M v c) (h' : clV p n r T M v c') (hE : fRref (NS (p := p) n r T M) k R l) : c = c' := by
  obtain ⟨u, a1, a2, a3, a4⟩ := h
  obtain ⟨u', b1, b2, b3, b4⟩ := h'
  have hs : fSub ((n - 1) * (n - 1) * r) (fSpn ((n - 1) * (n - 1) * r) (gB (p := p) n r T M)) := fSpn_sub fun g hg => gB_ok hg
  have hd := hs.sub a3 b3
  have e : u = u' := by
    refine Classical.byContradiction fun q => ?_
    have ex : ∃ i, u i - u' i ≠ 0 := Classical.byContradiction fun t => q (by
      funext i
      have : u i - u' i = 0 := Classical.byContradiction fun t' => t ⟨i, t'⟩
      grind)
    obtain ⟨i0, hi0⟩ := ex
    have hmin : ∀ d i, i ≤ d → u i - u' i ≠ 0 → ∃ i, u i - u' i ≠ 0 ∧ ∀ j, j < i → u j - u' j = 0 := by
      intro d
      induction d with
      | zero => intro i hi hn; exact ⟨i, hn, fun j hj => by omega⟩
      | succ d ih =>
        intro i hi hn
        by_cases c : ∃ j, j < i ∧ u j - u' j ≠ 0
        · obtain ⟨j, j1, j2⟩ := c
          exact ih j (by omega) j2
        · exact ⟨i, hn, fun j hj => Classical.byContradiction fun t => c ⟨j, hj, t⟩⟩
    obtain ⟨i, i1, i2⟩ := hmin i0 i0 (Nat.le_refl _) hi0
    have hl : fLead (fSpn ((n - 1) * (n - 1) * r) (gB (p := p) n r T M)) i := by
      refine ⟨_, hd, ?_, fun j hj => ?_⟩
      · show u i - v i - (u' i - v i) ≠ 0
        have : u i - v i - (u' i - v i) = u i - u' i := by grind
        rw [this]; exact i1
      · show u j - v j - (u' j - v j) = 0
        have : u j - v j - (u' j - v j) = u j - u' j := by grind
        rw [this]; exact i2 j hj
    have q1 := a2 i hl
    have q2 := b2 i hl
    rw [q1, q2] at i1
    exact i1 (by grind)
  rw [a4 k R l hE, b4 k R l hE, e]
theorem w_isLane (hF : fF F) (hw : hW C x m w O S Z) (hz : i32 z) : ∃ w', mX6_isLane F (Int32.ofInt z) w = some (Int32.ofInt (if 0 ≤ z ∧ z ≤ 1 then 1 else 0), w') ∧ hW C x m w' O S Z := hw.y1 (rX6_isLane hw.1 hF rfl hw.2.1) (y_isLane hz)
theorem hl_row {A g t b s p r gi : Nat} [NeZero p] {f : Int → Int} (h : LI C O S Z gn gT gc ac) (hj : j < ac) (e1 : oQ S 1 j = some A) (sm : sMd C O S Z gn gT gc j A g t b s p r gi M) : LI C (oW O t 0 f) S Z gn gT gc ac := by
  obtain ⟨hI, hA, hk, hsd, hm, hg, h5, e3, hG⟩ := sm
  have ne := hA.ne
  have nb := (hA.neE hk.1).2.2
  have ns := (hA.neE hk.2.2.1).2.2
  refine h.mod hj hI e1 hg e3 hA hk cEx.rf rSm.rf h.2.2.2.2.2 (fun a q _ _ ha _ _ _ _ => oW_n ha) (by rw [oW_n ne.2.1]; exact hG) (hA.keep (oW_n ne.1) (oW_n ne.2.1)) (by rw [oW_n ne.1]; exact h5) ?_ kM.rf hm
  have hf := ySf_of hsd
  unfold ySf ySol at *
  rw [oW_n ne.1, oW_n (Ne.symm nb), oW_n (Ne.symm ns), oW_s]
  exact hf
theorem sMd.md {A g t b s p r gi : Nat} [NeZero p] (sm : sMd C O S Z gn gT gc j A g t b s p r gi M) (hm : mOk p Z' j gi (gn gi) (gT gi) r M) : sMd C O S Z' gn gT gc j A g t b s p r gi M := by
  obtain ⟨hI, hA, hk, hsd, -, rest⟩ := sm
  exact ⟨hI, hA, hk, hsd, hm, rest⟩
theorem k_classOf (hF : fF F) (h : WI x m w) (hz : i32 z) (hy : i32 y) (hu : i32 u) : aOK x m w (fun w => mX6_classOf F x (Int32.ofInt z) (Int32.ofInt y) (Int32.ofInt u) w) (fun w => mX7_classOf F m (Int32.ofInt z) (Int32.ofInt y) (Int32.ofInt u) w) := by
  obtain ⟨C, O, S, Z, gn, gT, gc, ac, hw, hl⟩ := h
  obtain ⟨⟨c1, c2⟩, ⟨c3, c4⟩, ⟨c5, c6⟩, c7⟩ := hl.1
  have ga := w_actionAt (F := F) hw c4 c2 hz
  have gs := w_sheetAt (F := F) hw hy
  by_cases c : 0 ≤ z ∧ z < ac
  · obtain ⟨k, rfl⟩ : ∃ k : Nat, z = k := ⟨z.toNat, by omega⟩
    by_cases d : 0 ≤ y ∧ y < 4
    · obtain ⟨k', rfl⟩ : ∃ k : Nat, y = k := ⟨y.toNat, by omega⟩
      obtain ⟨w0, il, hw0⟩ := w_isLane (z := u) hF hw hu
      obtain ⟨A, g, t, b, s, p, r, gi, M, hp, w1, C', O', S', e1, e2, e3, hw1, e4, e5, sm, fin⟩ := w_slv (j := k) hF hw0 hl (by omega)
      obtain ⟨sh, s1, -⟩ := hl.2.2.2.2.1.2 k' (by omega)
      rw [if_pos c, Int.toNat_natCast, e1] at ga
      rw [if_pos d, Int.toNat_natCast, s1] at gs
      have hI := sm.1
      have hm := sm.2.2.2.2.1
      have hrr := sm.2.1.2.2.2.2.2.1
      have hn8 := sm.2.1.2.2.1
      by_cases f : 0 ≤ u ∧ u ≤ 1
      · rw [if_pos f] at il
        have hl1 := fin Z kM.rf hm
        obtain ⟨sh', s1', s2, s3, s4, s5, s6⟩ := hl1.2.2.2.2.1.2 k' (by omega)
        have es : sh' = sh := Option.some.inj (by rw [← s1', ← s1, e5.2])
        subst es
        have hd : mX6_classOf F x (Int32.ofInt (k : Nat)) (Int32.ofInt (k' : Nat)) (Int32.ofInt u) w = (if Int32.ofInt (zI (O' A) 6) = 0 then some ((-2 : Int32), w1) else (mX4_faultOfReading F sh' (Int32.ofInt u) (Int32.ofInt (((r : Nat) : Int) * (gn gi : Nat) * (gn gi : Nat))) w1).bind fun q76 => if q76.1 = 0 then ((gFR 0 1 (some A) q76.2).bind fun t94 => (gO 5 t94 q76.2).bind fun a101 => (mX5_classRead F a101 (some A) (some sh') q76.2).bind fun q101 => some (q101.1, q101.2)) else some (((-10 : Int32) - q76.1), q76.2)) := by
          have i6 : gFI 0 6 (some A) w1 = some (Int32.ofInt (zI (O' A) 6)) := hw1.cFI sm.2.1.1.1 (k := 6) rfl
          have i4 : gFI 0 4 (some A) w1 = some (Int32.ofInt (r : Nat)) := by rw [hw1.cFI sm.2.1.1.1 (k := 4) rfl, sm.2.1.2.2.2.1.2]
          have f2 : gFR 0 2 (some A) w1 = some (some g) := by rw [hw1.cFR sm.2.1.1.1 (k := 2) rfl, sm.2.1.1.2.2.2.2]
          have i7 : gFI 2 7 (some g) w1 = some (Int32.ofInt (gn gi : Nat)) := by rw [hw1.cFI sm.2.1.1.2.1 (k := 7) rfl, sm.2.1.2.1.1]
          unfold mX6_classOf
          rw [hw.gO6, Option.bind_some, ga, Option.bind_some]
          try dsimp only
          rw [hw.gO6, Option.bind_some, gs, Option.bind_some]
          try dsimp only
          rw [if_neg (by intro t; cases t), if_neg (by intro t; cases t), il, Option.bind_some]
          try dsimp only
          rw [if_neg (by decide), hw0.gO6, Option.bind_some, e3, Option.bind_some, i6, Option.bind_some, i4, Option.bind_some, f2, Option.bind_some, i7, Option.bind_some, Option.bind_some, i7, Option.bind_some, hw1.gO s2, Option.bind_some, Int32.ofInt_mul, Int32.ofInt_mul]
        by_cases s0 : sdV (gn gi) p r (gT gi) M = 0
        · obtain ⟨o1, o2⟩ := sm.2.2.2.1.1 s0
          have eL : ((r : Nat) : Int) * (gn gi : Nat) * (gn gi : Nat) = ((r * (gn gi * gn gi) : Nat) : Int) := by rw [← Int.natCast_mul, ← Int.natCast_mul, Nat.mul_assoc]
          have b64 : gn gi * gn gi ≤ 8 * 8 := Nat.mul_le_mul hn8 hn8
          have b128 : r * (gn gi * gn gi) ≤ 2 * 64 := Nat.mul_le_mul hrr.2 b64
          have hft := y_fault (F := F) (C := C') (O := O') (t := zI (O' sh') 1) (v := u) (len := ((r : Nat) : Int) * (gn gi : Nat) * (gn gi : Nat)) s2 rfl (by rcases s6 with ⟨t, _⟩ | ⟨t, _⟩ <;> omega) hu (by omega) (by rw [eL]; omega)
          obtain ⟨w2, q1, hw2⟩ := hw1.y1 (rX4_faultOfReading hw1.1 hF rfl rfl hw1.2.1) hft
          have hm4 : zA Z 4 (k' : Nat) = -4 ∨ zA Z 4 (k' : Nat) = 0 ∨ zA Z 4 (k' : Nat) = 1 := by
            rcases s6 with ⟨_, t⟩ | ⟨t1, t⟩ <;> omega
          have s4' : zA Z 5 (k' : Nat) = zI (O' sh') 2 := s4.symm
          have mft : ∀ Z1, kF Z Z1 → zX7_faultOf F (k' : Nat) u (((r : Nat) : Int) * (gn gi : Nat) * (gn gi : Nat)) Z1 = some (if zA Z 4 (k' : Nat) = -4 then -11 else if zA Z 4 (k' : Nat) = u then (if ((r : Nat) : Int) * (gn gi : Nat) * (gn gi : Nat) ≤ zI (O' sh') 2 then 0 else -12) else -13, Z1) := fun Z1 hz1 => by
            have := m_faultOf (F := F) (Z := Z1) (row := k') (t := zA Z 4 (k' : Nat)) (v := u) (len := ((r : Nat) : Int) * (gn gi : Nat) * (gn gi : Nat)) (by omega) (by rw [hz1.1 4 (by omega)]) hm4 hu (by rw [hz1.1 5 (by omega)]; omega) (by rw [eL]; omega)
            rw [hz1.1 5 (by omega), s4'] at this
            exact this
          have D3 : ∀ q : Nat, q < r * (gn gi * gn gi) → zA Z 6 (144 * ((k' : Nat) : Int) + q) = zA (O' sh') 0 (q : Nat) ∧ -2147483648 ≤ zA (O' sh') 0 (q : Nat) ∧ zA (O' sh') 0 (q : Nat) < 2147483648 := fun q hq => by
            have := s3 q (by omega)
            exact ⟨this.1.symm, this.2⟩
          obtain ⟨Z1, av, r1, r2, r3, r4, r5, r6⟩ := m_classOf3K (F := F) (row := k') (t := u) (D := fun q => zA (O' sh') 0 (q : Nat)) hF hI hm s0 (by omega) f mft (by
            split
            · omega
            · split
              · split <;> omega
              · omega) (fun _ q hq => D3 q hq)
          have bad : ∀ (cv : Int) (fv : Int), 0 < fv → fv ≤ 3 → cv = -10 - fv → (if zA Z 4 (k' : Nat) = -4 then (-11 : Int) else if zA Z 4 (k' : Nat) = u then (if ((r : Nat) : Int) * (gn gi : Nat) * (gn gi : Nat) ≤ zI (O' sh') 2 then 0 else -12) else -13) = cv → (if zI (O' sh') 1 = -1 then (1 : Int) else if zI (O' sh') 1 = u then (if ((r : Nat) : Int) * (gn gi : Nat) * (gn gi : Nat) ≤ zI (O' sh') 2 then 0 else 2) else 3) = fv → aOK x m w (fun w => mX6_classOf F x (Int32.ofInt (k : Nat)) (Int32.ofInt (k' : Nat)) (Int32.ofInt u) w) (fun w => mX7_classOf F m (Int32.ofInt (k : Nat)) (Int32.ofInt (k' : Nat)) (Int32.ofInt u) w) := fun cv fv p1 p2 p3 p4 p5 => by
            rw [p4] at r4
            have ea := r4 (by omega)
            refine aOK.of (w1 := w2) (v := av) ?_ hw2 (rX7_classOf rfl rfl rfl hw2.2.2.2.1) r1 (fin Z1 r2 r3)
            show mX6_classOf F x (Int32.ofInt (k : Nat)) (Int32.ofInt (k' : Nat)) (Int32.ofInt u) w = _
            rw [p5] at q1
            rw [hd, o1, if_neg (by decide), q1, Option.bind_some]
            try dsimp only
            rw [if_neg (fun t => by have := (iO_z0 (by unfold i32; omega)).mp t; omega), ea, p3, Int32.ofInt_sub]; rfl
          rcases s6 with ⟨v1, v2⟩ | ⟨v1, v2⟩
          · exact bad (-11) 1 (by omega) (by omega) (by omega) (if_pos v2) (if_pos v1)
          · by_cases g1 : zI (O' sh') 1 = u
            · by_cases g2 : ((r : Nat) : Int) * (gn gi : Nat) * (gn gi : Nat) ≤ zI (O' sh') 2
              · rw [if_neg (show ¬ zA Z 4 (k' : Nat) = -4 by omega), if_pos (show zA Z 4 (k' : Nat) = u by omega), if_pos g2] at r4 r5 r6
                rw [if_neg (show ¬ zI (O' sh') 1 = -1 by omega), if_pos g1, if_pos g2] at q1
                obtain ⟨f', av', p1, p2, p3⟩ := y_classRead (F := F) (sh := sh') (D := fun q => zA (O' sh') 0 (q : Nat)) hF hI sm.2.1 (sdM_of sm.2.1.2.1.2.2.1 s0) s2 sm.2.2.1.1 sm.2.2.1.2.1 sm.2.2.1.2.2.1 sm.2.2.1.2.2.2 o2 (fun q hq => ⟨rfl, (D3 q hq).2⟩)
                obtain ⟨w3, q3, hw3⟩ := hw2.y1 (rX5_classRead (v1' := some A) (v2' := some sh') hw2.1 hF rfl rfl hw2.2.1) p1
                have ea : av = av' := by
                  by_cases hn : nrm (p := p) (gn gi) r (fun q => zA (O' sh') 0 (q : Nat)) ∧ Z2 (p := p) (gn gi) r (gT gi) M (ldV (gn gi) r (fun q => zA (O' sh') 0 (q : Nat)))
                  · obtain ⟨kB, kk, RB, R, lB, l, -, -, -, -, -, o8, -⟩ := o2
                    exact clV_one (r6 (by omega) hn.1 hn.2) (p3 hn.1 hn.2) o8
                  · rw [r5 (by omega) hn, p2 hn]
                refine aOK.of (w1 := w3) (v := av) ?_ hw3 (rX7_classOf rfl rfl rfl hw3.2.2.2.1) r1 (hl_row (fin Z1 r2 r3) (by omega) (by rw [e5.2]; exact e1) (sm.md r3))
                show mX6_classOf F x (Int32.ofInt (k : Nat)) (Int32.ofInt (k' : Nat)) (Int32.ofInt u) w = _
                rw [hd, o1, if_neg (by decide), q1, Option.bind_some]
                try dsimp only
                rw [if_pos (show Int32.ofInt 0 = 0 from rfl), sm.rt hw2, Option.bind_some, hw2.gO sm.2.1.1.2.2.1, Option.bind_some, q3, Option.bind_some, ea]
              · exact bad (-12) 2 (by omega) (by omega) (by omega) (by rw [if_neg (show ¬ zA Z 4 (k' : Nat) = -4 by omega), if_pos (show zA Z 4 (k' : Nat) = u by omega), if_neg g2]) (by rw [if_neg (show ¬ zI (O' sh') 1 = -1 by omega), if_pos g1, if_neg g2])
            · exact bad (-13) 3 (by omega) (by omega) (by omega) (by rw [if_neg (show ¬ zA Z 4 (k' : Nat) = -4 by omega), if_neg (show ¬ zA Z 4 (k' : Nat) = u by omega)]) (by rw [if_neg (show ¬ zI (O' sh') 1 = -1 by omega), if_neg g1])
        · have o1 := sm.2.2.2.1.2 s0
          refine aOK.of (w1 := w1) (v := -2) ?_ hw1 (rX7_classOf rfl rfl rfl hw1.2.2.2.1) (m_classOf2 hF hm (by omega) f s0) hl1
          show mX6_classOf F x (Int32.ofInt (k : Nat)) (Int32.ofInt (k' : Nat)) (Int32.ofInt u) w = _
          rw [hd, o1, if_pos (show Int32.ofInt 0 = 0 from rfl)]; rfl
      · rw [if_neg f] at il
        refine aOK.of (v := -1) (w1 := w0) ?_ hw0 (rX7_classOf rfl rfl rfl hw0.2.2.2.1) (m_classOf1 hm hy hu (fun t => f t.2)) hl
        try dsimp only
        unfold mX6_classOf
        rw [hw.gO6, Option.bind_some, ga, Option.bind_some]
        try dsimp only
        rw [hw.gO6, Option.bind_some, gs, Option.bind_some]
        try dsimp only
        rw [if_neg (by intro t; cases t), if_neg (by intro t; cases t), il, Option.bind_some]
        try dsimp only
        rw [if_pos (show Int32.ofInt 0 = 0 from rfl)]; rfl
    · obtain ⟨A, g, t, b, s, p, r, gi, M, hp, h1, h2, h3, h4, h5, h6, h7, h8, h9⟩ := hl.2.2.2.1 k (by omega)
      rw [if_pos c, Int.toNat_natCast, h2] at ga
      rw [if_neg d] at gs
      refine aOK.of (v := -1) (w1 := w) ?_ hw (rX7_classOf rfl rfl rfl hw.2.2.2.1) (m_classOf1 h9 hy hu (fun t => d (by omega))) hl
      try dsimp only
      unfold mX6_classOf
      rw [hw.gO6, Option.bind_some, ga, Option.bind_some]
      try dsimp only
      rw [hw.gO6, Option.bind_some, gs, Option.bind_some]
      try dsimp only
      rw [if_neg (by intro t; cases t), if_pos rfl]; rfl
  · rw [if_neg c] at ga
    refine aOK.of (v := -1) (w1 := w) ?_ hw (rX7_classOf rfl rfl rfl hw.2.2.2.1) ((m_noMod (F := F) hz (by omega) (by omega)).2.2.2.2.1 y u) hl
    try dsimp only
    unfold mX6_classOf
    rw [hw.gO6, Option.bind_some, ga, Option.bind_some]
    try dsimp only
    rw [hw.gO6, Option.bind_some, gs, Option.bind_some]
    try dsimp only
    rw [if_pos rfl]; rfl
end AR8
