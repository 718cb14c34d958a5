section AR6
variable {F x m n a j : Nat} {C C' : yC} {w w1 : gW} {O O' : zO} {S S' : oSt} {Z Z' : zS} {T : Nat → Nat → Nat} {M : Nat → Nat → Nat → Int} {gn : Nat → Nat} {gT : Nat → Nat → Nat → Nat} {gc ac : Nat} {z y u : Int}
theorem sMd.i3 {A g t b s p r gi : Nat} [NeZero p] (hw : hW C x m w O S Z) (h : sMd C O S Z gn gT gc j A g t b s p r gi M) : gFI 0 3 (some A) w = some (Int32.ofInt (p : Nat)) := by rw [hw.cFI h.2.1.1.1 (k := 3) rfl, h.2.1.2.2.2.1.1]
theorem sMd.rt {A g t b s p r gi : Nat} [NeZero p] (hw : hW C x m w O S Z) (h : sMd C O S Z gn gT gc j A g t b s p r gi M) : gFR 0 1 (some A) w = some (some t) := by rw [hw.cFR h.2.1.1.1 (k := 1) rfl, h.2.1.1.2.2.2.1]
theorem sMd.rs {A g t b s p r gi : Nat} [NeZero p] (hw : hW C x m w O S Z) (h : sMd C O S Z gn gT gc j A g t b s p r gi M) : gFR 5 2 (some t) w = some (some s) := by rw [hw.cFR h.2.1.1.2.2.1 (k := 2) rfl, h.2.2.1.2.2.2]
theorem sMd.i5 {A g t b s p r gi : Nat} [NeZero p] (hw : hW C x m w O S Z) (h : sMd C O S Z gn gT gc j A g t b s p r gi M) (hs : sdV (gn gi) p r (gT gi) M = 0) : gFI 1 5 (some s) w = some (Int32.ofInt (dmH p (gn gi) r (gT gi) M : Nat)) := by rw [hw.cFI h.2.2.1.2.2.1 (k := 5) rfl, ((h.2.2.2.1.1 hs).2.dn h.1).2.1]
theorem w_times {A g t b s p r gi v c : Nat} [NeZero p] (hF : fF F) (hs : sdV (gn gi) p r (gT gi) M = 0) (hv : v < p ^ dmH p (gn gi) r (gT gi) M) (hc : c < p) : ∀ (d i fu : Nat) (w : gW), i + d = c → d < fu → hW C x m w O S Z → sMd C O S Z gn gT gc j A g t b s p r gi M → ∃ w', mX6_times_l56 F fu (Int32.ofInt (v : Nat)) (Int32.ofInt (c : Nat)) (some A) (Int32.ofInt ((nB p (dmH p (gn gi) r (gT gi) M) (fun s => (v / p ^ s % p * i) % p) : Nat) : Int)) (Int32.ofInt (i : Nat)) w = some (Int32.ofInt ((nB p (dmH p (gn gi) r (gT gi) M) (fun s => (v / p ^ s % p * c) % p) : Nat) : Int), w') ∧ hW C x m w' O S Z := by
  intro d
  induction d with
  | zero =>
    intro i fu w hi hfu hw sm
    have hpp := sm.2.1.2.2.2.2.1
    obtain ⟨fu, rfl⟩ : ∃ k, fu = k + 1 := ⟨fu - 1, by omega⟩
    have e : i = c := by omega
    subst e
    refine ⟨w, ?_, hw⟩
    show mX6_times_h56 F (mX6_times_l56 F fu) _ _ _ _ _ w = _
    unfold mX6_times_h56
    rw [if_pos ((iO_le (by omega)).mpr (Int.le_refl _))]
  | succ d ih =>
    intro i fu w hi hfu hw sm
    have hpp := sm.2.1.2.2.2.2.1
    obtain ⟨fu, rfl⟩ : ∃ k, fu = k + 1 := ⟨fu - 1, by omega⟩
    obtain ⟨o1, o2⟩ := sm.2.2.2.1.1 hs
    have n5 := (o2.dn sm.1).2.2.2.2
    have pb := pw_b hpp n5
    have hlt : ∀ s, s < dmH p (gn gi) r (gT gi) M → (fun s => (v / p ^ s % p * i) % p) s < p := fun s _ => Nat.mod_lt _ (by omega)
    have hb := nB_lt (p := p) (by omega) hlt
    obtain ⟨w1, f1, hw1⟩ := hw.y1 (rX6_addDigits hw.1 hF rfl rfl rfl rfl hw.2.1) (y_sumD (F := F) (C := C) (O := O) (p := p) (k := dmH p (gn gi) r (gT gi) M) (v := nB p (dmH p (gn gi) r (gT gi) M) (fun s => (v / p ^ s % p * i) % p)) (w := v) hF hpp n5 hb hv)
    have e : nB p (dmH p (gn gi) r (gT gi) M) (fun s => (nB p (dmH p (gn gi) r (gT gi) M) (fun s => (v / p ^ s % p * i) % p) / p ^ s % p + v / p ^ s % p) % p) = nB p (dmH p (gn gi) r (gT gi) M) (fun s => (v / p ^ s % p * (i + 1)) % p) := by
      refine nB_congr fun s hs' => ?_
      rw [nB_dg (by omega) hlt s hs']
      show (v / p ^ s % p * i % p + v / p ^ s % p) % p = _
      rw [Nat.mul_add, Nat.mul_one, Nat.mod_add_mod]
    rw [e] at f1
    obtain ⟨w', g1, g2⟩ := ih (i + 1) fu w1 (by omega) (by omega) hw1 sm
    refine ⟨w', ?_, g2⟩
    show mX6_times_h56 F (mX6_times_l56 F fu) _ _ _ _ _ w = _
    unfold mX6_times_h56
    rw [if_neg (fun t => by have := (iO_le (by omega)).mp t; omega), sm.i3 hw, Option.bind_some, sm.rt hw, Option.bind_some, sm.rs hw, Option.bind_some, sm.i5 hw hs, Option.bind_some, f1, Option.bind_some, iO_p1]
    exact g1
theorem k_times (hF : fF F) (h : WI x m w) (hz : i32 z) (hy : i32 y) (hu : i32 u) : aOK x m w (fun w => mX6_times F x (Int32.ofInt z) (Int32.ofInt y) (Int32.ofInt u) w) (fun w => mX7_times F m (Int32.ofInt z) (Int32.ofInt y) (Int32.ofInt u) w) := by
  obtain ⟨C, O, S, Z, gn, gT, gc, ac, hw, hl⟩ := h
  obtain ⟨⟨c1, c2⟩, ⟨c3, c4⟩, ⟨c5, c6⟩, c7⟩ := hl.1
  have ga := w_actionAt (F := F) hw c4 c2 hz
  by_cases c : 0 ≤ z ∧ z < ac
  · obtain ⟨k, rfl⟩ : ∃ k : Nat, z = k := ⟨z.toNat, by omega⟩
    obtain ⟨A, g, t, b, s, p, r, gi, M, hp, w1, C', O', S', e1, e2, e3, hw1, e4, e5, sm, fin⟩ := w_slv (j := k) hF hw hl (by omega)
    rw [if_pos c, Int.toNat_natCast, e1] at ga
    have hI := sm.1
    have hm := sm.2.2.2.2.1
    have hpp := sm.2.1.2.2.2.2.1
    have i3 : gFI 0 3 (some A) w = some (Int32.ofInt (p : Nat)) := by rw [hw.cFI e2.1.1 (k := 3) rfl, e2.2.2.2.1.1]
    obtain ⟨Z1, r1, r2, r3⟩ := m_timesK (F := F) (v := y) (c := u) hF hI hm hy hu
    by_cases d : 1 ≤ u ∧ u < p
    · obtain ⟨w2, f2, hw2⟩ := w_refusal (z := y) hF hw1 sm hy
      have l1 := lk_r (p := p) (n := gn gi) (r := r) (T := gT gi) (M := M) (v := y)
      have hd : mX6_times F x (Int32.ofInt (k : Nat)) (Int32.ofInt y) (Int32.ofInt u) w = (if Int32.ofInt (lkV p (gn gi) r (gT gi) M y) = 0 then mX6_times_l56 F F (Int32.ofInt y) (Int32.ofInt u) (some A) (0 : Int32) (0 : Int32) w2 else some (Int32.ofInt (lkV p (gn gi) r (gT gi) M y), w2)) := by
        unfold mX6_times
        rw [hw.gO6, Option.bind_some, ga, Option.bind_some]
        try dsimp only
        rw [if_neg (by intro t; cases t), if_neg (show ¬ Int32.ofInt u < 1 from fun t => by have := (iO_lt (b := 1) ⟨hu, by omega⟩).mp t; omega), i3, Option.bind_some, if_pos ((iO_lt ⟨hu, by omega⟩).mpr d.2), hw.gO6, Option.bind_some, e3, Option.bind_some, f2, Option.bind_some]
      by_cases d1 : lkV p (gn gi) r (gT gi) M y = 0
      · obtain ⟨s0, y0, y1⟩ := lk_0 d1
        obtain ⟨i, rfl⟩ : ∃ i : Nat, y = i := ⟨y.toNat, by omega⟩
        obtain ⟨j, rfl⟩ : ∃ j : Nat, u = j := ⟨u.toNat, by omega⟩
        have z0 : nB p (dmH p (gn gi) r (gT gi) M) (fun s => (i / p ^ s % p * 0) % p) = 0 := by
          rw [nB_congr (b := fun _ => 0) fun s _ => by rw [Nat.mul_zero, Nat.zero_mod]]
          generalize dmH p (gn gi) r (gT gi) M = q
          induction q with
          | zero => rfl
          | succ q ih => show 0 + p * nB p q (fun _ => 0) = 0; rw [ih]; omega
        obtain ⟨w3, f3, hw3⟩ := w_times (F := F) (v := i) (c := j) hF s0 (by omega) (by omega) j 0 F w2 (by omega) (by unfold fF at hF; omega) hw2 sm
        rw [z0] at f3
        refine aOK.of (w1 := w3) ?_ hw3 (rX7_times rfl rfl rfl hw3.2.2.2.1) r1 (fin Z1 r2 r3)
        show mX6_times F x (Int32.ofInt (k : Nat)) (Int32.ofInt (i : Nat)) (Int32.ofInt (j : Nat)) w = _
        rw [hd, if_pos ((iO_z0 (by unfold i32; omega)).mpr d1)]
        unfold tmV
        rw [if_pos d, if_pos (by omega), Int.toNat_natCast, Int.toNat_natCast]
        exact f3
      · refine aOK.of (w1 := w2) ?_ hw2 (rX7_times rfl rfl rfl hw2.2.2.2.1) r1 (fin Z1 r2 r3)
        show mX6_times F x (Int32.ofInt (k : Nat)) (Int32.ofInt y) (Int32.ofInt u) w = _
        rw [hd, if_neg (fun t => d1 ((iO_z0 (by unfold i32; omega)).mp t))]
        unfold tmV
        rw [if_pos d, if_neg (by omega)]
    · have r1' : zX7_times F (k : Nat) y u Z = some (-1, Z) := by
        have hmm := hm.1.1
        have h7 := hm.2.1
        unfold zX7_times
        rw [zC1_o (m_isModule (by omega) (by omega)), if_pos (by omega), zEq_f (by omega), zLd_o (by omega), hm.1.2.2.2.1.2.1, zC1_o (y_in (a := u) (b := 1) (c := (p : Int) - 1) (by decide) rfl (by unfold i32 at hu; omega)), if_neg (by omega), zEq_t (by omega)]
      refine aOK.of (v := -1) (w1 := w) ?_ hw (rX7_times rfl rfl rfl hw.2.2.2.1) r1' hl
      try dsimp only
      unfold mX6_times
      rw [hw.gO6, Option.bind_some, ga, Option.bind_some]
      try dsimp only
      rw [if_neg (by intro t; cases t)]
      by_cases d1 : u < 1
      · rw [if_pos (show Int32.ofInt u < 1 from (iO_lt (b := 1) ⟨hu, by omega⟩).mpr d1)]; rfl
      · rw [if_neg (show ¬ Int32.ofInt u < 1 from fun t => d1 ((iO_lt (b := 1) ⟨hu, by omega⟩).mp t)), i3, Option.bind_some, if_neg (fun t => d ⟨by omega, (iO_lt ⟨hu, by omega⟩).mp t⟩)]; rfl
  · rw [if_neg c] at ga
    refine aOK.of (v := -1) (w1 := w) ?_ hw (rX7_times rfl rfl rfl hw.2.2.2.1) ((m_noMod (F := F) hz (by omega) (by omega)).2.2.1 y u) hl
    try dsimp only
    unfold mX6_times
    rw [hw.gO6, Option.bind_some, ga, Option.bind_some]
    try dsimp only
    rw [if_pos rfl]; rfl
theorem k_parts (hF : fF F) (h : WI x m w) (hz : i32 z) (hy : i32 y) : aOK x m w (fun w => mX6_parts F x (Int32.ofInt z) (Int32.ofInt y) w) (fun w => mX7_parts F m (Int32.ofInt z) (Int32.ofInt y) w) := by
  obtain ⟨C, O, S, Z, gn, gT, gc, ac, hw, hl⟩ := h
  obtain ⟨⟨c1, c2⟩, ⟨c3, c4⟩, ⟨c5, c6⟩, c7⟩ := hl.1
  have ga := w_actionAt (F := F) hw c4 c2 hz
  by_cases c : 0 ≤ z ∧ z < ac
  · obtain ⟨k, rfl⟩ : ∃ k : Nat, z = k := ⟨z.toNat, by omega⟩
    obtain ⟨A, g, t, b, s, p, r, gi, M, hp, w1, C', O', S', e1, e2, e3, hw1, e4, e5, sm, fin⟩ := w_slv (j := k) hF hw hl (by omega)
    rw [if_pos c, Int.toNat_natCast, e1] at ga
    have hI := sm.1
    have hm := sm.2.2.2.2.1
    have hpp := sm.2.1.2.2.2.2.1
    have hrr := sm.2.1.2.2.2.2.2.1
    have hn8 := sm.2.1.2.2.1
    obtain ⟨Z1, r1, r2, r3⟩ := m_partsK (F := F) (v := y) hF hI hm hy
    obtain ⟨w2, f2, hw2⟩ := w_refusal (z := y) hF hw1 sm hy
    have l1 := lk_r (p := p) (n := gn gi) (r := r) (T := gT gi) (M := M) (v := y)
    have hd : mX6_parts F x (Int32.ofInt (k : Nat)) (Int32.ofInt y) w = (if Int32.ofInt (lkV p (gn gi) r (gT gi) M y) = 0 then (if Int32.ofInt y = 0 then ((mX5_dimensionOf F t (1 : Int32) w2).bind fun q45 => (mX6_power F (Int32.ofInt (p : Nat)) q45.1 q45.2).bind fun q48 => some (q48.1, q48.2)) else some ((0 : Int32), w2)) else some (Int32.ofInt (lkV p (gn gi) r (gT gi) M y), w2)) := by
      unfold mX6_parts
      rw [hw.gO6, Option.bind_some, ga, Option.bind_some]
      try dsimp only
      rw [if_neg (by intro t; cases t), hw.gO6, Option.bind_some, e3, Option.bind_some, f2, Option.bind_some]
      try dsimp only
      rw [sm.i3 hw2, Option.bind_some, sm.rt hw2, Option.bind_some, hw2.gO sm.2.1.1.2.2.1, Option.bind_some]
    by_cases d1 : lkV p (gn gi) r (gT gi) M y = 0
    · obtain ⟨s0, y0, y1⟩ := lk_0 d1
      obtain ⟨o1, o2⟩ := sm.2.2.2.1.1 s0
      by_cases d2 : y = 0
      · have hB : dmB p (gn gi) r (gT gi) M ≤ (gn gi - 1) * r := by
          obtain ⟨kB, k, RB, R, lB, l, a1, a2, a3, -⟩ := o2
          have q1 := gB_few hI a3
          have q2 : kB = dmB p (gn gi) r (gT gi) M := fEch_count hI (fSpn_sub fun g hg => gB_ok hg) a3
          omega
        have h14 : (gn gi - 1) * r ≤ 14 := Nat.le_trans (Nat.mul_le_mul (show gn gi - 1 ≤ 7 by omega) hrr.2) (by omega)
        obtain ⟨w3, p1, hw3⟩ := hw2.y1 (rX5_dimensionOf (v1' := (1 : Int32)) hw2.1 hF rfl hw2.2.1) (y_dimensionOf (F := F) (v := 1) hI o2 sm.2.1.1.2.2.1 sm.2.2.1.1 sm.2.2.1.2.1 sm.2.2.1.2.2.1 sm.2.2.1.2.2.2 (by omega))
        have ev : dmV p (gn gi) r (gT gi) M 1 = (((gn gi - 1) * r - dmB p (gn gi) r (gT gi) M : Nat) : Int) := by
          unfold dmV
          rw [if_neg (by omega), if_pos rfl]; omega
        rw [ev] at p1
        obtain ⟨w4, p2, hw4⟩ := hw3.y1 (rX6_power hw3.1 hF rfl rfl hw3.2.1) (y_power (F := F) (C := C') (O := O') (b := (p : Nat)) (k := (gn gi - 1) * r - dmB p (gn gi) r (gT gi) M) hF (by omega))
        refine aOK.of (w1 := w4) ?_ hw4 (rX7_parts rfl rfl hw4.2.2.2.1) r1 (fin Z1 r2 r3)
        show mX6_parts F x (Int32.ofInt (k : Nat)) (Int32.ofInt y) w = _
        rw [hd, if_pos ((iO_z0 (by unfold i32; omega)).mpr d1), if_pos ((iO_z0 hy).mpr d2), p1, Option.bind_some]
        try dsimp only
        rw [p2, Option.bind_some]
        unfold ptV
        rw [if_pos (by omega), if_pos d2, Int.natCast_pow]
      · refine aOK.of (w1 := w2) ?_ hw2 (rX7_parts rfl rfl hw2.2.2.2.1) r1 (fin Z1 r2 r3)
        show mX6_parts F x (Int32.ofInt (k : Nat)) (Int32.ofInt y) w = _
        rw [hd, if_pos ((iO_z0 (by unfold i32; omega)).mpr d1), if_neg (fun t => d2 ((iO_z0 hy).mp t))]
        unfold ptV
        rw [if_pos (by omega), if_neg d2]; rfl
    · refine aOK.of (w1 := w2) ?_ hw2 (rX7_parts rfl rfl hw2.2.2.2.1) r1 (fin Z1 r2 r3)
      show mX6_parts F x (Int32.ofInt (k : Nat)) (Int32.ofInt y) w = _
      rw [hd, if_neg (fun t => d1 ((iO_z0 (by unfold i32; omega)).mp t))]
      unfold ptV
      rw [if_neg (by omega)]
  · rw [if_neg c] at ga
    refine aOK.of (v := -1) (w1 := w) ?_ hw (rX7_parts rfl rfl hw.2.2.2.1) ((m_noMod2 (F := F) hz (by omega) (by omega)).1 y) hl
    try dsimp only
    unfold mX6_parts
    rw [hw.gO6, Option.bind_some, ga, Option.bind_some]
    try dsimp only
    rw [if_pos rfl]; rfl
end AR6
