section ARG
variable {F x m n a j : Nat} {C C' : yC} {w w1 w2 : gW} {O O' : zO} {S S' S1 : oSt} {X : zS} {Z Z' : zS} {gn gn' : Nat → Nat} {gT gT' : Nat → Nat → Nat → Nat} {gc gc' ac : Nat} {z y u b1 b2 b3 b4 : Int}
/-- an element's matrix laid down -/
def ptX (S : zS) (e : Nat) (b1 b2 b3 b4 : Int) : zS := zuI (zuA (zuA (zuA (zuA S 0 (4 * (e : Int)) b1) 0 (4 * (e : Int) + 1) b2) 0 (4 * (e : Int) + 2) b3) 0 (4 * (e : Int) + 3) b4) 6 0
theorem ptX_I (S : zS) (e k : Nat) (hk : k ≠ 6) : zI (ptX S e b1 b2 b3 b4) k = zI S k := if_neg hk
theorem ptX_6 (S : zS) (e : Nat) : zI (ptX S e b1 b2 b3 b4) 6 = 0 := rfl
theorem ptX_at (S : zS) (e e' i j : Nat) (hi : i < 2) (hj : j < 2) : zA (ptX S e b1 b2 b3 b4) 0 ((((e' : Int) * 2 + i) * 2) + j) = if e' = e then (if i = 0 then (if j = 0 then b1 else b2) else (if j = 0 then b3 else b4)) else zA S 0 ((((e' : Int) * 2 + i) * 2) + j) := by
  have ex : zA (ptX S e b1 b2 b3 b4) 0 = zup (zup (zup (zup (zA S 0) (4 * (e : Int)) b1) (4 * (e : Int) + 1) b2) (4 * (e : Int) + 2) b3) (4 * (e : Int) + 3) b4 := rfl
  rw [ex]
  by_cases c : e' = e
  · subst c
    rw [if_pos rfl]
    rcases (show i = 0 ∨ i = 1 by omega) with rfl | rfl
    · rcases (show j = 0 ∨ j = 1 by omega) with rfl | rfl
      · rw [zup_n (by omega), zup_n (by omega), zup_n (by omega), show ((((e' : Int) * 2 + (0 : Nat)) * 2) + (0 : Nat)) = 4 * (e' : Int) by omega, zup_s]; rfl
      · rw [zup_n (by omega), zup_n (by omega), show ((((e' : Int) * 2 + (0 : Nat)) * 2) + (1 : Nat)) = 4 * (e' : Int) + 1 by omega, zup_s]; rfl
    · rcases (show j = 0 ∨ j = 1 by omega) with rfl | rfl
      · rw [zup_n (by omega), show ((((e' : Int) * 2 + (1 : Nat)) * 2) + (0 : Nat)) = 4 * (e' : Int) + 2 by omega, zup_s]; rfl
      · rw [show ((((e' : Int) * 2 + (1 : Nat)) * 2) + (1 : Nat)) = 4 * (e' : Int) + 3 by omega, zup_s]; rfl
  · rw [if_neg c, zup_n (by omega), zup_n (by omega), zup_n (by omega), zup_n (by omega)]
theorem w_put {A e : Nat} {v : Int32} (hF : fF F) (hw : hW C x m w O S Z) (hA : C.1 A = some (0, 0)) (he : e < 8) (hv : v = Int32.ofInt (e : Nat)) : ∃ w', mX0_put F A v (Int32.ofInt b1) (Int32.ofInt b2) (Int32.ofInt b3) (Int32.ofInt b4) w = some w' ∧ hW C x m w' (oup O A (ptX (O A) e b1 b2 b3 b4)) S Z := by
  have hp : zX0_put F C A (e : Nat) b1 b2 b3 b4 O = some (oup O A (ptX (O A) e b1 b2 b3 b4)) := by
    unfold zX0_put ptX
    have e4 : ((e : Nat) : Int) * 2 * 2 = 4 * (e : Int) := by omega
    rw [e4, yAR_o hA, ySt_o hA (by omega), yAR_o hA, ySt_o hA (by omega), oup_s, oup_u, yAR_o hA, ySt_o hA (by omega), oup_s, oup_u, yAR_o hA, ySt_o hA (by omega), oup_s, oup_u, yPI_o hA, oup_s, oup_u]
  exact hw.y0 (rX0_put hw.1 hF hv rfl rfl rfl rfl hw.2.1) hp
theorem w_isNumber {A p : Nat} (hF : fF F) (hw : hW C x m w O S Z) (hA : C.1 A = some (0, 0)) (h3 : zI (O A) 3 = p) (hp : p < 100) (hz : i32 z) : ∃ w', mX0_isNumber F A (Int32.ofInt z) w = some (Int32.ofInt (if 0 ≤ z ∧ z < p then 1 else 0), w') ∧ hW C x m w' O S Z := hw.y1 (rX0_isNumber hw.1 hF rfl hw.2.1) (y_isNumber hA h3 hp hz)
theorem w_chk {c : Prop} [Decidable c] {P : Option (Int32 × gW) → Prop} {Q : gW → Prop} {f : Option (Int32 × gW)} {k : Int32 × gW → Option (Int32 × gW)} (e : ∃ w', f = some (Int32.ofInt (if c then 1 else 0), w') ∧ Q w') (K1 : ¬ c → ∀ w', Q w' → P (some ((-1 : Int32), w'))) (K2 : c → ∀ w', Q w' → P (k (Int32.ofInt 1, w'))) : P (f.bind fun q => if q.1 = 0 then some ((-1 : Int32), q.2) else k q) := by
  obtain ⟨w', e1, e2⟩ := e
  rw [e1, Option.bind_some]
  try dsimp only
  by_cases h : c
  · rw [if_pos h, if_neg (by decide)]; exact K2 h w' e2
  · rw [if_neg h, if_pos (show Int32.ofInt 0 = 0 from rfl)]; exact K1 h w' e2
theorem aOK.k {f g : gW → Option (Int32 × gW)} (h : aOK x m w (fun _ => f w) g) : aOK x m w f g := h
theorem LI.acts {A g t b s p r gi e : Nat} {M : Nat → Nat → Nat → Int} [NeZero p] (hl : LI C O S Z gn gT gc ac) (hj : j < ac) (hI : fInv p) (h2 : oQ S 1 j = some A) (h3 : gi < gc) (h4 : oQ S 0 gi = some g) (h5 : yAct C O A g t (gn gi) (gT gi) p r M) (h6 : yKd C A t b s) (h7 : zI (O A) 5 = (p ^ r : Nat)) (h9 : mOk p Z j gi (gn gi) (gT gi) r M) (he : e < gn gi) (hb1 : 0 ≤ b1 ∧ b1 < p) (hb2 : 0 ≤ b2 ∧ b2 < p) (hb3 : 0 ≤ b3 ∧ b3 < p) (hb4 : 0 ≤ b4 ∧ b4 < p) : LI C (oup O A (ptX (O A) e b1 b2 b3 b4)) S (mAct Z (32 * (j : Int) + 4 * e) b1 b2 b3 b4) gn gT gc ac := by
  obtain ⟨⟨c1, c2, ⟨c4, c5⟩, c6⟩, ⟨g1, g2, g3⟩, a1, a2, s0, l⟩ := hl
  have kA := h5.1.1
  have hn8 := h5.2.2.1
  have hA : ∀ k, k ≠ 11 → zA (mAct Z (32 * (j : Int) + 4 * e) b1 b2 b3 b4) k = zA Z k := fun k hk => (if_neg hk).trans ((if_neg hk).trans ((if_neg hk).trans (if_neg hk)))
  have hI' : ∀ k, k ≠ 29 → zI (mAct Z (32 * (j : Int) + 4 * e) b1 b2 b3 b4) k = zI Z k := fun k hk => if_neg hk
  have h29 : zI (mAct Z (32 * (j : Int) + 4 * e) b1 b2 b3 b4) 29 = -4 := rfl
  have G : ∀ k a, k < gc → oQ S 0 k = some a → a ≠ A := fun k a hk ha => kd_ne (g1 k a (Nat.lt_of_lt_of_le hk c1.1) ha) kA (by decide)
  have j6 : j < 6 := Nat.lt_of_lt_of_le hj c1.2
  refine ⟨⟨c1, c2, ⟨by rw [hI' 0 (by decide)]; exact c4, by rw [hI' 7 (by decide)]; exact c5⟩, by rw [h29]; omega⟩, ⟨g1, g2, fun k hk => ?_⟩, a1, fun j' hj' => ?_, s0.mono cEx.rf rfl (fun b hb => oup_n (kd_ne hb kA (by decide))) (hA 4 (by decide)) (hA 5 (by decide)) (hA 6 (by decide)), l⟩
  · obtain ⟨⟨b, e1, e2⟩, e3, e4⟩ := g3 k hk
    refine ⟨⟨b, e1, by rw [oup_n (G k b hk e1)]; exact e2⟩, e3.of (hA 1 (by decide)) (hA 2 (by decide)), ?_⟩
    rw [hA 3 (by decide)]; exact e4
  · by_cases c : j' = j
    · subst c
      refine ⟨A, g, t, b, s, p, r, gi, acM M e b1 b2 b3 b4, inferInstance, hI, h2, h3, h4, ?_, h6, ?_, Or.inl ?_, mMd_act h9.1 he hb1 hb2 hb3 hb4, ?_, by rw [h29]; omega, fun t => by rw [h29] at t; omega⟩
      · obtain ⟨y1, y2, y3, y4, y5, y6, y7⟩ := h5
        refine ⟨y1, by rw [oup_n (G gi g h3 h4)]; exact y2, y3, ?_, y5, y6, fun e' i j hx hi hj => ?_⟩
        · rw [oup_s, ptX_I _ _ _ (by decide), ptX_I _ _ _ (by decide)]; exact y4
        · rw [oup_s, ptX_at _ _ _ _ _ hi hj]
          have y7' := y7 e' i j hx hi hj
          unfold acM
          by_cases q : e' = e
          · rw [if_pos q, if_pos q]
            refine ⟨rfl, ?_⟩
            split
            · split
              · exact hb1
              · exact hb2
            · split
              · exact hb3
              · exact hb4
          · rw [if_neg q, if_neg q]; exact y7'
      · rw [oup_s, ptX_I _ _ _ (by decide)]; exact h7
      · rw [oup_s, ptX_6]
      · rw [hI' 7 (by decide)]; exact h9.2.1
    · have j6' : j' < 6 := Nat.lt_of_lt_of_le hj' c1.2
      have slA : aSl C A t b s := ⟨kA, h5.1.2.2.2.1, h5.1.2.2.1, h6⟩
      refine (a2 j' hj').mono2 (D := fun b => b = A) cEx.rf rfl (fun _ _ => rfl) (fun b q hb hD => oup_n hD) (fun a' t' b' s' q sl => ⟨(a1.2 j' j a' A t' b' s' t b s j6' j6 c q h2 sl slA).1, kd_ne sl.2.2.1 kA (by decide), kd_ne sl.2.2.2.1 kA (by decide), kd_ne sl.2.2.2.2.2.1 kA (by decide)⟩) (Nat.le_refl _) (fun _ _ => ⟨rfl, rfl⟩) (fun k b hk hb => ?_) fun p gi r M hp hg o => ⟨mMd_act2 o.1 (by omega) c, by rw [hI' 7 (by decide)]; exact o.2.1, by rw [h29]; omega, fun t => by rw [h29] at t; omega⟩
      rw [oup_n (G k b hk hb)]
      obtain ⟨⟨b', e1, e2⟩, -⟩ := g3 k hk
      have : b' = b := Option.some.inj (e1.symm.trans hb)
      rw [← this]; exact e2.1
theorem k_acts (hF : fF F) (h : WI x m w) (hz : i32 z) (hy : i32 y) (h1 : i32 b1) (h2 : i32 b2) (h3 : i32 b3) (h4 : i32 b4) : aOK x m w (fun w => mX6_acts F x (Int32.ofInt z) (Int32.ofInt y) (Int32.ofInt b1) (Int32.ofInt b2) (Int32.ofInt b3) (Int32.ofInt b4) w) (fun w => mX7_acts F m (Int32.ofInt z) (Int32.ofInt y) (Int32.ofInt b1) (Int32.ofInt b2) (Int32.ofInt b3) (Int32.ofInt b4) w) := by
  obtain ⟨C, O, S, Z, gn, gT, gc, ac, hw, hl⟩ := h
  obtain ⟨⟨c1, c2⟩, ⟨c3, c4⟩, ⟨c5, c6⟩, c7⟩ := hl.1
  have hGs := hl.gs
  have ga := w_actionAt (F := F) hw c4 c2 hz
  by_cases c : 0 ≤ z ∧ z < ac
  · obtain ⟨k, rfl⟩ : ∃ k : Nat, z = k := ⟨z.toNat, by omega⟩
    obtain ⟨A, g, t, b, s, p, r, gi, M, hp, q1, q2, q3, q4, q5, q6, q7, q8, q9⟩ := hl.2.2.2.1 k (by omega)
    rw [if_pos c, Int.toNat_natCast, q2] at ga
    have kA := q5.1.1
    have kg := q5.1.2.1
    have hpp := q5.2.2.2.2.1
    have hrr := q5.2.2.2.2.2.1
    have hn8 := q5.2.2.1
    have i3 := q5.2.2.2.1.1
    have f2 : gFR 0 2 (some A) w = some (some g) := by rw [hw.cFR kA (k := 2) rfl, q5.1.2.2.2.2]
    obtain ⟨m1, m2⟩ := m_acts (F := F) (x := y) (a := b1) (b := b2) (c := b3) (d := b4) hGs q9.1 (by omega) q9.2.1 hy h1 h2 h3 h4
    have bad : ¬ ((0 ≤ y ∧ y < gn gi) ∧ ((0 ≤ b1 ∧ b1 < p) ∧ (0 ≤ b2 ∧ b2 < p) ∧ (0 ≤ b3 ∧ b3 < p) ∧ 0 ≤ b4 ∧ b4 < p) ∧ (r = 1 → b2 = 0 ∧ b3 = 0 ∧ b4 = 0)) → ∀ w', hW C x m w' O S Z → aOK x m w (fun _ => some ((-1 : Int32), w')) (fun w => mX7_acts F m (Int32.ofInt (k : Nat)) (Int32.ofInt y) (Int32.ofInt b1) (Int32.ofInt b2) (Int32.ofInt b3) (Int32.ofInt b4) w) := fun hb w' hw' => aOK.of (v := -1) (w1 := w') rfl hw' (rX7_acts rfl rfl rfl rfl rfl rfl hw'.2.2.2.1) (m2 hb) hl
    refine aOK.k ?_
    have hh := w_has (F := F) hw kg q5.2.1.1 (by omega) hy
    have hh' : ∃ w', mX2_has F g (Int32.ofInt y) w = some (Int32.ofInt (if 0 ≤ y ∧ y < gn gi then 1 else 0), w') ∧ hW C x m w' O S Z := ⟨w, by rw [hh]; split <;> rfl, hw⟩
    unfold mX6_acts
    rw [hw.gO6, Option.bind_some, ga, Option.bind_some]
    try dsimp only
    rw [if_neg (by intro t; cases t), f2, Option.bind_some, hw.gO kg, Option.bind_some]
    refine w_chk (c := 0 ≤ y ∧ y < gn gi) (P := fun o => aOK x m w (fun _ => o) (fun w => mX7_acts F m (Int32.ofInt (k : Nat)) (Int32.ofInt y) (Int32.ofInt b1) (Int32.ofInt b2) (Int32.ofInt b3) (Int32.ofInt b4) w)) (Q := fun w' => hW C x m w' O S Z) hh' (fun n w' hw' => bad (fun t => n t.1) w' hw') fun g0 w1 hw1 => ?_
    try dsimp only
    rw [hw1.gO kA, Option.bind_some]
    refine w_chk (c := 0 ≤ b1 ∧ b1 < p) (P := fun o => aOK x m w (fun _ => o) (fun w => mX7_acts F m (Int32.ofInt (k : Nat)) (Int32.ofInt y) (Int32.ofInt b1) (Int32.ofInt b2) (Int32.ofInt b3) (Int32.ofInt b4) w)) (Q := fun w' => hW C x m w' O S Z) (w_isNumber hF hw1 kA i3 (by omega) h1) (fun n w' hw' => bad (fun t => n t.2.1.1) w' hw') fun g1 w2 hw2 => ?_
    try dsimp only
    rw [hw2.gO kA, Option.bind_some]
    refine w_chk (c := 0 ≤ b2 ∧ b2 < p) (P := fun o => aOK x m w (fun _ => o) (fun w => mX7_acts F m (Int32.ofInt (k : Nat)) (Int32.ofInt y) (Int32.ofInt b1) (Int32.ofInt b2) (Int32.ofInt b3) (Int32.ofInt b4) w)) (Q := fun w' => hW C x m w' O S Z) (w_isNumber hF hw2 kA i3 (by omega) h2) (fun n w' hw' => bad (fun t => n t.2.1.2.1) w' hw') fun g2 w3 hw3 => ?_
    try dsimp only
    rw [hw3.gO kA, Option.bind_some]
    refine w_chk (c := 0 ≤ b3 ∧ b3 < p) (P := fun o => aOK x m w (fun _ => o) (fun w => mX7_acts F m (Int32.ofInt (k : Nat)) (Int32.ofInt y) (Int32.ofInt b1) (Int32.ofInt b2) (Int32.ofInt b3) (Int32.ofInt b4) w)) (Q := fun w' => hW C x m w' O S Z) (w_isNumber hF hw3 kA i3 (by omega) h3) (fun n w' hw' => bad (fun t => n t.2.1.2.2.1) w' hw') fun g3 w4 hw4 => ?_
    try dsimp only
    rw [hw4.gO kA, Option.bind_some]
    refine w_chk (c := 0 ≤ b4 ∧ b4 < p) (P := fun o => aOK x m w (fun _ => o) (fun w => mX7_acts F m (Int32.ofInt (k : Nat)) (Int32.ofInt y) (Int32.ofInt b1) (Int32.ofInt b2) (Int32.ofInt b3) (Int32.ofInt b4) w)) (Q := fun w' => hW C x m w' O S Z) (w_isNumber hF hw4 kA i3 (by omega) h4) (fun n w' hw' => bad (fun t => n t.2.1.2.2.2) w' hw') fun g4 w5 hw5 => ?_
    try dsimp only
    have i4 : gFI 0 4 (some A) w5 = some (Int32.ofInt (r : Nat)) := by rw [hw5.cFI kA (k := 4) rfl, q5.2.2.2.1.2]
    rw [i4, Option.bind_some]
    have good : (r = 1 → b2 = 0 ∧ b3 = 0 ∧ b4 = 0) → aOK x m w (fun _ => mX6_acts_b93 F (Int32.ofInt y) (Int32.ofInt b1) (Int32.ofInt b2) (Int32.ofInt b3) (Int32.ofInt b4) (some A) w5) (fun w => mX7_acts F m (Int32.ofInt (k : Nat)) (Int32.ofInt y) (Int32.ofInt b1) (Int32.ofInt b2) (Int32.ofInt b3) (Int32.ofInt b4) w) := fun hr => by
      obtain ⟨e, rfl⟩ : ∃ e : Nat, y = e := ⟨y.toNat, by omega⟩
      obtain ⟨w6, p1, hw6⟩ := w_put (b1 := b1) (b2 := b2) (b3 := b3) (b4 := b4) (e := e) hF hw5 kA (by omega) rfl
      refine aOK.of (v := 1) (w1 := w6) ?_ hw6 (rX7_acts rfl rfl rfl rfl rfl rfl hw6.2.2.2.1) (m1 ⟨g0, ⟨g1, g2, g3, g4⟩, hr⟩) (hl.acts (by omega) q1 q2 q3 q4 q5 q6 q7 q9 (by omega) g1 g2 g3 g4)
      try dsimp only
      unfold mX6_acts_b93
      rw [hw5.gO kA, Option.bind_some, p1, Option.bind_some]; rfl
    by_cases r1 : r = 1
    · rw [if_pos (show Int32.ofInt (r : Nat) = 1 by rw [r1]; rfl)]
      by_cases d2 : b2 = 0
      · rw [if_pos ((iO_z0 h2).mpr d2)]
        by_cases d3 : b3 = 0
        · rw [if_pos ((iO_z0 h3).mpr d3)]
          by_cases d4 : b4 = 0
          · rw [if_pos ((iO_z0 h4).mpr d4)]
            exact good fun _ => ⟨d2, d3, d4⟩
          · rw [if_neg (fun t => d4 ((iO_z0 h4).mp t))]
            exact bad (fun t => d4 (t.2.2 r1).2.2) w5 hw5
        · rw [if_neg (fun t => d3 ((iO_z0 h3).mp t))]
          exact bad (fun t => d3 (t.2.2 r1).2.1) w5 hw5
      · rw [if_neg (fun t => d2 ((iO_z0 h2).mp t))]
        exact bad (fun t => d2 (t.2.2 r1).1) w5 hw5
    · rw [if_neg (show ¬ Int32.ofInt (r : Nat) = 1 from fun t => by have := (iO_eq (b := 1) ⟨by omega, by omega⟩).mp t; omega)]
      exact good fun t => (r1 t).elim
  · rw [if_neg c] at ga
    refine aOK.of (v := -1) (w1 := w) ?_ hw (rX7_acts rfl rfl rfl rfl rfl rfl hw.2.2.2.1) (m_acts_no hz (by omega) (by omega)) hl
    try dsimp only
    unfold mX6_acts
    rw [hw.gO6, Option.bind_some, ga, Option.bind_some]
    try dsimp only
    rw [if_pos rfl]; rfl
end ARG
