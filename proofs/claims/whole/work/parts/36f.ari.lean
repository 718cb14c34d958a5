section ARI
variable {F x m n a j : Nat} {C C' : yC} {w w1 w2 : gW} {O O' O2 : zO} {S S' S1 : oSt} {X : zS} {Z Z' : zS} {f : Int → Int} {gn gn' : Nat → Nat} {gT gT' : Nat → Nat → Nat → Nat} {gc gc' ac : Nat} {z y u : Int}
theorem w_begin {A g p r : Nat} (hF : fF F) (hw : hW C x m w O S Z) (kA : C.1 A = some (0, 0)) (kg : C.1 g = some (2, 0)) (h7 : zI (O g) 7 = n) (hn : 0 < n ∧ n ≤ 8) (hr : r = 1 ∨ r = 2) : ∃ (w' : gW) (O2 : zO), mX0_begin F A (some g) (Int32.ofInt (p : Nat)) (Int32.ofInt (r : Nat)) w = some w' ∧ hW (cRef C A 2 (some g)) x m w' O2 S Z ∧ (∀ b, b ≠ A → O2 b = O b) ∧ (zI (O2 A) 3 = p ∧ zI (O2 A) 4 = r ∧ zI (O2 A) 5 = (p ^ r : Nat) ∧ zI (O2 A) 6 = 0) ∧ ∀ x i j : Nat, x < n → i < 2 → j < 2 → zA (O2 A) 0 ((((x : Int) * 2 + i) * 2) + j) = unM r x i j := by
  have nga : g ≠ A := kd_ne kg kA (by decide)
  obtain ⟨w1, e1, -, h1⟩ := hw.ref kA (k := 2) rfl (some g)
  have kA' : (cRef C A 2 (some g)).1 A = some (0, 0) := kA
  obtain ⟨w2, e2, -, h2⟩ := h1.cI kA' (k := 3) rfl (p : Nat)
  obtain ⟨w3, e3, -, h3⟩ := h2.cI kA' (k := 4) rfl (r : Nat)
  obtain ⟨w4, e4, h4⟩ := h3.y1 (rX6_power h3.1 hF rfl rfl h3.2.1) (y_power (F := F) (b := (p : Nat)) (k := r) hF (by omega))
  obtain ⟨w5, e5, -, h5⟩ := h4.cI kA' (k := 5) rfl ((p : Int) ^ r)
  rw [oup_s, oup_u] at h3
  rw [oup_s, oup_u, oup_s, oup_u] at h5
  obtain ⟨w6, O2, q1, q2, q3, q4, q5, q6⟩ := w_begL (C := cRef C A 2 (some g)) (O := oup O A (zuI (zuI (zuI (O A) 3 (p : Nat)) 4 (r : Nat)) 5 ((p : Int) ^ r))) (g := g) (n := n) hF kA' kg (if_pos ⟨rfl, rfl⟩) (by rw [oup_n nga]; exact h7) hn hr n 0 F w5 _ (by omega) (by unfold fF at hF; omega) h5 (fun _ _ => rfl) (fun _ _ => rfl) (fun e' i j h => by omega) (Or.inl rfl)
  refine ⟨w6, O2, ?_, q2, fun b hb => by rw [q3 b hb, oup_n hb], ⟨?_, ?_, ?_, q6⟩, q5⟩
  · unfold mX0_begin
    have e1' : gP 0 2 (some A) (.inr (.inr (some g))) w = some w1 := e1
    have e2' : gP 0 3 (some A) (.inl (Int32.ofInt (p : Nat))) w1 = some w2 := e2
    have e3' : gP 0 4 (some A) (.inl (Int32.ofInt (r : Nat))) w2 = some w3 := e3
    have e5' : gP 0 5 (some A) (.inl (Int32.ofInt ((p : Int) ^ r))) w4 = some w5 := e5
    rw [e1', Option.bind_some, e2', Option.bind_some, e3', Option.bind_some, e4, Option.bind_some]
    try dsimp only
    rw [e5', Option.bind_some]
    exact q1
  · rw [q4 3 (by decide), oup_s]; rfl
  · rw [q4 4 (by decide), oup_s]; rfl
  · rw [q4 5 (by decide), oup_s, Int.natCast_pow]; rfl
theorem w_slotA (hw : hW C x m w O S Z) (hl : LI C O S Z gn gT gc ac) (h6 : ac < 6) : ∃ (w1 : gW) (C' : yC) (O' : zO) (S' : oSt) (A t b s : Nat), (∀ k : gW → Option (Int32 × gW), (if oQ S 1 ac = none then ((mX0_init F w.2 (gNO 0 [.null, .null, .null, .int 0, .int 0, .int 0, .int 0] w)).bind fun q87 => (gSR 0 (some (x + 2)) (nI ac) (some w.2) q87).bind fun w90 => k w90) else k w) = k w1) ∧ hW C' x m w1 O' S' Z ∧ LI C' O' S' Z gn gT gc ac ∧ cEx C C' ∧ oQ S' 1 ac = some A ∧ aSl C' A t b s ∧ (∀ b q, C.1 b = some q → O' b = O b) ∧ oQ S' 0 = oQ S 0 ∧ ∀ k, oI S' k = oI S k := by
  rcases q : oQ S 1 ac with _ | A
  · obtain ⟨w1, C', O', t, b, s, e1, h1, e2, ⟨k1, k2, k3, k4⟩, ⟨r1, r2, r3⟩, ⟨l1, l2, l3⟩, e3⟩ := hw.newA (F := F)
    have lt : ∀ a q, C.1 a = some q → a < w.2 := fun a q ha => by
      have := (hw.2.2.2.2.1 a q ha).1
      have := SZ_pos q
      omega
    have cx : cEx C C' := fun a q ha => ⟨by rw [(e2 a (lt a q ha)).1]; exact ha, (e2 a (lt a q ha)).2.1⟩
    obtain ⟨w2, f1, h2⟩ := h1.rQ 1 0 2 6 0 rfl (by decide) (j := ac) h6 (b := w.2) k1
    have hq : ∀ k, oQ (uQ S 1 (va_up (oQ S 1) ac (some w.2))) 1 k = if k = ac then some w.2 else oQ S 1 k := fun k => by
      show va_up (oQ S) 1 (va_up (oQ S 1) ac (some w.2)) 1 k = _
      rw [va_upS]
      by_cases c : k = ac
      · rw [c, va_upS, if_pos rfl]
      · rw [va_upN c, if_neg c]
    have hq2 : ∀ l, l ≠ 1 → oQ (uQ S 1 (va_up (oQ S 1) ac (some w.2))) l = oQ S l := fun l hl => va_upN hl
    have sl : aSl C' w.2 t b s := ⟨k1, r1, k2, k3, r2, k4, r3⟩
    refine ⟨w2, C', O', _, w.2, t, b, s, fun k => ?_, h2, ?_, cx, by rw [hq, if_pos rfl], sl, fun b q hb => (e2 b (lt b q hb)).2.2, hq2 0 (by decide), fun _ => rfl⟩
    · rw [if_pos rfl, e1, Option.bind_some, f1, Option.bind_some]
    · obtain ⟨cc, ⟨g1, g2, g3⟩, ⟨a1, a2⟩, a3, s0, l⟩ := hl
      have G : ∀ k, k < gc → ∃ b, oQ S 0 k = some b ∧ gSt (O' b) (gn k) (gT k) := fun k hk => by
        obtain ⟨⟨b, y1, y2⟩, -⟩ := g3 k hk
        refine ⟨b, y1, ?_⟩
        rw [(e2 b (lt b _ (g1 k b (Nat.lt_of_lt_of_le hk cc.1.1) y1))).2.2]; exact y2
      refine ⟨cc, ⟨fun k b hk hb => ?_, fun k k' b hk hk' hb hb' => ?_, fun k hk => ⟨?_, (g3 k hk).2⟩⟩, ⟨fun k a hk ha => ?_, fun k k' a a' t1 b1 s1 t2 b2 s2 hk hk' hne ha ha' h1 h2 => ?_⟩, fun j hj => ?_, s0.mono cx (hq2 2 (by decide)) (fun a ha => (e2 a (lt a _ ha)).2.2) rfl rfl rfl, l.cx cx rfl⟩
      · rw [hq2 0 (by decide)] at hb; exact (cx b _ (g1 k b hk hb)).1
      · rw [hq2 0 (by decide)] at hb hb'; exact g2 k k' b hk hk' hb hb'
      · rw [hq2 0 (by decide)]; exact G k hk
      · rw [hq] at ha
        by_cases c : k = ac
        · rw [if_pos c] at ha
          cases ha
          exact ⟨t, b, s, sl⟩
        · rw [if_neg c] at ha
          obtain ⟨t', b', s', e⟩ := a1 k a hk ha
          exact ⟨t', b', s', e.cx cx⟩
      · rw [hq] at ha ha'
        have old : ∀ k a t1 b1 s1, k < 6 → oQ S 1 k = some a → aSl C' a t1 b1 s1 → a < w.2 ∧ t1 < w.2 ∧ b1 < w.2 ∧ s1 < w.2 := fun k a t1 b1 s1 hk ha h1 => by
          obtain ⟨t', b', s', e⟩ := a1 k a hk ha
          obtain ⟨y1, y2, y3⟩ := h1.one (e.cx cx)
          rw [y1, y2, y3]
          exact ⟨lt a _ e.1, lt t' _ e.2.2.1, lt b' _ e.2.2.2.1, lt s' _ e.2.2.2.2.2.1⟩
        by_cases c : k = ac
        · rw [if_pos c] at ha
          cases ha
          obtain ⟨y1, y2, y3⟩ := h1.one sl
          rw [if_neg (by omega)] at ha'
          have := old k' a' t2 b2 s2 hk' ha' h2
          omega
        · rw [if_neg c] at ha
          by_cases c' : k' = ac
          · rw [if_pos c'] at ha'
            cases ha'
            obtain ⟨y1, y2, y3⟩ := h2.one sl
            have := old k a t1 b1 s1 hk ha h1
            omega
          · rw [if_neg c'] at ha'
            obtain ⟨t', b', s', e⟩ := a1 k a hk ha
            obtain ⟨t'', b'', s'', e'⟩ := a1 k' a' hk' ha'
            obtain ⟨y1, y2, y3⟩ := h1.one (e.cx cx)
            obtain ⟨p1, p2, p3⟩ := h2.one (e'.cx cx)
            rw [y1, y2, y3, p1, p2, p3]
            exact a2 k k' a a' t' b' s' t'' b'' s'' hk hk' hne ha ha' e e'
      · refine (a3 j hj).mono2 (D := fun a => ¬ a < w.2) cx (by rw [hq, if_neg (by omega)]) (fun k hk => by rw [hq2 0 (by decide)]) (fun a q ha hD => (e2 a (lt a q ha)).2.2) (fun a t b s _ sl => ⟨fun t => t (lt _ _ sl.1), fun t => t (lt _ _ sl.2.2.1), fun t => t (lt _ _ sl.2.2.2.1), fun t => t (lt _ _ sl.2.2.2.2.2.1)⟩) (Nat.le_refl _) (fun _ _ => ⟨rfl, rfl⟩) (fun k b hk hb => ?_) fun p gi r M hp _ o => o
        obtain ⟨b', y1, y2⟩ := G k hk
        have e : b' = b := Option.some.inj (y1.symm.trans hb)
        rw [← e]; exact y2.1
  · obtain ⟨t, b, s, e⟩ := hl.2.2.1.1 ac A h6 q
    exact ⟨w, C, O, S, A, t, b, s, fun k => if_neg (by intro t; cases t), hw, hl, cEx.rf, q, e, fun _ _ _ => rfl, rfl, fun _ => rfl⟩
theorem k_module (hF : fF F) (h : WI x m w) (hz : i32 z) (hy : i32 y) (hu : i32 u) : aOK x m w (fun w => mX6_module F x (Int32.ofInt z) (Int32.ofInt y) (Int32.ofInt u) w) (fun w => mX7_module F m (Int32.ofInt z) (Int32.ofInt y) (Int32.ofInt u) w) := by
  obtain ⟨C, O, S, Z, gn, gT, gc, ac, hw, hl⟩ := h
  obtain ⟨⟨c1, c2⟩, ⟨c3, c4⟩, ⟨c5, c6⟩, c7⟩ := hl.1
  have hGs := hl.gs
  have ga := w_groupAt (F := F) hw c3 c1 hz
  have bad : ¬ ((0 ≤ z ∧ z < zI Z 0 ∧ zA Z 1 z ≤ 8) ∧ (y = 2 ∨ y = 3 ∨ y = 5) ∧ 1 ≤ u ∧ u ≤ 2) → mX6_module F x (Int32.ofInt z) (Int32.ofInt y) (Int32.ofInt u) w = some (Int32.ofInt (-1), w) → aOK x m w (fun w => mX6_module F x (Int32.ofInt z) (Int32.ofInt y) (Int32.ofInt u) w) (fun w => mX7_module F m (Int32.ofInt z) (Int32.ofInt y) (Int32.ofInt u) w) := fun hb e => aOK.of (v := -1) (w1 := w) e hw (rX7_module rfl rfl rfl hw.2.2.2.1) (m_module1 hGs hz hy hu hb) hl
  by_cases c : 0 ≤ z ∧ z < gc
  · obtain ⟨k, rfl⟩ : ∃ k : Nat, z = k := ⟨z.toNat, by omega⟩
    obtain ⟨g, q1, q2, q3, q4, -⟩ := hl.g (k := k) (by omega)
    rw [if_pos c, Int.toNat_natCast, q1] at ga
    have i7 : gFI 2 7 (some g) w = some (Int32.ofInt (gn k : Nat)) := by rw [hw.cFI q2 (k := 7) rfl, q3.1.1]
    have z1 := q4.2.1
    have n48 := q3.1.2.1
    have n0 : 0 < gn k := q3.1.2.2.1.1
    by_cases d1 : gn k ≤ 8
    · have p8 : Int32.ofInt (gn k : Nat) ≤ 8 := (iO_le (b := 8) ⟨by omega, by omega⟩).mpr (by omega)
      have hd : mX6_module F x (Int32.ofInt (k : Nat)) (Int32.ofInt y) (Int32.ofInt u) w = (if y = 2 ∨ y = 3 ∨ y = 5 then mX6_module_b39 F x (Int32.ofInt y) (Int32.ofInt u) (some g) w else some ((-1 : Int32), w)) := by
        unfold mX6_module
        rw [hw.gO6, Option.bind_some, ga, Option.bind_some]
        try dsimp only
        rw [if_neg (by intro t; cases t), i7, Option.bind_some, if_pos p8]
        by_cases y2 : y = 2
        · rw [if_pos (show Int32.ofInt y = 2 by rw [y2]; rfl), if_pos (Or.inl y2)]
        · rw [if_neg (show ¬ Int32.ofInt y = 2 from fun t => y2 ((iO_eq (b := 2) ⟨hy, by omega⟩).mp t))]
          by_cases y3 : y = 3
          · rw [if_pos (show Int32.ofInt y = 3 by rw [y3]; rfl), if_pos (Or.inr (Or.inl y3))]
          · rw [if_neg (show ¬ Int32.ofInt y = 3 from fun t => y3 ((iO_eq (b := 3) ⟨hy, by omega⟩).mp t))]
            by_cases y5 : y = 5
            · rw [if_pos (show Int32.ofInt y = 5 by rw [y5]; rfl), if_pos (Or.inr (Or.inr y5))]
            · rw [if_neg (show ¬ Int32.ofInt y = 5 from fun t => y5 ((iO_eq (b := 5) ⟨hy, by omega⟩).mp t)), if_neg (by omega)]
      by_cases d2 : y = 2 ∨ y = 3 ∨ y = 5
      · rw [if_pos d2] at hd
        by_cases d3 : 1 ≤ u ∧ u ≤ 2
        · obtain ⟨p, rfl⟩ : ∃ i : Nat, y = i := ⟨y.toNat, by omega⟩
          obtain ⟨r, rfl⟩ : ∃ i : Nat, u = i := ⟨u.toNat, by omega⟩
          have s1 : ¬ Int32.ofInt (r : Nat) < 1 := fun t => by have := (iO_lt (b := 1) ⟨hu, by omega⟩).mp t; omega
          have s2 : Int32.ofInt (r : Nat) ≤ 2 := (iO_le (b := 2) ⟨hu, by omega⟩).mpr d3.2
          have r1' : ∀ {w : gW} {C : yC} {O : zO} {S : oSt}, hW C x m w O S Z → gFR 6 1 (some x) w = some (some (x + 2)) := fun h => h.2.2.1.rQ 1 (c := 0) rfl
          by_cases e6 : ac = 6
          · subst e6
            refine aOK.of (v := -3) (w1 := w) ?_ hw (rX7_module rfl rfl rfl hw.2.2.2.1) (m_module6 hGs q4 (by omega) d1 (by omega) (by omega) (by omega)) hl
            show mX6_module F x (Int32.ofInt (k : Nat)) (Int32.ofInt (p : Nat)) (Int32.ofInt (r : Nat)) w = _
            rw [hd]
            unfold mX6_module_b39
            rw [if_neg s1, if_pos s2, hw.xI 4 rfl, Option.bind_some, c4, if_neg (by decide)]; rfl
          · have h6 : ac < 6 := by omega
            obtain ⟨w1, C', O', S', A, t, b, s, e1, hw1, hl1, e2, e3, sl, e4, e5, e7⟩ := w_slotA (F := F) hw hl h6
            have kg' := (e2 g _ q2).1
            obtain ⟨w2, O2, f1, hw2, f2, f3, f4⟩ := w_begin (p := p) (r := r) (n := gn k) hF hw1 sl.1 kg' (by rw [e4 g _ q2]; exact q3.1.1) ⟨n0, d1⟩ (by omega)
            obtain ⟨w3, g1, hw3⟩ := hw2.rI 4 rfl (nI (ac + 1))
            obtain ⟨fm, m1, m2, m3⟩ := m_module (F := F) (Z := Z) (L := ac) (p := p) (r := r) hF hGs q4 (by omega) d1 (by omega) (by omega) c6 h6
            have hl2 := hl1.ref (v := some g) h6 e3
            refine aOK.of (v := (ac : Nat)) (w1 := w3) ?_ hw3 (rX7_module rfl rfl rfl hw3.2.2.2.1) m1 (hl2.mkMod h6 e3 ((aSl_ref sl.1).mpr sl) (show k < gc by omega) (by rw [e5]; exact q1) (if_pos ⟨rfl, rfl⟩) d1 (by omega) (by omega) f2 f3 f4 m2 m3)
            show mX6_module F x (Int32.ofInt (k : Nat)) (Int32.ofInt (p : Nat)) (Int32.ofInt (r : Nat)) w = _
            have l0 : gLR 0 (some (x + 2)) (nI ac) w = some (oQ S 1 ac) := hw.2.2.1.ldR 1 (c := 0) (len := 6) rfl h6 (by decide)
            have l1 : gLR 0 (some (x + 2)) (nI ac) w1 = some (oQ S' 1 ac) := hw1.2.2.1.ldR 1 (c := 0) (len := 6) rfl h6 (by decide)
            have i4 : gFI 6 4 (some x) w1 = some (nI ac) := by rw [hw1.xI 4 rfl, e7]; rw [c4]
            have i4' : gFI 6 4 (some x) w2 = some (nI ac) := by rw [hw2.xI 4 rfl, e7]; rw [c4]
            have hb91 : mX6_module_b91 F x (Int32.ofInt (p : Nat)) (Int32.ofInt (r : Nat)) (some g) w1 = some (nI ac, w3) := by
              unfold mX6_module_b91
              rw [r1' hw1, Option.bind_some, i4, Option.bind_some, l1, Option.bind_some, e3, hw1.gO sl.1, Option.bind_some, f1, Option.bind_some, i4', Option.bind_some, nI_1, g1, Option.bind_some]
            rw [hd]
            unfold mX6_module_b39
            rw [if_neg s1, if_pos s2, hw.xI 4 rfl, Option.bind_some, c4, if_pos (show nI ac < 6 by rw [show (6 : Int32) = nI 6 from rfl]; exact nI_lt h6 (by omega)), r1' hw, Option.bind_some, Option.bind_some, l0, Option.bind_some, Option.bind_some, Option.bind_some]
            rw [e1 (fun w90 => mX6_module_b91 F x (Int32.ofInt (p : Nat)) (Int32.ofInt (r : Nat)) (some g) w90), hb91, iO_nat]
        · refine bad (fun t => d3 t.2.2) ?_
          rw [hd]
          unfold mX6_module_b39
          by_cases d4 : u < 1
          · rw [if_pos (show Int32.ofInt u < 1 from (iO_lt (b := 1) ⟨hu, by omega⟩).mpr d4)]; rfl
          · rw [if_neg (show ¬ Int32.ofInt u < 1 from fun t => d4 ((iO_lt (b := 1) ⟨hu, by omega⟩).mp t)), if_neg (show ¬ Int32.ofInt u ≤ 2 from fun t => d3 ⟨by omega, (iO_le (b := 2) ⟨hu, by omega⟩).mp t⟩)]; rfl
      · refine bad (fun t => d2 t.2.1) ?_
        rw [hd, if_neg d2]; rfl
    · refine bad (fun t => d1 (by have := t.1.2.2; omega)) ?_
      unfold mX6_module
      rw [hw.gO6, Option.bind_some, ga, Option.bind_some]
      try dsimp only
      rw [if_neg (by intro t; cases t), i7, Option.bind_some, if_neg (show ¬ Int32.ofInt (gn k : Nat) ≤ 8 from fun t => by have := (iO_le (b := 8) ⟨by omega, by omega⟩).mp t; omega)]; rfl
  · rw [if_neg c] at ga
    refine bad (by omega) ?_
    unfold mX6_module
    rw [hw.gO6, Option.bind_some, ga, Option.bind_some]
    try dsimp only
    rw [if_pos rfl]; rfl
end ARI
