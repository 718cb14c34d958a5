/-! THE CLASS SEARCHES -/
section SRCH
variable {F x m e a1 a2 n L : Nat} {C : yC} {w : gW} {O O0 : zO} {S : oSt} {Z : zS} {T1 T2 : Nat → Nat → Nat} {q : Nat → Nat}
theorem hW.cAR (h : hW C x m w O S Z) {a k off len : Nat} {q : Nat × Nat} (hq : C.1 a = some q) (hk : (LY q)[k]? = some (1, off, len)) : gFR q.1 k (some a) w = some (some (a + off)) := (h.2.1 a q hq).rA k hk
theorem hW.cLd (h : hW C x m w O S Z) {a k off len j : Nat} {q : Nat × Nat} (hq : C.1 a = some q) (hk : (LY q)[k]? = some (1, off, len)) (hl : len < 2 ^ 31) (hj : j < len) : gLI (some (a + off)) (nI j) w = some (Int32.ofInt (zA (O a) k (j : Nat))) := (h.2.1 a q hq).ld k hk hj hl
theorem hW.cSt (h : hW C x m w O S Z) {a k off len j : Nat} {q : Nat × Nat} (hq : C.1 a = some q) (hk : (LY q)[k]? = some (1, off, len)) (hl : len < 2 ^ 31) (hj : j < len) (v : Int) : ∃ w', gSI (some (a + off)) (nI j) (Int32.ofInt v) w = some w' ∧ hW C x m w' (oup O a (zuA (O a) k (j : Nat) v)) S Z := by
  obtain ⟨w1, e1, e2, e3⟩ := (h.2.1 a q hq).st (LY_ok q) k hk hj hl (Int32.ofInt v)
  rw [cvO_uA] at e2
  exact ⟨w1, e1, h.o hq e2 e3⟩
theorem hW.cFill (hF : fF F) (h : hW C x m w O S Z) {a c l k off len : Nat} (hq : C.1 a = some (c, l)) (hk : ∀ l, (LY (c, l))[k]? = some (1, off, len)) (hl : len < 100000) (v : Int) : ∃ w', mJ7_fill_53178 F (some (a + off)) (Int32.ofInt v) w = some w' ∧ hW C x m w' (oup O a (zfl (O a) k len v)) S Z := by
  obtain ⟨w', e1, h1⟩ := h.y0 (S_Fill (F := F) (c := c) (K := some) (f := some) (t := some a) (t' := some (a + off)) (x := Int32.ofInt v) (v := v) h.2.1 oFr.rf h.1 rfl hk hl rfl (fun O' w' r f => S_ret0 r f) hF) (yFill_o hq)
  refine ⟨w', ?_, h1⟩
  rcases q : mJ7_fill_53178 F (some (a + off)) (Int32.ofInt v) w with _ | w2
  · rw [q] at e1; cases e1
  · rw [q] at e1; exact e1
theorem w_s38 (hF : fF F) (hE : C.1 e = some (3, 0)) (hK1 : C.1 a1 = some (2, 0)) (hK2 : C.1 a2 = some (2, 0)) (g1 : yGp (O0 a1) n T1) (g2 : yGp (O0 a2) n T2) (d1 : gDn (O0 a1) n T1) (d2 : gDn (O0 a2) n T2) (hl : zLike n T1 T2) (hL : L ≤ 5) (h7 : zI (O0 e) 7 = L) (hq : ∀ i : Nat, i < L → zA (O0 a1) 5 i = q i ∧ q i < n) {v3 : Int32} {k78 : Nat → (Option Nat) → (Option Nat) → Int32 → gW → Option (Int32 × gW)} {P : Option (Int32 × gW) → Prop} (K : ∀ w' O', hW C x m w' O' S Z → mtK (fun k => k = 5) O0 O' e → (∀ i : Nat, i < L → zA (O' e) 5 i = (smN n T1 T2 q i 0 : Nat)) → P (k78 e (some a1) (some a2) v3 w')) : ∀ (d j : Nat) (w : gW) (O : zO) (fu : Nat), j + d = L → d < fu → hW C x m w O S Z → mtK (fun k => k = 5) O0 O e → (∀ i : Nat, i < j → zA (O e) 5 i = (smN n T1 T2 q i 0 : Nat)) → P (mX3_search_l38 F k78 fu e (some a1) (some a2) v3 (nI j) w) := by
  intro d
  have n1 : a1 ≠ e := fun u => by rw [u, hE] at hK1; cases hK1
  have n2 : a2 ≠ e := fun u => by rw [u, hE] at hK2; cases hK2
  have hn := g1.2.1
  induction d with
  | zero =>
    intro j w O fu hj hfu h hm h5
    obtain ⟨fu, rfl⟩ : ∃ i, fu = i + 1 := ⟨fu - 1, by omega⟩
    show P (mX3_search_h38 F (mX3_search_l38 F k78 fu) k78 e (some a1) (some a2) v3 (nI j) w)
    unfold mX3_search_h38
    rw [h.cFI hE (k := 7) rfl, Option.bind_some, hm.2.1, h7, iO_nat, if_pos (nI_le (by omega) (by omega))]
    exact K w O h hm fun i hi => h5 i (by omega)
  | succ d ih =>
    intro j w O fu hj hfu h hm h5
    obtain ⟨fu, rfl⟩ : ∃ i, fu = i + 1 := ⟨fu - 1, by omega⟩
    show P (mX3_search_h38 F (mX3_search_l38 F k78 fu) k78 e (some a1) (some a2) v3 (nI j) w)
    obtain ⟨q1, q2⟩ := hq j (by omega)
    have ho := (zOr_sp g1.2.2.1 q2).1
    have l5 : gLI (some (a1 + 6)) (nI j) w = some (nI (q j)) := by
      rw [h.cLd (k := 5) hK1 rfl (by decide) (by omega), hm.1 a1 n1, q1, iO_nat]
    have l4 : gLI (some (a1 + 5)) (nI (q j)) w = some (nI (zOr n T1 (q j))) := by
      rw [h.cLd (k := 4) hK1 rfl (by decide) (by omega), hm.1 a1 n1, (d1 (q j) q2).2, iO_nat]
    have e0 : ((0 : Nat) : Int) = 0 := rfl
    have hnx := y_nextOfPeriod (F := F) (C := C) (O := O) (v0 := e) (k := zOr n T1 (q j)) (f := 0) hF hK2 (by rw [hm.1 a2 n2]; exact g2) (by rw [hm.1 a2 n2]; exact d2) (by omega) (by omega)
    have hs0 : nxt n T2 (zOr n T1 (q j)) 0 < n := smN_0 (q := q) (i := j) hl q2
    rw [if_pos hs0] at hnx
    obtain ⟨w1, e1, h1⟩ := h.y1 (rX3_nextOfPeriod (v1' := some a2) (v2' := nI (zOr n T1 (q j))) (v3' := 0) h.1 hF rfl (iO_nat _).symm rfl h.2.1) hnx
    obtain ⟨w2, e2, h2⟩ := h1.cSt (k := 5) hE rfl (by decide) (show j < 5 by omega) (nxt n T2 (zOr n T1 (q j)) 0 : Nat)
    unfold mX3_search_h38
    have r5 : gFR 3 5 (some e) w = some (some (e + 6)) := h.cAR hE (k := 5) rfl
    have r4' : gFR 2 4 (some a1) w = some (some (a1 + 5)) := h.cAR hK1 (k := 4) rfl
    have r5' : gFR 2 5 (some a1) w = some (some (a1 + 6)) := h.cAR hK1 (k := 5) rfl
    rw [h.cFI hE (k := 7) rfl, Option.bind_some, hm.2.1, h7, iO_nat, if_neg (nI_ge (by omega) (by omega)), r5, Option.bind_some, r4', Option.bind_some, r5', Option.bind_some, l5, Option.bind_some, l4, Option.bind_some, h.gO hE, Option.bind_some, e1, Option.bind_some]
    try dsimp only
    rw [e2, Option.bind_some, nI_1]
    refine ih (j + 1) w2 _ fu (by omega) (by omega) h2 (hm.st (k := 5) rfl _ _) fun i hi => ?_
    rw [st_at]
    by_cases t : i = j
    · rw [t, zup_s]; rfl
    · rw [zup_n (by omega)]; exact h5 i (by omega)
theorem w_s89 (hF : fF F) (hE : C.1 e = some (3, 0)) (hK1 : C.1 a1 = some (2, 0)) (hK2 : C.1 a2 = some (2, 0)) (g1 : yGp (O0 a1) n T1) (g2 : yGp (O0 a2) n T2) (d1 : gDn (O0 a1) n T1) (d2 : gDn (O0 a2) n T2) (hl : zLike n T1 T2) (hL : L ≤ 5) (h7 : zI (O0 e) 7 = L) (hq : ∀ i : Nat, i < L → zA (O0 a1) 5 i = q i ∧ q i < n) (ha : zAll n T1 L q) (hp : lpI n T1 L q (O0 e)) {N : Nat} (hN : N ≤ 20000) : ∀ (t c : Nat) (w : gW) (O : zO) (fu : Nat) (h : Nat → Nat), c + t = N + 1 → t < fu → 1 ≤ c → hW C x m w O S Z → mtK (fun k => k = 3 ∨ k = 4 ∨ k = 5) O0 O e → (∀ i : Nat, i < L → zA (O e) 5 i = h i ∧ h i < n) → (∀ z : Nat, z < n → 0 ≤ zA (O e) 4 z ∧ zA (O e) 4 z < c) → ∃ w' O', mX3_search_l89 F fu e (some a1) (some a2) (nI N) (nI c) w = some (Int32.ofInt (smW n T1 T2 L q t h), w') ∧ hW C x m w' O' S Z ∧ mtK (fun k => k = 3 ∨ k = 4 ∨ k = 5) O0 O' e := by
  intro t
  have n1 : a1 ≠ e := fun u => by rw [u, hE] at hK1; cases hK1
  have n2 : a2 ≠ e := fun u => by rw [u, hE] at hK2; cases hK2
  induction t with
  | zero =>
    intro c w O fu h hc hfu c1 hw hm h5 h4
    obtain ⟨fu, rfl⟩ : ∃ i, fu = i + 1 := ⟨fu - 1, by omega⟩
    show ∃ w' O', mX3_search_h89 F (mX3_search_l89 F fu) e (some a1) (some a2) (nI N) (nI c) w = _ ∧ _
    unfold mX3_search_h89
    rw [if_pos (nI_lt (by omega) (by omega))]
    exact ⟨w, O, rfl, hw, hm⟩
  | succ t ih =>
    intro c w O fu h hc hfu c1 hw hm h5 h4
    obtain ⟨fu, rfl⟩ : ∃ i, fu = i + 1 := ⟨fu - 1, by omega⟩
    show ∃ w' O', mX3_search_h89 F (mX3_search_l89 F fu) e (some a1) (some a2) (nI N) (nI c) w = _ ∧ _
    unfold mX3_search_h89
    have hp1 : lpI n T1 L q (O e) := hp.k (hm.2.2 0 (by omega)) (hm.2.2 1 (by omega)) (hm.2.2 2 (by omega))
    have G1 : yGp (O a1) n T1 := by rw [hm.1 a1 n1]; exact g1
    have G2 : yGp (O a2) n T2 := by rw [hm.1 a2 n2]; exact g2
    obtain ⟨r, O1, e1, m1, m2, m3⟩ := y_goesWith (F := F) (h := h) hF hE hK1 hK2 G1 G2 hL (by rw [hm.2.1]; exact h7) (fun i hi => by rw [hm.1 a1 n1]; exact hq i hi) h5 hp1 ha (show 1 ≤ c ∧ c ≤ 30000 by omega) h4
    obtain ⟨w1, f1, hw1⟩ := hw.y1 (rX3_goesWithProducts (v1' := some a1) (v2' := some a2) (v3' := nI c) hw.1 hF rfl rfl (iO_nat _).symm hw.2.1) e1
    have hm1 := hm.tr (m1.wide (D' := fun k => k = 3 ∨ k = 4 ∨ k = 5) fun k hk => by omega)
    rw [if_neg (show ¬ nI N < nI c by rw [← iO_nat, ← iO_nat, iO_lt (by omega)]; omega), hw.gO hE, Option.bind_some, f1, Option.bind_some]
    try dsimp only
    rcases m3 with ⟨rfl, m3⟩ | ⟨rfl, m3⟩
    · rw [if_neg (by decide), smW_1 m3]
      exact ⟨w1, O1, rfl, hw1, hm1⟩
    · rw [if_pos (show Int32.ofInt 0 = 0 from rfl), hw1.gO hE, Option.bind_some]
      have G1' : yGp (O1 a1) n T1 := by rw [hm1.1 a1 n1]; exact g1
      have G2' : yGp (O1 a2) n T2 := by rw [hm1.1 a2 n2]; exact g2
      have D1' : gDn (O1 a1) n T1 := by rw [hm1.1 a1 n1]; exact d1
      have D2' : gDn (O1 a2) n T2 := by rw [hm1.1 a2 n2]; exact d2
      obtain ⟨O2, s1, s2⟩ := y_stepGiven (F := F) (h := h) (q := q) (L := L) (O := O1) hF hE hK1 hK2 G1' G2' D1' D2' hl hL (by rw [hm1.2.1]; exact h7) (fun i hi => by rw [hm1.1 a1 n1]; exact hq i hi) (fun i hi => by rw [m1.2.2 5 (by omega)]; exact h5 i hi)
      have hm2 := hm1.tr (s1.wide (D' := fun k => k = 3 ∨ k = 4 ∨ k = 5) fun k hk => by omega)
      rcases s2 with ⟨s2, s3⟩ | ⟨h', s2, s3, s4⟩
      · obtain ⟨w2, f2, hw2⟩ := hw1.y1 (rX3_stepGiven (v1' := some a1) (v2' := some a2) hw1.1 hF rfl rfl hw1.2.1) s3
        rw [f2, Option.bind_some]
        try dsimp only
        rw [if_pos (show Int32.ofInt 0 = 0 from rfl), smW_n m3 s2]
        exact ⟨w2, O2, rfl, hw2, hm2⟩
      · obtain ⟨w2, f2, hw2⟩ := hw1.y1 (rX3_stepGiven (v1' := some a1) (v2' := some a2) hw1.1 hF rfl rfl hw1.2.1) s3
        rw [f2, Option.bind_some]
        try dsimp only
        rw [if_neg (by decide), smW_s m3 s2, nI_1]
        refine ih (c + 1) w2 O2 fu h' (by omega) (by omega) (by omega) hw2 hm2 s4 fun z hz => ?_
        rw [s1.2.2 4 (by omega)]
        have := m2 z hz
        omega
end SRCH
