/-! THE MODEL'S LEAST ROW -/
abbrev fG (F : Nat) : Prop := 1000000000000 ≤ F
/-- how far the search has come -/
def lrH (D : Nat → Nat) : Nat → Nat
  | 0 => 0
  | m + 1 => 64 * lrH D m + D m
def dgt (k : Nat) (r : Nat → Nat) (i : Nat) : Nat := if i ≤ k then r i else 0
theorem dgt_t {k i : Nat} {r : Nat → Nat} (h : i ≤ k) : dgt k r i = r i := if_pos h
theorem dgt_f {k i : Nat} {r : Nat → Nat} (h : k < i) : dgt k r i = 0 := if_neg (by omega)
theorem lrH_eq {D D' : Nat → Nat} : ∀ {m : Nat}, (∀ i, i < m → D i = D' i) → lrH D m = lrH D' m
  | 0, _ => rfl
  | m + 1, h => by
    show 64 * lrH D m + D m = 64 * lrH D' m + D' m
    rw [lrH_eq (m := m) fun i hi => h i (by omega), h m (by omega)]
theorem lrH_lt {D D' : Nat → Nat} {j : Nat} (hb : ∀ i, D i ≤ 63) (hj : D j < D' j) (hp : ∀ i, i < j → D i = D' i) : ∀ {m : Nat}, j < m → lrH D m < lrH D' m
  | 0, h => by omega
  | m + 1, h => by
    show 64 * lrH D m + D m < 64 * lrH D' m + D' m
    by_cases c : j = m
    · subst c
      rw [lrH_eq (m := j) hp]; omega
    · have := lrH_lt hb hj hp (m := m) (by omega)
      have := hb m
      omega
theorem lrH_b {D : Nat → Nat} (hb : ∀ i, D i ≤ 63) : lrH D 5 < 1073741824 := by
  have h0 := hb 0
  have h1 := hb 1
  have h2 := hb 2
  have h3 := hb 3
  have h4 := hb 4
  show 64 * (64 * (64 * (64 * (64 * 0 + D 0) + D 1) + D 2) + D 3) + D 4 < 1073741824
  omega
def lrM (v3 v4 : Int) (f : Int → Int) : Nat := 2 * (1073741825 - lrH (fun i => if (i : Int) ≤ v3 then (f i).toNat else 0) 5) - v4.toNat
theorem lrM_e {k : Nat} {v4 : Int} {f : Int → Int} {r : Nat → Nat} (h : ∀ i : Nat, i ≤ k → f i = r i) : lrM (k : Nat) v4 f = 2 * (1073741825 - lrH (dgt k r) 5) - v4.toNat := by
  unfold lrM
  rw [lrH_eq (D' := dgt k r) fun i _ => ?_]
  by_cases c : i ≤ k
  · rw [if_pos (show (i : Int) ≤ (k : Nat) by omega), h i c, dgt_t c]; omega
  · rw [if_neg (show ¬ (i : Int) ≤ (k : Nat) by omega), dgt_f (by omega)]
theorem lrM_dec {k k' j : Nat} {f f' : Int → Int} {r r' : Nat → Nat} (h : ∀ i : Nat, i ≤ k → f i = r i) (h' : ∀ i : Nat, i ≤ k' → f' i = r' i) (hb : ∀ i, i ≤ k → r i ≤ 48) (hb' : ∀ i, i ≤ k' → r' i ≤ 60) (hj5 : j < 5) (hj : dgt k r j < dgt k' r' j) (hp : ∀ i, i < j → dgt k r i = dgt k' r' i) : lrM (k' : Nat) 0 f' < lrM (k : Nat) 0 f := by
  rw [lrM_e h, lrM_e h']
  have b1 : ∀ i, dgt k r i ≤ 63 := fun i => by
    by_cases c : i ≤ k
    · rw [dgt_t c]; have := hb i c; omega
    · rw [dgt_f (by omega)]; omega
  have b2 : ∀ i, dgt k' r' i ≤ 63 := fun i => by
    by_cases c : i ≤ k'
    · rw [dgt_t c]; have := hb' i c; omega
    · rw [dgt_f (by omega)]; omega
  have l1 := lrH_lt b1 hj hp hj5
  have l2 := lrH_b b1
  have l3 := lrH_b b2
  show 2 * _ - 0 < 2 * _ - 0
  omega
/-- on the way: the row so far, and that the least one does not lie before it -/
def lrI (n : Nat) (T : Nat → Nat → Nat) (L : Nat) (gg : Nat → Nat) (at' : Nat) (r : Nat → Nat) : Prop := at' < L ∧ r at' ≤ n ∧ (∀ i, i < at' → r i < n ∧ ¬ zGen T (zRow i r) (r i)) ∧ (∀ i, i + 1 ≤ at' → r i < r (i + 1)) ∧ (0 < at' → 0 < r 0) ∧ (((∀ i, i < at' → gg i = r i) ∧ r at' ≤ gg at') ∨ ∃ j, j < at' ∧ (∀ i, i < j → gg i = r i) ∧ r j < gg j)
section LRW
variable {F g n L : Nat} {T : Nat → Nat → Nat} {Z w : zS} {P : Option zS → Prop} {gg r : Nat → Nat} {a1 a2 a4 : Int} {c k : Nat}
theorem lr_28 (hF : fF F) {kk : Int → Int → Int → Int → zS → Option zS} (hk : k ≤ 5) (hs : ∀ i : Nat, i < k → zA w 20 i = r i) (K : ∀ f : Int → Int, (∀ i : Nat, i < k → f i = r i) → P (kk a1 a2 k a4 (zwA w 12 f))) : P (zX7_leastRow_l28 F kk F a1 a2 (k : Nat) a4 0 w) := by
  rw [show w = zwA w 12 (zA w 12) from (zwA_e w 12).symm]
  refine iX7_leastRow_l28 (I := fun v1 v2 v3 v4 v5 w' => a1 = v1 ∧ a2 = v2 ∧ (k : Int) = v3 ∧ a4 = v4 ∧ ∃ (j : Nat) (f : Int → Int), (j : Int) = v5 ∧ j ≤ k ∧ zwA w 12 f = w' ∧ ∀ i : Nat, i < j → f i = r i) (μ := fun _ _ _ _ v5 _ => (k - v5).toNat) (P := P) ?_ F _ _ _ _ _ _ ⟨rfl, rfl, rfl, rfl, 0, _, rfl, by omega, rfl, fun i hi => by omega⟩ (by unfold fF at hF; omega)
  rintro ra _ _ _ _ _ _ ⟨rfl, rfl, rfl, rfl, j, f, rfl, hj, rfl, hf⟩ ih
  unfold zX7_leastRow_h28
  by_cases q : j = k
  · rw [zLe_t (by omega)]
    exact K f (by rw [← q]; exact hf)
  · have e : zA (zwA w 12 f) 20 = zA w 20 := zwA_n (by decide)
    rw [zLe_f (by omega), zLd_o (by omega), zSt_o (by omega), zwA_u, e, hs j (by omega)]
    refine ih _ _ _ _ _ _ ⟨rfl, rfl, rfl, rfl, j + 1, _, by omega, by omega, rfl, fun i hi => ?_⟩ (by omega)
    by_cases c2 : i = j
    · rw [c2, zup_s]
    · rw [zup_n (by omega)]; exact hf i (by omega)
theorem lr_68 (hF : fF F) (h : yG w g n T) {kk : Int → Int → Int → Int → Int → zS → Option zS} (hc : c ≤ n) (K : ∀ x : Nat, c ≤ x → x ≤ n → (∀ y, c ≤ y → y < x → jB (zJ w 15) y) → (x < n → ¬ jB (zJ w 15) x) → P (kk g a2 k a4 x w)) : P (zX7_leastRow_l68 F kk F (g : Nat) a2 (k : Nat) a4 (c : Nat) w) := by
  have hb := h.b
  refine iX7_leastRow_l68 (I := fun v1 v2 v3 v4 v5 w' => (g : Int) = v1 ∧ a2 = v2 ∧ (k : Int) = v3 ∧ a4 = v4 ∧ w = w' ∧ ∃ x : Nat, (x : Int) = v5 ∧ c ≤ x ∧ x ≤ n ∧ ∀ y, c ≤ y → y < x → jB (zJ w 15) y) (μ := fun _ _ _ _ v5 _ => (n - v5).toNat) (P := P) ?_ F _ _ _ _ _ _ ⟨rfl, rfl, rfl, rfl, rfl, c, rfl, by omega, hc, fun y h1 h2 => by omega⟩ (by unfold fF at hF; omega)
  rintro ra _ _ _ _ _ _ ⟨rfl, rfl, rfl, rfl, rfl, x, rfl, hx1, hx2, hx3⟩ ih
  unfold zX7_leastRow_h68
  rw [h.sz]
  by_cases q : x = n
  · rw [zLe_t (by omega)]
    exact K x hx1 hx2 hx3 (fun u => by omega)
  · have im := y_isMade (F := F) (Z := w) (x := x) (by omega)
    rw [zLe_f (by omega)]
    by_cases u : jB (zJ w 15) x
    · rw [zC1_o (im.1 u), zEq_f (by omega)]
      refine ih _ _ _ _ _ _ ⟨rfl, rfl, rfl, rfl, rfl, x + 1, by omega, by omega, by omega, fun y h1 h2 => ?_⟩ (by omega)
      by_cases t : y = x
      · rw [t]; exact u
      · exact hx3 y h1 (by omega)
    · rw [zC1_o (im.2 u), zEq_t (by omega)]
      exact K x hx1 hx2 hx3 fun _ => u
theorem y_leastRow (hF : fG F) (h : yG Z g n T) (hm : zMost n T L gg) : ∃ Z1, zX7_leastRow F (g : Nat) (L : Nat) Z = some Z1 ∧ scF Z Z1 ∧ ∀ i : Nat, i < L → zA Z1 20 i = gg i := by
  have hF0 : fF F := by unfold fG at hF; unfold fF; omega
  have hb := h.b
  have G := h.G
  obtain ⟨hL, hmin, ⟨-, e1, e2, e3, e4⟩, hle⟩ := hm
  let Q : Option zS → Prop := fun o => ∃ Z1, o = some Z1 ∧ scF Z Z1 ∧ ∀ i : Nat, i < L → zA Z1 20 i = gg i
  have hw0 : scF Z (zuA Z 20 0 0) := scF.rf.A (by omega) _ _
  have key : ∀ b : Int, ((b = 0 ∧ 0 < L) ∨ (b = 1 ∧ L = 0)) → Q (zX7_leastRow_b18 F (g : Nat) (L : Nat) 0 b (zuA Z 20 0 0)) := fun b hb2 => by
    unfold zX7_leastRow_b18
    refine iX7_leastRow_l20 (I := fun v1 v2 v3 v4 w => (g : Int) = v1 ∧ (L : Int) = v2 ∧ scF Z w ∧ ((v4 = 0 ∧ ∃ (at' : Nat) (r : Nat → Nat), (at' : Int) = v3 ∧ (∀ i : Nat, i ≤ at' → zA w 20 i = r i) ∧ lrI n T L gg at' r) ∨ (v4 = 1 ∧ ∀ i : Nat, i < L → zA w 20 i = gg i))) (μ := fun _ _ v3 v4 w => lrM v3 v4 (zA w 20)) (P := Q) ?_ F _ _ _ _ _ ⟨rfl, rfl, hw0, ?_⟩ ?_
    · rintro ra _ _ v3 v4 w ⟨rfl, rfl, hw, hI⟩ ih
      unfold zX7_leastRow_h20
      rcases hI with ⟨rfl, at', r, rfl, hr, i1, i2, i3, i4, i5, i6⟩ | ⟨rfl, hr⟩
      · rw [zEq_t (by omega)]
        refine lr_28 (k := at') (r := r) hF0 (by omega) (fun i hi => hr i (by omega)) fun f hf => ?_
        have hw2 : scF Z (zwA w 12 f) := hw.tr ⟨fun k hk => zwA_n (by omega), fun _ _ => rfl⟩
        obtain ⟨Z1, m0, m1, m2, m3, m4⟩ := y_makes (m := at') (q0 := r) hF0 (hw2.G h) (by omega) (fun i hi => ⟨by rw [zwA_s]; exact hf i hi, (i3 i hi).1⟩)
        have hw3 : scF Z Z1 := hw2.tr m1.scF
        have k20 : ∀ i : Nat, i ≤ at' → zA Z1 20 i = r i := fun i hi => by
          rw [m1.1 20 (by decide), show zA (zwA w 12 f) 20 = zA w 20 from zwA_n (by decide)]; exact hr i hi
        rw [zC0_o m0, zLd_o (by omega), k20 at' (by omega)]
        refine lr_68 (g := g) (n := n) (T := T) (c := r at') (k := at') hF0 (hw3.G h) i2 fun x x1 x2 x3 x4 => ?_
        -- the least row, if it begins so, goes on with x or behind it
        have hx : (∀ i, i < at' → gg i = r i) → r at' ≤ gg at' → x ≤ gg at' := fun t1 t2 => Nat.le_of_not_lt fun t3 => by
          have := (m3 (gg at')).mp (x3 _ t2 t3)
          refine zExt_held G hmin (d := at') (r := r) (g := gg) i1 ⟨fun i hi => t1 i hi, e1, e2, e3, e4⟩ this
        have rlt : ∀ i, i ≤ at' → r i ≤ 48 := fun i hi => by
          by_cases t : i = at'
          · rw [t]; omega
          · have := (i3 i (by omega)).1; omega
        unfold zX7_leastRow_b94
        rw [(hw3.G h).sz]
        by_cases c1 : x = n
        · have hj : ∃ j, j < at' ∧ (∀ i, i < j → gg i = r i) ∧ r j < gg j := by
            rcases i6 with ⟨t1, t2⟩ | t
            · have := hx t1 t2
              have := e1 at' i1
              omega
            · exact t
          obtain ⟨j, j1, j2, j3⟩ := hj
          obtain ⟨at', rfl⟩ : ∃ a, at' = a + 1 := ⟨at' - 1, by omega⟩
          rw [zEq_t (by omega), show ((at' + 1 : Nat) : Int) + -1 = (at' : Nat) by omega, zLd_o (by omega), k20 at' (by omega), zSt_o (by omega)]
          unfold zX7_leastRow_b221
          have a20 : ∀ i : Nat, i ≤ at' → zA (zuA Z1 20 (at' : Nat) ((r at' : Nat) + 1)) 20 i = (zPut r at' (r at' + 1) i : Nat) := fun i hi => by
            rw [zA_uA, if_pos rfl]
            by_cases t : i = at'
            · rw [t, zPut_s, zup_s]; omega
            · rw [zPut_n t, zup_n (by omega)]; exact k20 i (by omega)
          refine ih _ _ _ _ _ ⟨rfl, rfl, hw3.A (by omega) _ _, Or.inl ⟨rfl, at', zPut r at' (r at' + 1), rfl, a20, by omega, ?_, fun i hi => ?_, fun i hi => ?_, fun h0 => ?_, ?_⟩⟩ ?_
          · rw [zPut_s]; have := (i3 at' (by omega)).1; omega
          · rw [zPut_n (by omega)]
            refine ⟨(i3 i (by omega)).1, fun t => (i3 i (by omega)).2 (t.mono ?_)⟩
            rintro s ⟨l, hl, e⟩
            exact ⟨l, hl, by rw [e, zPut_n (by omega)]⟩
          · by_cases t : i + 1 = at'
            · rw [t, zPut_s, zPut_n (by omega)]; have := i4 i (by omega); rw [t] at this; omega
            · rw [zPut_n (by omega), zPut_n t]; exact i4 i (by omega)
          · rw [zPut_n (by omega)]; exact i5 (by omega)
          · by_cases t : j = at'
            · refine Or.inl ⟨fun i hi => ?_, ?_⟩
              · rw [zPut_n (by omega)]; exact j2 i (by omega)
              · rw [zPut_s]; rw [t] at j3; omega
            · exact Or.inr ⟨j, by omega, fun i hi => by rw [zPut_n (by omega)]; exact j2 i hi, by rw [zPut_n t]; exact j3⟩
          · refine lrM_dec (j := at') hr a20 rlt (fun i hi => ?_) (by omega) ?_ fun i hi => ?_
            · by_cases t : i = at'
              · rw [t, zPut_s]; have := rlt at' (by omega); omega
              · rw [zPut_n t]; have := rlt i (by omega); omega
            · rw [dgt_t (by omega), dgt_t (by omega), zPut_s]; omega
            · rw [dgt_t (by omega), dgt_t (by omega), zPut_n (by omega)]
        · have hxn : x < n := by omega
          have hxs : ¬ zGen T (zRow at' r) x := fun t => x4 hxn ((m3 x).mpr t)
          have hx0 : at' = 0 → 0 < x := fun t => Nat.pos_of_ne_zero fun u => hxs (by rw [u]; exact zGen.zero)
          rw [zEq_f (by omega), zSt_o (by omega), zSt_o (by omega)]
          have hw4 : scF Z (zuA (zuA Z1 20 (at' : Nat) (x : Nat)) 12 (at' : Nat) (x : Nat)) := (hw3.A (by omega) _ _).A (by omega) _ _
          have g12 : ∀ i : Nat, i < at' + 1 → zA (zuA (zuA Z1 20 (at' : Nat) (x : Nat)) 12 (at' : Nat) (x : Nat)) 12 i = (zPut r at' x i : Nat) ∧ zPut r at' x i < n := fun i hi => by
            rw [zA_uA, if_pos rfl]
            by_cases t : i = at'
            · rw [t, zPut_s, zup_s]; exact ⟨rfl, hxn⟩
            · rw [zPut_n t, zup_n (by omega), zA_uA, if_neg (by decide), m1.1 12 (by decide), zwA_s]; exact ⟨hf i (by omega), (i3 i (by omega)).1⟩
          obtain ⟨Z2, p0, p1, p2, p3, p4⟩ := y_makes (m := at' + 1) (q0 := zPut r at' x) hF0 (hw4.G h) (by omega) g12
          have p0' : zX7_makes F (g : Nat) ((at' : Nat) + 1) (zuA (zuA Z1 20 (at' : Nat) (x : Nat)) 12 (at' : Nat) (x : Nat)) = some Z2 := p0
          have hw5 : scF Z Z2 := hw4.tr p1.scF
          have j20 : ∀ i : Nat, i ≤ at' → zA Z2 20 i = (zPut r at' x i : Nat) := fun i hi => by
            rw [p1.1 20 (by decide), zA_uA, if_neg (by decide), zA_uA, if_pos rfl]
            by_cases t : i = at'
            · rw [t, zPut_s, zup_s]
            · rw [zPut_n t, zup_n (by omega)]; exact k20 i hi
          have chn : ∀ i, i < at' + 1 → zPut r at' x i < n ∧ ¬ zGen T (zRow i (zPut r at' x)) (zPut r at' x i) := fun i hi => by
            refine ⟨(g12 i hi).2, fun t => ?_⟩
            by_cases u : i = at'
            · rw [u, zPut_s] at t
              refine hxs (t.mono ?_)
              rintro s ⟨l, hl, e⟩
              exact ⟨l, hl, by rw [e, zPut_n (by omega)]⟩
            · rw [zPut_n u] at t
              refine (i3 i (by omega)).2 (t.mono ?_)
              rintro s ⟨l, hl, e⟩
              exact ⟨l, hl, by rw [e, zPut_n (by omega)]⟩
          have ris : ∀ i, i + 1 ≤ at' → zPut r at' x i < zPut r at' x (i + 1) := fun i hi => by
            rw [zPut_n (by omega)]
            by_cases t : i + 1 = at'
            · rw [t, zPut_s]; have := i4 i (by omega); rw [t] at this; omega
            · rw [zPut_n t]; exact i4 i hi
          have pos0 : 0 < zPut r at' x 0 := by
            by_cases t : at' = 0
            · rw [t, zPut_s]; exact hx0 t
            · rw [zPut_n (by omega)]; exact i5 (by omega)
          -- where the least row lies
          have loc : ((∀ i, i < at' → gg i = r i) ∧ x ≤ gg at') ∨ ∃ j, j < at' ∧ (∀ i, i < j → gg i = r i) ∧ r j < gg j := by
            rcases i6 with ⟨t1, t2⟩ | t
            · exact Or.inl ⟨t1, hx t1 t2⟩
            · exact Or.inr t
          rw [zC0_o p0', (hw5.G h).sz, p4]
          have hcn : nC (zGen T (zRow (at' + 1) (zPut r at' x))) n ≤ n := nC_le _ _
          by_cases c2 : nC (zGen T (zRow (at' + 1) (zPut r at' x))) n = n
          · have hall : zAll n T (at' + 1) (zPut r at' x) := fun z hz => nC_fu c2 z hz
            have hL1 : at' + 1 = L := by
              by_cases t : at' + 1 < L
              · exact (hmin _ _ t (fun i hi => (chn i hi).1) hall).elim
              · omega
            have ext : zExt n T L 0 (zPut r at' x) (zPut r at' x) := ⟨fun i hi => by omega, fun i hi => (chn i (by omega)).1, fun i hi => ris i (by omega), fun _ => pos0, by rw [← hL1]; exact hall⟩
            have eqg : ∀ i, i < L → gg i = zPut r at' x i := by
              rcases hle _ ext with t | ⟨j, j1, j2, j3⟩
              · exact t
              · exfalso
                rcases loc with ⟨t1, t2⟩ | ⟨j', t1, t2, t3⟩
                · by_cases u : j = at'
                  · rw [u, zPut_s] at j3; omega
                  · rw [zPut_n u, t1 j (by omega)] at j3; omega
                · rcases Nat.lt_trichotomy j j' with u | u | u
                  · rw [zPut_n (by omega), t2 j u] at j3; omega
                  · rw [zPut_n (by omega), u] at j3; omega
                  · have := j2 j' u; rw [zPut_n (by omega)] at this; omega
            rw [zEq_t (by omega), zEq_t (by omega)]
            unfold zX7_leastRow_b170 zX7_leastRow_b172 zX7_leastRow_b206 zX7_leastRow_b221
            rw [zEq_f (by omega), zEq_f (by omega)]
            refine ih _ _ _ _ _ ⟨rfl, rfl, hw5, Or.inr ⟨rfl, fun i hi => by rw [j20 i (by omega), eqg i hi]⟩⟩ ?_
            rw [lrM_e hr, lrM_e j20]
            have b1 : ∀ i, dgt at' r i ≤ 63 := fun i => by
              by_cases c : i ≤ at'
              · rw [dgt_t c]; have := rlt i c; omega
              · rw [dgt_f (by omega)]; omega
            have b2 : ∀ i, dgt at' (zPut r at' x) i ≤ 63 := fun i => by
              by_cases c : i ≤ at'
              · rw [dgt_t c]; have := (chn i (by omega)).1; omega
              · rw [dgt_f (by omega)]; omega
            have l2 := lrH_b b1
            have l3 := lrH_b b2
            have le : lrH (dgt at' r) 5 ≤ lrH (dgt at' (zPut r at' x)) 5 := by
              by_cases t : x = r at'
              · refine Nat.le_of_eq (lrH_eq fun i _ => ?_)
                by_cases c : i ≤ at'
                · rw [dgt_t c, dgt_t c]
                  by_cases u : i = at'
                  · rw [u, zPut_s, t]
                  · rw [zPut_n u]
                · rw [dgt_f (by omega), dgt_f (by omega)]
              · refine Nat.le_of_lt (lrH_lt (j := at') b1 ?_ (fun i hi => ?_) (by omega))
                · rw [dgt_t (by omega), dgt_t (by omega), zPut_s]; omega
                · rw [dgt_t (by omega), dgt_t (by omega), zPut_n (by omega)]
            show 2 * (1073741825 - lrH (dgt at' (zPut r at' x)) 5) - 1 < 2 * (1073741825 - lrH (dgt at' r) 5) - 0
            omega
          · rw [zEq_f (by omega)]
            unfold zX7_leastRow_b172
            rw [zEq_t (by omega)]
            by_cases c3 : at' + 1 = L
            · rw [zLe_t (by omega)]
              unfold zX7_leastRow_b206
              rw [zEq_t (by omega), zLd_o (by omega), j20 at' (by omega), zPut_s, zSt_o (by omega)]
              unfold zX7_leastRow_b221
              have l20 : ∀ i : Nat, i ≤ at' → zA (zuA Z2 20 (at' : Nat) ((x : Nat) + 1)) 20 i = (zPut r at' (x + 1) i : Nat) := fun i hi => by
                rw [zA_uA, if_pos rfl]
                by_cases t : i = at'
                · rw [t, zPut_s, zup_s]; omega
                · rw [zPut_n t, zup_n (by omega), j20 i hi, zPut_n t]
              refine ih _ _ _ _ _ ⟨rfl, rfl, hw5.A (by omega) _ _, Or.inl ⟨rfl, at', zPut r at' (x + 1), rfl, l20, by omega, by rw [zPut_s]; omega, fun i hi => ?_, fun i hi => ?_, fun h0 => ?_, ?_⟩⟩ ?_
              · rw [zPut_n (by omega)]
                refine ⟨(i3 i hi).1, fun t => (i3 i hi).2 (t.mono ?_)⟩
                rintro s ⟨l, hl, e⟩
                exact ⟨l, hl, by rw [e, zPut_n (by omega)]⟩
              · rw [zPut_n (by omega)]
                by_cases t : i + 1 = at'
                · rw [t, zPut_s]; have := i4 i (by omega); rw [t] at this; omega
                · rw [zPut_n t]; exact i4 i hi
              · rw [zPut_n (by omega)]; exact i5 h0
              · rcases loc with ⟨t1, t2⟩ | ⟨j, t1, t2, t3⟩
                · refine Or.inl ⟨fun i hi => by rw [zPut_n (by omega)]; exact t1 i hi, ?_⟩
                  rw [zPut_s]
                  refine Nat.lt_of_le_of_ne t2 fun u => c2 (nC_all fun z hz => ?_)
                  rw [c3]
                  refine (e4 z hz).mono ?_
                  rintro s ⟨l, hl, e⟩
                  refine ⟨l, hl, ?_⟩
                  by_cases v : l = at'
                  · rw [e, v, zPut_s, u]
                  · rw [e, zPut_n v, t1 l (by omega)]
                · exact Or.inr ⟨j, t1, fun i hi => by rw [zPut_n (by omega)]; exact t2 i hi, by rw [zPut_n (by omega)]; exact t3⟩
              · refine lrM_dec (j := at') hr l20 rlt (fun i hi => ?_) (by omega) ?_ fun i hi => ?_
                · by_cases t : i = at'
                  · rw [t, zPut_s]; omega
                  · rw [zPut_n t]; have := rlt i (by omega); omega
                · rw [dgt_t (by omega), dgt_t (by omega), zPut_s]; omega
                · rw [dgt_t (by omega), dgt_t (by omega), zPut_n (by omega)]
            · rw [zLe_f (by omega), show ((at' : Nat) : Int) + 1 - 1 = (at' : Nat) by omega, zLd_o (by omega), j20 at' (by omega), zPut_s, zSt_o (by omega)]
              unfold zX7_leastRow_b221
              have l20 : ∀ i : Nat, i ≤ at' + 1 → zA (zuA Z2 20 ((at' : Nat) + 1) ((x : Nat) + 1)) 20 i = (zPut (zPut r at' x) (at' + 1) (x + 1) i : Nat) := fun i hi => by
                rw [zA_uA, if_pos rfl]
                by_cases t : i = at' + 1
                · rw [t, zPut_s, show ((at' + 1 : Nat) : Int) = (at' : Nat) + 1 by omega, zup_s]; omega
                · rw [zPut_n t, zup_n (by omega), j20 i (by omega)]
              refine ih _ _ _ _ _ ⟨rfl, rfl, hw5.A (by omega) _ _, Or.inl ⟨rfl, at' + 1, zPut (zPut r at' x) (at' + 1) (x + 1), rfl, l20, by omega, by rw [zPut_s]; omega, fun i hi => ?_, fun i hi => ?_, fun h0 => ?_, ?_⟩⟩ ?_
              · rw [zPut_n (by omega)]
                refine ⟨(chn i hi).1, fun t => (chn i hi).2 (t.mono ?_)⟩
                rintro s ⟨l, hl, e⟩
                exact ⟨l, hl, by rw [e, zPut_n (by omega)]⟩
              · rw [zPut_n (by omega)]
                by_cases t : i + 1 = at' + 1
                · rw [t, zPut_s, show i = at' by omega, zPut_s]; omega
                · rw [zPut_n t]; exact ris i (by omega)
              · rw [zPut_n (by omega)]; exact pos0
              · rcases loc with ⟨t1, t2⟩ | ⟨j, t1, t2, t3⟩
                · by_cases u : x = gg at'
                  · refine Or.inl ⟨fun i hi => ?_, ?_⟩
                    · rw [zPut_n (by omega)]
                      by_cases v : i = at'
                      · rw [v, zPut_s, u]
                      · rw [zPut_n v]; exact t1 i (by omega)
                    · rw [zPut_s, u]; exact e2 at' (by omega)
                  · exact Or.inr ⟨at', by omega, fun i hi => by rw [zPut_n (by omega), zPut_n (by omega)]; exact t1 i hi, by rw [zPut_n (by omega), zPut_s]; omega⟩
                · exact Or.inr ⟨j, by omega, fun i hi => by rw [zPut_n (by omega), zPut_n (by omega)]; exact t2 i hi, by rw [zPut_n (by omega), zPut_n (by omega)]; exact t3⟩
              · rw [show ((at' : Nat) : Int) + 1 = ((at' + 1 : Nat) : Int) by omega] at l20 ⊢
                have bb : ∀ i, i ≤ at' + 1 → zPut (zPut r at' x) (at' + 1) (x + 1) i ≤ 60 := fun i hi => by
                  by_cases t : i = at' + 1
                  · rw [t, zPut_s]; omega
                  · rw [zPut_n t]; have := (chn i (by omega)).1; omega
                by_cases u : x = r at'
                · refine lrM_dec (j := at' + 1) hr l20 rlt bb (by omega) ?_ fun i hi => ?_
                  · rw [dgt_f (by omega), dgt_t (by omega), zPut_s]; omega
                  · rw [dgt_t (by omega), dgt_t (by omega), zPut_n (by omega)]
                    by_cases v : i = at'
                    · rw [v, zPut_s, u]
                    · rw [zPut_n v]
                · refine lrM_dec (j := at') hr l20 rlt bb (by omega) ?_ fun i hi => ?_
                  · rw [dgt_t (by omega), dgt_t (by omega), zPut_n (by omega), zPut_s]; omega
                  · rw [dgt_t (by omega), dgt_t (by omega), zPut_n (by omega), zPut_n (by omega)]
      · rw [zEq_f (by omega)]
        exact ⟨w, rfl, hw, hr⟩
    · rcases hb2 with ⟨rfl, h0⟩ | ⟨rfl, h0⟩
      · exact Or.inl ⟨rfl, 0, fun _ => 0, rfl, fun i hi => by rw [show i = 0 by omega, zA_uA, if_pos rfl]; exact zup_s _ _ _, h0, Nat.zero_le _, fun i hi => by omega, fun i hi => by omega, fun h => by omega, Or.inl ⟨fun i hi => by omega, Nat.zero_le _⟩⟩
      · exact Or.inr ⟨rfl, fun i hi => by omega⟩
    · unfold fG at hF
      unfold lrM
      omega
  unfold zX7_leastRow
  rw [zSt_o (by omega)]
  by_cases c0 : L = 0
  · rw [zEq_t (by omega)]; exact key 1 (Or.inr ⟨rfl, c0⟩)
  · rw [zEq_f (by omega)]; exact key 0 (Or.inl ⟨rfl, by omega⟩)
end LRW
