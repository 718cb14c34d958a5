/-! THE MODEL: made, and what the turns make -/
def scF (Z Z1 : zS) : Prop := (∀ k, (k < 12 ∨ 22 < k) → zA Z1 k = zA Z k) ∧ ∀ k, k ≠ 14 → zI Z1 k = zI Z k
theorem scF.rf {Z : zS} : scF Z Z := ⟨fun _ _ => rfl, fun _ _ => rfl⟩
theorem scF.tr {Z Z1 Z2 : zS} (h1 : scF Z Z1) (h2 : scF Z1 Z2) : scF Z Z2 := ⟨fun k hk => (h2.1 k hk).trans (h1.1 k hk), fun k hk => (h2.2 k hk).trans (h1.2 k hk)⟩
theorem scF.A {Z Z1 : zS} (h : scF Z Z1) {j : Nat} (hj : 12 ≤ j ∧ j ≤ 22) (i x : Int) : scF Z (zuA Z1 j i x) := h.tr ⟨fun k hk => if_neg (by omega), fun _ _ => rfl⟩
theorem scF.I {Z Z1 : zS} (h : scF Z Z1) (x : Int) : scF Z (zuI Z1 14 x) := h.tr ⟨fun _ _ => rfl, fun k hk => if_neg hk⟩
theorem scF.J {Z Z1 : zS} (h : scF Z Z1) (k : Nat) (x : Int64) : scF Z (zuJ Z1 k x) := h.tr ⟨fun _ _ => rfl, fun _ _ => rfl⟩
theorem scF.B {Z Z1 : zS} (h : scF Z Z1) (k : Nat) (i : Int) (x : Int64) : scF Z (zuB Z1 k i x) := h.tr ⟨fun _ _ => rfl, fun _ _ => rfl⟩
theorem mkF.scF {Z Z1 : zS} (h : mkF Z Z1) : scF Z Z1 := ⟨fun k hk => h.1 k (by omega), h.2.1⟩
theorem scF.G {Z Z1 : zS} {g n : Nat} {T : Nat → Nat → Nat} (h : scF Z Z1) (hG : yG Z g n T) : yG Z1 g n T := hG.of (h.1 1 (by omega)) (h.1 2 (by omega))
theorem scF.Gs {Z Z1 : zS} (h : scF Z Z1) (hG : mGs Z) : mGs Z1 := by
  unfold mGs
  rw [h.2 0 (by omega), h.1 1 (by omega)]; exact hG
theorem nC_lt {P Q : Nat → Prop} {n z : Nat} (h : ∀ i, i < n → P i → Q i) (hz : z < n) (hQ : Q z) (hP : ¬ P z) : nC P n < nC Q n := by
  rw [nC_drop hz hQ]
  exact Nat.lt_succ_of_le (nC_mono fun i hi hp => ⟨h i hi hp, fun e => hP (e ▸ hp)⟩)
section MTM
variable {F g n m : Nat} {Z : zS} {T : Nat → Nat → Nat}
theorem m_made1 {a x y : Int} (hG : mGs Z) (ha : -2147483648 ≤ a ∧ a < 2147483648) (hx : -2147483648 ≤ x ∧ x < 2147483648) (hy : -2147483648 ≤ y ∧ y < 2147483648) (hb : ¬ ((0 ≤ a ∧ a < zI Z 0) ∧ (0 ≤ x ∧ x < zA Z 1 a) ∧ 0 ≤ y ∧ y < zA Z 1 a)) : zX7_made F a x y Z = some (-1, Z) := by
  unfold zX7_made
  rw [zC1_o (y_isElement ha hx hG.1 (hG.2 _))]
  by_cases c : (0 ≤ a ∧ a < zI Z 0) ∧ 0 ≤ x ∧ x < zA Z 1 a
  · rw [if_pos c, zEq_f (by omega), zC1_o (y_isElement ha hy hG.1 (hG.2 _)), if_neg (fun q => hb ⟨q.1, c.2, q.2⟩), zEq_t (by omega)]
  · rw [if_neg c, zEq_t (by omega)]
theorem m_made (hF : fF F) (hG : mGs Z) (h : yG Z g n T) (hg : (g : Int) < zI Z 0) {x y : Nat} (hx : x < n) (hy : y < n) : ∃ Z1, zX7_made F (g : Nat) (x : Nat) (y : Nat) Z = some (((nC (zGen T (fun s => s = x ∨ s = y)) n : Nat) : Int), Z1) ∧ scF Z Z1 := by
  have hb := h.b
  have e1 : zA Z 1 (g : Nat) = n := h.2.1
  unfold zX7_made
  rw [zC1_o (y_isElement (a := (g : Nat)) (x := (x : Nat)) (by omega) (by omega) hG.1 (hG.2 _)), e1, if_pos (by omega), zEq_f (by omega), zC1_o (y_isElement (a := (g : Nat)) (x := (y : Nat)) (by omega) (by omega) hG.1 (hG.2 _)), e1, if_pos (by omega), zEq_f (by omega), zSt_o (by omega), zSt_o (by omega)]
  have f1 : scF Z (zuA (zuA Z 12 0 (x : Nat)) 12 1 (y : Nat)) := (scF.rf.A (by omega) _ _).A (by omega) _ _
  obtain ⟨Z1, e, d1, d2, d3, d4⟩ := y_makes (m := 2) (q0 := fun i => if i = 0 then x else y) hF (f1.G h) (by omega) (fun i hi => by
    show zup (zup (zA Z 12) 0 (x : Nat)) 1 (y : Nat) i = ((if i = 0 then x else y : Nat) : Int) ∧ (if i = 0 then x else y) < n
    by_cases q : i = 0
    · rw [if_pos q, q, zup_n (by omega), show ((0 : Nat) : Int) = 0 from rfl, zup_s]; exact ⟨rfl, hx⟩
    · rw [if_neg q, show i = 1 by omega, show ((1 : Nat) : Int) = 1 from rfl, zup_s]; exact ⟨rfl, hy⟩)
  have e' : zX7_makes F (g : Nat) 2 (zuA (zuA Z 12 0 (x : Nat)) 12 1 (y : Nat)) = some Z1 := e
  rw [zC0_o e', d4]
  refine ⟨Z1, ?_, f1.tr d1.scF⟩
  congr 2
  congr 1
  refine nC_congr fun z _ => zGen_iff (fun s => ?_) z
  constructor
  · rintro ⟨i, hi, e⟩
    have e : s = (if i = 0 then x else y) := e
    by_cases q : i = 0
    · rw [if_pos q] at e; exact Or.inl e
    · rw [if_neg q] at e; exact Or.inr e
  · rintro (e | e)
    · exact ⟨0, by omega, e⟩
    · exact ⟨1, by omega, e⟩
def tmI (n : Nat) (T : Nat → Nat → Nat) (w : zS) (many x y : Nat) : Prop := zJ w 16 = 0 ∧ many + 1 ≤ nC (jB (zJ w 15)) n ∧ zI w 14 = (nC (jB (zJ w 15)) n : Nat) ∧ ∃ q : Nat → Nat, (∀ i : Nat, i < many → zA w 12 i = q i ∧ q i < n ∧ zComm n T (q i)) ∧ (∀ z, jB (zJ w 15) z ↔ zGen T (zRow many q) z) ∧ ∀ x' y', x' < n → y' < n → (x' < x ∨ (x' = x ∧ y' < y)) → jB (zJ w 15) (T (T (T x' y') (zInv n T x')) (zInv n T y'))
theorem y_turnsMade (hF : fF F) (h : yG Z g n T) : ∃ Z1, zX7_turnsMade F (g : Nat) Z = some (((nC (zGen T (zComm n T)) n : Nat) : Int), Z1) ∧ scF Z Z1 := by
  have hn := h.b
  have G := h.G
  unfold zX7_turnsMade
  rw [zPJ_o, zPJ_o, zPI_o]
  let P : Option (Int × zS) → Prop := fun o => ∃ Z1, o = some (((nC (zGen T (zComm n T)) n : Nat) : Int), Z1) ∧ scF Z Z1
  have o1 : nC (jB 1) n = 1 := by rw [nC_drop G.1 ((jB_1 0).mpr rfl), nC_none (fun i _ q => q.2 ((jB_1 i).mp q.1))]
  have st : tmI n T (zuI (zuJ (zuJ Z 15 1) 16 0) 14 1) 0 0 0 := by
    refine ⟨rfl, ?_, ?_, fun _ => 0, fun i hi => by omega, fun z => ?_, fun x' y' _ _ q => by omega⟩
    · show 1 ≤ nC (jB 1) n
      omega
    · show (1 : Int) = (nC (jB 1) n : Nat)
      rw [o1]; rfl
    · show jB 1 z ↔ _
      rw [jB_1]
      constructor
      · intro e; rw [e]; exact zGen.zero
      · intro e; exact e (fun a => a = 0) rfl fun a s _ ⟨i, hi, _⟩ => by omega
  refine iX7_turnsMade_l19 (I := fun v1 v2 v3 w => g = v1 ∧ scF Z w ∧ ∃ many x : Nat, many = v2 ∧ x = v3 ∧ x ≤ n ∧ tmI n T w many x 0) (μ := fun _ _ v3 _ => (n - v3).toNat) (P := P) ?_ F _ _ _ _ ⟨rfl, ((scF.rf.J 15 1).J 16 0).I 1, 0, 0, rfl, rfl, by omega, st⟩ (by unfold fF at hF; omega)
  rintro ra _ _ _ w ⟨rfl, hw, many, x, rfl, rfl, hx, hI⟩ ih
  unfold zX7_turnsMade_h19
  rw [(hw.G h).sz]
  by_cases c1 : x = n
  · rw [zLe_t (by omega)]
    dsimp only
    obtain ⟨a1, a2, a3, q, b1, b2, b3⟩ := hI
    rw [a3]
    refine ⟨w, ?_, hw⟩
    congr 2
    congr 1
    refine nC_congr fun z _ => ?_
    rw [b2]
    constructor
    · refine zGen.mono ?_
      rintro s ⟨i, hi, e⟩
      rw [e]; exact (b1 i hi).2.2
    · intro hz
      refine zGen.le G (S := zComm n T) (S' := zRow many q) ?_ ?_ hz
      · rintro s ⟨i, hi, e⟩
        rw [e]; exact (b1 i hi).2.1
      · rintro s ⟨x', y', hx', hy', e⟩
        rw [e]; exact (b2 _).mp (b3 x' y' hx' hy' (by omega))
  · have hxn : x < n := by omega
    rw [zLe_f (by omega)]
    refine iX7_turnsMade_l32 (I := fun v1 v2 v3 v4 w => g = v1 ∧ x = v3 ∧ scF Z w ∧ ∃ many y : Nat, many = v2 ∧ y = v4 ∧ y ≤ n ∧ tmI n T w many x y) (μ := fun _ _ _ v4 _ => (n - v4).toNat) (P := P) ?_ F _ _ _ _ _ ⟨rfl, rfl, hw, many, 0, rfl, rfl, by omega, hI⟩ (by unfold fF at hF; omega)
    rintro rb _ _ _ _ w ⟨rfl, rfl, hw, many, y, rfl, rfl, hy, hI⟩ ih2
    obtain ⟨a1, a2, a3, q, b1, b2, b3⟩ := hI
    have hG := hw.G h
    unfold zX7_turnsMade_h32
    rw [hG.sz]
    by_cases c2 : y = n
    · rw [zLe_t (by omega)]
      dsimp only
      exact ih _ _ _ _ ⟨rfl, hw, many, x + 1, rfl, by omega, by omega, a1, a2, a3, q, b1, b2, fun x' y' h1 h2 h3 => b3 x' y' h1 h2 (by omega)⟩ (by omega)
    · have hyn : y < n := by omega
      have i1 := zInv_sp G hxn
      have i2 := zInv_sp G hyn
      have t1 := G.2.1 _ _ hxn hyn
      have t2 := G.2.1 _ _ t1 i1.1
      have t3 := G.2.1 _ _ t2 i2.1
      have hmn : many + 1 ≤ n := Nat.le_trans a2 (nC_le _ _)
      rw [zLe_f (by omega), zC1_o (hG.mul hxn hyn), zC1_o (y_inverse hF hG hxn), zC1_o (hG.mul t1 i1.1), zC1_o (y_inverse hF hG hyn), zC1_o (hG.mul t2 i2.1)]
      have im := y_isMade (F := F) (Z := w) (x := T (T (T x y) (zInv n T x)) (zInv n T y)) (by omega)
      unfold zX7_turnsMade_b102
      by_cases u : jB (zJ w 15) (T (T (T x y) (zInv n T x)) (zInv n T y))
      · rw [zC1_o (im.1 u), zEq_f (by omega)]
        refine ih2 _ _ _ _ _ ⟨rfl, rfl, hw, many, y + 1, rfl, by omega, by omega, a1, a2, a3, q, b1, b2, fun x' y' h1 h2 h3 => ?_⟩ (by omega)
        by_cases t : x' = x ∧ y' = y
        · rw [t.1, t.2]; exact u
        · exact b3 x' y' h1 h2 (by omega)
      · rw [zC1_o (im.2 u), zEq_t (by omega), zSt_o (by omega)]
        have f1 : scF Z (zuA w 12 (many : Nat) (T (T (T x y) (zInv n T x)) (zInv n T y) : Nat)) := hw.A (by omega) _ _
        have q2 : ∀ i : Nat, i < many + 1 → zA (zuA w 12 (many : Nat) (T (T (T x y) (zInv n T x)) (zInv n T y) : Nat)) 12 i = ((fun i => if i = many then T (T (T x y) (zInv n T x)) (zInv n T y) else q i : Nat → Nat) i : Nat) ∧ (fun i => if i = many then T (T (T x y) (zInv n T x)) (zInv n T y) else q i : Nat → Nat) i < n := fun i hi => by
          show zup (zA w 12) (many : Nat) (T (T (T x y) (zInv n T x)) (zInv n T y) : Nat) i = ((if i = many then T (T (T x y) (zInv n T x)) (zInv n T y) else q i : Nat) : Int) ∧ (if i = many then T (T (T x y) (zInv n T x)) (zInv n T y) else q i) < n
          by_cases t : i = many
          · rw [t, if_pos rfl, zup_s]; exact ⟨rfl, t3⟩
          · rw [if_neg t, zup_n (by omega)]; exact ⟨(b1 i (by omega)).1, (b1 i (by omega)).2.1⟩
        obtain ⟨Z1, e, d1, d2, d3, d4⟩ := y_makes (m := many + 1) (q0 := fun i => if i = many then T (T (T x y) (zInv n T x)) (zInv n T y) else q i) hF (f1.G h) (by omega) q2
        have e' : zX7_makes F (g : Nat) ((many : Nat) + 1) (zuA w 12 (many : Nat) (T (T (T x y) (zInv n T x)) (zInv n T y) : Nat)) = some Z1 := e
        have hq2 : ∀ s, zRow (many + 1) (fun i => if i = many then T (T (T x y) (zInv n T x)) (zInv n T y) else q i) s → s < n := by
          rintro s ⟨i, hi, e⟩
          rw [e]; exact (q2 i hi).2
        have up : ∀ z, jB (zJ w 15) z → jB (zJ Z1 15) z := fun z hz => by
          rw [d3]
          refine zGen.mono ?_ ((b2 z).mp hz)
          rintro s ⟨i, hi, e⟩
          refine ⟨i, by omega, ?_⟩
          rw [e]
          show _ = (if i = many then _ else q i)
          rw [if_neg (by omega)]
        have nw : jB (zJ Z1 15) (T (T (T x y) (zInv n T x)) (zInv n T y)) := by
          rw [d3]
          refine zGen.self G hq2 ⟨many, by omega, ?_⟩
          show _ = (if many = many then _ else q many)
          rw [if_pos rfl]
        have lt : nC (jB (zJ w 15)) n < nC (jB (zJ Z1 15)) n := nC_lt (fun i _ => up i) t3 nw u
        rw [zC0_o e']
        refine ih2 _ _ _ _ _ ⟨rfl, rfl, f1.tr d1.scF, many + 1, y + 1, by omega, by omega, by omega, d2, by omega, ?_, fun i => if i = many then T (T (T x y) (zInv n T x)) (zInv n T y) else q i, fun i hi => ⟨?_, (q2 i hi).2, ?_⟩, d3, fun x' y' h1 h2 h3 => ?_⟩ (by omega)
        · rw [d4]
          congr 1
          exact nC_congr fun z _ => (d3 z).symm
        · rw [d1.1 12 (by decide)]; exact (q2 i hi).1
        · show zComm n T (if i = many then T (T (T x y) (zInv n T x)) (zInv n T y) else q i)
          by_cases t : i = many
          · rw [if_pos t]; exact ⟨x, y, hxn, hyn, rfl⟩
          · rw [if_neg t]; exact (b1 i (by omega)).2.2
        · by_cases t : x' = x ∧ y' = y
          · rw [t.1, t.2]; exact nw
          · exact up _ (b3 x' y' h1 h2 (by omega))
end MTM
