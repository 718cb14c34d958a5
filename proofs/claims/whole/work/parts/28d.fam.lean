/-! FAMILIES OF PARTS: how many there are at most -/
section FAM
variable {n N M k : Nat} {T : Nat → Nat → Nat} {H : Nat → Nat → Prop} {r s : Nat → Nat → Nat}
/-- parts that differ -/
def zDis (N : Nat) (H : Nat → Nat → Prop) : Prop := ∀ i j, i < N → j < N → (∀ z, H i z ↔ H j z) → i = j
theorem fam_whole (hD : zDis N H) (hH : ∀ j, j < N → zSbg n T (H j)) : nC (fun j => nC (H j) n = n) N ≤ 1 := by
  refine Nat.le_trans (nC_inj (Q := fun _ => True) (m := 1) (fun _ => 0) (fun i _ _ => ⟨by omega, trivial⟩) (fun i j hi hj h1 h2 _ => hD i j hi hj fun z => ?_)) (nC_le _ _)
  exact ⟨fun h => nC_fu h2 z ((hH i hi).2.1 z h), fun h => nC_fu h1 z ((hH j hj).2.1 z h)⟩
theorem fam_half (G : zGrp n T) (hn : n ≤ 48) (hD : zDis N H) (hH : ∀ j, j < N → zSbg n T (H j)) : nC (fun j => 2 * nC (H j) n = n) N ≤ 32 := by
  obtain ⟨m, g, m1, m2, m3⟩ := zFew G hn
  refine Nat.le_trans (nC_inj (Q := fun _ => True) (m := 32) (fun j => pcd (fun i => i < m ∧ H j (g i)) 5) (fun i _ _ => ⟨pcd_lt _ 5, trivial⟩) (fun i j hi hj h1 h2 e => hD i j hi hj fun z => ?_)) (nC_le _ _)
  have cd := pcd_inj (show pcd (fun t => t < m ∧ H i (g t)) 5 = pcd (fun t => t < m ∧ H j (g t)) 5 from e)
  have hL : zSbg n T (fun z => z < n) := ⟨G.1, fun a h => h, fun a b ha hb => G.2.1 a b ha hb⟩
  have cn : nC (fun z => z < n) n = n := nC_all fun i hi => hi
  have key : ∀ z, z < n → (H i z ↔ H j z) := fun z hz => zHalf_det G (hH i hi) (hH j hj) hL (hH i hi).2.1 (hH j hj).2.1 (by rw [cn]; exact h1) (by rw [cn]; exact h2) (S := zRow m g) (fun z hz => m3 z hz) (fun s ⟨t, ht, e⟩ => by rw [e]; exact m2 t ht) (fun s ⟨t, ht, e⟩ => by
    rw [e]
    have := cd t (by omega)
    exact ⟨fun h => (this.mp ⟨ht, h⟩).2, fun h => (this.mpr ⟨ht, h⟩).2⟩) hz
  exact ⟨fun h => (key z ((hH i hi).2.1 z h)).mp h, fun h => (key z ((hH j hj).2.1 z h)).mpr h⟩
theorem fam_third (G : zGrp n T) (hn : n = 48) (hD : zDis N H) (hr : ∀ j, j < N → (∀ i, i < 4 → r j i < n) ∧ ∀ z, H j z ↔ zGen T (zRow 4 (r j)) z) : nC (fun j => nC (H j) n = 16) N ≤ 769 := by
  have hH : ∀ j, j < N → zSbg n T (H j) := fun j hj => by
    have := zGen.sbg G (zRow_lt (hr j hj).1)
    refine ⟨((hr j hj).2 0).mpr this.1, fun a h => this.2.1 a (((hr j hj).2 a).mp h), fun a b ha hb => ((hr j hj).2 _).mpr (this.2.2 a b (((hr j hj).2 a).mp ha) (((hr j hj).2 b).mp hb))⟩
  by_cases q : ∃ j0, j0 < N ∧ nC (H j0) n = 16
  · obtain ⟨j0, h0, c0⟩ := q
    rw [nC_drop h0 c0]
    have out : ∀ j, ∃ x, (j < N → nC (H j) n = 16 → j ≠ j0 → H j x ∧ ¬ H j0 x) := fun j => by
      by_cases t : ∃ x, H j x ∧ ¬ H j0 x
      · obtain ⟨x, hx⟩ := t
        exact ⟨x, fun _ _ _ => hx⟩
      · refine ⟨0, fun hj hc hne => (hne (hD j j0 hj h0 fun z => ?_)).elim⟩
        have sub : ∀ z, H j z → H j0 z := fun z hz => Classical.byContradiction fun u => t ⟨z, hz, u⟩
        refine ⟨sub z, fun hz => Classical.byContradiction fun u => ?_⟩
        have := nC_lt (fun i _ h => sub i h) ((hH j0 h0).2.1 z hz) hz u
        omega
    have ox : ∀ j, j < N → nC (H j) n = 16 → j ≠ j0 → H j (Classical.choose (out j)) ∧ ¬ H j0 (Classical.choose (out j)) := fun j => Classical.choose_spec (out j)
    have : nC (fun i => nC (H i) n = 16 ∧ i ≠ j0) N ≤ 768 := by
      refine Nat.le_trans (nC_inj (Q := fun _ => True) (m := 768) (fun j => 16 * Classical.choose (out j) + pcd (fun i => H j (r j0 i)) 4) (fun i hi h => ⟨?_, trivial⟩) (fun i j hi hj h1 h2 e => hD i j hi hj fun z => ?_)) (nC_le _ _)
      · have a1 := pcd_lt (fun t => H i (r j0 t)) 4
        have a2 := (hH i hi).2.1 _ (ox i hi h.1 h.2).1
        have a3 : (2 : Nat) ^ 4 = 16 := rfl
        show 16 * Classical.choose (out i) + pcd (fun t => H i (r j0 t)) 4 < 768
        omega
      · have e : 16 * Classical.choose (out i) + pcd (fun t => H i (r j0 t)) 4 = 16 * Classical.choose (out j) + pcd (fun t => H j (r j0 t)) 4 := e
        have a1 := pcd_lt (fun t => H i (r j0 t)) 4
        have a2 := pcd_lt (fun t => H j (r j0 t)) 4
        have a3 : (2 : Nat) ^ 4 = 16 := rfl
        have ex : Classical.choose (out i) = Classical.choose (out j) := by omega
        have ec := pcd_inj (show pcd (fun t => H i (r j0 t)) 4 = pcd (fun t => H j (r j0 t)) 4 by omega)
        have oi := ox i hi h1.1 h1.2
        have oj := ox j hj h2.1 h2.2
        obtain ⟨s1, s2⟩ := zThird G hn (hH i hi) (hH j0 h0) h1.1 c0 oi.1 oi.2
        obtain ⟨t1, t2⟩ := zThird G hn (hH j hj) (hH j0 h0) h2.1 c0 oj.1 oj.2
        have sD : ∀ l, l < N → zSbg n T (fun z => H l z ∧ H j0 z) := fun l hl => ⟨⟨(hH l hl).1, (hH j0 h0).1⟩, fun a h => (hH l hl).2.1 a h.1, fun a b h3 h4 => ⟨(hH l hl).2.2 a b h3.1 h4.1, (hH j0 h0).2.2 a b h3.2 h4.2⟩⟩
        have rin : ∀ t, t < 4 → H j0 (r j0 t) := fun t ht => ((hr j0 h0).2 _).mpr (zGen.self G (zRow_lt (hr j0 h0).1) ⟨t, ht, rfl⟩)
        have same : ∀ z, H j0 z → ((H i z ∧ H j0 z) ↔ (H j z ∧ H j0 z)) := fun z hz => zHalf_det G (sD i hi) (sD j hj) (hH j0 h0) (fun a h => h.2) (fun a h => h.2) (by omega) (by omega) (S := zRow 4 (r j0)) (fun z hz => ((hr j0 h0).2 z).mp hz) (fun s ⟨t, ht, e⟩ => by rw [e]; exact rin t ht) (fun s ⟨t, ht, e⟩ => by
          rw [e]
          exact ⟨fun h => ⟨(ec t ht).mp h.1, h.2⟩, fun h => ⟨(ec t ht).mpr h.1, h.2⟩⟩) hz
        constructor
        · intro h
          rcases s2 z h with u | ⟨c, hc, e3⟩
          · exact ((same z u.2).mp u).1
          · rw [e3, ex]; exact (hH j hj).2.2 _ _ oj.1 ((same c hc.2).mp hc).1
        · intro h
          rcases t2 z h with u | ⟨c, hc, e3⟩
          · exact ((same z u.2).mpr u).1
          · rw [e3, ← ex]; exact (hH i hi).2.2 _ _ oi.1 ((same c hc.2).mpr hc).1
    omega
  · rw [nC_none (fun i hi h => q ⟨i, hi, h⟩)]; omega
theorem fam_great (G : zGrp n T) (hn : n ≤ 48) (hD : zDis N H) (hr : ∀ j, j < N → (∀ i, i < 4 → r j i < n) ∧ ∀ z, H j z ↔ zGen T (zRow 4 (r j)) z) (h16 : ∀ j, j < N → 16 ≤ nC (H j) n) : N ≤ 802 := by
  have hH : ∀ j, j < N → zSbg n T (H j) := fun j hj => by
    have := zGen.sbg G (zRow_lt (hr j hj).1)
    refine ⟨((hr j hj).2 0).mpr this.1, fun a h => this.2.1 a (((hr j hj).2 a).mp h), fun a b ha hb => ((hr j hj).2 _).mpr (this.2.2 a b (((hr j hj).2 a).mp ha) (((hr j hj).2 b).mp hb))⟩
  have h1 := fam_whole hD hH
  have h2 := fam_half G hn hD hH
  have cls : ∀ j, j < N → nC (H j) n = n ∨ (2 * nC (H j) n = n ∨ (n = 48 ∧ nC (H j) n = 16)) := fun j hj => by
    obtain ⟨c, hc⟩ := zLag G (hH j hj)
    have a := h16 j hj
    have G1 := G.1
    rcases c with _ | _ | _ | _ | c
    · rw [Nat.mul_zero] at hc; omega
    · exact Or.inl (by omega)
    · exact Or.inr (Or.inl (by omega))
    · exact Or.inr (Or.inr ⟨by omega, by omega⟩)
    · have := Nat.mul_le_mul a (show 4 ≤ c + 1 + 1 + 1 + 1 by omega)
      omega
  have h3 : nC (fun j => n = 48 ∧ nC (H j) n = 16) N ≤ 769 := by
    by_cases q : n = 48
    · rw [nC_congr (Q := fun j => nC (H j) n = 16) (fun i _ => ⟨fun h => h.2, fun h => ⟨q, h⟩⟩)]
      exact fam_third G q hD hr
    · rw [nC_none (fun i _ h => q h.1)]; omega
  have e : nC (fun j => nC (H j) n = n ∨ (2 * nC (H j) n = n ∨ (n = 48 ∧ nC (H j) n = 16))) N = N := nC_all cls
  have o1 := nC_or_le (fun j => nC (H j) n = n) (fun j => 2 * nC (H j) n = n ∨ (n = 48 ∧ nC (H j) n = 16)) N
  have o2 := nC_or_le (fun j => 2 * nC (H j) n = n) (fun j => n = 48 ∧ nC (H j) n = 16) N
  omega
/-- two makers of which the second is new: any two of them and their product do -/
theorem zPairs (G : zGrp n T) {x y : Nat} (hx : x < n) (hy : y < n) {K : Nat → Prop} (hK : zSbg n T K) (v : Nat → Nat) (v0 : v 0 = x) (v1 : v 1 = y) (v2 : v 2 = T x y) {i j : Nat} (hi : i < 3) (hj : j < 3) (hij : i ≠ j) (ki : K (v i)) (kj : K (v j)) : K x ∧ K y := by
  have hxy := G.2.1 x y hx hy
  have A : K x → K (T x y) → K y := fun h1 h2 => by
    obtain ⟨c, hc, -, e⟩ := hK.inv G h1
    have e2 := G.2.2.2.1 c x y (hK.2.1 c hc) hx hy
    rw [e, (G.2.2.1 y hy).1] at e2
    rw [e2]; exact hK.2.2 _ _ hc h2
  have B : K y → K (T x y) → K x := fun h1 h2 => by
    obtain ⟨c, hc, e, -⟩ := hK.inv G h1
    have e2 := G.2.2.2.1 x y c hx hy (hK.2.1 c hc)
    rw [e, (G.2.2.1 x hx).2] at e2
    rw [← e2]; exact hK.2.2 _ _ h2 hc
  have c3 : ∀ t, t < 3 → t = 0 ∨ t = 1 ∨ t = 2 := fun t h => by omega
  rcases c3 i hi with e | e | e <;> rcases c3 j hj with e' | e' | e' <;> rw [e] at ki hij <;> rw [e'] at kj hij
  · omega
  · rw [v0] at ki; rw [v1] at kj; exact ⟨ki, kj⟩
  · rw [v0] at ki; rw [v2] at kj; exact ⟨ki, A ki kj⟩
  · rw [v1] at ki; rw [v0] at kj; exact ⟨kj, ki⟩
  · omega
  · rw [v1] at ki; rw [v2] at kj; exact ⟨B ki kj, ki⟩
  · rw [v2] at ki; rw [v0] at kj; exact ⟨kj, A kj ki⟩
  · rw [v2] at ki; rw [v1] at kj; exact ⟨B kj ki, kj⟩
  · omega
def lvl (n : Nat) (T : Nat → Nat → Nat) (k N : Nat) (r : Nat → Nat → Nat) : Prop := (∀ j, j < N → (∀ i, i < k → r j i < n) ∧ zChn T k (r j)) ∧ zDis N (fun j => zGen T (zRow k (r j)))
theorem fam_two (G : zGrp n T) (hn : n ≤ 48) (h : lvl n T 2 N r) : N ≤ 384 := by
  refine Nat.le_of_not_lt fun q => ?_
  let v : Nat → Nat → Nat := fun j t => if t = 0 then r j 0 else if t = 1 then r j 1 else T (r j 0) (r j 1)
  have hlt : ∀ j, j < N → r j 0 < n ∧ r j 1 < n := fun j hj => ⟨(h.1 j hj).1 0 (by omega), (h.1 j hj).1 1 (by omega)⟩
  have vlt : ∀ j t, j < N → v j t < n := fun j t hj => by
    have := hlt j hj
    show (if t = 0 then r j 0 else if t = 1 then r j 1 else T (r j 0) (r j 1)) < n
    split
    · exact this.1
    · split
      · exact this.2
      · exact G.2.1 _ _ this.1 this.2
  have n0 : ∀ j, j < N → r j 0 ≠ 0 := fun j hj e => (h.1 j hj).2 0 (by omega) (by rw [e]; exact zGen.zero)
  have n1 : ∀ j, j < N → ¬ zGen T (zRow 1 (r j)) (r j 1) := fun j hj => (h.1 j hj).2 1 (by omega)
  have vin : ∀ j t t', j < N → t < 3 → t' < 3 → v j t = v j t' → t = t' := fun j t t' hj ht ht' e => by
    have l := hlt j hj
    have a1 : r j 1 ≠ 0 := fun e => n1 j hj (by rw [e]; exact zGen.zero)
    have a2 : r j 0 ≠ r j 1 := fun e => n1 j hj (by rw [← e]; exact zGen.self G (zRow_lt (k := 1) fun i hi => (h.1 j hj).1 i (by omega)) ⟨0, by omega, rfl⟩)
    have a3 : T (r j 0) (r j 1) ≠ r j 0 := fun e => a1 (G.canL l.1 l.2 G.1 (by rw [e, (G.2.2.1 _ l.1).2]))
    have a4 : T (r j 0) (r j 1) ≠ r j 1 := fun e => n0 j hj (G.canR l.2 l.1 G.1 (by rw [e, (G.2.2.1 _ l.2).1]))
    have c3 : ∀ t, t < 3 → (t = 0 ∧ v j t = r j 0) ∨ (t = 1 ∧ v j t = r j 1) ∨ (t = 2 ∧ v j t = T (r j 0) (r j 1)) := fun t ht => by
      have : t = 0 ∨ t = 1 ∨ t = 2 := by omega
      rcases this with e | e | e
      · exact Or.inl ⟨e, by rw [e]; rfl⟩
      · exact Or.inr (Or.inl ⟨e, by rw [e]; rfl⟩)
      · exact Or.inr (Or.inr ⟨e, by rw [e]; rfl⟩)
    rcases c3 t ht with ⟨q1, q2⟩ | ⟨q1, q2⟩ | ⟨q1, q2⟩ <;> rcases c3 t' ht' with ⟨p1, p2⟩ | ⟨p1, p2⟩ | ⟨p1, p2⟩ <;> rw [q2, p2] at e
    · omega
    · exact (a2 e).elim
    · exact (a3 e.symm).elim
    · exact (a2 e.symm).elim
    · omega
    · exact (a4 e.symm).elim
    · exact (a3 e).elim
    · exact (a4 e).elim
    · omega
  obtain ⟨i, j, hij, hj, e⟩ := zHoles 2304 (6 * N) (fun t => 48 * v (t / 6) (t % 6 / 2) + v (t / 6) ((t % 6 / 2 + 1 + t % 6 % 2) % 3)) (fun t ht => by
    have b1 := vlt (t / 6) (t % 6 / 2) (by omega)
    have b2 := vlt (t / 6) ((t % 6 / 2 + 1 + t % 6 % 2) % 3) (by omega)
    show 48 * v (t / 6) (t % 6 / 2) + v (t / 6) ((t % 6 / 2 + 1 + t % 6 % 2) % 3) < 2304
    omega) (by omega)
  have e : 48 * v (i / 6) (i % 6 / 2) + v (i / 6) ((i % 6 / 2 + 1 + i % 6 % 2) % 3) = 48 * v (j / 6) (j % 6 / 2) + v (j / 6) ((j % 6 / 2 + 1 + j % 6 % 2) % 3) := e
  have b1 := vlt (i / 6) ((i % 6 / 2 + 1 + i % 6 % 2) % 3) (by omega)
  have b2 := vlt (j / 6) ((j % 6 / 2 + 1 + j % 6 % 2) % 3) (by omega)
  have e1 : v (i / 6) (i % 6 / 2) = v (j / 6) (j % 6 / 2) := by omega
  have e2 : v (i / 6) ((i % 6 / 2 + 1 + i % 6 % 2) % 3) = v (j / 6) ((j % 6 / 2 + 1 + j % 6 % 2) % 3) := by omega
  have gen : ∀ l l' t t', l < N → l' < N → t < 3 → t' < 3 → t ≠ t' → zGen T (zRow 2 (r l')) (v l t) → zGen T (zRow 2 (r l')) (v l t') → ∀ z, zGen T (zRow 2 (r l)) z → zGen T (zRow 2 (r l')) z := fun l l' t t' hl hl' ht ht' htt k1 k2 z hz => by
    have K := zGen.sbg G (zRow_lt (h.1 l' hl').1)
    have := zPairs G (hlt l hl).1 (hlt l hl).2 K (v l) rfl rfl rfl ht ht' htt k1 k2
    refine zGen.le G (zRow_lt (h.1 l' hl').1) ?_ hz
    rintro s ⟨c, hc, e⟩
    have : c = 0 ∨ c = 1 := by omega
    rcases this with q | q
    · rw [e, q]; exact this.1
    · rw [e, q]; exact this.2
  have vK : ∀ l t, l < N → zGen T (zRow 2 (r l)) (v l t) := fun l t hl => by
    have K := zGen.sbg G (zRow_lt (h.1 l hl).1)
    have s0 : zGen T (zRow 2 (r l)) (r l 0) := zGen.self G (zRow_lt (h.1 l hl).1) ⟨0, by omega, rfl⟩
    have s1 : zGen T (zRow 2 (r l)) (r l 1) := zGen.self G (zRow_lt (h.1 l hl).1) ⟨1, by omega, rfl⟩
    show zGen T (zRow 2 (r l)) (if t = 0 then r l 0 else if t = 1 then r l 1 else T (r l 0) (r l 1))
    split
    · exact s0
    · split
      · exact s1
      · exact K.2.2 _ _ s0 s1
  have hi6 : i / 6 < N := by omega
  have hj6 : j / 6 < N := by omega
  have same := h.2 (i / 6) (j / 6) hi6 hj6 fun z => ⟨gen (i / 6) (j / 6) (i % 6 / 2) ((i % 6 / 2 + 1 + i % 6 % 2) % 3) hi6 hj6 (by omega) (by omega) (by omega) (by rw [e1]; exact vK _ _ hj6) (by rw [e2]; exact vK _ _ hj6) z, gen (j / 6) (i / 6) (j % 6 / 2) ((j % 6 / 2 + 1 + j % 6 % 2) % 3) hj6 hi6 (by omega) (by omega) (by omega) (by rw [← e1]; exact vK _ _ hi6) (by rw [← e2]; exact vK _ _ hi6) z⟩
  rw [same] at e1 e2
  have f1 := vin _ _ _ hj6 (by omega) (by omega) e1
  have f2 := vin _ _ _ hj6 (by omega) (by omega) e2
  omega
/-- each has a parent -/
theorem fam_step (G : zGrp n T) (hn : n ≤ 48) (hM : lvl n T k M s) (hN : lvl n T (k + 1) N r) (hp : ∀ j, j < N → ∃ p, p < M ∧ ∀ i, i < k → r j i = s p i) : 2 ^ k * N ≤ 48 * M := by
  refine Nat.le_of_not_lt fun q => ?_
  have hp2 : ∀ j, ∃ p, j < N → p < M ∧ ∀ i, i < k → r j i = s p i := fun j => by
    by_cases t : j < N
    · obtain ⟨p, h⟩ := hp j t
      exact ⟨p, fun _ => h⟩
    · exact ⟨0, fun u => (t u).elim⟩
  have hen : ∀ p, ∃ e : Nat → Nat, p < M → (∀ t, t < 2 ^ k → e t < n ∧ zGen T (zRow k (s p)) (e t)) ∧ ∀ t t', t < 2 ^ k → t' < 2 ^ k → e t = e t' → t = t' := fun p => by
    by_cases u : p < M
    · obtain ⟨e, e1, e2, -⟩ := nEnum (zGen T (zRow k (s p))) n
      have cd := zChn_card G (hM.1 p u).1 (hM.1 p u).2
      refine ⟨e, fun _ => ⟨fun t ht => e1 t (by omega), fun t t' ht ht' h => ?_⟩⟩
      have mono : ∀ b a, a < b → b < nC (zGen T (zRow k (s p))) n → e a < e b := by
        intro b
        induction b with
        | zero => intro a h; omega
        | succ b ih =>
          intro a h hb
          have := e2 b (by omega)
          by_cases c : a = b
          · rw [c]; exact this
          · have := ih a (by omega) (by omega); omega
      rcases Nat.lt_trichotomy t t' with c | c | c
      · have := mono t' t c (by omega); omega
      · exact c
      · have := mono t t' c (by omega); omega
    · exact ⟨fun _ => 0, fun h => (u h).elim⟩
  have P1 : ∀ j, j < N → Classical.choose (hp2 j) < M ∧ ∀ i, i < k → r j i = s (Classical.choose (hp2 j)) i := fun j => Classical.choose_spec (hp2 j)
  have E1 : ∀ p, p < M → (∀ t, t < 2 ^ k → Classical.choose (hen p) t < n ∧ zGen T (zRow k (s p)) (Classical.choose (hen p) t)) ∧ ∀ t t', t < 2 ^ k → t' < 2 ^ k → Classical.choose (hen p) t = Classical.choose (hen p) t' → t = t' := fun p => Classical.choose_spec (hen p)
  have k0 : 0 < 2 ^ k := Nat.two_pow_pos k
  have spl : ∀ t, t < 2 ^ k * N → t / 2 ^ k < N ∧ t % 2 ^ k < 2 ^ k := fun t ht => ⟨Nat.div_lt_of_lt_mul ht, Nat.mod_lt _ k0⟩
  have lt : ∀ t, t < 2 ^ k * N → T (r (t / 2 ^ k) k) (Classical.choose (hen (Classical.choose (hp2 (t / 2 ^ k)))) (t % 2 ^ k)) < n := fun t ht => by
    obtain ⟨a, b⟩ := spl t ht
    exact G.2.1 _ _ ((hN.1 _ a).1 k (by omega)) ((E1 _ (P1 _ a).1).1 _ b).1
  obtain ⟨i, j, hij, hj, e⟩ := zHoles (48 * M) (2 ^ k * N) (fun t => 48 * Classical.choose (hp2 (t / 2 ^ k)) + T (r (t / 2 ^ k) k) (Classical.choose (hen (Classical.choose (hp2 (t / 2 ^ k)))) (t % 2 ^ k))) (fun t ht => by
    have a := lt t ht
    have b := (P1 _ (spl t ht).1).1
    show 48 * Classical.choose (hp2 (t / 2 ^ k)) + T (r (t / 2 ^ k) k) (Classical.choose (hen (Classical.choose (hp2 (t / 2 ^ k)))) (t % 2 ^ k)) < 48 * M
    omega) q
  have e : 48 * Classical.choose (hp2 (i / 2 ^ k)) + T (r (i / 2 ^ k) k) (Classical.choose (hen (Classical.choose (hp2 (i / 2 ^ k)))) (i % 2 ^ k)) = 48 * Classical.choose (hp2 (j / 2 ^ k)) + T (r (j / 2 ^ k) k) (Classical.choose (hen (Classical.choose (hp2 (j / 2 ^ k)))) (j % 2 ^ k)) := e
  have hi : i < 2 ^ k * N := by omega
  obtain ⟨ai, bi⟩ := spl i hi
  obtain ⟨aj, bj⟩ := spl j hj
  have li := lt i hi
  have lj := lt j hj
  have ep : Classical.choose (hp2 (i / 2 ^ k)) = Classical.choose (hp2 (j / 2 ^ k)) := by omega
  have et : T (r (i / 2 ^ k) k) (Classical.choose (hen (Classical.choose (hp2 (i / 2 ^ k)))) (i % 2 ^ k)) = T (r (j / 2 ^ k) k) (Classical.choose (hen (Classical.choose (hp2 (j / 2 ^ k)))) (j % 2 ^ k)) := by omega
  obtain ⟨pi1, pi2⟩ := P1 _ ai
  obtain ⟨pj1, pj2⟩ := P1 _ aj
  rw [ep] at et pi2
  obtain ⟨E2, E3⟩ := E1 _ pj1
  -- one's last maker is made by the other's
  have half : ∀ l l' c c', l < N → l' < N → (∀ i, i < k → r l i = s (Classical.choose (hp2 (j / 2 ^ k))) i) → (∀ i, i < k → r l' i = s (Classical.choose (hp2 (j / 2 ^ k))) i) → c < n → c' < n → zGen T (zRow k (s (Classical.choose (hp2 (j / 2 ^ k))))) c → zGen T (zRow k (s (Classical.choose (hp2 (j / 2 ^ k))))) c' → T (r l k) c = T (r l' k) c' → ∀ z, zGen T (zRow (k + 1) (r l)) z → zGen T (zRow (k + 1) (r l')) z := fun l l' c c' hl hl' q1 q2 hc hc' g1 g2 eq z hz => by
    have K := zGen.sbg G (zRow_lt (hN.1 l' hl').1)
    have up : ∀ z, zGen T (zRow k (s (Classical.choose (hp2 (j / 2 ^ k))))) z → zGen T (zRow (k + 1) (r l')) z := fun z hz => hz.mono fun s' ⟨i, hi, e⟩ => ⟨i, by omega, by rw [e, q2 i hi]⟩
    refine zGen.le G (zRow_lt (hN.1 l' hl').1) ?_ hz
    rintro x ⟨i, hi, e⟩
    by_cases u : i = k
    · rw [e, u]
      obtain ⟨d, hd, e3, -⟩ := K.inv G (up c g1)
      have lk := (hN.1 l hl).1 k (by omega)
      have e4 := G.2.2.2.1 (r l k) c d lk hc (K.2.1 d hd)
      rw [e3, (G.2.2.1 _ lk).2, eq] at e4
      rw [← e4]
      exact K.2.2 _ _ (K.2.2 _ _ (zGen.self G (zRow_lt (hN.1 l' hl').1) ⟨k, by omega, rfl⟩) (up c' g2)) hd
    · rw [e, q1 i (by omega), ← q2 i (by omega)]
      exact zGen.self G (zRow_lt (hN.1 l' hl').1) ⟨i, by omega, rfl⟩
  have ei := E2 _ bi
  have ej := E2 _ bj
  have same := hN.2 _ _ ai aj fun z => ⟨half _ _ _ _ ai aj pi2 pj2 ei.1 ej.1 ei.2 ej.2 et z, half _ _ _ _ aj ai pj2 pi2 ej.1 ei.1 ej.2 ei.2 et.symm z⟩
  rw [same] at et
  have := E3 _ _ bi bj (G.canL ((hN.1 _ aj).1 k (by omega)) ei.1 ej.1 et)
  have d1 := Nat.div_add_mod i (2 ^ k)
  have d2 := Nat.div_add_mod j (2 ^ k)
  rw [same, this] at d1
  omega
def lvB : Nat → Nat
  | 0 => 1
  | 1 => 48
  | 2 => 384
  | 3 => 4608
  | 4 => 802
  | _ => 1
theorem lvl_next (G : zGrp n T) (hn : n ≤ 48) (hk : k ≤ 4) (hM : lvl n T k M s) (hB : M ≤ lvB k) (hN : lvl n T (k + 1) N r) (hp : ∀ j, j < N → ∃ p, p < M ∧ ∀ i, i < k → r j i = s p i) : N ≤ lvB (k + 1) := by
  have c5 : k = 0 ∨ k = 1 ∨ k = 2 ∨ k = 3 ∨ k = 4 := by omega
  rcases c5 with e | e | e | e | e <;> subst e
  · have := fam_step G hn hM hN hp
    have hB : M ≤ 1 := hB
    have t : (2 : Nat) ^ 0 = 1 := rfl
    rw [t] at this
    show N ≤ 48
    omega
  · exact fam_two G hn hN
  · have := fam_step G hn hM hN hp
    have hB : M ≤ 384 := hB
    have t : (2 : Nat) ^ 2 = 4 := rfl
    rw [t] at this
    show N ≤ 4608
    omega
  · refine fam_great G hn hN.2 (r := r) (fun j hj => ⟨(hN.1 j hj).1, fun z => Iff.rfl⟩) fun j hj => ?_
    exact zChn_card G (hN.1 j hj).1 (hN.1 j hj).2
  · have w := fam_whole (n := n) (T := T) hN.2 (fun j hj => zGen.sbg G (zRow_lt (hN.1 j hj).1))
    have e : nC (fun j => nC (zGen T (zRow (4 + 1) (r j))) n = n) N = N := nC_all fun j hj => by
      have cd := zChn_card G (hN.1 j hj).1 (hN.1 j hj).2
      obtain ⟨c, hc⟩ := zLag G (zGen.sbg G (zRow_lt (hN.1 j hj).1))
      have t : (2 : Nat) ^ (4 + 1) = 32 := rfl
      rw [t] at cd
      have G1 := G.1
      rcases c with _ | _ | c
      · rw [Nat.mul_zero] at hc; omega
      · omega
      · have := Nat.mul_le_mul cd (show 2 ≤ c + 1 + 1 by omega)
        omega
    show N ≤ 1
    omega
end FAM
