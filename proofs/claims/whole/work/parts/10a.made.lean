/-! THE GROUPS THAT ARE MADE: cyclic, dihedral, quaternions, pairs -/
theorem zCyc_grp {n : Nat} (h0 : 0 < n) : zGrp n (zCyc n) := by
  refine ⟨h0, fun x y _ _ => Nat.mod_lt _ h0, fun x hx => ⟨?_, ?_⟩, fun x y z _ _ _ => ?_, fun x hx => ?_⟩
  · show (0 + x) % n = x
    rw [Nat.zero_add, Nat.mod_eq_of_lt hx]
  · show (x + 0) % n = x
    rw [Nat.add_zero, Nat.mod_eq_of_lt hx]
  · show ((x + y) % n + z) % n = (x + (y + z) % n) % n
    rw [Nat.mod_add_mod, Nat.add_mod_mod, Nat.add_assoc]
  · rcases Nat.eq_zero_or_pos x with q | q
    · exact ⟨0, h0, by rw [q]; exact Nat.mod_eq_of_lt h0⟩
    · refine ⟨n - x, by omega, ?_⟩
      show (x + (n - x)) % n = 0
      rw [show x + (n - x) = n by omega, Nat.mod_self]
/-- a turn by r, or a turn by r, then turned over -/
def zDih (n : Nat) (x y : Nat) : Nat := (((if x < n then (x : Int) + y else (x : Int) - y) % (n : Int)).toNat) + (if (x < n ↔ y < n) then 0 else n)
theorem zDih_at {n : Nat} (h0 : 0 < n) (x y : Nat) : ∃ r, r < n ∧ (r : Int) = (if x < n then (x : Int) + y else (x : Int) - y) % (n : Int) ∧ zDih n x y = r + (if (x < n ↔ y < n) then 0 else n) := by
  have h1 := Int.emod_nonneg (if x < n then (x : Int) + y else (x : Int) - y) (show (n : Int) ≠ 0 by omega)
  have h2 := Int.emod_lt_of_pos (if x < n then (x : Int) + y else (x : Int) - y) (show (0 : Int) < n by omega)
  exact ⟨_, by omega, by omega, rfl⟩
theorem zDih_lt {n x y : Nat} (h0 : 0 < n) : zDih n x y < 2 * n := by
  obtain ⟨r, h1, -, h2⟩ := zDih_at h0 x y
  rw [h2]; split <;> omega
theorem zDih_flip {n x y : Nat} (h0 : 0 < n) : zDih n x y < n ↔ (x < n ↔ y < n) := by
  obtain ⟨r, h1, -, h2⟩ := zDih_at h0 x y
  rw [h2]
  by_cases q : (x < n ↔ y < n)
  · rw [if_pos q]; exact ⟨fun _ => q, fun _ => by omega⟩
  · rw [if_neg q]; exact ⟨fun z => by omega, fun z => (q z).elim⟩
theorem zDih_mod {n x y : Nat} (h0 : 0 < n) : ((zDih n x y : Nat) : Int) % n = (if x < n then (x : Int) + y else (x : Int) - y) % n := by
  obtain ⟨r, h1, h3, h2⟩ := zDih_at h0 x y
  rw [h2]
  have e : ((r + (if (x < n ↔ y < n) then 0 else n) : Nat) : Int) % n = (r : Int) % n := by
    split
    · rw [Nat.add_zero]
    · rw [Int.natCast_add, Int.add_emod_right]
  rw [e, h3, Int.emod_emod_of_dvd _ (Int.dvd_refl _)]
theorem zDih_eq {n x y : Nat} (hx : x < 2 * n) (hy : y < 2 * n) (h : x < n ↔ y < n) (e : (x : Int) % n = (y : Int) % n) : x = y := by
  by_cases q : x < n
  · have q2 := h.mp q
    rw [Int.emod_eq_of_lt (by omega) (by omega), Int.emod_eq_of_lt (by omega) (by omega)] at e
    omega
  · have q2 : ¬ y < n := fun z => q (h.mpr z)
    have e1 : (x : Int) % n = ((x : Int) - n) % n := by rw [Int.sub_emod_right]
    have e2 : (y : Int) % n = ((y : Int) - n) % n := by rw [Int.sub_emod_right]
    rw [e1, e2, Int.emod_eq_of_lt (by omega) (by omega), Int.emod_eq_of_lt (by omega) (by omega)] at e
    omega
theorem i_emod_congr {a b c n : Int} (h : a % n = b % n) : (a + c) % n = (b + c) % n := by
  rw [Int.add_emod, h, ← Int.add_emod]
theorem i_emod_congr2 {a b c n : Int} (h : a % n = b % n) : (c + a) % n = (c + b) % n := by
  rw [Int.add_emod, h, ← Int.add_emod]
theorem i_emod_congr3 {a b c n : Int} (h : a % n = b % n) : (c - a) % n = (c - b) % n := by
  rw [Int.sub_emod, h, ← Int.sub_emod]
theorem i_emod_congr4 {a b c n : Int} (h : a % n = b % n) : (a - c) % n = (b - c) % n := by
  rw [Int.sub_emod, h, ← Int.sub_emod]
theorem zDih_grp {n : Nat} (h0 : 0 < n) : zGrp (2 * n) (zDih n) := by
  refine ⟨by omega, fun x y _ _ => zDih_lt h0, fun x hx => ⟨?_, ?_⟩, fun x y z hx hy hz => ?_, fun x hx => ?_⟩
  · refine zDih_eq (zDih_lt h0) hx ?_ ?_
    · rw [zDih_flip h0]; exact ⟨fun q => q.mp h0, fun q => ⟨fun _ => q, fun _ => h0⟩⟩
    · rw [zDih_mod h0, if_pos h0]; congr 1; omega
  · refine zDih_eq (zDih_lt h0) hx ?_ ?_
    · rw [zDih_flip h0]; exact ⟨fun q => q.mpr h0, fun q => ⟨fun _ => h0, fun _ => q⟩⟩
    · rw [zDih_mod h0]; split <;> (congr 1 <;> omega)
  · have f1 := zDih_flip (n := n) (x := x) (y := y) h0
    have f2 := zDih_flip (n := n) (x := y) (y := z) h0
    refine zDih_eq (zDih_lt h0) (zDih_lt h0) ?_ ?_
    · rw [zDih_flip h0, f1, zDih_flip h0, f2]
      by_cases a : x < n <;> by_cases b : y < n <;> by_cases c : z < n <;> simp [a, b, c]
    · have m1 := zDih_mod (n := n) (x := x) (y := y) h0
      have m2 := zDih_mod (n := n) (x := y) (y := z) h0
      rw [zDih_mod h0, zDih_mod h0]
      by_cases a : x < n <;> by_cases b : y < n
      · rw [if_pos (f1.mpr ⟨fun _ => b, fun _ => a⟩), if_pos a]
        rw [if_pos a] at m1
        rw [if_pos b] at m2
        rw [i_emod_congr m1, i_emod_congr2 m2]
        congr 1; omega
      · rw [if_neg (fun q => b ((f1.mp q).mp a)), if_pos a]
        rw [if_pos a] at m1
        rw [if_neg b] at m2
        rw [i_emod_congr4 m1, i_emod_congr2 m2]
        congr 1; omega
      · rw [if_neg (fun q => a ((f1.mp q).mpr b)), if_neg a]
        rw [if_neg a] at m1
        rw [if_pos b] at m2
        rw [i_emod_congr4 m1, i_emod_congr3 m2]
        congr 1; omega
      · rw [if_pos (f1.mpr ⟨fun q => (a q).elim, fun q => (b q).elim⟩), if_neg a]
        rw [if_neg a] at m1
        rw [if_neg b] at m2
        rw [i_emod_congr m1, i_emod_congr3 m2]
        congr 1; omega
  · by_cases a : x < n
    · rcases Nat.eq_zero_or_pos x with q | q
      · refine ⟨0, by omega, zDih_eq (zDih_lt h0) (by omega) ?_ ?_⟩
        · rw [zDih_flip h0]; exact ⟨fun _ => h0, fun _ => ⟨fun _ => h0, fun _ => a⟩⟩
        · rw [zDih_mod h0, if_pos a, q]; rfl
      · refine ⟨n - x, by omega, zDih_eq (zDih_lt h0) (by omega) ?_ ?_⟩
        · rw [zDih_flip h0]; exact ⟨fun _ => h0, fun _ => ⟨fun _ => by omega, fun _ => a⟩⟩
        · rw [zDih_mod h0, if_pos a, show (x : Int) + (n - x : Nat) = n by omega, Int.emod_self]; rfl
    · refine ⟨x, hx, zDih_eq (zDih_lt h0) (by omega) ?_ ?_⟩
      · rw [zDih_flip h0]; exact ⟨fun _ => h0, fun _ => Iff.rfl⟩
      · rw [zDih_mod h0, if_neg a, Int.sub_self]; rfl
def zQua (x y : Nat) : Nat := ([0, 1, 2, 3, 1, 4, 3, 6, 2, 7, 4, 1, 3, 2, 5, 4].getD (x % 4 * 4 + y % 4) 0) ^^^ ((x ^^^ y) &&& 4)
theorem zQua_grp : zGrp 8 zQua := by
  refine ⟨by omega, ?_, ?_, ?_, ?_⟩
  · intro x y hx hy
    exact (by decide +kernel : ∀ x, x < 8 → ∀ y, y < 8 → zQua x y < 8) x hx y hy
  · exact (by decide +kernel : ∀ x, x < 8 → zQua 0 x = x ∧ zQua x 0 = x)
  · intro x y z hx hy hz
    exact (by decide +kernel : ∀ x, x < 8 → ∀ y, y < 8 → ∀ z, z < 8 → zQua (zQua x y) z = zQua x (zQua y z)) x hx y hy z hz
  · intro x hx
    obtain ⟨y, h1, h2⟩ := (by decide +kernel : ∀ x : Fin 8, ∃ y : Fin 8, zQua x y = 0 ∧ True) ⟨x, hx⟩
    exact ⟨y, y.2, h1⟩
def zPair (n : Nat) (T1 T2 : Nat → Nat → Nat) (x y : Nat) : Nat := n * T1 (x / n) (y / n) + T2 (x % n) (y % n)
theorem zPair_at {n a c b d : Nat} {T1 T2 : Nat → Nat → Nat} (hc : c < n) (hd : d < n) : zPair n T1 T2 (n * a + c) (n * b + d) = n * T1 a b + T2 c d := by
  have e1 : ∀ a c, c < n → (n * a + c) / n = a ∧ (n * a + c) % n = c := fun a c hc => by
    constructor
    · rw [Nat.mul_add_div (by omega), Nat.div_eq_of_lt hc, Nat.add_zero]
    · rw [Nat.mul_add_mod, Nat.mod_eq_of_lt hc]
  unfold zPair
  rw [(e1 a c hc).1, (e1 a c hc).2, (e1 b d hd).1, (e1 b d hd).2]
theorem zPair_lt {m n a b : Nat} (ha : a < m) (hb : b < n) : n * a + b < m * n := by
  have h1 : n * (a + 1) ≤ n * m := Nat.mul_le_mul_left n ha
  rw [Nat.mul_succ] at h1
  rw [Nat.mul_comm m n]; omega
theorem zPair_grp {m n : Nat} {T1 T2 : Nat → Nat → Nat} (G1 : zGrp m T1) (G2 : zGrp n T2) : zGrp (m * n) (zPair n T1 T2) := by
  have hn := G2.1
  have hs : ∀ x, x < m * n → ∃ a b, a < m ∧ b < n ∧ x = n * a + b := fun x hx => ⟨x / n, x % n, by rw [Nat.div_lt_iff_lt_mul hn]; exact hx, Nat.mod_lt _ hn, (Nat.div_add_mod x n).symm⟩
  refine ⟨Nat.mul_pos G1.1 hn, fun x y hx hy => ?_, fun x hx => ?_, fun x y z hx hy hz => ?_, fun x hx => ?_⟩
  · obtain ⟨a, b, ha, hb, rfl⟩ := hs x hx
    obtain ⟨c, d, hc, hd, rfl⟩ := hs y hy
    rw [zPair_at hb hd]
    exact zPair_lt (G1.2.1 a c ha hc) (G2.2.1 b d hb hd)
  · obtain ⟨a, b, ha, hb, rfl⟩ := hs x hx
    have e1 := zPair_at (T1 := T1) (T2 := T2) (a := 0) (c := 0) (b := a) (d := b) hn hb
    have e2 := zPair_at (T1 := T1) (T2 := T2) (a := a) (c := b) (b := 0) (d := 0) hb hn
    rw [Nat.mul_zero, Nat.add_zero] at e1 e2
    rw [e1, e2, (G1.2.2.1 a ha).1, (G1.2.2.1 a ha).2, (G2.2.2.1 b hb).1, (G2.2.2.1 b hb).2]
    exact ⟨rfl, rfl⟩
  · obtain ⟨a, b, ha, hb, rfl⟩ := hs x hx
    obtain ⟨c, d, hc, hd, rfl⟩ := hs y hy
    obtain ⟨e, f, he, hf, rfl⟩ := hs z hz
    rw [zPair_at hb hd, zPair_at hd hf, zPair_at (G2.2.1 _ _ hb hd) hf, zPair_at hb (G2.2.1 _ _ hd hf), G1.2.2.2.1 a c e ha hc he, G2.2.2.2.1 b d f hb hd hf]
  · obtain ⟨a, b, ha, hb, rfl⟩ := hs x hx
    obtain ⟨c, hc, e1⟩ := G1.2.2.2.2 a ha
    obtain ⟨d, hd, e2⟩ := G2.2.2.2.2 b hb
    refine ⟨n * c + d, zPair_lt hc hd, ?_⟩
    rw [zPair_at hb hd, e1, e2, Nat.mul_zero]
