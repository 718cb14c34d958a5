/-! BITS OF A LONG: the machine's words for them -/
def jN (v : Int64) : Nat := v.toUInt64.toNat
def jB (v : Int64) (i : Nat) : Prop := jN v / 2 ^ i % 2 = 1
theorem jN_lt (v : Int64) : jN v < 18446744073709551616 := v.toUInt64.toNat_lt
theorem jN_and (a b : Int64) : jN (a &&& b) = jN a &&& jN b := by
  show (a &&& b).toUInt64.toNat = _
  rw [Int64.toUInt64_and, UInt64.toNat_and]; rfl
theorem jN_or (a b : Int64) : jN (a ||| b) = jN a ||| jN b := by
  show (a ||| b).toUInt64.toNat = _
  rw [Int64.toUInt64_or, UInt64.toNat_or]; rfl
theorem jN_add {a b : Int64} (h : jN a + jN b < 18446744073709551616) : jN (a + b) = jN a + jN b := by
  show (a + b).toUInt64.toNat = _
  rw [Int64.toUInt64_add, UInt64.toNat_add]
  exact Nat.mod_eq_of_lt h
theorem jN_sub {a b : Int64} (h : jN b ≤ jN a) : jN (a - b) = jN a - jN b := by
  show (a - b).toUInt64.toNat = _
  rw [Int64.toUInt64_sub, UInt64.toNat_sub_of_le _ _ (UInt64.le_iff_toNat_le.mpr h)]; rfl
theorem jN_shr (a : Int64) (k : UInt64) : jN (a.toUInt64 >>> k).toInt64 = jN a / 2 ^ (k.toNat % 64) := by
  show (a.toUInt64 >>> k).toInt64.toUInt64.toNat = _
  rw [UInt64.toUInt64_toInt64, UInt64.toNat_shiftRight, Nat.shiftRight_eq_div_pow]; rfl
theorem jN_low (a : Int64) : a.toInt32 &&& 127 = nI (jN a % 128) := by
  apply Int32.toBitVec_inj.mp
  apply BitVec.eq_of_toNat_eq
  rw [Int32.toBitVec_and, BitVec.toNat_and]
  show (a.toInt32.toBitVec.toNat &&& 127) = (nI (jN a % 128)).toBitVec.toNat
  have e1 : a.toInt32.toBitVec.toNat = jN a % 4294967296 := by
    show (a.toBitVec.signExtend 32).toNat = _
    rw [BitVec.signExtend_eq_setWidth_of_le _ (by omega), BitVec.toNat_setWidth]
    rfl
  have e2 : (nI (jN a % 128)).toBitVec.toNat = jN a % 128 % 4294967296 := rfl
  rw [e1, e2, show (127 : Nat) = 2 ^ 7 - 1 from rfl, Nat.and_two_pow_sub_one_eq_mod]
  omega
theorem bcN_at : ∀ (k x : Nat), bcN k x = nC (fun i => x / 2 ^ i % 2 = 1) (8 * k)
  | 0, x => rfl
  | k + 1, x => by
    have e := nC_split (fun i => x / 2 ^ i % 2 = 1) 8 (8 * k)
    rw [show 8 * (k + 1) = 8 + 8 * k by omega, e]
    show bcB (x % 256) + bcN k (x / 256) = _
    rw [bcN_at k (x / 256)]
    have e2 : nC (fun i => x / 2 ^ (8 + i) % 2 = 1) (8 * k) = nC (fun i => x / 256 / 2 ^ i % 2 = 1) (8 * k) := by
      congr 1
      funext i
      rw [Nat.pow_add, ← Nat.div_div_eq_div_mul]
    rw [e2]
    congr 1
    have st : ∀ j, nC (fun i => x / 2 ^ i % 2 = 1) (j + 1) = nC (fun i => x / 2 ^ i % 2 = 1) j + x / 2 ^ j % 2 := by
      intro j
      by_cases h : x / 2 ^ j % 2 = 1
      · rw [nC_t (P := fun i => x / 2 ^ i % 2 = 1) h, h]
      · rw [nC_f (P := fun i => x / 2 ^ i % 2 = 1) h]; omega
    rw [st 7, st 6, st 5, st 4, st 3, st 2, st 1, st 0]
    have z : nC (fun i => x / 2 ^ i % 2 = 1) 0 = 0 := rfl
    rw [z]
    unfold bcB
    simp only [Nat.reducePow]
    omega
theorem c_bitCount {F : Nat} {v : Int64} {w : gW} : mJ13_bitCount_95d88 F v w = some (nI (nC (jB v) 64), w) := by
  have hx : jN v < 256 ^ 8 := jN_lt v
  obtain ⟨y, z, u, y1, y2, z1, z2, z3, u1, u2⟩ := bc_nat hx
  have s1 : ∀ a : Int64, jN (a.toUInt64 >>> ((1 : Int32).toInt64.toUInt64 &&& Int64.toUInt64 63)).toInt64 = jN a / 2 := fun a => jN_shr a _
  have s2 : ∀ a : Int64, jN (a.toUInt64 >>> ((2 : Int32).toInt64.toUInt64 &&& Int64.toUInt64 63)).toInt64 = jN a / 4 := fun a => jN_shr a _
  have s4 : ∀ a : Int64, jN (a.toUInt64 >>> ((4 : Int32).toInt64.toUInt64 &&& Int64.toUInt64 63)).toInt64 = jN a / 16 := fun a => jN_shr a _
  have s8 : ∀ a : Int64, jN (a.toUInt64 >>> ((8 : Int32).toInt64.toUInt64 &&& Int64.toUInt64 63)).toInt64 = jN a / 256 := fun a => jN_shr a _
  have s16 : ∀ a : Int64, jN (a.toUInt64 >>> ((16 : Int32).toInt64.toUInt64 &&& Int64.toUInt64 63)).toInt64 = jN a / 65536 := fun a => jN_shr a _
  have s32 : ∀ a : Int64, jN (a.toUInt64 >>> ((32 : Int32).toInt64.toUInt64 &&& Int64.toUInt64 63)).toInt64 = jN a / 4294967296 := fun a => jN_shr a _
  have m1 : jN 6148914691236517205 = bcM 85 8 := rfl
  have m2 : jN 3689348814741910323 = bcM 51 8 := rfl
  have m3 : jN 1085102592571150095 = bcM 15 8 := rfl
  unfold mJ13_bitCount_95d88
  generalize hY : v - ((v.toUInt64 >>> ((1 : Int32).toInt64.toUInt64 &&& Int64.toUInt64 63)).toInt64 &&& 6148914691236517205) = Y
  have jY : jN Y = y := by
    rw [← hY, jN_sub (by rw [jN_and, s1, m1]; exact y2), jN_and, s1, m1, y1]
  generalize hZ : (Y &&& 3689348814741910323) + ((Y.toUInt64 >>> ((2 : Int32).toInt64.toUInt64 &&& Int64.toUInt64 63)).toInt64 &&& 3689348814741910323) = Z
  have jZ : jN Z = z := by
    rw [← hZ, jN_add (by rw [jN_and, jN_and, s2, m2, jY, ← z1]; exact z2), jN_and, jN_and, s2, m2, jY, z1]
  generalize hU : (Z + (Z.toUInt64 >>> ((4 : Int32).toInt64.toUInt64 &&& Int64.toUInt64 63)).toInt64) &&& 1085102592571150095 = U
  have jU : jN U = u := by
    rw [← hU, jN_and, jN_add (by rw [s4, jZ]; exact z3), s4, m3, jZ, u1]
  obtain ⟨a1, b1, c1, d1⟩ := bc_fold (x := jN v) rfl rfl rfl
  rw [← u2] at a1 b1 c1 d1
  generalize hA : U + (U.toUInt64 >>> ((8 : Int32).toInt64.toUInt64 &&& Int64.toUInt64 63)).toInt64 = A
  have jA : jN A = u + u / 256 := by
    rw [← hA, jN_add (by rw [s8, jU]; exact a1), s8, jU]
  generalize hB : A + (A.toUInt64 >>> ((16 : Int32).toInt64.toUInt64 &&& Int64.toUInt64 63)).toInt64 = B
  have jB' : jN B = u + u / 256 + (u + u / 256) / 65536 := by
    rw [← hB, jN_add (by rw [s16, jA]; exact b1), s16, jA]
  generalize hC : B + (B.toUInt64 >>> ((32 : Int32).toInt64.toUInt64 &&& Int64.toUInt64 63)).toInt64 = C
  have jC : jN C % 128 = bcN 8 (jN v) := by
    rw [← d1, ← hC, jN_add (by rw [s32, jB']; exact c1), s32, jB']
  rw [jN_low, jC, bcN_at 8]
  rfl
