/-! BITS OF A LONG: looked at and set -/
theorem jB_tb (v : Int64) (i : Nat) : jB v i ↔ (jN v).testBit i = true := by
  unfold jB
  rw [Nat.testBit_eq_decide_div_mod_eq, decide_eq_true_eq]
theorem jB_sh1 : ∀ i, i < 64 → ((nI i).toInt64 &&& 63).toBitVec.smod 64 = BitVec.ofNat 64 i := by decide +kernel
theorem jB_sh2 : ∀ i, i < 64 → jN ((1 : Int64) <<< ((nI i).toInt64 &&& 63)) = 2 ^ i := by decide +kernel
theorem jB_sar (v : Int64) {i : Nat} (hi : i < 64) : jN (v >>> ((nI i).toInt64 &&& 63)) % 2 = jN v / 2 ^ i % 2 := by
  have h1 : (jN (v >>> ((nI i).toInt64 &&& 63))).testBit 0 = (jN v).testBit i := by
    have e : (v >>> ((nI i).toInt64 &&& 63)).toBitVec = v.toBitVec.sshiftRight i := by
      rw [Int64.toBitVec_shiftRight, jB_sh1 i hi]
      show v.toBitVec.sshiftRight (BitVec.ofNat 64 i).toNat = _
      rw [BitVec.toNat_ofNat, Nat.mod_eq_of_lt (by omega)]
    show (v >>> ((nI i).toInt64 &&& 63)).toBitVec.getLsbD 0 = v.toBitVec.getLsbD i
    rw [e, BitVec.getLsbD_sshiftRight]
    simp
    intro h
    omega
  rw [Nat.testBit_eq_decide_div_mod_eq, Nat.testBit_eq_decide_div_mod_eq] at h1
  have h2 := decide_eq_decide.mp h1
  rw [Nat.pow_zero, Nat.div_one] at h2
  omega
theorem jB_z {v : Int64} : v = 0 ↔ jN v = 0 := by
  constructor
  · intro h; rw [h]; rfl
  · intro h
    have h2 : v.toUInt64 = 0 := UInt64.toNat_inj.mp h
    have : v = v.toUInt64.toInt64 := (Int64.toInt64_toUInt64 v).symm
    rw [this, h2]; rfl
theorem jB_test (v : Int64) {i : Nat} (hi : i < 64) : lg_cmp ((v >>> ((nI i).toInt64 &&& 63)) &&& 1) 0 = 0 ↔ ¬ jB v i := by
  rw [lg_cmp_eq, jB_z, jN_and, show jN 1 = 1 from rfl, Nat.and_one_is_mod, jB_sar v hi]
  unfold jB
  omega
theorem jB_or (a b : Int64) (j : Nat) : jB (a ||| b) j ↔ jB a j ∨ jB b j := by
  rw [jB_tb, jB_tb, jB_tb, jN_or, Nat.testBit_or, Bool.or_eq_true]
theorem jB_set (v : Int64) {i : Nat} (hi : i < 64) (j : Nat) : jB (v ||| ((1 : Int64) <<< ((nI i).toInt64 &&& 63))) j ↔ jB v j ∨ j = i := by
  rw [jB_or]
  have : jB ((1 : Int64) <<< ((nI i).toInt64 &&& 63)) j ↔ j = i := by
    rw [jB_tb, jB_sh2 i hi, Nat.testBit_two_pow, decide_eq_true_eq]
    exact eq_comm
  rw [this]
theorem jB_0 (j : Nat) : ¬ jB 0 j := by
  rw [jB_tb, show jN 0 = 0 from rfl, Nat.zero_testBit]
  simp
theorem jB_1 (j : Nat) : jB 1 j ↔ j = 0 := by
  rw [jB_tb, show jN 1 = 2 ^ 0 from rfl, Nat.testBit_two_pow, decide_eq_true_eq]
  exact eq_comm
