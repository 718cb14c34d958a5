/-! NUMBERS: remainders, signs -/
theorem iO_toInt {z : Int} (h1 : -2147483648 ≤ z) (h2 : z < 2147483648) : (Int32.ofInt z).toInt = z := by
  rw [Int32.toInt_ofInt]
  have e : (Int32.size : Int) = 4294967296 := by decide
  exact Int.bmod_eq_of_le (by omega) (by omega)
theorem iO_nat (n : Nat) : Int32.ofInt (n : Int) = nI n := by
  show Int32.ofInt (n : Int) = Int32.ofNat n
  first
    | exact Int32.ofInt_eq_ofNat
    | exact (Int32.ofInt_natCast n)
    | (apply Int32.toBitVec_inj.mp; show BitVec.ofInt 32 n = BitVec.ofNat 32 n; simp)
    | rfl
theorem iO_sub (a b : Nat) : nI a - nI b = Int32.ofInt ((a : Int) - b) := by
  rw [← iO_nat, ← iO_nat, ← Int32.ofInt_sub]
theorem i_rem {z : Int} {p : Nat} (h1 : -2147483648 ≤ z) (h2 : z < 2147483648) (hp : 0 < p) (hp2 : p < 2147483648) : Int32.ofInt z - Int32.ofInt z / nI p * nI p = Int32.ofInt (z.tmod p) := by
  have e : Int32.ofInt z / nI p = Int32.ofInt (z.tdiv p) := by
    rw [← iO_nat p]
    apply Int32.toInt_inj.mp
    rw [Int32.toInt_div, iO_toInt h1 h2, iO_toInt (by omega) (by omega), Int32.toInt_ofInt]
  rw [e, ← iO_nat p, ← Int32.ofInt_mul, ← Int32.ofInt_sub]
  congr 1
  have := Int.tmod_add_tdiv_mul z p
  omega
theorem i_xor_sign (z : Int) (p : Nat) (h1 : -2147483648 ≤ z) (h2 : z < 2147483648) (hp2 : p < 2147483648) : (0 ≤ Int32.ofInt z ^^^ nI p) ↔ 0 ≤ z := by
  have hx : ∀ x : Int32, 0 ≤ x ↔ x.toBitVec.msb = false := by
    intro x
    rw [Int32.le_iff_toInt_le, Int32.toInt_zero]
    show 0 ≤ x.toBitVec.toInt ↔ _
    rw [BitVec.msb_eq_toInt]
    simp
  rw [hx, Int32.toBitVec_xor, BitVec.msb_xor]
  have a1 : (nI p).toBitVec.msb = false := (hx _).mp (nI_pos' (by omega))
  rw [a1]
  simp only [Bool.xor_false]
  rw [← hx, Int32.le_iff_toInt_le, Int32.toInt_zero, iO_toInt h1 h2]
theorem c_floorMod {F : Nat} {z : Int} {p : Nat} {w : gW} (h1 : -2147483648 ≤ z) (h2 : z < 2147483648) (hp : 0 < p) (hp2 : p < 2147483648) : mJ9_floorMod_7cf53 F (Int32.ofInt z) (nI p) w = some (nI (z % p).toNat, w) := by
  unfold mJ9_floorMod_7cf53
  have e : gRem (Int32.ofInt z) (nI p) = some (Int32.ofInt (z.tmod p)) := by
    unfold gRem
    rw [if_neg (nI_ne0 hp (by omega)), i_rem h1 h2 hp hp2]
  rw [e, Option.bind_some]
  have hb : (z % p).toNat < p := by
    have := Int.emod_lt_of_pos z (show (0 : Int) < p by omega)
    have := Int.emod_nonneg z (show (p : Int) ≠ 0 by omega)
    omega
  have hn := Int.emod_nonneg z (show (p : Int) ≠ 0 by omega)
  by_cases hz : 0 ≤ z
  · rw [if_pos ((i_xor_sign z p h1 h2 hp2).mpr hz), Int.tmod_eq_emod_of_nonneg hz]
    rw [← iO_nat, Int.toNat_of_nonneg hn]
  · rw [if_neg (fun q => hz ((i_xor_sign z p h1 h2 hp2).mp q))]
    have hm := Int.emod_lt_of_pos z (show (0 : Int) < p by omega)
    have e2 : z.tmod p = if z % p = 0 then 0 else z % p - p := by
      rw [Int.tmod_eq_emod]
      by_cases q : z % p = 0
      · rw [if_pos (Or.inr (Int.dvd_of_emod_eq_zero q)), if_pos q]; omega
      · rw [if_neg (by rintro (h | h); exact hz h; exact q (Int.emod_eq_zero_of_dvd h)), if_neg q]; omega
    rw [e2]
    by_cases q : z % p = 0
    · rw [if_pos q, if_pos (by decide), q]; rfl
    · rw [if_neg q, if_neg (fun e => ?_)]
      · rw [← iO_nat, ← Int32.ofInt_add, ← iO_nat, Int.toNat_of_nonneg hn]
        congr 2
        congr 1
        omega
      · have := congrArg Int32.toInt e
        rw [iO_toInt (by omega) (by omega), Int32.toInt_zero] at this
        omega
theorem c_mod {F : Nat} {z : Int} {p : Nat} {w : gW} (h1 : -2147483648 ≤ z) (h2 : z < 2147483648) (hp : 0 < p) (hp2 : p < 2147483648) : mX6_mod F (Int32.ofInt z) (nI p) w = some (nI (z % p).toNat, w) := by
  unfold mX6_mod
  rw [if_neg (nI_nle hp (by omega)), c_floorMod h1 h2 hp hp2]
  rfl
theorem c_modN {F a p : Nat} {w : gW} (h2 : a < 2147483648) (hp : 0 < p) (hp2 : p < 2147483648) : mX6_mod F (nI a) (nI p) w = some (nI (a % p), w) := by
  rw [← iO_nat a, c_mod (by omega) (by omega) hp hp2]
  congr 3
theorem c_min {F a b : Nat} {w : gW} (ha : a < 2147483648) (hb : b < 2147483648) : mJ9_min_7cf53 F (nI a) (nI b) w = some (nI (min a b), w) := by
  unfold mJ9_min_7cf53
  by_cases h : b < a
  · rw [if_pos ((nI_ltI (by omega) (by omega)).mpr h), Nat.min_eq_right (by omega)]
  · rw [if_neg (fun q => h ((nI_ltI (by omega) (by omega)).mp q)), Nat.min_eq_left (by omega)]
theorem c_max0 {F a : Nat} {w : gW} (ha : a < 2147483648) : mJ9_max_7cf53 F (nI a) 0 w = some (nI a, w) := by
  unfold mJ9_max_7cf53
  rw [if_neg (nI_pos (by omega))]
theorem c_quot {F a b : Nat} {w : gW} (ha : a < 2147483648) (hb0 : 0 < b) (hb : b < 2147483648) : mX6_quotient F (nI a) (nI b) w = some (nI (a / b), w) := by
  unfold mX6_quotient
  rw [if_neg (nI_nle hb0 (by omega))]
  have e : gDiv (nI a) (nI b) = some (nI (a / b)) := by
    unfold gDiv
    rw [if_neg (nI_ne0 hb0 (by omega)), pk_div (by omega) hb0 (by omega)]
  rw [e]; rfl
theorem gRemN {a b : Nat} (ha : a < 2147483648) (hb0 : 0 < b) (hb : b < 2147483648) : gRem (nI a) (nI b) = some (nI (a % b)) := by
  unfold gRem
  rw [if_neg (nI_ne0 hb0 (by omega)), pk_rem (by omega) hb0 (by omega)]
theorem gDivN {a b : Nat} (ha : a < 2147483648) (hb0 : 0 < b) (hb : b < 2147483648) : gDiv (nI a) (nI b) = some (nI (a / b)) := by
  unfold gDiv
  rw [if_neg (nI_ne0 hb0 (by omega)), pk_div (by omega) hb0 (by omega)]
/-! a layout, looked at by a program -/
def oOwn (e : Nat × Nat × Nat) : Bool := e.1 != 0 && (e.1 != 2 && e.1 != 4)
def oLayB (lay : oLy) (size : Nat) : Bool := (List.range lay.length).all fun k => !oOwn (lay.getD k (0, 0, 0)) || (decide (0 < (lay.getD k (0, 0, 0)).2.1) && (decide ((lay.getD k (0, 0, 0)).2.1 < size) && (List.range lay.length).all fun l => !oOwn (lay.getD l (0, 0, 0)) || (!((lay.getD k (0, 0, 0)).2.1 == (lay.getD l (0, 0, 0)).2.1) || k == l)))
theorem oOwn_t {e : Nat × Nat × Nat} (h0 : e.1 ≠ 0) (h2 : e.1 ≠ 2) (h4 : e.1 ≠ 4) : oOwn e = true := by simp [oOwn, h0, h2, h4]
theorem oLay_of {lay : oLy} {size : Nat} (h : oLayB lay size = true) : oLay lay size := by
  unfold oLayB at h
  rw [List.all_eq_true] at h
  refine ⟨fun k hk l hl a0 a2 a4 b0 b2 b4 e => ?_, fun k hk a0 a2 a4 => ?_⟩
  · have h1 := h k (List.mem_range.mpr hk)
    rw [oOwn_t a0 a2 a4] at h1
    simp only [Bool.not_true, Bool.false_or, Bool.and_eq_true, List.all_eq_true] at h1
    have h2 := h1.2.2 l (List.mem_range.mpr hl)
    rw [oOwn_t b0 b2 b4, e] at h2
    simpa using h2
  · have h1 := h k (List.mem_range.mpr hk)
    rw [oOwn_t a0 a2 a4] at h1
    simp only [Bool.not_true, Bool.false_or, Bool.and_eq_true, decide_eq_true_eq] at h1
    exact ⟨h1.1, h1.2.1⟩
