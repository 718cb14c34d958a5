/-! NUMBERS MODULO p; the class's small functions -/
def fC {p : Nat} [NeZero p] (z : Int) : Fin p := ⟨(z % p).toNat, by
  have h0 : 0 < p := Nat.pos_of_ne_zero (NeZero.ne p)
  have := Int.emod_lt_of_pos z (show (0 : Int) < p by omega)
  have := Int.emod_nonneg z (show (p : Int) ≠ 0 by omega)
  omega⟩
theorem fP {p : Nat} [NeZero p] : 0 < p := Nat.pos_of_ne_zero (NeZero.ne p)
theorem fC_val {p : Nat} [NeZero p] (z : Int) : (((fC z : Fin p).val : Nat) : Int) = z % p := Int.toNat_of_nonneg (Int.emod_nonneg z (by have := fP (p := p); omega))
theorem fC_ext {p : Nat} [NeZero p] {a b : Int} (h : a % p = b % p) : (fC a : Fin p) = fC b := by
  apply Fin.ext
  have h1 := fC_val (p := p) a
  have h2 := fC_val (p := p) b
  omega
theorem fC_inj {p : Nat} [NeZero p] {a b : Int} (h : (fC a : Fin p) = fC b) : a % p = b % p := by
  rw [← fC_val (p := p) a, ← fC_val (p := p) b, h]
theorem fC_add {p : Nat} [NeZero p] (a b : Int) : (fC (a + b) : Fin p) = fC a + fC b := by
  apply Fin.ext
  have : (((fC (a + b) : Fin p).val : Nat) : Int) = (((fC a + fC b : Fin p).val : Nat) : Int) := by
    rw [fC_val, Fin.val_add, Int.natCast_emod, Int.natCast_add, fC_val, fC_val, ← Int.add_emod]
  omega
theorem fC_mul {p : Nat} [NeZero p] (a b : Int) : (fC (a * b) : Fin p) = fC a * fC b := by
  apply Fin.ext
  have : (((fC (a * b) : Fin p).val : Nat) : Int) = (((fC a * fC b : Fin p).val : Nat) : Int) := by
    rw [fC_val, Fin.val_mul, Int.natCast_emod, Int.natCast_mul, fC_val, fC_val, ← Int.mul_emod]
  omega
theorem fC_0 {p : Nat} [NeZero p] : (fC 0 : Fin p) = 0 := by
  apply Fin.ext
  have := fC_val (p := p) 0
  rw [Int.zero_emod] at this
  show _ = 0 % p
  rw [Nat.zero_mod]; omega
theorem fC_1 {p : Nat} [NeZero p] : (fC 1 : Fin p) = 1 := by
  apply Fin.ext
  have := fC_val (p := p) 1
  have e : ((1 : Nat) % p : Nat) = (1 : Fin p).val := rfl
  rw [← e]
  have e2 : (((1 : Nat) % p : Nat) : Int) = (1 : Int) % (p : Int) := Int.natCast_emod 1 p
  omega
theorem fC_p {p : Nat} [NeZero p] : (fC (p : Int) : Fin p) = 0 := by
  rw [← fC_0]; exact fC_ext (by rw [Int.emod_self, Int.zero_emod])
theorem fC_neg {p : Nat} [NeZero p] (a : Int) : (fC (-a) : Fin p) = -fC a := by
  have h : (fC (a + -a) : Fin p) = fC a + fC (-a) := fC_add a (-a)
  rw [Int.add_right_neg, fC_0] at h
  grind
theorem fC_sub {p : Nat} [NeZero p] (a b : Int) : (fC (a - b) : Fin p) = fC a - fC b := by
  rw [Int.sub_eq_add_neg, fC_add, fC_neg]; grind
theorem fC_v {p : Nat} [NeZero p] (a : Fin p) : fC ((a.val : Nat) : Int) = a := by
  apply Fin.ext
  have := fC_val (p := p) ((a.val : Nat) : Int)
  have e : ((a.val : Nat) : Int) % (p : Int) = a.val := Int.emod_eq_of_lt (by omega) (by have := a.2; omega)
  omega
theorem fV_lt {p : Nat} (a : Fin p) : (0 : Int) ≤ (a.val : Int) ∧ (a.val : Int) < p := ⟨by omega, by have := a.2; omega⟩
theorem fV_0 {p : Nat} [NeZero p] {a : Fin p} : (a.val : Int) = 0 ↔ a = 0 := by
  constructor
  · intro h
    apply Fin.ext
    show a.val = 0 % p
    rw [Nat.zero_mod]; omega
  · intro h
    rw [h]
    show ((0 % p : Nat) : Int) = 0
    rw [Nat.zero_mod]; rfl
theorem fC_e {p : Nat} [NeZero p] (z : Int) : z % p = (((fC z : Fin p).val : Nat) : Int) := (fC_val z).symm
theorem fC_m {p : Nat} [NeZero p] (z : Int) : (fC (z % p) : Fin p) = fC z := fC_ext (Int.emod_emod_of_dvd z (Int.dvd_refl _))
theorem iO_xor {a b : Int} (h1 : -2147483648 ≤ a ∧ a < 2147483648) (hb : 0 ≤ b ∧ b < 2147483648) : (0 ≤ (Int32.ofInt a ^^^ Int32.ofInt b).toInt) ↔ 0 ≤ a := by
  have h := i_xor_sign a b.toNat h1.1 h1.2 (by omega)
  have e : nI b.toNat = Int32.ofInt b := by rw [← iO_nat, Int.toNat_of_nonneg hb.1]
  rw [e] at h
  rw [← h, Int32.le_iff_toInt_le, Int32.toInt_zero]
section YN
variable {F : Nat} {C : yC} {O : zO}
theorem y_mod {a b : Int} (ha : -2147483648 ≤ a ∧ a < 2147483648) (hb : 0 < b ∧ b < 2147483648) : zX6_mod F C a b O = some (a % b, O) := by
  unfold zX6_mod
  have hn := Int.emod_nonneg a (show b ≠ 0 by omega)
  have hm := Int.emod_lt_of_pos a hb.1
  have e : zJ9_floorMod_7cf53 F C a b O = some (a % b, O) := by
    unfold zJ9_floorMod_7cf53
    rw [zRem_o (by omega)]
    have r1 := (Int32.ofInt a ^^^ Int32.ofInt b).le_toInt
    have r2 := (Int32.ofInt a ^^^ Int32.ofInt b).toInt_lt
    by_cases q : 0 ≤ a
    · have := (iO_xor ha ⟨by omega, hb.2⟩).mpr q
      rw [zLe_t (by omega), Int.tmod_eq_emod_of_nonneg q]
    · have : ¬ 0 ≤ (Int32.ofInt a ^^^ Int32.ofInt b).toInt := fun u => q ((iO_xor ha ⟨by omega, hb.2⟩).mp u)
      have e2 : a.tmod b = if a % b = 0 then 0 else a % b - b := by
        rw [Int.tmod_eq_emod]
        by_cases q2 : a % b = 0
        · rw [if_pos (Or.inr (Int.dvd_of_emod_eq_zero q2)), if_pos q2]; omega
        · rw [if_neg (by rintro (h | h); exact q h; exact q2 (Int.emod_eq_zero_of_dvd h)), if_neg q2]; omega
      rw [zLe_f (by omega), e2]
      by_cases q2 : a % b = 0
      · rw [if_pos q2, zEq_t (by omega), q2]
      · rw [if_neg q2, zEq_f (by omega)]
        congr 2; omega
  rw [zLe_f (by omega), yC1_o e]
theorem y_modC {p : Nat} [NeZero p] {z : Int} (hp : p < 100) (hz : -2147483648 ≤ z ∧ z < 2147483648) : zX6_mod F C z p O = some ((((fC z : Fin p).val : Nat) : Int), O) := by
  have := fP (p := p)
  rw [y_mod hz (by omega), fC_e]
theorem y_quot {a b : Int} (ha : 0 ≤ a ∧ a < 2147483648) (hb : 0 < b ∧ b < 2147483648) : zX6_quotient F C a b O = some (a / b, O) := by
  unfold zX6_quotient
  rw [zLe_f (by omega), zDiv_p (by omega)]
theorem y_power (hF : fF F) {b : Int} {k : Nat} (hk : k < 1000) : zX6_power F C b k O = some (b ^ k, O) := by
  refine iX6_power_l4 (I := fun v0 v1 v2 v3 w => b = v0 ∧ k = v1 ∧ O = w ∧ ∃ i : Nat, i = v3 ∧ b ^ i = v2 ∧ i ≤ k) (μ := fun _ _ _ v3 _ => (k - v3).toNat) (P := fun r => r = some (b ^ k, O)) ?_ F _ _ _ _ _ ⟨rfl, rfl, rfl, 0, rfl, Int.pow_zero _, by omega⟩ (by unfold fF at hF; omega)
  rintro r _ _ _ _ _ ⟨rfl, rfl, rfl, i, rfl, rfl, hi⟩ ih
  unfold zX6_power_h4
  by_cases q : i = k
  · subst q
    rw [zLe_t (by omega)]
  · rw [zLe_f (by omega)]
    exact ih _ _ _ _ _ ⟨rfl, rfl, rfl, i + 1, rfl, Int.pow_succ b i, by omega⟩ (by omega)
/-- digits added, without carrying -/
def dAdd (p a b : Int) : Nat → Int
  | 0 => 0
  | i + 1 => dAdd p a b i + p ^ i * ((a / p ^ i + b / p ^ i) % p)
theorem y_addDigits (hF : fF F) {a b p : Int} {k : Nat} (ha : 0 ≤ a ∧ a < 1000000000) (hb : 0 ≤ b ∧ b < 1000000000) (hp : 0 < p ∧ p < 100) (hk : k < 1000) (hpk : ∀ i, i < k → p ^ i < 2147483648) : zX6_addDigits F C a b p k O = some (dAdd p a b k, O) := by
  refine iX6_addDigits_l9 (I := fun v0 v1 v2 v3 v4 v5 v6 w => a = v0 ∧ b = v1 ∧ p = v2 ∧ k = v3 ∧ O = w ∧ ∃ i : Nat, i = v6 ∧ p ^ i = v5 ∧ dAdd p a b i = v4 ∧ i ≤ k) (μ := fun _ _ _ _ _ _ v6 _ => (k - v6).toNat) (P := fun r => r = some (dAdd p a b k, O)) ?_ F _ _ _ _ _ _ _ _ ⟨rfl, rfl, rfl, rfl, rfl, 0, rfl, Int.pow_zero _, rfl, by omega⟩ (by unfold fF at hF; omega)
  rintro r _ _ _ _ _ _ _ _ ⟨rfl, rfl, rfl, rfl, rfl, i, rfl, rfl, rfl, hi⟩ ih
  unfold zX6_addDigits_h9
  by_cases q : i = k
  · subst q
    rw [zLe_t (by omega)]
  · have h1 := hpk i (by omega)
    have h2 : 0 < p ^ i := Int.pow_pos hp.1
    have a1 : 0 ≤ a / p ^ i := Int.ediv_nonneg ha.1 (by omega)
    have a2 : a / p ^ i ≤ a := Int.ediv_le_self _ ha.1
    have b1 : 0 ≤ b / p ^ i := Int.ediv_nonneg hb.1 (by omega)
    have b2 : b / p ^ i ≤ b := Int.ediv_le_self _ hb.1
    rw [zLe_f (by omega), yC1_o (y_quot (by omega) (by omega)), yC1_o (y_quot (by omega) (by omega)), yC1_o (y_mod (by omega) (by omega))]
    exact ih _ _ _ _ _ _ _ _ ⟨rfl, rfl, rfl, rfl, rfl, i + 1, rfl, Int.pow_succ p i, rfl, by omega⟩ (by omega)
end YN
