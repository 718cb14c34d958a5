/-! HOW MANY BITS OF A LONG ARE SET -/
theorem bc_split (x m : Nat) : x &&& m = (x % 256 &&& m % 256) + 256 * (x / 256 &&& m / 256) := by
  have h := Nat.div_add_mod (x &&& m) 256
  have h1 : (x &&& m) / 256 = x / 256 &&& m / 256 := Nat.and_div_two_pow (n := 8)
  have h2 : (x &&& m) % 256 = x % 256 &&& m % 256 := Nat.and_mod_two_pow (n := 8)
  rw [h1, h2] at h
  omega
def bcM (c : Nat) : Nat → Nat
  | 0 => 0
  | k + 1 => c + 256 * bcM c k
def bcS (f : Nat → Nat) : Nat → Nat → Nat
  | 0, _ => 0
  | k + 1, x => f (x % 256) + 256 * bcS f k (x / 256)
theorem bcM_and {c : Nat} (hc : c < 256) (k x : Nat) : x &&& bcM c (k + 1) = (x % 256 &&& c) + 256 * (x / 256 &&& bcM c k) := by
  rw [bc_split]
  show (x % 256 &&& (c + 256 * bcM c k) % 256) + 256 * (x / 256 &&& (c + 256 * bcM c k) / 256) = _
  rw [show (c + 256 * bcM c k) % 256 = c by omega, show (c + 256 * bcM c k) / 256 = bcM c k by omega]
theorem bc_and {c : Nat} (hc : c < 256) : ∀ (k x : Nat), x &&& bcM c k = bcS (fun b => b &&& c) k x
  | 0, x => Nat.and_zero x
  | k + 1, x => by rw [bcM_and hc, bc_and hc k]; rfl
theorem bc_d55 : ∀ b, b < 256 → ∀ e, e < 2 → (b / 2 + 128 * e) &&& 85 = b / 2 &&& 85 := by decide +kernel
theorem bc_d33 : ∀ b, b < 256 → ∀ e, e < 4 → (b / 4 + 64 * e) &&& 51 = b / 4 &&& 51 := by decide +kernel
theorem bc_h55 : ∀ (k x : Nat), x / 2 &&& bcM 85 k = bcS (fun b => b / 2 &&& 85) k x
  | 0, x => Nat.and_zero _
  | k + 1, x => by
    rw [bcM_and (by omega), show x / 2 / 256 = x / 256 / 2 by omega, bc_h55 k]
    show _ = (x % 256 / 2 &&& 85) + 256 * bcS _ k (x / 256)
    rw [← bc_d55 (x % 256) (by omega) (x / 256 % 2) (by omega), show x / 2 % 256 = x % 256 / 2 + 128 * (x / 256 % 2) by omega]
theorem bc_h33 : ∀ (k x : Nat), x / 4 &&& bcM 51 k = bcS (fun b => b / 4 &&& 51) k x
  | 0, x => Nat.and_zero _
  | k + 1, x => by
    rw [bcM_and (by omega), show x / 4 / 256 = x / 256 / 4 by omega, bc_h33 k]
    show _ = (x % 256 / 4 &&& 51) + 256 * bcS _ k (x / 256)
    rw [← bc_d33 (x % 256) (by omega) (x / 256 % 4) (by omega), show x / 4 % 256 = x % 256 / 4 + 64 * (x / 256 % 4) by omega]
theorem bcS_add (f g : Nat → Nat) : ∀ (k x : Nat), bcS f k x + bcS g k x = bcS (fun b => f b + g b) k x
  | 0, x => rfl
  | k + 1, x => by
    have := bcS_add f g k (x / 256)
    show (f (x % 256) + 256 * bcS f k (x / 256)) + (g (x % 256) + 256 * bcS g k (x / 256)) = (f (x % 256) + g (x % 256)) + 256 * _
    rw [← this]; omega
theorem bcS_id : ∀ (k x : Nat), x < 256 ^ k → bcS (fun b => b) k x = x
  | 0, x, h => by show 0 = x; have : (256 : Nat) ^ 0 = 1 := rfl; omega
  | k + 1, x, h => by
    have : x / 256 < 256 ^ k := by
      rw [Nat.pow_succ] at h
      exact (Nat.div_lt_iff_lt_mul (by omega)).mpr h
    show x % 256 + 256 * bcS _ k (x / 256) = x
    rw [bcS_id k _ this]; omega
theorem bcS_eq {f g : Nat → Nat} (h : ∀ b, b < 256 → f b = g b) : ∀ (k x : Nat), bcS f k x = bcS g k x
  | 0, x => rfl
  | k + 1, x => by
    show f (x % 256) + 256 * bcS f k (x / 256) = g (x % 256) + 256 * bcS g k (x / 256)
    rw [bcS_eq h k, h _ (Nat.mod_lt _ (by omega))]
theorem bcS_co {f g : Nat → Nat} (h : ∀ b, b < 256 → g b < 256) : ∀ (k x : Nat), bcS f k (bcS g k x) = bcS (fun b => f (g b)) k x
  | 0, x => rfl
  | k + 1, x => by
    have h1 := h (x % 256) (Nat.mod_lt _ (by omega))
    show f ((g (x % 256) + 256 * bcS g k (x / 256)) % 256) + 256 * bcS f k ((g (x % 256) + 256 * bcS g k (x / 256)) / 256) = f (g (x % 256)) + 256 * bcS (fun b => f (g b)) k (x / 256)
    rw [show (g (x % 256) + 256 * bcS g k (x / 256)) % 256 = g (x % 256) by omega, show (g (x % 256) + 256 * bcS g k (x / 256)) / 256 = bcS g k (x / 256) by omega, bcS_co h k]
theorem bcS_lt {f : Nat → Nat} (h : ∀ b, b < 256 → f b < 256) : ∀ (k x : Nat), bcS f k x < 256 ^ k
  | 0, x => by show 0 < 256 ^ 0; decide
  | k + 1, x => by
    have h1 := h (x % 256) (Nat.mod_lt _ (by omega))
    have := bcS_lt h k (x / 256)
    show f (x % 256) + 256 * bcS f k (x / 256) < 256 ^ (k + 1)
    rw [Nat.pow_succ]; omega
theorem bcS_nib {h : Nat → Nat} (hh : ∀ b, b < 256 → h b % 16 ≤ 4) (k x : Nat) : bcS h k x % 16 ≤ 4 := by
  cases k with
  | zero => exact Nat.zero_le _
  | succ k =>
    have := hh (x % 256) (Nat.mod_lt _ (by omega))
    show (h (x % 256) + 256 * bcS h k (x / 256)) % 16 ≤ 4
    omega
theorem bc_d0f : ∀ p, p ≤ 4 → ∀ q, q ≤ 4 → ∀ r, r ≤ 4 → (16 * p + q + p + 16 * r) &&& 15 = q + p := by decide +kernel
theorem bc_h0f {h : Nat → Nat} (hh : ∀ b, b < 256 → h b % 16 ≤ 4 ∧ h b / 16 ≤ 4) : ∀ (k x : Nat), (bcS h k x + bcS h k x / 16) &&& bcM 15 k = bcS (fun b => h b % 16 + h b / 16) k x
  | 0, x => Nat.and_zero _
  | k + 1, x => by
    have h1 := hh (x % 256) (Nat.mod_lt _ (by omega))
    have h2 := bcS_nib (fun b hb => (hh b hb).1) k (x / 256)
    have ih := bc_h0f hh k (x / 256)
    rw [bcM_and (by omega)]
    have e : bcS h (k + 1) x = h (x % 256) + 256 * bcS h k (x / 256) := rfl
    have e2 : bcS (fun b => h b % 16 + h b / 16) (k + 1) x = (h (x % 256) % 16 + h (x % 256) / 16) + 256 * bcS (fun b => h b % 16 + h b / 16) k (x / 256) := rfl
    rw [e, e2, ← ih]
    generalize bcS h k (x / 256) = z at *
    generalize h (x % 256) = b at *
    rw [show (b + 256 * z + (b + 256 * z) / 16) / 256 = z + z / 16 by omega, show (b + 256 * z + (b + 256 * z) / 16) % 256 = 16 * (b / 16) + b % 16 + b / 16 + 16 * (z % 16) by omega, bc_d0f _ h1.2 _ h1.1 _ h2]
/-- the bits of a byte -/
def bcB (b : Nat) : Nat := b % 2 + b / 2 % 2 + b / 4 % 2 + b / 8 % 2 + b / 16 % 2 + b / 32 % 2 + b / 64 % 2 + b / 128 % 2
theorem bc_byte : ∀ b, b < 256 → (b / 2 &&& 85) ≤ b ∧ b - (b / 2 &&& 85) < 256 ∧ ((b - (b / 2 &&& 85)) &&& 51) + ((b - (b / 2 &&& 85)) / 4 &&& 51) < 256 ∧ (((b - (b / 2 &&& 85)) &&& 51) + ((b - (b / 2 &&& 85)) / 4 &&& 51)) % 16 ≤ 4 ∧ (((b - (b / 2 &&& 85)) &&& 51) + ((b - (b / 2 &&& 85)) / 4 &&& 51)) / 16 ≤ 4 ∧ (((b - (b / 2 &&& 85)) &&& 51) + ((b - (b / 2 &&& 85)) / 4 &&& 51)) % 16 + (((b - (b / 2 &&& 85)) &&& 51) + ((b - (b / 2 &&& 85)) / 4 &&& 51)) / 16 = bcB b ∧ bcB b ≤ 8 := by decide +kernel
