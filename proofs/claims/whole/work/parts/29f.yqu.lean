/-! THE CLASS'S TWISTS: questions -/
/-- what solve leaves: bounds at b, standards at s, numbers at t -/
def ySol (p : Nat) [NeZero p] (O : zO) (t b s n r : Nat) (T : Nat → Nat → Nat) (M : Nat → Nat → Nat → Int) : Prop := ∃ (kB k : Nat) (RB R : Nat → fV p) (lB l : Nat → Nat), eAt (O b) ((n - 1) * (n - 1) * r) kB RB lB ∧ kB ≤ 14 ∧ fEch (fSpn ((n - 1) * (n - 1) * r) (gB (p := p) n r T M)) kB RB lB ∧ eAt (O s) ((n - 1) * (n - 1) * r) k R l ∧ k ≤ 12 ∧ fRref (NS (p := p) n r T M) k R l ∧ zI (O t) 3 = (r : Int) - dm0 p n r M ∧ zI (O t) 4 = dm0 p n r M ∧ zI (O t) 5 = ((n - 1) * r : Nat) ∧ zI (O t) 6 = (p ^ k : Nat)
theorem nB_dg {p : Nat} (hp : 0 < p) : ∀ {k : Nat} {a : Nat → Nat}, (∀ i, i < k → a i < p) → ∀ s, s < k → nB p k a / p ^ s % p = a s
  | 0, a, _, s, hs => by omega
  | k + 1, a, h, s, hs => by
    have h0 := h 0 (by omega)
    show (a 0 + p * nB p k (fun s => a (s + 1))) / p ^ s % p = a s
    by_cases c : s = 0
    · rw [c, Nat.pow_zero, Nat.div_one, Nat.add_mul_mod_self_left, Nat.mod_eq_of_lt h0]
    · obtain ⟨s, rfl⟩ : ∃ i, s = i + 1 := ⟨s - 1, by omega⟩
      have e : (a 0 + p * nB p k (fun s => a (s + 1))) / p = nB p k (fun s => a (s + 1)) := by
        rw [Nat.add_mul_div_left _ _ hp, Nat.div_eq_of_lt h0, Nat.zero_add]
      rw [Nat.pow_succ, Nat.mul_comm (p ^ s) p, ← Nat.div_div_eq_div_mul, e]
      exact nB_dg hp (fun i hi => h (i + 1) (by omega)) s (by omega)
theorem nB_lt {p : Nat} (hp : 0 < p) : ∀ {k : Nat} {a : Nat → Nat}, (∀ i, i < k → a i < p) → nB p k a < p ^ k
  | 0, a, _ => by show 0 < p ^ 0; rw [Nat.pow_zero]; omega
  | k + 1, a, h => by
    have ih := nB_lt hp (k := k) (a := fun s => a (s + 1)) (fun i hi => h (i + 1) (by omega))
    have h0 := h 0 (by omega)
    show a 0 + p * nB p k (fun s => a (s + 1)) < p ^ (k + 1)
    have := Nat.mul_le_mul_left p ih
    rw [Nat.pow_succ, Nat.mul_comm (p ^ k) p]
    rw [Nat.mul_succ] at this
    omega
theorem dgF_add {p : Nat} [NeZero p] (v w i : Nat) : (dgF p v i + dgF p w i).val = (v / p ^ i % p + w / p ^ i % p) % p := by
  have e : (dgF p v i + dgF p w i : Fin p) = fC (((v / p ^ i : Nat) : Int) + ((w / p ^ i : Nat) : Int)) := (fC_add _ _).symm
  have := fC_val (p := p) (((v / p ^ i : Nat) : Int) + ((w / p ^ i : Nat) : Int))
  rw [← e, ← Int.natCast_add, ← Int.natCast_emod] at this
  rw [Int.ofNat.inj this, Nat.add_mod]
section YQU
variable {F A g t b s n r k sh : Nat} {C : yC} {O : zO} {T : Nat → Nat → Nat} {M : Nat → Nat → Nat → Int} {l : Nat → Nat}
theorem ySol.dn {p : Nat} [NeZero p] (hI : fInv p) (h : ySol p O t b s n r T M) : zI (O b) 5 = (dmB p n r T M : Nat) ∧ zI (O s) 5 = (dmH p n r T M : Nat) ∧ zI (O t) 6 = (p ^ dmH p n r T M : Nat) ∧ dmB p n r T M ≤ 14 ∧ dmH p n r T M ≤ 12 := by
  obtain ⟨kB, k, RB, R, lB, l, a1, a2, a3, a4, a5, a6, a7, a8, a9, a10⟩ := h
  have e1 : kB = dmB p n r T M := fEch_count hI (fSpn_sub fun g hg => gB_ok hg) a3
  have e2 : k = dmH p n r T M := fEch_count hI (fAway_sub (fNul_sub _)) a6.1
  rw [← e1, ← e2]
  exact ⟨a1.1.2.2, a4.1.2.2, a10, a2, a5⟩
theorem y_dimensionOf {p : Nat} [NeZero p] (hI : fInv p) {v : Int} (h : ySol p O t b s n r T M) (kt : C.1 t = some (5, 0)) (hb : C.1 b = some (1, 14)) (htb : C.2 t 1 = some b) (hs : C.1 s = some (1, 12)) (hts : C.2 t 2 = some s) (hv : 0 ≤ v ∧ v ≤ 6) : zX5_dimensionOf F C t v O = some (dmV p n r T M v, O) := by
  obtain ⟨n1, n2, n3, n4, n5⟩ := h.dn hI
  obtain ⟨_, _, _, _, _, _, _, _, _, _, _, _, a7, a8, a9, _⟩ := h
  unfold zX5_dimensionOf dmV
  by_cases c0 : v = 0
  · rw [zEq_t (by omega), if_pos c0, yFI_o kt, a7]
  · by_cases c1 : v = 1
    · rw [zEq_f (by omega), zEq_t (by omega), if_neg c0, if_pos c1, yFI_o kt, yFR_o kt htb, yFI_o hb, a9, n1]
    · by_cases c2 : v = 2
      · rw [zEq_f (by omega), zEq_f (by omega), zEq_t (by omega), if_neg c0, if_neg c1, if_pos c2, yFI_o kt, a8]
      · by_cases c3 : v = 3
        · rw [zEq_f (by omega), zEq_f (by omega), zEq_f (by omega), zEq_t (by omega), if_neg c0, if_neg c1, if_neg c2, if_pos c3, yFR_o kt htb, yFI_o hb, yFR_o kt hts, yFI_o hs, n1, n2]
        · by_cases c4 : v = 4
          · rw [zEq_f (by omega), zEq_f (by omega), zEq_f (by omega), zEq_f (by omega), zEq_t (by omega), if_neg c0, if_neg c1, if_neg c2, if_neg c3, if_pos c4, yFR_o kt htb, yFI_o hb, n1]
          · by_cases c5 : v = 5
            · rw [zEq_f (by omega), zEq_f (by omega), zEq_f (by omega), zEq_f (by omega), zEq_f (by omega), zEq_t (by omega), if_neg c0, if_neg c1, if_neg c2, if_neg c3, if_neg c4, if_pos c5, yFR_o kt hts, yFI_o hs, n2]
            · rw [zEq_f (by omega), zEq_f (by omega), zEq_f (by omega), zEq_f (by omega), zEq_f (by omega), zEq_f (by omega), if_neg c0, if_neg c1, if_neg c2, if_neg c3, if_neg c4, if_neg c5, yFI_o kt, yFR_o kt htb, yFI_o hb, yFI_o kt, a9, n1, a8]
/-- solved, if it can be -/
def ySd (p : Nat) [NeZero p] (O : zO) (A t b s n r : Nat) (T : Nat → Nat → Nat) (M : Nat → Nat → Nat → Int) : Prop := (sdV n p r T M = 0 → zI (O A) 6 = 1 ∧ ySol p O t b s n r T M) ∧ (sdV n p r T M ≠ 0 → zI (O A) 6 = 0)
theorem y_refusalOf {p : Nat} [NeZero p] (hI : fInv p) {v : Int} (hp : 1 < p ∧ p ≤ 5) (h : ySd p O A t b s n r T M) (kA : C.1 A = some (0, 0)) (rt : C.2 A 1 = some t) (kt : C.1 t = some (5, 0)) (hv : -2147483648 ≤ v ∧ v < 2147483648) : zX6_refusalOf F C (some A) v O = some (lkV p n r T M v, O) := by
  unfold zX6_refusalOf lkV
  by_cases c0 : v < 0
  · rw [zLe_f (by omega), if_pos c0]
  · rw [zLe_t (by omega), if_neg c0, yFI_o kA]
    by_cases c1 : sdV n p r T M = 0
    · obtain ⟨h1, h2⟩ := h.1 c1
      obtain ⟨n1, n2, n3, n4, n5⟩ := h2.dn hI
      have hb := pw_b hp n5
      rw [h1, zEq_f (by omega), if_pos c1, yFR_o kA rt, yFI_o kt, n3]
      by_cases c2 : v < ((p ^ dmH p n r T M : Nat) : Int)
      · rw [zLe_f (by omega), if_pos c2]
      · rw [zLe_t (by omega), if_neg c2]
    · rw [h.2 c1, zEq_t (by omega), if_neg c1]
theorem y_isLane {v : Int} (hv : -2147483648 ≤ v ∧ v < 2147483648) : zX6_isLane F C v O = some (if 0 ≤ v ∧ v ≤ 1 then 1 else 0, O) := by
  unfold zX6_isLane zX6_isLane_b9
  by_cases c0 : v = 0
  · rw [zEq_t (by omega), if_pos (by omega)]
  · rw [zEq_f (by omega)]
    by_cases c1 : v = 1
    · rw [zEq_t (by omega), if_pos (by omega)]
    · rw [zEq_f (by omega), if_neg (by omega)]
theorem y_isNumber {p : Nat} {v : Int} (kA : C.1 A = some (0, 0)) (h3 : zI (O A) 3 = p) (hp : p < 100) (hv : -2147483648 ≤ v ∧ v < 2147483648) : zX0_isNumber F C A v O = some (if 0 ≤ v ∧ v < p then 1 else 0, O) := by
  unfold zX0_isNumber zX0_isNumber_b16
  by_cases c0 : v < 0
  · rw [zLt_t (by omega), if_neg (by omega)]
  · rw [zLt_f (by omega), yFI_o kA, h3]
    by_cases c1 : v < p
    · rw [zLe_f (by omega), if_pos (by omega)]
    · rw [zLe_t (by omega), if_neg (by omega)]
theorem y_has {v : Int} (kg : C.1 g = some (2, 0)) (h7 : zI (O g) 7 = n) (hn : n ≤ 48) (hv : -2147483648 ≤ v ∧ v < 2147483648) : zX2_has F C g v O = some (if 0 ≤ v ∧ v < n then 1 else 0, O) := by
  unfold zX2_has zX2_has_b16
  by_cases c0 : v < 0
  · rw [zLt_t (by omega), if_neg (by omega)]
  · rw [zLt_f (by omega), yFI_o kg, h7]
    by_cases c1 : v < n
    · rw [zLe_f (by omega), if_pos (by omega)]
    · rw [zLe_t (by omega), if_neg (by omega)]
theorem y_fault {t v len : Int} (ks : C.1 sh = some (4, 0)) (h1 : zI (O sh) 1 = t) (ht : t = -1 ∨ t = 0 ∨ t = 1) (hv : -2147483648 ≤ v ∧ v < 2147483648) (h2 : -2147483648 ≤ zI (O sh) 2 ∧ zI (O sh) 2 < 2147483648) (hl : -2147483648 ≤ len ∧ len < 2147483648) : zX4_faultOfReading F C sh v len O = some (if t = -1 then 1 else if t = v then (if len ≤ zI (O sh) 2 then 0 else 2) else 3, O) := by
  unfold zX4_faultOfReading
  rw [yFI_o ks, h1]
  by_cases c1 : t = -1
  · rw [zEq_t (by omega), if_pos c1]
  · rw [zEq_f (by omega), if_neg c1, yFI_o ks, h1]
    by_cases c2 : t = v
    · rw [zEq_t (by omega), if_pos c2, yFI_o ks]
      by_cases c3 : len ≤ zI (O sh) 2
      · rw [zLe_t (by omega), if_pos c3]
      · rw [zLe_f (by omega), if_neg c3]
    · rw [zEq_f (by omega), if_neg c2]
/-- the digits of a sum; of s times a sum -/
theorem y_sumD {p v w k : Nat} [NeZero p] (hF : fF F) (hp : 1 < p ∧ p ≤ 5) (hk : k ≤ 12) (hv : v < p ^ k) (hw : w < p ^ k) : zX6_addDigits F C (v : Nat) (w : Nat) (p : Nat) (k : Nat) O = some (((nB p k (fun s => (v / p ^ s % p + w / p ^ s % p) % p) : Nat) : Int), O) := by
  have hb := pw_b hp hk
  rw [y_addDigits hF (by omega) (by omega) (by omega) (by omega) (fun i hi => ?_), dAdd_nB]
  · have e : nB p k (fun i => (dgF p v i + dgF p w i).val) = nB p k (fun s => (v / p ^ s % p + w / p ^ s % p) % p) := nB_congr fun i _ => dgF_add v w i
    rw [e]
  · have := pw_b hp (show i ≤ 12 by omega)
    rw [← Int.natCast_pow]; omega
end YQU
