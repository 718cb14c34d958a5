/-! COUNTING: how many places below a bound have a property -/
noncomputable def nC (P : Nat → Prop) : Nat → Nat
  | 0 => 0
  | n + 1 => nC P n + @ite Nat (P n) (Classical.propDecidable _) 1 0
theorem nC_t {P : Nat → Prop} {n : Nat} (h : P n) : nC P (n + 1) = nC P n + 1 := by
  show nC P n + _ = _; rw [if_pos h]
theorem nC_f {P : Nat → Prop} {n : Nat} (h : ¬ P n) : nC P (n + 1) = nC P n := by
  show nC P n + _ = _; rw [if_neg h]; rfl
theorem nC_le (P : Nat → Prop) (n : Nat) : nC P n ≤ n := by
  induction n with
  | zero => exact Nat.le_refl _
  | succ n ih =>
    by_cases h : P n
    · rw [nC_t h]; omega
    · rw [nC_f h]; omega
theorem nC_congr {P Q : Nat → Prop} {n : Nat} (h : ∀ i, i < n → (P i ↔ Q i)) : nC P n = nC Q n := by
  induction n with
  | zero => rfl
  | succ n ih =>
    have h1 := ih fun i hi => h i (by omega)
    by_cases hp : P n
    · rw [nC_t hp, nC_t ((h n (by omega)).mp hp), h1]
    · rw [nC_f hp, nC_f (fun q => hp ((h n (by omega)).mpr q)), h1]
theorem nC_mono {P Q : Nat → Prop} {n : Nat} (h : ∀ i, i < n → P i → Q i) : nC P n ≤ nC Q n := by
  induction n with
  | zero => exact Nat.le_refl _
  | succ n ih =>
    have h1 := ih fun i hi => h i (by omega)
    by_cases hp : P n
    · rw [nC_t hp, nC_t (h n (by omega) hp)]; omega
    · rw [nC_f hp]
      by_cases hq : Q n
      · rw [nC_t hq]; omega
      · rw [nC_f hq]; exact h1
theorem nC_all {P : Nat → Prop} {n : Nat} (h : ∀ i, i < n → P i) : nC P n = n := by
  induction n with
  | zero => rfl
  | succ n ih => rw [nC_t (h n (by omega)), ih fun i hi => h i (by omega)]
theorem nC_none {P : Nat → Prop} {n : Nat} (h : ∀ i, i < n → ¬ P i) : nC P n = 0 := by
  induction n with
  | zero => rfl
  | succ n ih => rw [nC_f (h n (by omega)), ih fun i hi => h i (by omega)]
theorem nC_not (P : Nat → Prop) (n : Nat) : nC P n + nC (fun i => ¬ P i) n = n := by
  induction n with
  | zero => rfl
  | succ n ih =>
    by_cases hp : P n
    · rw [nC_t hp, nC_f (fun q => q hp)]; omega
    · rw [nC_f hp, nC_t (P := fun i => ¬ P i) hp]; omega
/-- without one place -/
theorem nC_drop {P : Nat → Prop} {n j : Nat} (hj : j < n) (h : P j) : nC P n = nC (fun i => P i ∧ i ≠ j) n + 1 := by
  induction n with
  | zero => omega
  | succ n ih =>
    by_cases hjn : j = n
    · subst hjn
      rw [nC_t h, nC_f (P := fun i => P i ∧ i ≠ j) (fun q => q.2 rfl)]
      rw [nC_congr (P := fun i => P i ∧ i ≠ j) (Q := P) (fun i hi => ⟨fun q => q.1, fun q => ⟨q, by omega⟩⟩)]
    · have h1 := ih (by omega)
      by_cases hp : P n
      · rw [nC_t hp, nC_t (P := fun i => P i ∧ i ≠ j) ⟨hp, fun q => hjn q.symm⟩]; omega
      · rw [nC_f hp, nC_f (P := fun i => P i ∧ i ≠ j) (fun q => hp q.1)]; exact h1
/-- an injection -/
theorem nC_inj {P Q : Nat → Prop} : ∀ {n m : Nat} (f : Nat → Nat), (∀ i, i < n → P i → f i < m ∧ Q (f i)) → (∀ i j, i < n → j < n → P i → P j → f i = f j → i = j) → nC P n ≤ nC Q m
  | 0, m, f, _, _ => Nat.zero_le _
  | n + 1, m, f, h1, h2 => by
    by_cases hp : P n
    · rw [nC_t hp]
      obtain ⟨a, b⟩ := h1 n (by omega) hp
      rw [nC_drop a b]
      refine Nat.succ_le_succ (nC_inj f (fun i hi hpi => ?_) (fun i j hi hj => h2 i j (by omega) (by omega)))
      obtain ⟨c, d⟩ := h1 i (by omega) hpi
      exact ⟨c, d, fun q => by have := h2 i n (by omega) (by omega) hpi hp q; omega⟩
    · rw [nC_f hp]
      exact nC_inj f (fun i hi => h1 i (by omega)) (fun i j hi hj => h2 i j (by omega) (by omega))
theorem nC_split (P : Nat → Prop) (m k : Nat) : nC P (m + k) = nC P m + nC (fun i => P (m + i)) k := by
  induction k with
  | zero => rfl
  | succ k ih =>
    show nC P ((m + k) + 1) = _
    by_cases hp : P (m + k)
    · rw [nC_t hp, nC_t (P := fun i => P (m + i)) hp, ih]; omega
    · rw [nC_f hp, nC_f (P := fun i => P (m + i)) hp, ih]
/-- the least of a property -/
theorem nLeast {P : Nat → Prop} (h : ∃ k, P k) : ∃ k, P k ∧ ∀ j, j < k → ¬ P j := by
  obtain ⟨k, hk⟩ := h
  induction k using Nat.strongRecOn with
  | ind k ih =>
    by_cases q : ∃ j, j < k ∧ P j
    · obtain ⟨j, h1, h2⟩ := q
      exact ih j h1 h2
    · exact ⟨k, hk, fun j h1 h2 => q ⟨j, h1, h2⟩⟩
