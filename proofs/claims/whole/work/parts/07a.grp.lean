/-! GROUPS BY THEIR TABLES -/
def zGrp (n : Nat) (T : Nat → Nat → Nat) : Prop := 0 < n ∧ (∀ x y, x < n → y < n → T x y < n) ∧ (∀ x, x < n → T 0 x = x ∧ T x 0 = x) ∧ (∀ x y z, x < n → y < n → z < n → T (T x y) z = T x (T y z)) ∧ ∀ x, x < n → ∃ y, y < n ∧ T x y = 0
theorem zGrp.inv {n : Nat} {T : Nat → Nat → Nat} (h : zGrp n T) {x : Nat} (hx : x < n) : ∃ y, y < n ∧ T x y = 0 ∧ T y x = 0 := by
  obtain ⟨h0, h1, h2, h3, h4⟩ := h
  obtain ⟨y, hy, e⟩ := h4 x hx
  obtain ⟨z, hz, e2⟩ := h4 y hy
  refine ⟨y, hy, e, ?_⟩
  have a1 : T (T x y) z = T x (T y z) := h3 x y z hx hy hz
  rw [e, e2, (h2 z hz).1, (h2 x hx).2] at a1
  rw [← a1]; exact e2
theorem zGrp.canL {n : Nat} {T : Nat → Nat → Nat} (h : zGrp n T) {x y z : Nat} (hx : x < n) (hy : y < n) (hz : z < n) (e : T x y = T x z) : y = z := by
  obtain ⟨a, ha, -, e1⟩ := h.inv hx
  have b1 := h.2.2.2.1 a x y ha hx hy
  have b2 := h.2.2.2.1 a x z ha hx hz
  rw [e1, (h.2.2.1 y hy).1] at b1
  rw [e1, (h.2.2.1 z hz).1] at b2
  rw [b1, b2, e]
theorem zGrp.canR {n : Nat} {T : Nat → Nat → Nat} (h : zGrp n T) {x y z : Nat} (hx : x < n) (hy : y < n) (hz : z < n) (e : T y x = T z x) : y = z := by
  obtain ⟨a, ha, e1, -⟩ := h.inv hx
  have b1 := h.2.2.2.1 y x a hy hx ha
  have b2 := h.2.2.2.1 z x a hz hx ha
  rw [e1, (h.2.2.1 y hy).2] at b1
  rw [e1, (h.2.2.1 z hz).2] at b2
  rw [← b1, ← b2, e]
/-- what is made of 0 by products with some -/
def zGen (T : Nat → Nat → Nat) (S : Nat → Prop) (z : Nat) : Prop := ∀ A : Nat → Prop, A 0 → (∀ a s, A a → S s → A (T a s)) → A z
theorem zGen.zero {T : Nat → Nat → Nat} {S : Nat → Prop} : zGen T S 0 := fun _ h _ => h
theorem zGen.step {T : Nat → Nat → Nat} {S : Nat → Prop} {a s : Nat} (h : zGen T S a) (hs : S s) : zGen T S (T a s) := fun A h0 h1 => h1 a s (h A h0 h1) hs
theorem zGen.lt {n : Nat} {T : Nat → Nat → Nat} (G : zGrp n T) {S : Nat → Prop} (hS : ∀ s, S s → s < n) {z : Nat} (h : zGen T S z) : z < n := h (fun a => a < n) G.1 fun a s ha hs => G.2.1 a s ha (hS s hs)
theorem zGen.self {n : Nat} {T : Nat → Nat → Nat} (G : zGrp n T) {S : Nat → Prop} (hS : ∀ s, S s → s < n) {s : Nat} (h : S s) : zGen T S s := by
  have := zGen.step (T := T) (zGen.zero (S := S)) h
  rw [(G.2.2.1 s (hS s h)).1] at this; exact this
theorem zGen.mul {n : Nat} {T : Nat → Nat → Nat} (G : zGrp n T) {S : Nat → Prop} (hS : ∀ s, S s → s < n) {a b : Nat} (ha : zGen T S a) (hb : zGen T S b) : zGen T S (T a b) := by
  have := hb (fun b => b < n ∧ zGen T S (T a b)) ⟨G.1, by rw [(G.2.2.1 a (ha.lt G hS)).2]; exact ha⟩ fun b s ⟨h1, h2⟩ hs => ⟨G.2.1 b s h1 (hS s hs), by
    rw [← G.2.2.2.1 a b s (ha.lt G hS) h1 (hS s hs)]; exact h2.step hs⟩
  exact this.2
theorem zGen.le {n : Nat} {T : Nat → Nat → Nat} (G : zGrp n T) {S S' : Nat → Prop} (hS' : ∀ s, S' s → s < n) (h : ∀ s, S s → zGen T S' s) {z : Nat} (hz : zGen T S z) : zGen T S' z :=
  hz _ zGen.zero fun a s ha hs => ha.mul G hS' (h s hs)
theorem zGen.mono {T : Nat → Nat → Nat} {S S' : Nat → Prop} (h : ∀ s, S s → S' s) {z : Nat} (hz : zGen T S z) : zGen T S' z := hz _ zGen.zero fun _ s ha hs => ha.step (h s hs)
/-- powers -/
def zPow (T : Nat → Nat → Nat) (x : Nat) : Nat → Nat
  | 0 => 0
  | k + 1 => T (zPow T x k) x
theorem zPow_lt {n : Nat} {T : Nat → Nat → Nat} (G : zGrp n T) {x : Nat} (hx : x < n) (k : Nat) : zPow T x k < n := by
  induction k with
  | zero => exact G.1
  | succ k ih => exact G.2.1 _ _ ih hx
theorem zPow_add {n : Nat} {T : Nat → Nat → Nat} (G : zGrp n T) {x : Nat} (hx : x < n) (a b : Nat) : zPow T x (a + b) = T (zPow T x a) (zPow T x b) := by
  induction b with
  | zero => exact ((G.2.2.1 _ (zPow_lt G hx a)).2).symm
  | succ b ih =>
    show T (zPow T x (a + b)) x = T (zPow T x a) (T (zPow T x b) x)
    rw [ih, G.2.2.2.1 _ _ _ (zPow_lt G hx a) (zPow_lt G hx b) hx]
theorem zPow_one {n : Nat} {T : Nat → Nat → Nat} (G : zGrp n T) {x : Nat} (hx : x < n) : zPow T x 1 = x := (G.2.2.1 x hx).1
theorem zHoles : ∀ (m n : Nat) (f : Nat → Nat), (∀ i, i < n → f i < m) → m < n → ∃ i j, i < j ∧ j < n ∧ f i = f j := by
  intro m n f h1 h2
  refine Classical.byContradiction fun q => ?_
  have := nC_inj (P := fun _ => True) (Q := fun _ => True) (n := n) (m := m) f (fun i hi _ => ⟨h1 i hi, trivial⟩) (fun i j hi hj _ _ e => by
    rcases Nat.lt_trichotomy i j with z | z | z
    · exact (q ⟨i, j, z, hj, e⟩).elim
    · exact z
    · exact (q ⟨j, i, z, hi, e.symm⟩).elim)
  rw [nC_all (fun _ _ => trivial), nC_all (fun _ _ => trivial)] at this
  omega
theorem zPow_per {n : Nat} {T : Nat → Nat → Nat} (G : zGrp n T) {x : Nat} (hx : x < n) : ∃ k, 1 ≤ k ∧ k ≤ n ∧ zPow T x k = 0 := by
  obtain ⟨i, j, h1, h2, h3⟩ := zHoles n (n + 1) (zPow T x) (fun i _ => zPow_lt G hx i) (by omega)
  refine ⟨j - i, by omega, by omega, ?_⟩
  have e : zPow T x j = T (zPow T x i) (zPow T x (j - i)) := by rw [← zPow_add G hx]; congr 1; omega
  refine G.canL (zPow_lt G hx i) (zPow_lt G hx _) G.1 ?_
  rw [← e, ← h3, (G.2.2.1 _ (zPow_lt G hx i)).2]
/-- its order is k -/
def zOrd (T : Nat → Nat → Nat) (x k : Nat) : Prop := 1 ≤ k ∧ zPow T x k = 0 ∧ ∀ j, 1 ≤ j → j < k → zPow T x j ≠ 0
theorem zOrd_ex {n : Nat} {T : Nat → Nat → Nat} (G : zGrp n T) {x : Nat} (hx : x < n) : ∃ k, k ≤ n ∧ zOrd T x k := by
  obtain ⟨k, ⟨h1, h2⟩, h3⟩ := nLeast (P := fun k => 1 ≤ k ∧ zPow T x k = 0) (by obtain ⟨k, a, -, b⟩ := zPow_per G hx; exact ⟨k, a, b⟩)
  refine ⟨k, ?_, h1, h2, fun j a b c => h3 j b ⟨a, c⟩⟩
  obtain ⟨k', a, b, c⟩ := zPow_per G hx
  exact Nat.le_trans (Nat.not_lt.mp fun q => h3 k' q ⟨a, c⟩) b
theorem zOrd_one {T : Nat → Nat → Nat} {x k k' : Nat} (h : zOrd T x k) (h' : zOrd T x k') : k = k' := by
  rcases Nat.lt_trichotomy k k' with q | q | q
  · exact (h'.2.2 k h.1 q h.2.1).elim
  · exact q
  · exact (h.2.2 k' h'.1 q h'.2.1).elim
theorem zPow_mul {n : Nat} {T : Nat → Nat → Nat} (G : zGrp n T) {x k : Nat} (hx : x < n) (h : zPow T x k = 0) (c : Nat) : zPow T x (k * c) = 0 := by
  induction c with
  | zero => rfl
  | succ c ih =>
    rw [Nat.mul_succ, zPow_add G hx, ih, h]
    exact (G.2.2.1 0 G.1).1
theorem zOrd_dvd {n : Nat} {T : Nat → Nat → Nat} (G : zGrp n T) {x k : Nat} (hx : x < n) (h : zOrd T x k) (j : Nat) : zPow T x j = 0 ↔ k ∣ j := by
  constructor
  · intro e
    have e2 : zPow T x (k * (j / k) + j % k) = 0 := by rw [Nat.div_add_mod]; exact e
    rw [zPow_add G hx, zPow_mul G hx h.2.1, (G.2.2.1 _ (zPow_lt G hx _)).1] at e2
    have hk : j % k < k := Nat.mod_lt _ h.1
    rcases Nat.eq_zero_or_pos (j % k) with q | q
    · exact Nat.dvd_of_mod_eq_zero q
    · exact (h.2.2 _ q hk e2).elim
  · rintro ⟨c, rfl⟩
    exact zPow_mul G hx h.2.1 c
theorem zGen.pow {n : Nat} {T : Nat → Nat → Nat} (G : zGrp n T) {S : Nat → Prop} (hS : ∀ s, S s → s < n) {a : Nat} (ha : zGen T S a) (k : Nat) : zGen T S (zPow T a k) := by
  induction k with
  | zero => exact zGen.zero
  | succ k ih => exact ih.mul G hS ha
/-- a part that is a group -/
def zSbg (n : Nat) (T : Nat → Nat → Nat) (H : Nat → Prop) : Prop := H 0 ∧ (∀ a, H a → a < n) ∧ ∀ a b, H a → H b → H (T a b)
theorem zGen.sbg {n : Nat} {T : Nat → Nat → Nat} (G : zGrp n T) {S : Nat → Prop} (hS : ∀ s, S s → s < n) : zSbg n T (zGen T S) := ⟨zGen.zero, fun _ h => h.lt G hS, fun _ _ ha hb => ha.mul G hS hb⟩
theorem zSbg.inv {n : Nat} {T : Nat → Nat → Nat} (G : zGrp n T) {H : Nat → Prop} (h : zSbg n T H) {a : Nat} (ha : H a) : ∃ b, H b ∧ T a b = 0 ∧ T b a = 0 := by
  have hp : ∀ k, H (zPow T a k) := fun k => by
    induction k with
    | zero => exact h.1
    | succ k ih => exact h.2.2 _ _ ih ha
  have hx := h.2.1 a ha
  obtain ⟨k, h1, -, h2⟩ := zPow_per G hx
  have e : zPow T a (k - 1 + 1) = 0 := by rw [show k - 1 + 1 = k by omega]; exact h2
  have e2 : T (zPow T a (k - 1)) a = 0 := e
  refine ⟨zPow T a (k - 1), hp _, ?_, e2⟩
  have e3 : T a (zPow T a (k - 1)) = zPow T a (1 + (k - 1)) := by rw [zPow_add G hx, zPow_one G hx]
  rw [e3, show 1 + (k - 1) = k by omega]
  exact h2
theorem nC_or {P Q : Nat → Prop} (h : ∀ i, P i → ¬ Q i) (n : Nat) : nC (fun i => P i ∨ Q i) n = nC P n + nC Q n := by
  induction n with
  | zero => rfl
  | succ n ih =>
    by_cases p : P n
    · rw [nC_t (P := fun i => P i ∨ Q i) (Or.inl p), nC_t p, nC_f (h n p), ih]; omega
    · by_cases q : Q n
      · rw [nC_t (P := fun i => P i ∨ Q i) (Or.inr q), nC_f p, nC_t q, ih]; omega
      · rw [nC_f (P := fun i => P i ∨ Q i) (fun z => z.elim p q), nC_f p, nC_f q, ih]
theorem zCos {n : Nat} {T : Nat → Nat → Nat} (G : zGrp n T) {H A : Nat → Prop} (hH : zSbg n T H) (hA : ∀ a, A a → a < n) (hAH : ∀ a b, A a → H b → A (T a b)) {y : Nat} (hy : y < n) (hyA : ¬ A y) :
    (∀ a b, (A a ∨ ∃ c, H c ∧ a = T y c) → H b → (A (T a b) ∨ ∃ c, H c ∧ T a b = T y c)) ∧ nC (fun z => A z ∨ ∃ c, H c ∧ z = T y c) n = nC A n + nC H n := by
  refine ⟨fun a b ha hb => ?_, ?_⟩
  · rcases ha with ha | ⟨c, hc, rfl⟩
    · exact Or.inl (hAH a b ha hb)
    · exact Or.inr ⟨T c b, hH.2.2 c b hc hb, G.2.2.2.1 y c b hy (hH.2.1 c hc) (hH.2.1 b hb)⟩
  · rw [nC_or (P := A) (Q := fun z => ∃ c, H c ∧ z = T y c) (fun i hi => by
      rintro ⟨c, hc, rfl⟩
      obtain ⟨d, hd, e1, -⟩ := hH.inv G hc
      have := hAH _ d hi hd
      rw [G.2.2.2.1 y c d hy (hH.2.1 c hc) (hH.2.1 d hd), e1, (G.2.2.1 y hy).2] at this
      exact hyA this)]
    congr 1
    obtain ⟨u, hu, e1, e2⟩ := G.inv hy
    refine Nat.le_antisymm ?_ ?_
    · refine nC_inj (T u) (fun i hi ⟨c, hc, e⟩ => ?_) (fun i j hi hj _ _ e => G.canL hu hi hj e)
      have : T u i = c := by rw [e, ← G.2.2.2.1 u y c hu hy (hH.2.1 c hc), e2, (G.2.2.1 c (hH.2.1 c hc)).1]
      rw [this]; exact ⟨hH.2.1 c hc, hc⟩
    · exact nC_inj (T y) (fun i hi hc => ⟨G.2.1 y i hy hi, i, hc, rfl⟩) (fun i j hi hj _ _ e => G.canL hy hi hj e)
/-- Lagrange -/
theorem zLag {n : Nat} {T : Nat → Nat → Nat} (G : zGrp n T) {H : Nat → Prop} (hH : zSbg n T H) : nC H n ∣ n := by
  have key : ∀ (d : Nat) (A : Nat → Prop), n - nC A n ≤ d → (∀ a, A a → a < n) → (∀ a b, A a → H b → A (T a b)) → nC H n ∣ nC A n → nC H n ∣ n := by
    intro d
    induction d with
    | zero =>
      intro A h1 h2 h3 h4
      have : nC A n = n := Nat.le_antisymm (nC_le A n) (by omega)
      rw [this] at h4; exact h4
    | succ d ih =>
      intro A h1 h2 h3 h4
      by_cases q : ∀ y, y < n → A y
      · rw [nC_all q] at h4; exact h4
      · obtain ⟨y, hy⟩ := Classical.not_forall.mp q
        obtain ⟨hy, hyA⟩ := Classical.not_imp.mp hy
        obtain ⟨c1, c2⟩ := zCos G hH h2 h3 hy hyA
        refine ih _ ?_ ?_ c1 ?_
        · rw [c2]
          have : 0 < nC H n := by
            rw [nC_drop G.1 hH.1]; omega
          omega
        · rintro a (h | ⟨c, hc, rfl⟩)
          · exact h2 a h
          · exact G.2.1 y c hy (hH.2.1 c hc)
        · rw [c2]; exact Nat.dvd_add h4 (Nat.dvd_refl _)
  refine key n (fun _ => False) (by omega) (fun _ h => h.elim) (fun _ _ h => h.elim) ?_
  rw [nC_none (fun _ _ h => h)]; exact Nat.dvd_zero _
/-- a greater part has at least twice as many -/
theorem zTwice {n : Nat} {T : Nat → Nat → Nat} (G : zGrp n T) {H K : Nat → Prop} (hH : zSbg n T H) (hK : zSbg n T K) (hHK : ∀ a, H a → K a) {y : Nat} (hy : K y) (hyH : ¬ H y) : 2 * nC H n ≤ nC K n := by
  obtain ⟨-, c2⟩ := zCos G hH hH.2.1 (fun a b ha hb => hH.2.2 a b ha hb) (hK.2.1 y hy) hyH
  have : nC (fun z => H z ∨ ∃ c, H c ∧ z = T y c) n ≤ nC K n := nC_mono fun i _ h => by
    rcases h with h | ⟨c, hc, rfl⟩
    · exact hHK i h
    · exact hK.2.2 y c hy (hHK c hc)
  omega
theorem zOrd_lag {n : Nat} {T : Nat → Nat → Nat} (G : zGrp n T) {x k : Nat} (hx : x < n) (h : zOrd T x k) : k ∣ n := by
  have hs : zSbg n T (fun z => ∃ j, z = zPow T x j) := ⟨⟨0, rfl⟩, fun a ⟨j, e⟩ => by rw [e]; exact zPow_lt G hx j, fun a b ⟨i, e⟩ ⟨j, e2⟩ => ⟨i + j, by rw [e, e2, zPow_add G hx]⟩⟩
  have e : nC (fun z => ∃ j, z = zPow T x j) n = k := by
    refine Nat.le_antisymm ?_ ?_
    · have key : ∀ z, ∃ j, (∃ j, z = zPow T x j) → j < k ∧ z = zPow T x j := fun z => by
        by_cases q : ∃ j, z = zPow T x j
        · obtain ⟨j, e⟩ := q
          refine ⟨j % k, fun _ => ⟨Nat.mod_lt _ h.1, ?_⟩⟩
          rw [e]
          conv => lhs; rw [← Nat.div_add_mod j k]
          rw [zPow_add G hx, zPow_mul G hx h.2.1, (G.2.2.1 _ (zPow_lt G hx _)).1]
        · exact ⟨0, fun z => absurd z q⟩
      refine Nat.le_trans (nC_inj (Q := fun _ => True) (m := k) (fun z => Classical.choose (key z)) (fun z _ hz => ⟨(Classical.choose_spec (key z) hz).1, trivial⟩) (fun a b _ _ ha hb e => ?_)) (nC_le _ _)
      rw [(Classical.choose_spec (key a) ha).2, (Classical.choose_spec (key b) hb).2]
      show zPow T x (Classical.choose (key a)) = zPow T x (Classical.choose (key b))
      rw [e]
    · have := nC_inj (P := fun _ => True) (Q := fun z => ∃ j, z = zPow T x j) (n := k) (m := n) (zPow T x) (fun j _ _ => ⟨zPow_lt G hx j, j, rfl⟩) (fun i j hi hj _ _ e => ?_)
      · rw [nC_all (fun _ _ => trivial)] at this; exact this
      · have aux : ∀ i j, i < j → j < k → zPow T x i = zPow T x j → False := fun i j hij hj e => by
          have e2 : zPow T x j = T (zPow T x i) (zPow T x (j - i)) := by rw [← zPow_add G hx]; congr 1; omega
          refine h.2.2 (j - i) (by omega) (by omega) (G.canL (zPow_lt G hx i) (zPow_lt G hx _) G.1 ?_)
          rw [← e2, ← e, (G.2.2.1 _ (zPow_lt G hx i)).2]
        rcases Nat.lt_trichotomy i j with q | q | q
        · exact (aux i j q hj e).elim
        · exact q
        · exact (aux j i q hi e.symm).elim
  have := zLag G hs
  rw [e] at this; exact this
