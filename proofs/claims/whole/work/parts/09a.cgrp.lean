/-! THE CLASS'S GROUPS: what is read of them -/
abbrev fF (F : Nat) : Prop := 1000000 ≤ F
noncomputable def nF (P : Nat → Prop) (n : Nat) : Nat := @dite Nat (∃ i, i < n ∧ P i) (Classical.propDecidable _) (fun h => Classical.choose (nLeast h)) (fun _ => n)
theorem nF_of {P : Nat → Prop} {n i : Nat} (hi : i < n) (h : P i) (hm : ∀ j, j < i → ¬ P j) : nF P n = i := by
  unfold nF
  have hex : ∃ i, i < n ∧ P i := ⟨i, hi, h⟩
  rw [dif_pos hex]
  have s := Classical.choose_spec (nLeast hex)
  generalize Classical.choose (nLeast hex) = k at s
  rcases Nat.lt_trichotomy k i with q | q | q
  · exact (hm k q s.1.2).elim
  · exact q
  · exact (s.2 i q ⟨hi, h⟩).elim
theorem nF_no {P : Nat → Prop} {n : Nat} (h : ∀ j, j < n → ¬ P j) : nF P n = n := by
  unfold nF
  rw [dif_neg]
  rintro ⟨i, h1, h2⟩
  exact h i h1 h2
theorem nF_le (P : Nat → Prop) (n : Nat) : nF P n ≤ n := by
  by_cases h : ∃ i, i < n ∧ P i
  · obtain ⟨i, ⟨h1, h2⟩, h3⟩ := nLeast h
    rw [nF_of h1 h2 (fun j hj q => h3 j hj ⟨by omega, q⟩)]; omega
  · rw [nF_no (fun j hj q => h ⟨j, hj, q⟩)]; omega
theorem nF_sp {P : Nat → Prop} {n : Nat} (h : ∃ i, i < n ∧ P i) : nF P n < n ∧ P (nF P n) ∧ ∀ j, j < nF P n → ¬ P j := by
  obtain ⟨i, ⟨h1, h2⟩, h3⟩ := nLeast h
  have := nF_of h1 h2 (fun j hj q => h3 j hj ⟨by omega, q⟩)
  rw [this]
  exact ⟨h1, h2, fun j hj q => h3 j hj ⟨by omega, q⟩⟩
def lyG : oLy := [(1, 1, 2304), (1, 2, 48), (1, 3, 48), (1, 4, 48), (1, 5, 48), (1, 6, 5), (0, 0, 0), (0, 0, 0)]
theorem lyG_ok : oLay lyG 7 := oLay_of (by decide +kernel)
/-- a group of the class at a: so many elements, this table -/
def zAt (w : gW) (a n : Nat) (T : Nat → Nat → Nat) (S : oSt) : Prop := oAt 2 lyG w a S ∧ 0 < n ∧ n ≤ 48 ∧ oI S 7 = nI n ∧ (∀ x y, x < n → y < n → T x y < n) ∧ ∀ x y, x < n → y < n → oA S 0 (x * 48 + y) = nI (T x y)
noncomputable def zInv (n : Nat) (T : Nat → Nat → Nat) (x : Nat) : Nat := nF (fun y => T x y = 0) n
noncomputable def zOr (n : Nat) (T : Nat → Nat → Nat) (x : Nat) : Nat := nF (fun k => 1 ≤ k ∧ zPow T x k = 0) (n + 1)
theorem zInv_sp {n : Nat} {T : Nat → Nat → Nat} (G : zGrp n T) {x : Nat} (hx : x < n) : zInv n T x < n ∧ T x (zInv n T x) = 0 := by
  have := nF_sp (P := fun y => T x y = 0) (n := n) (G.2.2.2.2 x hx)
  exact ⟨this.1, this.2.1⟩
theorem zOr_sp {n : Nat} {T : Nat → Nat → Nat} (G : zGrp n T) {x : Nat} (hx : x < n) : zOr n T x ≤ n ∧ zOrd T x (zOr n T x) := by
  obtain ⟨k, h1, h2⟩ := zOrd_ex G hx
  have e : zOr n T x = k := nF_of (by omega) ⟨h2.1, h2.2.1⟩ (fun j hj q => h2.2.2 j q.1 hj q.2)
  rw [e]; exact ⟨h1, h2⟩
/-- its inverses and orders are laid down -/
def zDone (n : Nat) (T : Nat → Nat → Nat) (S : oSt) : Prop := ∀ x, x < n → oA S 3 x = nI (zInv n T x) ∧ oA S 4 x = nI (zOr n T x)
section CG
variable {F a n : Nat} {T : Nat → Nat → Nat} {S : oSt} {w : gW}
theorem zAt.sz (h : zAt w a n T S) : gFI 2 7 (some a) w = some (nI n) := by rw [h.1.rI 7 rfl, h.2.2.2.1]
theorem zAt.o (h : zAt w a n T S) : gO 2 (some a) w = some a := h.1.O
theorem zAt.tl (h : zAt w a n T S) {x y : Nat} (hx : x < n) (hy : y < n) : T x y < n := h.2.2.2.2.1 x y hx hy
theorem zAt.mul (h : zAt w a n T S) {x y : Nat} (hx : x < n) (hy : y < n) : mX2_mul F a (nI x) (nI y) w = some (nI (T x y), w) := by
  have h48 := h.2.2.1
  unfold mX2_mul
  rw [h.1.rA 0 rfl, Option.bind_some, show (48 : Int32) = nI 48 from rfl, pk_mul, nI_add, h.1.ld 0 rfl (by omega) (by omega), h.2.2.2.2.2 x y hx hy]
  rfl
theorem zAt.n31 (h : zAt w a n T S) : n ≤ 48 := h.2.2.1
theorem c_findInverse_l (h : zAt w a n T S) {x : Nat} (hx : x < n) : ∀ (k y : Nat), y ≤ n → n - y < k → (∀ j, j < y → T x j ≠ 0) → mX2_findInverse_l2 F k a (nI x) (nI y) w = some (if ∃ j, j < n ∧ T x j = 0 then nI (zInv n T x) else -1, w) := by
  have hn := h.n31
  intro k
  induction k with
  | zero => intro y _ h2; omega
  | succ k ih =>
    intro y h1 h2 h3
    show mX2_findInverse_h2 F (mX2_findInverse_l2 F k) a (nI x) (nI y) w = _
    unfold mX2_findInverse_h2
    rw [h.sz, Option.bind_some]
    by_cases hy : y = n
    · subst hy
      rw [if_pos (nI_le (Nat.le_refl _) (by omega)), if_neg]
      rintro ⟨j, a, b⟩; exact h3 j a b
    · have hy : y < n := by omega
      rw [if_neg (nI_ge hy (by omega)), h.o, Option.bind_some, h.mul hx hy, Option.bind_some]
      by_cases e : T x y = 0
      · rw [if_pos (show nI (T x y) = 0 by rw [e]; rfl), if_pos ⟨y, hy, e⟩]
        have : zInv n T x = y := nF_of hy e h3
        rw [this]
      · rw [if_neg (nI_ne0 (by omega) (by have := h.tl hx hy; omega)), nI_1]
        exact ih (y + 1) (by omega) (by omega) fun j hj => by
          rcases Nat.lt_or_ge j y with q | q
          · exact h3 j q
          · rw [show j = y by omega]; exact e
theorem c_findInverse (hF : fF F) (h : zAt w a n T S) {x : Nat} (hx : x < n) : mX2_findInverse F a (nI x) w = some (if ∃ j, j < n ∧ T x j = 0 then nI (zInv n T x) else -1, w) := by
  have hn := h.n31
  exact c_findInverse_l h hx F 0 (by omega) (by unfold fF at hF; omega) (fun j hj => by omega)
theorem c_countCommuting (hF : fF F) (h : zAt w a n T S) {x : Nat} (hx : x < n) : mX2_countCommuting F a (nI x) w = some (nI (nC (fun y => T x y = T y x) n), w) := by
  have hn := h.n31
  have key : ∀ (k y : Nat), y ≤ n → n - y < k → mX2_countCommuting_l4 F k a (nI x) (nI (nC (fun y => T x y = T y x) y)) (nI y) w = some (nI (nC (fun y => T x y = T y x) n), w) := by
    intro k
    induction k with
    | zero => intro y _ h2; omega
    | succ k ih =>
      intro y h1 h2
      show mX2_countCommuting_h4 F (mX2_countCommuting_l4 F k) a (nI x) _ (nI y) w = _
      unfold mX2_countCommuting_h4
      rw [h.sz, Option.bind_some]
      by_cases hy : y = n
      · subst hy
        rw [if_pos (nI_le (Nat.le_refl _) (by omega))]
      · have hy : y < n := by omega
        have t1 := h.tl hx hy
        have t2 := h.tl hy hx
        rw [if_neg (nI_ge hy (by omega)), h.o, Option.bind_some, h.mul hx hy, Option.bind_some, h.o, Option.bind_some, h.mul hy hx, Option.bind_some]
        unfold mX2_countCommuting_b30
        by_cases e : T x y = T y x
        · rw [if_pos (by rw [e]), nI_1, nI_1]
          have := ih (y + 1) (by omega) (by omega)
          rw [nC_t (P := fun y => T x y = T y x) e] at this
          exact this
        · rw [if_neg (fun q => e ((nI_eq (by omega) (by omega)).mp q)), nI_1]
          have := ih (y + 1) (by omega) (by omega)
          rw [nC_f (P := fun y => T x y = T y x) e] at this
          exact this
  exact key F 0 (by omega) (by unfold fF at hF; omega)
/-- the least of some numbers and one more -/
def nMin (f : Nat → Nat) (x : Nat) : Nat → Nat
  | 0 => x
  | n + 1 => min (nMin f x n) (f n)
theorem nMin_lt {f : Nat → Nat} {x n m : Nat} (hx : x < m) (h : ∀ i, i < n → f i < m) : nMin f x n < m := by
  induction n with
  | zero => exact hx
  | succ n ih =>
    have := ih fun i hi => h i (by omega)
    have := h n (by omega)
    show min _ _ < m
    omega
noncomputable def zTurn (n : Nat) (T : Nat → Nat → Nat) (x : Nat) : Nat := nMin (fun y => T (T y x) (zInv n T y)) x n
theorem c_leastTurned (hF : fF F) (G : zGrp n T) (h : zAt w a n T S) (hd : zDone n T S) {x : Nat} (hx : x < n) : mX2_leastTurned F a (nI x) w = some (nI (zTurn n T x), w) := by
  have hn := h.n31
  have hl : ∀ y, y < n → T (T y x) (zInv n T y) < n := fun y hy => G.2.1 _ _ (G.2.1 _ _ hy hx) (zInv_sp G hy).1
  have key : ∀ (k y : Nat), y ≤ n → n - y < k → mX2_leastTurned_l4 F k a (nI x) (nI (nMin (fun y => T (T y x) (zInv n T y)) x y)) (nI y) w = some (nI (zTurn n T x), w) := by
    intro k
    induction k with
    | zero => intro y _ h2; omega
    | succ k ih =>
      intro y h1 h2
      show mX2_leastTurned_h4 F (mX2_leastTurned_l4 F k) a (nI x) _ (nI y) w = _
      unfold mX2_leastTurned_h4
      rw [h.sz, Option.bind_some]
      by_cases hy : y = n
      · subst hy
        rw [if_pos (nI_le (Nat.le_refl _) (by omega))]
        rfl
      · have hy : y < n := by omega
        have hm : nMin (fun y => T (T y x) (zInv n T y)) x y < n := nMin_lt hx fun i hi => hl i (by omega)
        have := hl y hy
        rw [if_neg (nI_ge hy (by omega)), h.o, Option.bind_some, h.mul hy hx, Option.bind_some, h.1.rA 3 rfl, Option.bind_some, h.1.ld 3 rfl (by omega) (by omega), Option.bind_some, h.o, Option.bind_some, (hd y hy).1, h.mul (G.2.1 _ _ hy hx) (zInv_sp G hy).1, Option.bind_some, c_min (by omega) (by omega), Option.bind_some, nI_1]
        exact ih (y + 1) (by omega) (by omega)
  exact key F 0 (by omega) (by unfold fF at hF; omega)
end CG
