/-! THE CLASS'S GROUPS: a table read of a sheet -/
def lyS : oLy := [(1, 1, 144), (0, 0, 0), (0, 0, 0)]
theorem lyS_ok : oLay lyS 2 := oLay_of (by decide +kernel)
def zUl (n : Nat) (T : Nat → Nat → Nat) (i : Nat) : Prop := T (T (i / (n * n)) (i / n % n)) (i % n) ≠ T (i / (n * n)) (T (i / n % n) (i % n))
theorem z3_at {n x y z : Nat} (hy : y < n) (hz : z < n) : (n * n * x + n * y + z) / (n * n) = x ∧ (n * n * x + n * y + z) / n % n = y ∧ (n * n * x + n * y + z) % n = z := by
  have hn : 0 < n := by omega
  have e : n * n * x + n * y + z = n * (n * x + y) + z := by rw [Nat.mul_add, Nat.mul_assoc]
  have e1 : (n * n * x + n * y + z) / n = n * x + y := by rw [e, Nat.mul_add_div hn, Nat.div_eq_of_lt hz, Nat.add_zero]
  refine ⟨?_, ?_, ?_⟩
  · rw [← Nat.div_div_eq_div_mul, e1, Nat.mul_add_div hn, Nat.div_eq_of_lt hy, Nat.add_zero]
  · rw [e1, Nat.mul_add_mod, Nat.mod_eq_of_lt hy]
  · rw [e, Nat.mul_add_mod, Nat.mod_eq_of_lt hz]
theorem z3_ex {n i : Nat} (hn : 0 < n) : i = n * n * (i / (n * n)) + n * (i / n % n) + i % n := by
  have h1 := Nat.div_add_mod i n
  have h2 := Nat.div_add_mod (i / n) n
  rw [Nat.div_div_eq_div_mul] at h2
  have h3 : n * (i / n) = n * n * (i / (n * n)) + n * (i / n % n) := by
    conv => lhs; rw [← h2]
    rw [Nat.mul_add, Nat.mul_assoc]
  omega
noncomputable def zUlR (n : Nat) (T : Nat → Nat → Nat) : Int32 := @ite _ (∃ i, i < n * n * n ∧ zUl n T i) (Classical.propDecidable _) (nI (nF (zUl n T) (n * n * n))) (-1)
noncomputable def zNoR (n : Nat) (T : Nat → Nat → Nat) : Int32 := @ite _ (∃ x, x < n ∧ ¬ ∃ y, y < n ∧ T x y = 0) (Classical.propDecidable _) (nI (nF (fun x => ¬ ∃ y, y < n ∧ T x y = 0) n)) (-1)
section CRD
variable {F a b n : Nat} {T : Nat → Nat → Nat} {S : oSt} {w : gW}
theorem c_firstUnlike (hF : fF F) (h : zAt w a n T S) : mX2_firstUnlike F a w = some (zUlR n T, w) := by
  have hn := h.n31
  have h0 := h.2.1
  have L3 : ∀ (x y : Nat), x < n → y < n → ∀ (k82 : Nat → Int32 → Int32 → gW → Option (Int32 × gW)) (k55 : Nat → Int32 → Int32 → Int32 → gW → Option (Int32 × gW)), ((∀ z, z < n → T (T x y) z = T x (T y z)) → k82 a (nI x) (nI y) w = some (zUlR n T, w)) → (∀ z, z < n → T (T x y) z ≠ T x (T y z) → (∀ z', z' < z → T (T x y) z' = T x (T y z')) → k55 a (nI x) (nI y) (nI z) w = some (zUlR n T, w)) → ∀ (k z : Nat), z ≤ n → n - z < k → (∀ z', z' < z → T (T x y) z' = T x (T y z')) → mX2_firstUnlike_l22 F k82 k55 k a (nI x) (nI y) (nI z) w = some (zUlR n T, w) := by
    intro x y hx hy k82 k55 hk1 hk2 k
    induction k with
    | zero => intro z _ q; omega
    | succ k ih =>
      intro z hz hk hl
      show mX2_firstUnlike_h22 F (mX2_firstUnlike_l22 F k82 k55 k) k82 k55 a (nI x) (nI y) (nI z) w = _
      unfold mX2_firstUnlike_h22
      rw [h.sz, Option.bind_some]
      by_cases e : z = n
      · rw [e, if_pos (nI_le (Nat.le_refl _) (by omega))]
        exact hk1 (by rw [e] at hl; exact hl)
      · have hz : z < n := by omega
        have t1 := h.tl hx hy
        have t2 := h.tl hy hz
        have t3 := h.tl t1 hz
        have t4 := h.tl hx t2
        rw [if_neg (nI_ge hz (by omega)), h.o, Option.bind_some, h.mul hx hy, Option.bind_some, h.o, Option.bind_some, h.mul t1 hz, Option.bind_some, h.o, Option.bind_some, h.mul hy hz, Option.bind_some, h.o, Option.bind_some, h.mul hx t2, Option.bind_some]
        by_cases q : T (T x y) z = T x (T y z)
        · rw [if_pos (by rw [q]), nI_1]
          exact ih (z + 1) (by omega) (by omega) fun z' hz' => by
            rcases Nat.lt_or_ge z' z with u | u
            · exact hl z' u
            · rw [show z' = z by omega]; exact q
        · rw [if_neg (fun u => q ((nI_eq (by omega) (by omega)).mp u))]
          exact hk2 z hz q hl
  have L2 : ∀ (x : Nat), x < n → ∀ (k88 : Nat → Int32 → gW → Option (Int32 × gW)) (k55 : Nat → Int32 → Int32 → Int32 → gW → Option (Int32 × gW)), ((∀ y z, y < n → z < n → T (T x y) z = T x (T y z)) → k88 a (nI x) w = some (zUlR n T, w)) → (∀ y z, y < n → z < n → T (T x y) z ≠ T x (T y z) → (∀ y' z', y' < y → z' < n → T (T x y') z' = T x (T y' z')) → (∀ z', z' < z → T (T x y) z' = T x (T y z')) → k55 a (nI x) (nI y) (nI z) w = some (zUlR n T, w)) → ∀ (k y : Nat), y ≤ n → n - y < k → (∀ y' z', y' < y → z' < n → T (T x y') z' = T x (T y' z')) → mX2_firstUnlike_l12 F k88 k55 k a (nI x) (nI y) w = some (zUlR n T, w) := by
    intro x hx k88 k55 hk1 hk2 k
    induction k with
    | zero => intro z _ q; omega
    | succ k ih =>
      intro y hy hk hl
      show mX2_firstUnlike_h12 F (mX2_firstUnlike_l12 F k88 k55 k) k88 k55 a (nI x) (nI y) w = _
      unfold mX2_firstUnlike_h12
      rw [h.sz, Option.bind_some]
      by_cases e : y = n
      · rw [e, if_pos (nI_le (Nat.le_refl _) (by omega))]
        exact hk1 (fun y z hy hz => hl y z (by omega) hz)
      · have hy : y < n := by omega
        rw [if_neg (nI_ge hy (by omega))]
        refine L3 x y hx hy _ _ (fun q => ?_) (fun z hz q q2 => hk2 y z hy hz q hl q2) F 0 (by omega) (by unfold fF at hF; omega) (fun z' q => by omega)
        show mX2_firstUnlike_l12 F k88 k55 k a (nI x) (nI y + 1) w = _
        rw [nI_1]
        exact ih (y + 1) (by omega) (by omega) fun y' z' hy' hz' => by
          rcases Nat.lt_or_ge y' y with u | u
          · exact hl y' z' u hz'
          · rw [show y' = y by omega]; exact q z' hz'
  have L1 : ∀ (k55 : Nat → Int32 → Int32 → Int32 → gW → Option (Int32 × gW)), (∀ x y z, x < n → y < n → z < n → T (T x y) z ≠ T x (T y z) → (∀ x' y' z', x' < x → y' < n → z' < n → T (T x' y') z' = T x' (T y' z')) → (∀ y' z', y' < y → z' < n → T (T x y') z' = T x (T y' z')) → (∀ z', z' < z → T (T x y) z' = T x (T y z')) → k55 a (nI x) (nI y) (nI z) w = some (zUlR n T, w)) → ∀ (k x : Nat), x ≤ n → n - x < k → (∀ x' y' z', x' < x → y' < n → z' < n → T (T x' y') z' = T x' (T y' z')) → mX2_firstUnlike_l2 F k55 k a (nI x) w = some (zUlR n T, w) := by
    intro k55 hk2 k
    induction k with
    | zero => intro z _ q; omega
    | succ k ih =>
      intro x hx hk hl
      show mX2_firstUnlike_h2 F (mX2_firstUnlike_l2 F k55 k) k55 a (nI x) w = _
      unfold mX2_firstUnlike_h2
      rw [h.sz, Option.bind_some]
      by_cases e : x = n
      · rw [e, if_pos (nI_le (Nat.le_refl _) (by omega))]
        unfold zUlR
        rw [if_neg]
        rintro ⟨i, h1, h2⟩
        refine h2 (hl _ _ _ ?_ (Nat.mod_lt _ h0) (Nat.mod_lt _ h0))
        rw [e, Nat.div_lt_iff_lt_mul (Nat.mul_pos h0 h0), Nat.mul_comm n (n * n)]; exact h1
      · have hx : x < n := by omega
        rw [if_neg (nI_ge hx (by omega))]
        refine L2 x hx _ _ (fun q => ?_) (fun y z hy hz q q2 q3 => hk2 x y z hx hy hz q hl q2 q3) F 0 (by omega) (by unfold fF at hF; omega) (fun y' _ q => by omega)
        show mX2_firstUnlike_l2 F k55 k a (nI x + 1) w = _
        rw [nI_1]
        exact ih (x + 1) (by omega) (by omega) fun x' y' z' hx' hy' hz' => by
          rcases Nat.lt_or_ge x' x with u | u
          · exact hl x' y' z' u hy' hz'
          · rw [show x' = x by omega]; exact q y' z' hy' hz'
  unfold mX2_firstUnlike
  refine L1 _ (fun x y z hx hy hz q q1 q2 q3 => ?_) F 0 (by omega) (by unfold fF at hF; omega) (fun x' _ _ q => by omega)
  show ((gFI 2 7 (some a) w).bind fun t56 => (gFI 2 7 (some a) w).bind fun t60 => (gFI 2 7 (some a) w).bind fun t67 => some (((((t56 * t60) * nI x) + (t67 * nI y)) + nI z), w)) = _
  rw [h.sz, Option.bind_some, Option.bind_some, Option.bind_some]
  have hi : n * n * x + n * y + z < n * n * n := by
    have h1 : n * n * (x + 1) ≤ n * n * n := Nat.mul_le_mul_left _ hx
    have h2 : n * (y + 1) ≤ n * n := Nat.mul_le_mul_left _ hy
    rw [Nat.mul_succ] at h1 h2
    omega
  obtain ⟨d1, d2, d3⟩ := z3_at (n := n) (x := x) hy hz
  have hu : zUl n T (n * n * x + n * y + z) := by
    unfold zUl; rw [d1, d2, d3]; exact q
  have hf : nF (zUl n T) (n * n * n) = n * n * x + n * y + z := by
    refine nF_of hi hu fun j hj => ?_
    intro hj2
    refine hj2 ?_
    have ex := z3_ex (i := j) h0
    have hy' := Nat.mod_lt (j / n) h0
    have hz' := Nat.mod_lt j h0
    generalize j / (n * n) = x' at *
    generalize j / n % n = y' at *
    generalize j % n = z' at *
    subst ex
    have g2 : n * (y' + 1) ≤ n * n := Nat.mul_le_mul_left _ hy'
    rw [Nat.mul_succ] at g2
    rcases Nat.lt_trichotomy x' x with u | u | u
    · exact q1 x' y' z' u hy' hz'
    · subst u
      rcases Nat.lt_trichotomy y' y with v | v | v
      · exact q2 y' z' v hz'
      · subst v
        exact q3 z' (by omega)
      · have g3 : n * (y + 1) ≤ n * y' := Nat.mul_le_mul_left _ v
        rw [Nat.mul_succ] at g3
        omega
    · have g3 : n * n * (x + 1) ≤ n * n * x' := Nat.mul_le_mul_left _ u
      have g4 : n * (y + 1) ≤ n * n := Nat.mul_le_mul_left _ hy
      rw [Nat.mul_succ] at g3 g4
      omega
  unfold zUlR
  rw [if_pos ⟨_, hi, hu⟩, hf, pk_mul, pk_mul, pk_mul, nI_add, nI_add]
theorem c_firstWithoutInverse (hF : fF F) (h : zAt w a n T S) : mX2_firstWithoutInverse F a w = some (zNoR n T, w) := by
  have hn := h.n31
  have key : ∀ (k x : Nat), x ≤ n → n - x < k → (∀ x', x' < x → ∃ y, y < n ∧ T x' y = 0) → mX2_firstWithoutInverse_l2 F k a (nI x) w = some (zNoR n T, w) := by
    intro k
    induction k with
    | zero => intro x _ q; omega
    | succ k ih =>
      intro x hx hk hl
      show mX2_firstWithoutInverse_h2 F (mX2_firstWithoutInverse_l2 F k) a (nI x) w = _
      unfold mX2_firstWithoutInverse_h2
      rw [h.sz, Option.bind_some]
      by_cases e : x = n
      · rw [e, if_pos (nI_le (Nat.le_refl _) (by omega))]
        unfold zNoR
        rw [if_neg]
        rintro ⟨i, h1, h2⟩
        exact h2 (hl i (by omega))
      · have hx : x < n := by omega
        rw [if_neg (nI_ge hx (by omega)), h.o, Option.bind_some, c_findInverse hF h hx, Option.bind_some]
        by_cases q : ∃ y, y < n ∧ T x y = 0
        · have hle := nF_le (fun y => T x y = 0) n
          have : zInv n T x ≤ n := hle
          rw [if_pos q, if_pos (nI_pos' (by omega)), nI_1]
          exact ih (x + 1) (by omega) (by omega) fun x' hx' => by
            rcases Nat.lt_or_ge x' x with u | u
            · exact hl x' u
            · rw [show x' = x by omega]; exact q
        · rw [if_neg q, if_neg (show ¬ 0 ≤ (-1 : Int32) by decide)]
          unfold zNoR
          rw [if_pos ⟨x, hx, q⟩, nF_of (P := fun x => ¬ ∃ y, y < n ∧ T x y = 0) hx q (fun j hj z => z (hl j hj))]
  exact key F 0 (by omega) (by unfold fF at hF; omega) (fun x' q => by omega)
end CRD
