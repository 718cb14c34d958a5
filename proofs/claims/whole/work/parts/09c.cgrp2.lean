/-! THE CLASS'S GROUPS: orders, counts, what a table lacks -/
section CH
variable {F a n : Nat} {T : Nat → Nat → Nat} {S : oSt} {w : gW}
theorem c_findPeriod (hF : fF F) (G : zGrp n T) (h : zAt w a n T S) {x : Nat} (hx : x < n) : mX2_findPeriod F a (nI x) w = some (nI (zOr n T x), w) := by
  have hn := h.n31
  obtain ⟨ho1, ho2⟩ := zOr_sp G hx
  have key : ∀ (k t : Nat), 1 ≤ t → t ≤ zOr n T x → zOr n T x - t < k → mX2_findPeriod_l4 F k a (nI x) (nI t) (nI (zPow T x t)) w = some (nI (zOr n T x), w) := by
    intro k
    induction k with
    | zero => intro t _ _ q; omega
    | succ k ih =>
      intro t h1 h2 h3
      have hp := zPow_lt G hx t
      show mX2_findPeriod_h4 F (mX2_findPeriod_l4 F k) a (nI x) (nI t) (nI (zPow T x t)) w = _
      unfold mX2_findPeriod_h4
      by_cases q : t = zOr n T x
      · rw [if_pos (show nI (zPow T x t) = 0 by rw [q, ho2.2.1]; rfl), q]
      · have hne := ho2.2.2 t h1 (by omega)
        rw [if_neg (nI_ne0 (by omega) (by omega)), h.sz, Option.bind_some, if_neg (nI_ge (by omega) (by omega)), h.o, Option.bind_some, h.mul hp hx, Option.bind_some, nI_1]
        exact ih (t + 1) (by omega) (by omega) (by omega)
  have := key F 1 (by omega) ho2.1 (by unfold fF at hF; omega)
  rw [zPow_one G hx] at this
  exact this
theorem c_settle (hF : fF F) (G : zGrp n T) (h : zAt w a n T S) : ∃ w1 S1, mX2_settle F a w = some w1 ∧ zAt w1 a n T S1 ∧ zDone n T S1 ∧ oI S1 6 = -1 ∧ wF a (a + 7) w w1 := by
  have hn := h.n31
  obtain ⟨w2, e1, e2, e3⟩ := h.1.pI lyG_ok (by omega) 6 rfl (-1)
  have key : ∀ (k x : Nat) (w' : gW) (S' : oSt), x ≤ n → n - x < k → zAt w' a n T S' → oI S' 6 = -1 → (∀ y, y < x → oA S' 3 y = nI (zInv n T y) ∧ oA S' 4 y = nI (zOr n T y)) → wF a (a + 7) w w' → ∃ w1 S1, mX2_settle_l7 F k a (nI x) w' = some w1 ∧ zAt w1 a n T S1 ∧ zDone n T S1 ∧ oI S1 6 = -1 ∧ wF a (a + 7) w w1 := by
    intro k
    induction k with
    | zero => intro x w' S' _ q; omega
    | succ k ih =>
      intro x w' S' h1 h2 hz h6 hd hf
      show ∃ w1 S1, mX2_settle_h7 F (mX2_settle_l7 F k) a (nI x) w' = _ ∧ _
      unfold mX2_settle_h7
      rw [hz.sz, Option.bind_some]
      by_cases q : x = n
      · subst q
        rw [if_pos (nI_le (Nat.le_refl _) (by omega))]
        exact ⟨w', S', rfl, hz, hd, h6, hf⟩
      · have hx : x < n := by omega
        rw [if_neg (nI_ge hx (by omega)), hz.1.rA 3 rfl, Option.bind_some, hz.o, Option.bind_some, c_findInverse hF hz hx, Option.bind_some, if_pos (G.2.2.2.2 x hx)]
        obtain ⟨w3, f1, f2, f3⟩ := hz.1.st lyG_ok 3 rfl (j := x) (by omega) (by omega) (nI (zInv n T x))
        dsimp only
        rw [f1, Option.bind_some]
        have hz3 : zAt w3 a n T (uA S' 3 (upd (oA S' 3) x (nI (zInv n T x)))) := ⟨f2, hz.2.1, hz.2.2.1, hz.2.2.2.1, hz.2.2.2.2.1, hz.2.2.2.2.2⟩
        rw [f2.rA 4 rfl, Option.bind_some, hz3.o, Option.bind_some, c_findPeriod hF G hz3 hx, Option.bind_some]
        obtain ⟨w4, g1, g2, g3⟩ := f2.st lyG_ok 4 rfl (j := x) (by omega) (by omega) (nI (zOr n T x))
        dsimp only
        rw [g1, Option.bind_some, nI_1]
        refine ih (x + 1) w4 _ (by omega) (by omega) ⟨g2, hz.2.1, hz.2.2.1, hz.2.2.2.1, hz.2.2.2.2.1, hz.2.2.2.2.2⟩ h6 (fun y hy => ?_) ((hf.tr f3).tr g3)
        show upd (oA S' 3) x (nI (zInv n T x)) y = _ ∧ upd (oA S' 4) x (nI (zOr n T x)) y = _
        by_cases e : y = x
        · rw [e, pk_us, pk_us]; exact ⟨rfl, rfl⟩
        · rw [pk_un e, pk_un e]; exact hd y (by omega)
  have hz2 : zAt w2 a n T (uI S 6 (-1)) := ⟨e2, h.2.1, h.2.2.1, h.2.2.2.1, h.2.2.2.2.1, h.2.2.2.2.2⟩
  obtain ⟨w1, S1, f1, f2⟩ := key F 0 w2 _ (by omega) (by unfold fF at hF; omega) hz2 (va_upS (oI S) 6 (-1)) (fun y hy => by omega) e3
  refine ⟨w1, S1, ?_, f2⟩
  unfold mX2_settle
  rw [e1, Option.bind_some]
  exact f1
def zCen (n : Nat) (T : Nat → Nat → Nat) (x : Nat) : Prop := ∀ y, y < n → T x y = T y x
theorem nC_full {P : Nat → Prop} {n : Nat} : nC P n = n ↔ ∀ i, i < n → P i := by
  constructor
  · intro h i hi
    refine Classical.byContradiction fun q => ?_
    have h1 := nC_not P n
    have h2 := nC_drop (P := fun i => ¬ P i) hi q
    omega
  · exact nC_all
theorem c_countCentral (hF : fF F) (h : zAt w a n T S) : mX2_countCentral F a w = some (nI (nC (zCen n T) n), w) := by
  have hn := h.n31
  have key : ∀ (k x : Nat), x ≤ n → n - x < k → mX2_countCentral_l4 F k a (nI (nC (zCen n T) x)) (nI x) w = some (nI (nC (zCen n T) n), w) := by
    intro k
    induction k with
    | zero => intro x _ q; omega
    | succ k ih =>
      intro x h1 h2
      show mX2_countCentral_h4 F (mX2_countCentral_l4 F k) a _ (nI x) w = _
      unfold mX2_countCentral_h4
      rw [h.sz, Option.bind_some]
      by_cases q : x = n
      · subst q
        rw [if_pos (nI_le (Nat.le_refl _) (by omega))]
      · have hx : x < n := by omega
        have hc := nC_le (fun y => T x y = T y x) n
        rw [if_neg (nI_ge hx (by omega)), h.o, Option.bind_some, c_countCommuting hF h hx, Option.bind_some, h.sz, Option.bind_some]
        unfold mX2_countCentral_b27
        have hi := ih (x + 1) (by omega) (by omega)
        by_cases e : zCen n T x
        · rw [if_pos (by rw [nC_full.mpr e]), nI_1, nI_1]
          rw [nC_t e] at hi; exact hi
        · rw [if_neg (fun q => e (nC_full.mp ((nI_eq (by omega) (by omega)).mp q))), nI_1]
          rw [nC_f e] at hi; exact hi
  exact key F 0 (by omega) (by unfold fF at hF; omega)
theorem zTurn_lt (G : zGrp n T) {x : Nat} (hx : x < n) : zTurn n T x < n := nMin_lt hx fun y hy => G.2.1 _ _ (G.2.1 _ _ hy hx) (zInv_sp G hy).1
theorem c_countTurnClasses (hF : fF F) (G : zGrp n T) (h : zAt w a n T S) (hd : zDone n T S) : mX2_countTurnClasses F a w = some (nI (nC (fun x => zTurn n T x = x) n), w) := by
  have hn := h.n31
  have key : ∀ (k x : Nat), x ≤ n → n - x < k → mX2_countTurnClasses_l4 F k a (nI (nC (fun x => zTurn n T x = x) x)) (nI x) w = some (nI (nC (fun x => zTurn n T x = x) n), w) := by
    intro k
    induction k with
    | zero => intro x _ q; omega
    | succ k ih =>
      intro x h1 h2
      show mX2_countTurnClasses_h4 F (mX2_countTurnClasses_l4 F k) a _ (nI x) w = _
      unfold mX2_countTurnClasses_h4
      rw [h.sz, Option.bind_some]
      by_cases q : x = n
      · subst q
        rw [if_pos (nI_le (Nat.le_refl _) (by omega))]
      · have hx : x < n := by omega
        have hc := zTurn_lt G hx
        rw [if_neg (nI_ge hx (by omega)), h.o, Option.bind_some, c_leastTurned hF G h hd hx, Option.bind_some]
        unfold mX2_countTurnClasses_b24
        have hi := ih (x + 1) (by omega) (by omega)
        by_cases e : zTurn n T x = x
        · rw [if_pos (by rw [e]), nI_1, nI_1]
          rw [nC_t (P := fun x => zTurn n T x = x) e] at hi; exact hi
        · rw [if_neg (fun q => e ((nI_eq (by omega) (by omega)).mp q)), nI_1]
          rw [nC_f (P := fun x => zTurn n T x = x) e] at hi; exact hi
  exact key F 0 (by omega) (by unfold fF at hF; omega)
theorem c_brings (hF : fF F) (G : zGrp n T) (h : zAt w a n T S) (hd : zDone n T S) {m : Nat} (hm : m < 2147483648) : (((∀ x, x < n → zOr n T x ∣ m) → mX2_bringsAllToZero F a (nI m) w = some (1, w)) ∧ (¬ (∀ x, x < n → zOr n T x ∣ m) → mX2_bringsAllToZero F a (nI m) w = some (0, w))) := by
  have hn := h.n31
  have key : ∀ (k x : Nat), x ≤ n → n - x < k → (∀ y, y < x → zOr n T y ∣ m) → (((∀ x, x < n → zOr n T x ∣ m) → mX2_bringsAllToZero_l2 F k a (nI m) (nI x) w = some (1, w)) ∧ (¬ (∀ x, x < n → zOr n T x ∣ m) → mX2_bringsAllToZero_l2 F k a (nI m) (nI x) w = some (0, w))) := by
    intro k
    induction k with
    | zero => intro x _ q; omega
    | succ k ih =>
      intro x h1 h2 h3
      show (_ → mX2_bringsAllToZero_h2 F (mX2_bringsAllToZero_l2 F k) a (nI m) (nI x) w = _) ∧ (_ → mX2_bringsAllToZero_h2 F (mX2_bringsAllToZero_l2 F k) a (nI m) (nI x) w = _)
      unfold mX2_bringsAllToZero_h2
      rw [h.sz, Option.bind_some]
      by_cases q : x = n
      · subst q
        rw [if_pos (nI_le (Nat.le_refl _) (by omega))]
        exact ⟨fun _ => rfl, fun q => (q h3).elim⟩
      · have hx : x < n := by omega
        obtain ⟨o1, o2⟩ := zOr_sp G hx
        have o3 := o2.1
        rw [if_neg (nI_ge hx (by omega)), h.1.rA 4 rfl, Option.bind_some, h.1.ld 4 rfl (by omega) (by omega), Option.bind_some, (hd x hx).2, c_modN hm (by omega) (by omega), Option.bind_some]
        have hml : m % zOr n T x < zOr n T x := Nat.mod_lt _ (by omega)
        by_cases e : zOr n T x ∣ m
        · rw [if_pos (show nI (m % zOr n T x) = 0 by rw [Nat.mod_eq_zero_of_dvd e]; rfl), nI_1]
          exact ih (x + 1) (by omega) (by omega) fun y hy => by
            rcases Nat.lt_or_ge y x with z | z
            · exact h3 y z
            · rw [show y = x by omega]; exact e
        · have : m % zOr n T x ≠ 0 := fun z => e (Nat.dvd_of_mod_eq_zero z)
          rw [if_neg (nI_ne0 (by omega) (by omega))]
          exact ⟨fun z => (e (z x hx)).elim, fun _ => rfl⟩
  exact key F 0 (by omega) (by unfold fF at hF; omega) fun y hy => by omega
noncomputable def zExp (n : Nat) (T : Nat → Nat → Nat) : Nat := nF (fun m => 1 ≤ m ∧ ∀ x, x < n → zOr n T x ∣ m) n
theorem c_exponent (hF : fF F) (G : zGrp n T) (h : zAt w a n T S) (hd : zDone n T S) : mX2_exponent F a w = some (nI (zExp n T), w) := by
  have hn := h.n31
  have h0 := h.2.1
  have key : ∀ (k m : Nat), 1 ≤ m → m ≤ n → n - m < k → (∀ j, 1 ≤ j → j < m → ¬ ∀ x, x < n → zOr n T x ∣ j) → mX2_exponent_l2 F (fun (v0 : Nat) (w : gW) => (gFI 2 7 (some v0) w).bind fun t27 => some (t27, w)) k a (nI m) w = some (nI (zExp n T), w) := by
    intro k
    induction k with
    | zero => intro x _ _ q; omega
    | succ k ih =>
      intro m h1 h2 h3 h4
      show mX2_exponent_h2 F (mX2_exponent_l2 F _ k) _ a (nI m) w = _
      unfold mX2_exponent_h2
      rw [h.sz, Option.bind_some]
      by_cases q : m = n
      · subst q
        rw [if_pos (nI_le (Nat.le_refl _) (by omega))]
        show ((gFI 2 7 (some a) w).bind fun t27 => some (t27, w)) = _
        rw [h.sz]
        have : zExp m T = m := nF_no fun j hj q => h4 j q.1 hj q.2
        rw [this]; rfl
      · have hm : m < n := by omega
        rw [if_neg (nI_ge hm (by omega)), h.o, Option.bind_some]
        by_cases e : ∀ x, x < n → zOr n T x ∣ m
        · rw [(c_brings hF G h hd (by omega)).1 e, Option.bind_some, if_neg (show ¬ (1 : Int32) = 0 by decide)]
          have : zExp n T = m := nF_of hm ⟨h1, e⟩ fun j hj q => h4 j q.1 hj q.2
          rw [this]
        · rw [(c_brings hF G h hd (by omega)).2 e, Option.bind_some, if_pos rfl, nI_1]
          exact ih (m + 1) (by omega) (by omega) (by omega) fun j a b => by
            rcases Nat.lt_or_ge j m with z | z
            · exact h4 j a z
            · rw [show j = m by omega]; exact e
  exact key F 1 (by omega) (by omega) (by unfold fF at hF; omega) fun j _ _ => by omega
end CH
