/-! THE CLASS'S GROUPS: pairs -/
theorem zAt.keep {w w1 : gW} {b n : Nat} {T : Nat → Nat → Nat} {S : oSt} (h : zAt w b n T S) {lo hi : Nat} (hF : wF lo hi w w1) (hd : b + 7 ≤ lo ∨ hi ≤ b) : zAt w1 b n T S := ⟨h.1.keep lyG_ok hF hd (by omega), h.2⟩
theorem zFl.f {w0 w : gW} {a m : Nat} {V : Nat → Nat → Nat} {D : Nat → Nat → Prop} (h : zFl w0 w a m V D) : wF a (a + 7) w0 w := by obtain ⟨S, -, -, -, h4⟩ := h; exact h4
def zL4 (n p q r s x y : Nat) : Prop := x / n < p ∨ (x / n = p ∧ (y / n < q ∨ (y / n = q ∧ (x % n < r ∨ (x % n = r ∧ y % n < s)))))
section CPP
variable {F a a1 a2 m n : Nat} {T1 T2 : Nat → Nat → Nat} {S S1 S2 : oSt} {w : gW}
theorem c_fillPair (hF : fF F) (h : oAt 2 lyG w a S) (h1 : zAt w a1 m T1 S1) (h2 : zAt w a2 n T2 S2) (d1 : a1 + 7 ≤ a ∨ a + 7 ≤ a1) (d2 : a2 + 7 ≤ a ∨ a + 7 ≤ a2) (h48 : m * n ≤ 48) : ∃ w1 S3, mX2_fillPair F a (some a1) (some a2) w = some w1 ∧ zAt w1 a (m * n) (zPair n T1 T2) S3 ∧ wF a (a + 7) w w1 := by
  have hm0 := h1.2.1
  have hn0 := h2.2.1
  have hm48 := h1.n31
  have hn48 := h2.n31
  obtain ⟨w2, e1, e2⟩ := zFl.start h (nI m * nI n) (m := m * n) (pk_mul m n)
  have e2 := e2 (zPair n T1 T2)
  unfold mX2_fillPair
  rw [h2.sz, Option.bind_some, h1.sz, Option.bind_some, e1, Option.bind_some]
  have lt : ∀ p r, p < m → r < n → n * p + r < 48 := fun p r hp hr => Nat.lt_of_lt_of_le (zPair_lt hp hr) h48
  have dm : ∀ p r, r < n → (n * p + r) / n = p ∧ (n * p + r) % n = r := fun p r hr => ⟨by rw [Nat.mul_add_div hn0, Nat.div_eq_of_lt hr, Nat.add_zero], by rw [Nat.mul_add_mod, Nat.mod_eq_of_lt hr]⟩
  have L4 : ∀ (p q r : Nat), p < m → q < m → r < n → ∀ (kk : Nat → Option Nat → Option Nat → Int32 → Int32 → Int32 → Int32 → gW → Option gW) (k s : Nat) (w' : gW), s ≤ n → n - s < k → zFl w w' a (m * n) (zPair n T1 T2) (fun x y => y / n < m ∧ zL4 n p q r s x y) → ∃ w3, mX2_fillPair_l51 F kk k a (some a1) (some a2) (nI n) (nI p) (nI q) (nI r) (nI s) w' = kk a (some a1) (some a2) (nI n) (nI p) (nI q) (nI r) w3 ∧ zFl w w3 a (m * n) (zPair n T1 T2) (fun x y => y / n < m ∧ zL4 n p q (r + 1) 0 x y) := by
    intro p q r hp hq hr kk k
    induction k with
    | zero => intro s w' _ z; omega
    | succ k ih =>
      intro s w' hs hk hz
      show ∃ w3, mX2_fillPair_h51 F (mX2_fillPair_l51 F kk k) kk a (some a1) (some a2) (nI n) (nI p) (nI q) (nI r) (nI s) w' = _ ∧ _
      unfold mX2_fillPair_h51
      by_cases e : s = n
      · rw [e, if_pos (nI_le (Nat.le_refl _) (by omega))]
        refine ⟨w', rfl, hz.weak fun x y _ _ hd => ⟨hd.1, ?_⟩⟩
        have := Nat.mod_lt y hn0
        have := hd.2
        unfold zL4 at *
        omega
      · have hs : s < n := by omega
        have g1 := h1.keep hz.f d1
        have g2 := h2.keep hz.f d2
        have c1 := lt p r hp hr
        have c2 := lt q s hq hs
        obtain ⟨w4, f1, f2⟩ := hz.set (F := F) (x := n * p + r) (y := n * q + s) c1 c2
        rw [zPair_at hr hs] at f1
        rw [if_neg (nI_ge hs (by omega)), g1.o, Option.bind_some, g1.mul hp hq, Option.bind_some, g2.o, Option.bind_some, g2.mul hr hs, Option.bind_some, hz.o, Option.bind_some]
        rw [pk_mul, pk_mul, pk_mul, nI_add, nI_add, nI_add, f1, Option.bind_some, nI_1]
        refine ih (s + 1) w4 (by omega) (by omega) (f2.weak fun x y _ _ hd => ?_)
        have ex := Nat.div_add_mod x n
        have ey := Nat.div_add_mod y n
        have h4 := hd.2
        by_cases z : zL4 n p q r s x y
        · exact Or.inl ⟨hd.1, z⟩
        · right
          have : x / n = p ∧ y / n = q ∧ x % n = r ∧ y % n = s := by unfold zL4 at *; omega
          obtain ⟨u1, u2, u3, u4⟩ := this
          rw [u1, u3] at ex
          rw [u2, u4] at ey
          exact ⟨ex.symm, ey.symm⟩
  have L3 : ∀ (p q : Nat), p < m → q < m → ∀ (kk : Nat → Option Nat → Option Nat → Int32 → Int32 → Int32 → gW → Option gW) (k r : Nat) (w' : gW), r ≤ n → n - r < k → zFl w w' a (m * n) (zPair n T1 T2) (fun x y => y / n < m ∧ zL4 n p q r 0 x y) → ∃ w3, mX2_fillPair_l42 F kk k a (some a1) (some a2) (nI n) (nI p) (nI q) (nI r) w' = kk a (some a1) (some a2) (nI n) (nI p) (nI q) w3 ∧ zFl w w3 a (m * n) (zPair n T1 T2) (fun x y => y / n < m ∧ zL4 n p (q + 1) 0 0 x y) := by
    intro p q hp hq kk k
    induction k with
    | zero => intro s w' _ z; omega
    | succ k ih =>
      intro r w' hr hk hz
      show ∃ w3, mX2_fillPair_h42 F (mX2_fillPair_l42 F kk k) kk a (some a1) (some a2) (nI n) (nI p) (nI q) (nI r) w' = _ ∧ _
      unfold mX2_fillPair_h42
      by_cases e : r = n
      · rw [e, if_pos (nI_le (Nat.le_refl _) (by omega))]
        refine ⟨w', rfl, hz.weak fun x y _ _ hd => ⟨hd.1, ?_⟩⟩
        have := Nat.mod_lt x hn0
        have := hd.2
        unfold zL4 at *
        omega
      · have hr : r < n := by omega
        rw [if_neg (nI_ge hr (by omega))]
        obtain ⟨w4, f1, f2⟩ := L4 p q r hp hq hr (fun v0 v1 v2 v3 v4 v5 v6 w => mX2_fillPair_l42 F kk k v0 v1 v2 v3 v4 v5 (v6 + 1) w) F 0 w' (by omega) (by unfold fF at hF; omega) hz
        have f1' : mX2_fillPair_l51 F (fun v0 v1 v2 v3 v4 v5 v6 w => mX2_fillPair_l42 F kk k v0 v1 v2 v3 v4 v5 (v6 + 1) w) F a (some a1) (some a2) (nI n) (nI p) (nI q) (nI r) 0 w' = mX2_fillPair_l42 F kk k a (some a1) (some a2) (nI n) (nI p) (nI q) (nI r + 1) w4 := f1
        rw [f1', nI_1]
        exact ih (r + 1) w4 (by omega) (by omega) f2
  have L2 : ∀ (p : Nat), p < m → ∀ (kk : Nat → Option Nat → Option Nat → Int32 → Int32 → gW → Option gW) (k q : Nat) (w' : gW), q ≤ m → m - q < k → zFl w w' a (m * n) (zPair n T1 T2) (fun x y => y / n < m ∧ zL4 n p q 0 0 x y) → ∃ w3, mX2_fillPair_l30 F kk k a (some a1) (some a2) (nI n) (nI p) (nI q) w' = kk a (some a1) (some a2) (nI n) (nI p) w3 ∧ zFl w w3 a (m * n) (zPair n T1 T2) (fun x y => y / n < m ∧ zL4 n (p + 1) 0 0 0 x y) := by
    intro p hp kk k
    induction k with
    | zero => intro s w' _ z; omega
    | succ k ih =>
      intro q w' hq hk hz
      show ∃ w3, mX2_fillPair_h30 F (mX2_fillPair_l30 F kk k) kk a (some a1) (some a2) (nI n) (nI p) (nI q) w' = _ ∧ _
      unfold mX2_fillPair_h30
      rw [(h1.keep hz.f d1).sz, Option.bind_some]
      by_cases e : q = m
      · rw [e, if_pos (nI_le (Nat.le_refl _) (by omega))]
        refine ⟨w', rfl, hz.weak fun x y _ _ hd => ⟨hd.1, ?_⟩⟩
        have t1 := hd.1
        have t2 := hd.2
        unfold zL4 at *
        generalize x / n = u1 at *; generalize y / n = u2 at *; generalize x % n = u3 at *; generalize y % n = u4 at *
        omega
      · have hq : q < m := by omega
        rw [if_neg (nI_ge hq (by omega))]
        obtain ⟨w4, f1, f2⟩ := L3 p q hp hq (fun v0 v1 v2 v3 v4 v5 w => mX2_fillPair_l30 F kk k v0 v1 v2 v3 v4 (v5 + 1) w) F 0 w' (by omega) (by unfold fF at hF; omega) hz
        have f1' : mX2_fillPair_l42 F (fun v0 v1 v2 v3 v4 v5 w => mX2_fillPair_l30 F kk k v0 v1 v2 v3 v4 (v5 + 1) w) F a (some a1) (some a2) (nI n) (nI p) (nI q) 0 w' = mX2_fillPair_l30 F kk k a (some a1) (some a2) (nI n) (nI p) (nI q + 1) w4 := f1
        rw [f1', nI_1]
        exact ih (q + 1) w4 (by omega) (by omega) f2
  have L1 : ∀ (k p : Nat) (w' : gW), p ≤ m → m - p < k → zFl w w' a (m * n) (zPair n T1 T2) (fun x y => y / n < m ∧ zL4 n p 0 0 0 x y) → ∃ w3, mX2_fillPair_l18 F k a (some a1) (some a2) (nI n) (nI p) w' = some w3 ∧ zFl w w3 a (m * n) (zPair n T1 T2) (fun x y => y / n < m ∧ x / n < m) := by
    intro k
    induction k with
    | zero => intro s w' _ z; omega
    | succ k ih =>
      intro p w' hp hk hz
      show ∃ w3, mX2_fillPair_h18 F (mX2_fillPair_l18 F k) a (some a1) (some a2) (nI n) (nI p) w' = _ ∧ _
      unfold mX2_fillPair_h18
      rw [(h1.keep hz.f d1).sz, Option.bind_some]
      by_cases e : p = m
      · rw [e, if_pos (nI_le (Nat.le_refl _) (by omega))]
        refine ⟨w', rfl, hz.weak fun x y _ _ hd => ⟨hd.1, ?_⟩⟩
        have := hd.2
        unfold zL4
        omega
      · have hp : p < m := by omega
        rw [if_neg (nI_ge hp (by omega))]
        obtain ⟨w4, f1, f2⟩ := L2 p hp (fun v0 v1 v2 v3 v4 w => mX2_fillPair_l18 F k v0 v1 v2 v3 (v4 + 1) w) F 0 w' (by omega) (by unfold fF at hF; omega) hz
        have f1' : mX2_fillPair_l30 F (fun v0 v1 v2 v3 v4 w => mX2_fillPair_l18 F k v0 v1 v2 v3 (v4 + 1) w) F a (some a1) (some a2) (nI n) (nI p) 0 w' = mX2_fillPair_l18 F k a (some a1) (some a2) (nI n) (nI p + 1) w4 := f1
        rw [f1', nI_1]
        exact ih (p + 1) w4 (by omega) (by omega) f2
  obtain ⟨w3, f1, f2⟩ := L1 F 0 w2 (by omega) (by unfold fF at hF; omega) (e2.weak fun x y _ _ hd => by
    have t2 := hd.2
    unfold zL4 at t2
    generalize x / n = u1 at *; generalize y / n = u2 at *; generalize x % n = u3 at *; generalize y % n = u4 at *
    omega)
  have hlt : ∀ x, x < m * n → x / n < m := fun x hx => by rw [Nat.div_lt_iff_lt_mul hn0]; exact hx
  have hV : ∀ x y, x < m * n → y < m * n → zPair n T1 T2 x y < m * n := fun x y hx hy => zPair_lt (h1.tl (hlt x hx) (hlt y hy)) (h2.tl (Nat.mod_lt x hn0) (Nat.mod_lt y hn0))
  obtain ⟨S3, g1, g2⟩ := f2.done h48 (Nat.mul_pos hm0 hn0) hV (fun x y hx hy => ⟨hlt y hy, hlt x hx⟩)
  exact ⟨w3, S3, f1, g1, g2⟩
end CPP
