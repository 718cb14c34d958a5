/-! THE CLASS'S GROUPS: filling tables -/
def zFil (S : oSt) (V : Nat → Nat → Nat) (D : Nat → Nat → Prop) : Prop := ∀ x y, x < 48 → y < 48 → D x y → oA S 0 (x * 48 + y) = nI (V x y)
/-- a table on the way: filled where D says so; nothing outside the group's cells has changed -/
def zFl (w0 w : gW) (a m : Nat) (V : Nat → Nat → Nat) (D : Nat → Nat → Prop) : Prop := ∃ S, oAt 2 lyG w a S ∧ oI S 7 = nI m ∧ zFil S V D ∧ wF a (a + 7) w0 w
section CF
variable {F a m n : Nat} {V T : Nat → Nat → Nat} {D D' : Nat → Nat → Prop} {S : oSt} {w0 w : gW}
theorem zFl.o (h : zFl w0 w a m V D) : gO 2 (some a) w = some a := by obtain ⟨S, h1, -⟩ := h; exact h1.O
theorem zFl.sz (h : zFl w0 w a m V D) : gFI 2 7 (some a) w = some (nI m) := by obtain ⟨S, h1, h2, -⟩ := h; rw [h1.rI 7 rfl, h2]
theorem zFl.weak (h : zFl w0 w a m V D) (hD : ∀ x y, x < 48 → y < 48 → D' x y → D x y) : zFl w0 w a m V D' := by
  obtain ⟨S, h1, h2, h3, h4⟩ := h
  exact ⟨S, h1, h2, fun x y hx hy hd => h3 x y hx hy (hD x y hx hy hd), h4⟩
theorem zFl.set (h : zFl w0 w a m V D) {x y : Nat} (hx : x < 48) (hy : y < 48) : ∃ w1, mX2_set F a (nI x) (nI y) (nI (V x y)) w = some w1 ∧ zFl w0 w1 a m V (fun x' y' => D x' y' ∨ (x' = x ∧ y' = y)) := by
  obtain ⟨S, h1, h2, h3, h4⟩ := h
  obtain ⟨w1, e1, e2, e3⟩ := h1.st lyG_ok 0 rfl (j := x * 48 + y) (by omega) (by omega) (nI (V x y))
  refine ⟨w1, ?_, _, e2, h2, fun x' y' hx' hy' hd => ?_, h4.tr e3⟩
  · unfold mX2_set
    rw [h1.rA 0 rfl, Option.bind_some, show (48 : Int32) = nI 48 from rfl, pk_mul, nI_add, e1]
    rfl
  · show upd (oA S 0) (x * 48 + y) (nI (V x y)) (x' * 48 + y') = _
    by_cases q : x' = x ∧ y' = y
    · rw [q.1, q.2, pk_us]
    · rw [pk_un (by omega)]
      exact h3 x' y' hx' hy' (hd.resolve_right q)
theorem zFl.start (h : oAt 2 lyG w a S) (v : Int32) {m : Nat} (hv : v = nI m) : ∃ w1, gP 2 7 (some a) (.inl v) w = some w1 ∧ ∀ V, zFl w w1 a m V (fun _ _ => False) := by
  obtain ⟨w1, e1, e2, e3⟩ := h.pI lyG_ok (by omega) 7 rfl v
  refine ⟨w1, e1, fun V => ⟨_, e2, ?_, fun _ _ _ _ q => q.elim, e3⟩⟩
  show va_up (oI S) 7 v 7 = _
  rw [va_upS, hv]
theorem zFl.done (h : zFl w0 w a m V D) (hm : m ≤ 48) (hm0 : 0 < m) (hV : ∀ x y, x < m → y < m → V x y < m) (hD : ∀ x y, x < m → y < m → D x y) : ∃ S, zAt w a m V S ∧ wF a (a + 7) w0 w := by
  obtain ⟨S, h1, h2, h3, h4⟩ := h
  exact ⟨S, ⟨h1, hm0, hm, h2, hV, fun x y hx hy => h3 x y (by omega) (by omega) (hD x y hx hy)⟩, h4⟩
def zCyc (n : Nat) (x y : Nat) : Nat := (x + y) % n
theorem c_fillTurns (hF : fF F) (h : oAt 2 lyG w a S) (h0 : 0 < n) (h48 : n ≤ 48) : ∃ w1 S1, mX2_fillTurns F a (nI n) w = some w1 ∧ zAt w1 a n (zCyc n) S1 ∧ wF a (a + 7) w w1 := by
  obtain ⟨w2, e1, e2⟩ := zFl.start h (nI n) (m := n) rfl
  have e2 := e2 (zCyc n)
  unfold mX2_fillTurns
  rw [e1, Option.bind_some]
  have inner : ∀ (x : Nat), x < n → ∀ (kk : Nat → Int32 → Int32 → gW → Option gW) (k y : Nat) (w' : gW), y ≤ n → n - y < k → zFl w w' a n (zCyc n) (fun x' y' => (x' < x ∧ y' < n) ∨ (x' = x ∧ y' < y)) → ∃ w3, mX2_fillTurns_l14 F kk k a (nI n) (nI x) (nI y) w' = kk a (nI n) (nI x) w3 ∧ zFl w w3 a n (zCyc n) (fun x' y' => x' < x + 1 ∧ y' < n) := by
    intro x hx kk k
    induction k with
    | zero => intro y w' _ q; omega
    | succ k ih =>
      intro y w' hy hk hz
      show ∃ w3, mX2_fillTurns_h14 F (mX2_fillTurns_l14 F kk k) kk a (nI n) (nI x) (nI y) w' = _ ∧ _
      unfold mX2_fillTurns_h14
      by_cases q : y = n
      · subst q
        rw [if_pos (nI_le (Nat.le_refl _) (by omega))]
        exact ⟨w', rfl, hz.weak fun x' y' _ _ hd => by omega⟩
      · have hy : y < n := by omega
        rw [if_neg (nI_ge hy (by omega)), nI_add, c_modN (by omega) h0 (by omega), Option.bind_some, hz.o, Option.bind_some]
        obtain ⟨w4, f1, f2⟩ := hz.set (F := F) (x := x) (y := y) (by omega) (by omega)
        have f1' : mX2_set F a (nI x) (nI y) (nI ((x + y) % n)) w' = some w4 := f1
        rw [f1', Option.bind_some, nI_1]
        exact ih (y + 1) w4 (by omega) (by omega) (f2.weak fun x' y' _ _ hd => by omega)
  have outer : ∀ (k x : Nat) (w' : gW), x ≤ n → n - x < k → zFl w w' a n (zCyc n) (fun x' y' => x' < x ∧ y' < n) → ∃ w3, mX2_fillTurns_l7 F k a (nI n) (nI x) w' = some w3 ∧ zFl w w3 a n (zCyc n) (fun x' y' => x' < n ∧ y' < n) := by
    intro k
    induction k with
    | zero => intro x w' _ q; omega
    | succ k ih =>
      intro x w' hx hk hz
      show ∃ w3, mX2_fillTurns_h7 F (mX2_fillTurns_l7 F k) a (nI n) (nI x) w' = _ ∧ _
      unfold mX2_fillTurns_h7
      by_cases q : x = n
      · subst q
        rw [if_pos (nI_le (Nat.le_refl _) (by omega))]
        exact ⟨w', rfl, hz⟩
      · have hx : x < n := by omega
        rw [if_neg (nI_ge hx (by omega))]
        obtain ⟨w4, f1, f2⟩ := inner x hx (fun v0 v1 v2 w => mX2_fillTurns_l7 F k v0 v1 (v2 + 1) w) F 0 w' (by omega) (by unfold fF at hF; omega) (hz.weak fun x' y' _ _ hd => by omega)
        have f1' : mX2_fillTurns_l14 F (fun v0 v1 v2 w => mX2_fillTurns_l7 F k v0 v1 (v2 + 1) w) F a (nI n) (nI x) 0 w' = mX2_fillTurns_l7 F k a (nI n) (nI x + 1) w4 := f1
        rw [f1', nI_1]
        exact ih (x + 1) w4 (by omega) (by omega) f2
  obtain ⟨w3, f1, f2⟩ := outer F 0 w2 (by omega) (by unfold fF at hF; omega) (e2.weak fun x' y' _ _ hd => by omega)
  obtain ⟨S1, g1, g2⟩ := f2.done h48 h0 (fun x y hx hy => Nat.mod_lt _ h0) (fun x y hx hy => ⟨hx, hy⟩)
  exact ⟨w3, S1, f1, g1, g2⟩
end CF
