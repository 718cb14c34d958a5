/-! THE CLASS'S GROUPS: dihedral, quaternions, pairs -/
section CP
variable {F a n : Nat} {S : oSt} {w : gW}
theorem iO_add (a b : Nat) : nI a + nI b = Int32.ofInt ((a : Int) + b) := by rw [nI_add, ← iO_nat]; congr 1
theorem c_fillDih (hF : fF F) (h : oAt 2 lyG w a S) (h0 : 0 < n) (h24 : n ≤ 24) : ∃ w1 S1, mX2_fillTurnsAndFlips F a (nI n) w = some w1 ∧ zAt w1 a (2 * n) (zDih n) S1 ∧ wF a (a + 7) w w1 := by
  obtain ⟨w2, e1, e2⟩ := zFl.start h ((2 : Int32) * nI n) (m := 2 * n) (by rw [show (2 : Int32) = nI 2 from rfl, pk_mul])
  have e2 := e2 (zDih n)
  unfold mX2_fillTurnsAndFlips
  rw [e1, Option.bind_some]
  have inner : ∀ (x : Nat), x < (2 * n) → ∀ (kk : Nat → Int32 → Int32 → gW → Option gW) (k y : Nat) (w' : gW), y ≤ (2 * n) → (2 * n) - y < k → zFl w w' a (2 * n) (zDih n) (fun x' y' => (x' < x ∧ y' < (2 * n)) ∨ (x' = x ∧ y' < y)) → ∃ w3, mX2_fillTurnsAndFlips_l19 F kk k a (nI n) (nI x) (nI y) w' = kk a (nI n) (nI x) w3 ∧ zFl w w3 a (2 * n) (zDih n) (fun x' y' => x' < x + 1 ∧ y' < (2 * n)) := by
    intro x hx kk k
    induction k with
    | zero => intro y w' _ q; omega
    | succ k ih =>
      intro y w' hy hk hz
      show ∃ w3, mX2_fillTurnsAndFlips_h19 F (mX2_fillTurnsAndFlips_l19 F kk k) kk a (nI n) (nI x) (nI y) w' = _ ∧ _
      unfold mX2_fillTurnsAndFlips_h19
      rw [hz.sz, Option.bind_some]
      by_cases q : y = (2 * n)
      · rw [q, if_pos (nI_le (Nat.le_refl _) (by omega))]
        exact ⟨w', rfl, hz.weak fun x' y' _ _ hd => by omega⟩
      · have hy : y < (2 * n) := by omega
        rw [if_neg (nI_ge hy (by omega))]
        obtain ⟨w4, f1, f2⟩ := hz.set (F := F) (x := x) (y := y) (by omega) (by omega)
        obtain ⟨r, r1, r2, r3⟩ := zDih_at h0 x y
        have hr : r = ((if x < n then (x : Int) + y else (x : Int) - y) % (n : Int)).toNat := by omega
        have hm : ∀ w, mX6_mod F (if x < n then nI x + nI y else nI x - nI y) (nI n) w = some (nI r, w) := fun w => by
          by_cases c : x < n
          · rw [if_pos c, iO_add, c_mod (by omega) (by omega) h0 (by omega), hr, if_pos c]
          · rw [if_neg c, iO_sub, c_mod (by omega) (by omega) h0 (by omega), hr, if_neg c]
        have hs : ∀ e : Nat, e = (if (x < n ↔ y < n) then 0 else n) → mX2_fillTurnsAndFlips_b92 F (mX2_fillTurnsAndFlips_l19 F kk k) kk a (nI n) (nI x) (nI y) (some a) (nI x) (nI y) (nI r) (nI e) w' = mX2_fillTurnsAndFlips_l19 F kk k a (nI n) (nI x) (nI (y + 1)) w4 := fun e he => by
          unfold mX2_fillTurnsAndFlips_b92
          rw [hz.o, Option.bind_some, nI_add, he, ← r3, f1, Option.bind_some, nI_1]
        by_cases c : x < n
        · rw [if_neg (nI_ge c (by omega))]
          have hm := hm w'
          rw [if_pos c] at hm
          unfold mX2_fillTurnsAndFlips_b41
          rw [if_neg (nI_ge c (by omega))]
          unfold mX2_fillTurnsAndFlips_b53
          by_cases c2 : y < n
          · rw [if_neg (nI_ge c2 (by omega))]
            unfold mX2_fillTurnsAndFlips_b63
            rw [if_pos rfl]
            unfold mX2_fillTurnsAndFlips_b71
            rw [hm, Option.bind_some, if_pos rfl]
            have := hs 0 (by rw [if_pos ⟨fun _ => c2, fun _ => c⟩])
            rw [show mX2_fillTurnsAndFlips_b92 F (mX2_fillTurnsAndFlips_l19 F kk k) kk a (nI n) (nI x) (nI y) (some a) (nI x) (nI y) (nI r) 0 w' = _ from this]
            exact ih (y + 1) w4 (by omega) (by omega) (f2.weak fun x' y' _ _ hd => by omega)
          · rw [if_pos (nI_le (by omega) (by omega))]
            unfold mX2_fillTurnsAndFlips_b63
            rw [if_neg (by decide)]
            unfold mX2_fillTurnsAndFlips_b71
            rw [hm, Option.bind_some, if_neg (by decide), hs n (by rw [if_neg (fun q => c2 (q.mp c))])]
            exact ih (y + 1) w4 (by omega) (by omega) (f2.weak fun x' y' _ _ hd => by omega)
        · rw [if_pos (nI_le (by omega) (by omega))]
          have hm := hm w'
          rw [if_neg c] at hm
          unfold mX2_fillTurnsAndFlips_b41
          rw [if_pos (nI_le (by omega) (by omega))]
          unfold mX2_fillTurnsAndFlips_b53
          by_cases c2 : y < n
          · rw [if_neg (nI_ge c2 (by omega))]
            unfold mX2_fillTurnsAndFlips_b63
            rw [if_neg (by decide)]
            unfold mX2_fillTurnsAndFlips_b71
            rw [hm, Option.bind_some, if_neg (by decide), hs n (by rw [if_neg (fun q => c (q.mpr c2))])]
            exact ih (y + 1) w4 (by omega) (by omega) (f2.weak fun x' y' _ _ hd => by omega)
          · rw [if_pos (nI_le (by omega) (by omega))]
            unfold mX2_fillTurnsAndFlips_b63
            rw [if_pos rfl]
            unfold mX2_fillTurnsAndFlips_b71
            rw [hm, Option.bind_some, if_pos rfl]
            have := hs 0 (by rw [if_pos ⟨fun q => (c q).elim, fun q => (c2 q).elim⟩])
            rw [show mX2_fillTurnsAndFlips_b92 F (mX2_fillTurnsAndFlips_l19 F kk k) kk a (nI n) (nI x) (nI y) (some a) (nI x) (nI y) (nI r) 0 w' = _ from this]
            exact ih (y + 1) w4 (by omega) (by omega) (f2.weak fun x' y' _ _ hd => by omega)
  have outer : ∀ (k x : Nat) (w' : gW), x ≤ (2 * n) → (2 * n) - x < k → zFl w w' a (2 * n) (zDih n) (fun x' y' => x' < x ∧ y' < (2 * n)) → ∃ w3, mX2_fillTurnsAndFlips_l9 F k a (nI n) (nI x) w' = some w3 ∧ zFl w w3 a (2 * n) (zDih n) (fun x' y' => x' < (2 * n) ∧ y' < (2 * n)) := by
    intro k
    induction k with
    | zero => intro x w' _ q; omega
    | succ k ih =>
      intro x w' hx hk hz
      show ∃ w3, mX2_fillTurnsAndFlips_h9 F (mX2_fillTurnsAndFlips_l9 F k) a (nI n) (nI x) w' = _ ∧ _
      unfold mX2_fillTurnsAndFlips_h9
      rw [hz.sz, Option.bind_some]
      by_cases q : x = (2 * n)
      · rw [q, if_pos (nI_le (Nat.le_refl _) (by omega))]
        exact ⟨w', rfl, hz.weak fun x' y' _ _ hd => by omega⟩
      · have hx : x < (2 * n) := by omega
        rw [if_neg (nI_ge hx (by omega))]
        obtain ⟨w4, f1, f2⟩ := inner x hx (fun v0 u0 v2 w => mX2_fillTurnsAndFlips_l9 F k v0 u0 (v2 + 1) w) F 0 w' (by omega) (by unfold fF at hF; omega) (hz.weak fun x' y' _ _ hd => by omega)
        refine Eq.mp ?_ (ih (x + 1) w4 (by omega) (by omega) f2)
        congr 1
        funext w3
        congr 2
        rw [← nI_1]
        exact f1.symm
  obtain ⟨w3, f1, f2⟩ := outer F 0 w2 (by omega) (by unfold fF at hF; omega) (e2.weak fun x' y' _ _ hd => by omega)
  obtain ⟨S1, g1, g2⟩ := f2.done (by omega) (by omega) (fun x y hx hy => zDih_lt h0) (fun x y hx hy => ⟨hx, hy⟩)
  exact ⟨w3, S1, f1, g1, g2⟩
theorem zQua_unit : ∀ x, x < 8 → ∀ y, y < 8 → gUn (((nI x &&& (3 : Int32)) * (4 : Int32)) + (nI y &&& (3 : Int32))) = some (nI ([0, 1, 2, 3, 1, 4, 3, 6, 2, 7, 4, 1, 3, 2, 5, 4].getD (x % 4 * 4 + y % 4) 0)) ∧ (nI ([0, 1, 2, 3, 1, 4, 3, 6, 2, 7, 4, 1, 3, 2, 5, 4].getD (x % 4 * 4 + y % 4) 0) ^^^ ((nI x ^^^ nI y) &&& (4 : Int32))) = nI (zQua x y) := by decide +kernel
theorem c_fillQua (hF : fF F) (h : oAt 2 lyG w a S) : ∃ w1 S1, mX2_fillUnits F a w = some w1 ∧ zAt w1 a 8 zQua S1 ∧ wF a (a + 7) w w1 := by
  obtain ⟨w2, e1, e2⟩ := zFl.start h (8 : Int32) (m := 8) rfl
  have e2 := e2 zQua
  unfold mX2_fillUnits
  rw [e1, Option.bind_some]
  have inner : ∀ (x : Nat), x < 8 → ∀ (kk : Nat → Int32 → gW → Option gW) (k y : Nat) (w' : gW), y ≤ 8 → 8 - y < k → zFl w w' a 8 zQua (fun x' y' => (x' < x ∧ y' < 8) ∨ (x' = x ∧ y' < y)) → ∃ w3, mX2_fillUnits_l18 F kk k a (nI x) (nI y) w' = kk a (nI x) w3 ∧ zFl w w3 a 8 zQua (fun x' y' => x' < x + 1 ∧ y' < 8) := by
    intro x hx kk k
    induction k with
    | zero => intro y w' _ q; omega
    | succ k ih =>
      intro y w' hy hk hz
      show ∃ w3, mX2_fillUnits_h18 F (mX2_fillUnits_l18 F kk k) kk a (nI x) (nI y) w' = _ ∧ _
      unfold mX2_fillUnits_h18
      rw [hz.sz, Option.bind_some]
      by_cases q : y = 8
      · rw [q, if_pos (nI_le (Nat.le_refl _) (by omega))]
        exact ⟨w', rfl, hz.weak fun x' y' _ _ hd => by omega⟩
      · have hy : y < 8 := by omega
        rw [if_neg (nI_ge hy (by omega))]
        obtain ⟨w4, f1, f2⟩ := hz.set (F := F) (x := x) (y := y) (by omega) (by omega)
        obtain ⟨u1, u2⟩ := zQua_unit x hx y hy
        rw [u1, Option.bind_some, hz.o, Option.bind_some, u2, f1, Option.bind_some, nI_1]
        exact ih (y + 1) w4 (by omega) (by omega) (f2.weak fun x' y' _ _ hd => by omega)
  have outer : ∀ (k x : Nat) (w' : gW), x ≤ 8 → 8 - x < k → zFl w w' a 8 zQua (fun x' y' => x' < x ∧ y' < 8) → ∃ w3, mX2_fillUnits_l8 F k a (nI x) w' = some w3 ∧ zFl w w3 a 8 zQua (fun x' y' => x' < 8 ∧ y' < 8) := by
    intro k
    induction k with
    | zero => intro x w' _ q; omega
    | succ k ih =>
      intro x w' hx hk hz
      show ∃ w3, mX2_fillUnits_h8 F (mX2_fillUnits_l8 F k) a (nI x) w' = _ ∧ _
      unfold mX2_fillUnits_h8
      rw [hz.sz, Option.bind_some]
      by_cases q : x = 8
      · rw [q, if_pos (nI_le (Nat.le_refl _) (by omega))]
        exact ⟨w', rfl, hz.weak fun x' y' _ _ hd => by omega⟩
      · have hx : x < 8 := by omega
        rw [if_neg (nI_ge hx (by omega))]
        obtain ⟨w4, f1, f2⟩ := inner x hx (fun v0 v2 w => mX2_fillUnits_l8 F k v0 (v2 + 1) w) F 0 w' (by omega) (by unfold fF at hF; omega) (hz.weak fun x' y' _ _ hd => by omega)
        refine Eq.mp ?_ (ih (x + 1) w4 (by omega) (by omega) f2)
        congr 1
        funext w3
        congr 2
        rw [← nI_1]
        exact f1.symm
  obtain ⟨w3, f1, f2⟩ := outer F 0 w2 (by omega) (by unfold fF at hF; omega) (e2.weak fun x' y' _ _ hd => by omega)
  obtain ⟨S1, g1, g2⟩ := f2.done (by omega) (by omega) (fun x y hx hy => zQua_grp.2.1 x y hx hy) (fun x y hx hy => ⟨hx, hy⟩)
  exact ⟨w3, S1, f1, g1, g2⟩
end CP
