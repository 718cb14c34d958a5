/-! THE BEGINNING: a root with its sheets, a model -/
section INI
variable {F x m : Nat} {w w0 w1 : gW} {S : oSt}
/-- a sheet's numbers, and the model's, at the beginning -/
def sZ : zS := zuI zZ 1 (-1)
def iZ : zS := zuI (zwA zZ 4 (fun i => if i < 4 then -4 else 0)) 29 (-4)
def iC (x : Nat) : yC := (fun b => if b = x + 4 ∨ b = x + 6 ∨ b = x + 8 ∨ b = x + 10 then some (4, 0) else none, fun _ _ => none)
def iO : zO := fun _ => sZ
theorem i4 : (upd (upd (upd (upd (fun _ => (0 : Int32)) 0 (-4)) 1 (-4)) 2 (-4)) 3 (-4)) = oA (cvZ iZ) 4 := by
  funext j
  show _ = Int32.ofInt (if ((j : Nat) : Int) < 4 then -4 else 0)
  by_cases c3 : j = 3
  · rw [c3, pk_us]; rfl
  · rw [pk_un c3]
    by_cases c2 : j = 2
    · rw [c2, pk_us]; rfl
    · rw [pk_un c2]
      by_cases c1 : j = 1
      · rw [c1, pk_us]; rfl
      · rw [pk_un c1]
        by_cases c0 : j = 0
        · rw [c0, pk_us]; rfl
        · rw [pk_un c0, if_neg (by omega)]; rfl
theorem ini_model (w : gW) : ∃ w1, mX7_init F w.2 (gNO 7 [.int 0, .null, .null, .null, .null, .null, .null, .int 0, .null, .null, .null, .null, .null, .null, .int 0, .long 0, .long 0, .null, .null, .null, .null, .null, .null, .int 0, .int 0, .null, .null, .null, .int 0, .int 0, .null, .null, .null, .null, .null, .int 0, .int 0, .int 0, .int 0, .int 0] w) = some w1 ∧ w1.2 = w.2 + 27 ∧ (∀ b, b < w.2 → w1.1 b = w.1 b) ∧ oAt 7 lyZ w1 w.2 (cvZ iZ) := by
  have b0 := bld_0 w 7 [.int 0, .null, .null, .null, .null, .null, .null, .int 0, .null, .null, .null, .null, .null, .null, .int 0, .long 0, .long 0, .null, .null, .null, .null, .null, .null, .int 0, .int 0, .null, .null, .null, .int 0, .int 0, .null, .null, .null, .null, .null, .int 0, .int 0, .int 0, .int 0, .int 0]
  obtain ⟨w1, e1, b1⟩ := b0.NP 8 8 1 1 (8 : Int32) rfl (by omega) (by omega) (Nat.le_of_ble_eq_true rfl) rfl
  have d1 : bld w w1 w.2 7 [.int 0, .ref (w.2 + 1), .null, .null, .null, .null, .null, .int 0, .null, .null, .null, .null, .null, .null, .int 0, .long 0, .long 0, .null, .null, .null, .null, .null, .null, .int 0, .int 0, .null, .null, .null, .int 0, .int 0, .null, .null, .null, .null, .null, .int 0, .int 0, .int 0, .int 0, .int 0] [.inl (8, fun _ => 0)] := b1
  obtain ⟨w2, e2, b2⟩ := d1.NP 41472 41472 2 2 (41472 : Int32) rfl (by omega) (by omega) (Nat.le_of_ble_eq_true rfl) rfl
  have d2 : bld w w2 w.2 7 [.int 0, .ref (w.2 + 1), .ref (w.2 + 2), .null, .null, .null, .null, .int 0, .null, .null, .null, .null, .null, .null, .int 0, .long 0, .long 0, .null, .null, .null, .null, .null, .null, .int 0, .int 0, .null, .null, .null, .int 0, .int 0, .null, .null, .null, .null, .null, .int 0, .int 0, .int 0, .int 0, .int 0] [.inl (8, fun _ => 0), .inl (41472, fun _ => 0)] := b2
  obtain ⟨w3, e3, b3⟩ := d2.NP 8 8 3 3 (8 : Int32) rfl (by omega) (by omega) (Nat.le_of_ble_eq_true rfl) rfl
  have d3 : bld w w3 w.2 7 [.int 0, .ref (w.2 + 1), .ref (w.2 + 2), .ref (w.2 + 3), .null, .null, .null, .int 0, .null, .null, .null, .null, .null, .null, .int 0, .long 0, .long 0, .null, .null, .null, .null, .null, .null, .int 0, .int 0, .null, .null, .null, .int 0, .int 0, .null, .null, .null, .null, .null, .int 0, .int 0, .int 0, .int 0, .int 0] [.inl (8, fun _ => 0), .inl (41472, fun _ => 0), .inl (8, fun _ => 0)] := b3
  obtain ⟨y0, c0⟩ := d3.N 4 4 (by omega) (by omega)
  have sz := d3.1
  obtain ⟨w40, y1, z1, c1⟩ := c0.S (i := 3) (n := 4) (j := 0) rfl (by omega) (by omega) (-4)
  obtain ⟨w41, y2, z2, c2⟩ := c1.S (i := 3) (n := 4) (j := 1) rfl (by omega) (by omega) (-4)
  obtain ⟨w42, y3, z3, c3⟩ := c2.S (i := 3) (n := 4) (j := 2) rfl (by omega) (by omega) (-4)
  obtain ⟨w43, y4, z4, c4⟩ := c3.S (i := 3) (n := 4) (j := 3) rfl (by omega) (by omega) (-4)
  obtain ⟨w4, y5, z5, b4⟩ := c4.P 4 (Nat.le_of_ble_eq_true rfl) (.inr (.inr (some (w.2 + 1 + 3))))
  have d4 : bld w w4 w.2 7 [.int 0, .ref (w.2 + 1), .ref (w.2 + 2), .ref (w.2 + 3), .ref (w.2 + 4), .null, .null, .int 0, .null, .null, .null, .null, .null, .null, .int 0, .long 0, .long 0, .null, .null, .null, .null, .null, .null, .int 0, .int 0, .null, .null, .null, .int 0, .int 0, .null, .null, .null, .null, .null, .int 0, .int 0, .int 0, .int 0, .int 0] [.inl (8, fun _ => 0), .inl (41472, fun _ => 0), .inl (8, fun _ => 0), .inl (4, upd (upd (upd (upd (fun _ => (0 : Int32)) 0 (-4)) 1 (-4)) 2 (-4)) 3 (-4))] := b4
  obtain ⟨w5, e5, b5⟩ := d4.NP 4 4 5 5 (4 : Int32) rfl (by omega) (by omega) (Nat.le_of_ble_eq_true rfl) rfl
  have d5 : bld w w5 w.2 7 [.int 0, .ref (w.2 + 1), .ref (w.2 + 2), .ref (w.2 + 3), .ref (w.2 + 4), .ref (w.2 + 5), .null, .int 0, .null, .null, .null, .null, .null, .null, .int 0, .long 0, .long 0, .null, .null, .null, .null, .null, .null, .int 0, .int 0, .null, .null, .null, .int 0, .int 0, .null, .null, .null, .null, .null, .int 0, .int 0, .int 0, .int 0, .int 0] [.inl (8, fun _ => 0), .inl (41472, fun _ => 0), .inl (8, fun _ => 0), .inl (4, upd (upd (upd (upd (fun _ => (0 : Int32)) 0 (-4)) 1 (-4)) 2 (-4)) 3 (-4)), .inl (4, fun _ => 0)] := b5
  obtain ⟨w6, e6, b6⟩ := d5.NP 576 576 6 6 (576 : Int32) rfl (by omega) (by omega) (Nat.le_of_ble_eq_true rfl) rfl
  have d6 : bld w w6 w.2 7 [.int 0, .ref (w.2 + 1), .ref (w.2 + 2), .ref (w.2 + 3), .ref (w.2 + 4), .ref (w.2 + 5), .ref (w.2 + 6), .int 0, .null, .null, .null, .null, .null, .null, .int 0, .long 0, .long 0, .null, .null, .null, .null, .null, .null, .int 0, .int 0, .null, .null, .null, .int 0, .int 0, .null, .null, .null, .null, .null, .int 0, .int 0, .int 0, .int 0, .int 0] [.inl (8, fun _ => 0), .inl (41472, fun _ => 0), .inl (8, fun _ => 0), .inl (4, upd (upd (upd (upd (fun _ => (0 : Int32)) 0 (-4)) 1 (-4)) 2 (-4)) 3 (-4)), .inl (4, fun _ => 0), .inl (576, fun _ => 0)] := b6
  obtain ⟨w7, e7, b7⟩ := d6.NP 6 6 8 7 (6 : Int32) rfl (by omega) (by omega) (Nat.le_of_ble_eq_true rfl) rfl
  have d7 : bld w w7 w.2 7 [.int 0, .ref (w.2 + 1), .ref (w.2 + 2), .ref (w.2 + 3), .ref (w.2 + 4), .ref (w.2 + 5), .ref (w.2 + 6), .int 0, .ref (w.2 + 7), .null, .null, .null, .null, .null, .int 0, .long 0, .long 0, .null, .null, .null, .null, .null, .null, .int 0, .int 0, .null, .null, .null, .int 0, .int 0, .null, .null, .null, .null, .null, .int 0, .int 0, .int 0, .int 0, .int 0] [.inl (8, fun _ => 0), .inl (41472, fun _ => 0), .inl (8, fun _ => 0), .inl (4, upd (upd (upd (upd (fun _ => (0 : Int32)) 0 (-4)) 1 (-4)) 2 (-4)) 3 (-4)), .inl (4, fun _ => 0), .inl (576, fun _ => 0), .inl (6, fun _ => 0)] := b7
  obtain ⟨w8, e8, b8⟩ := d7.NP 6 6 9 8 (6 : Int32) rfl (by omega) (by omega) (Nat.le_of_ble_eq_true rfl) rfl
  have d8 : bld w w8 w.2 7 [.int 0, .ref (w.2 + 1), .ref (w.2 + 2), .ref (w.2 + 3), .ref (w.2 + 4), .ref (w.2 + 5), .ref (w.2 + 6), .int 0, .ref (w.2 + 7), .ref (w.2 + 8), .null, .null, .null, .null, .int 0, .long 0, .long 0, .null, .null, .null, .null, .null, .null, .int 0, .int 0, .null, .null, .null, .int 0, .int 0, .null, .null, .null, .null, .null, .int 0, .int 0, .int 0, .int 0, .int 0] [.inl (8, fun _ => 0), .inl (41472, fun _ => 0), .inl (8, fun _ => 0), .inl (4, upd (upd (upd (upd (fun _ => (0 : Int32)) 0 (-4)) 1 (-4)) 2 (-4)) 3 (-4)), .inl (4, fun _ => 0), .inl (576, fun _ => 0), .inl (6, fun _ => 0), .inl (6, fun _ => 0)] := b8
  obtain ⟨w9, e9, b9⟩ := d8.NP 6 6 10 9 (6 : Int32) rfl (by omega) (by omega) (Nat.le_of_ble_eq_true rfl) rfl
  have d9 : bld w w9 w.2 7 [.int 0, .ref (w.2 + 1), .ref (w.2 + 2), .ref (w.2 + 3), .ref (w.2 + 4), .ref (w.2 + 5), .ref (w.2 + 6), .int 0, .ref (w.2 + 7), .ref (w.2 + 8), .ref (w.2 + 9), .null, .null, .null, .int 0, .long 0, .long 0, .null, .null, .null, .null, .null, .null, .int 0, .int 0, .null, .null, .null, .int 0, .int 0, .null, .null, .null, .null, .null, .int 0, .int 0, .int 0, .int 0, .int 0] [.inl (8, fun _ => 0), .inl (41472, fun _ => 0), .inl (8, fun _ => 0), .inl (4, upd (upd (upd (upd (fun _ => (0 : Int32)) 0 (-4)) 1 (-4)) 2 (-4)) 3 (-4)), .inl (4, fun _ => 0), .inl (576, fun _ => 0), .inl (6, fun _ => 0), .inl (6, fun _ => 0), .inl (6, fun _ => 0)] := b9
  obtain ⟨w10, e10, b10⟩ := d9.NP 192 192 11 10 (192 : Int32) rfl (by omega) (by omega) (Nat.le_of_ble_eq_true rfl) rfl
  have d10 : bld w w10 w.2 7 [.int 0, .ref (w.2 + 1), .ref (w.2 + 2), .ref (w.2 + 3), .ref (w.2 + 4), .ref (w.2 + 5), .ref (w.2 + 6), .int 0, .ref (w.2 + 7), .ref (w.2 + 8), .ref (w.2 + 9), .ref (w.2 + 10), .null, .null, .int 0, .long 0, .long 0, .null, .null, .null, .null, .null, .null, .int 0, .int 0, .null, .null, .null, .int 0, .int 0, .null, .null, .null, .null, .null, .int 0, .int 0, .int 0, .int 0, .int 0] [.inl (8, fun _ => 0), .inl (41472, fun _ => 0), .inl (8, fun _ => 0), .inl (4, upd (upd (upd (upd (fun _ => (0 : Int32)) 0 (-4)) 1 (-4)) 2 (-4)) 3 (-4)), .inl (4, fun _ => 0), .inl (576, fun _ => 0), .inl (6, fun _ => 0), .inl (6, fun _ => 0), .inl (6, fun _ => 0), .inl (192, fun _ => 0)] := b10
  obtain ⟨w11, e11, b11⟩ := d10.NP 80 80 12 11 (80 : Int32) rfl (by omega) (by omega) (Nat.le_of_ble_eq_true rfl) rfl
  have d11 : bld w w11 w.2 7 [.int 0, .ref (w.2 + 1), .ref (w.2 + 2), .ref (w.2 + 3), .ref (w.2 + 4), .ref (w.2 + 5), .ref (w.2 + 6), .int 0, .ref (w.2 + 7), .ref (w.2 + 8), .ref (w.2 + 9), .ref (w.2 + 10), .ref (w.2 + 11), .null, .int 0, .long 0, .long 0, .null, .null, .null, .null, .null, .null, .int 0, .int 0, .null, .null, .null, .int 0, .int 0, .null, .null, .null, .null, .null, .int 0, .int 0, .int 0, .int 0, .int 0] [.inl (8, fun _ => 0), .inl (41472, fun _ => 0), .inl (8, fun _ => 0), .inl (4, upd (upd (upd (upd (fun _ => (0 : Int32)) 0 (-4)) 1 (-4)) 2 (-4)) 3 (-4)), .inl (4, fun _ => 0), .inl (576, fun _ => 0), .inl (6, fun _ => 0), .inl (6, fun _ => 0), .inl (6, fun _ => 0), .inl (192, fun _ => 0), .inl (80, fun _ => 0)] := b11
  obtain ⟨w12, e12, b12⟩ := d11.NP 72 72 13 12 (72 : Int32) rfl (by omega) (by omega) (Nat.le_of_ble_eq_true rfl) rfl
  have d12 : bld w w12 w.2 7 [.int 0, .ref (w.2 + 1), .ref (w.2 + 2), .ref (w.2 + 3), .ref (w.2 + 4), .ref (w.2 + 5), .ref (w.2 + 6), .int 0, .ref (w.2 + 7), .ref (w.2 + 8), .ref (w.2 + 9), .ref (w.2 + 10), .ref (w.2 + 11), .ref (w.2 + 12), .int 0, .long 0, .long 0, .null, .null, .null, .null, .null, .null, .int 0, .int 0, .null, .null, .null, .int 0, .int 0, .null, .null, .null, .null, .null, .int 0, .int 0, .int 0, .int 0, .int 0] [.inl (8, fun _ => 0), .inl (41472, fun _ => 0), .inl (8, fun _ => 0), .inl (4, upd (upd (upd (upd (fun _ => (0 : Int32)) 0 (-4)) 1 (-4)) 2 (-4)) 3 (-4)), .inl (4, fun _ => 0), .inl (576, fun _ => 0), .inl (6, fun _ => 0), .inl (6, fun _ => 0), .inl (6, fun _ => 0), .inl (192, fun _ => 0), .inl (80, fun _ => 0), .inl (72, fun _ => 0)] := b12
  obtain ⟨w13, e13, b13⟩ := d12.LP 6000 6000 17 13 (6000 : Int32) rfl (by omega) (by omega) (Nat.le_of_ble_eq_true rfl) rfl
  have d13 : bld w w13 w.2 7 [.int 0, .ref (w.2 + 1), .ref (w.2 + 2), .ref (w.2 + 3), .ref (w.2 + 4), .ref (w.2 + 5), .ref (w.2 + 6), .int 0, .ref (w.2 + 7), .ref (w.2 + 8), .ref (w.2 + 9), .ref (w.2 + 10), .ref (w.2 + 11), .ref (w.2 + 12), .int 0, .long 0, .long 0, .ref (w.2 + 13), .null, .null, .null, .null, .null, .int 0, .int 0, .null, .null, .null, .int 0, .int 0, .null, .null, .null, .null, .null, .int 0, .int 0, .int 0, .int 0, .int 0] [.inl (8, fun _ => 0), .inl (41472, fun _ => 0), .inl (8, fun _ => 0), .inl (4, upd (upd (upd (upd (fun _ => (0 : Int32)) 0 (-4)) 1 (-4)) 2 (-4)) 3 (-4)), .inl (4, fun _ => 0), .inl (576, fun _ => 0), .inl (6, fun _ => 0), .inl (6, fun _ => 0), .inl (6, fun _ => 0), .inl (192, fun _ => 0), .inl (80, fun _ => 0), .inl (72, fun _ => 0), .inr (.inl (6000, fun _ => 0))] := b13
  obtain ⟨w14, e14, b14⟩ := d13.LP 6000 6000 18 14 (6000 : Int32) rfl (by omega) (by omega) (Nat.le_of_ble_eq_true rfl) rfl
  have d14 : bld w w14 w.2 7 [.int 0, .ref (w.2 + 1), .ref (w.2 + 2), .ref (w.2 + 3), .ref (w.2 + 4), .ref (w.2 + 5), .ref (w.2 + 6), .int 0, .ref (w.2 + 7), .ref (w.2 + 8), .ref (w.2 + 9), .ref (w.2 + 10), .ref (w.2 + 11), .ref (w.2 + 12), .int 0, .long 0, .long 0, .ref (w.2 + 13), .ref (w.2 + 14), .null, .null, .null, .null, .int 0, .int 0, .null, .null, .null, .int 0, .int 0, .null, .null, .null, .null, .null, .int 0, .int 0, .int 0, .int 0, .int 0] [.inl (8, fun _ => 0), .inl (41472, fun _ => 0), .inl (8, fun _ => 0), .inl (4, upd (upd (upd (upd (fun _ => (0 : Int32)) 0 (-4)) 1 (-4)) 2 (-4)) 3 (-4)), .inl (4, fun _ => 0), .inl (576, fun _ => 0), .inl (6, fun _ => 0), .inl (6, fun _ => 0), .inl (6, fun _ => 0), .inl (192, fun _ => 0), .inl (80, fun _ => 0), .inl (72, fun _ => 0), .inr (.inl (6000, fun _ => 0)), .inr (.inl (6000, fun _ => 0))] := b14
  obtain ⟨w15, e15, b15⟩ := d14.NP 48000 48000 19 15 (48000 : Int32) rfl (by omega) (by omega) (Nat.le_of_ble_eq_true rfl) rfl
  have d15 : bld w w15 w.2 7 [.int 0, .ref (w.2 + 1), .ref (w.2 + 2), .ref (w.2 + 3), .ref (w.2 + 4), .ref (w.2 + 5), .ref (w.2 + 6), .int 0, .ref (w.2 + 7), .ref (w.2 + 8), .ref (w.2 + 9), .ref (w.2 + 10), .ref (w.2 + 11), .ref (w.2 + 12), .int 0, .long 0, .long 0, .ref (w.2 + 13), .ref (w.2 + 14), .ref (w.2 + 15), .null, .null, .null, .int 0, .int 0, .null, .null, .null, .int 0, .int 0, .null, .null, .null, .null, .null, .int 0, .int 0, .int 0, .int 0, .int 0] [.inl (8, fun _ => 0), .inl (41472, fun _ => 0), .inl (8, fun _ => 0), .inl (4, upd (upd (upd (upd (fun _ => (0 : Int32)) 0 (-4)) 1 (-4)) 2 (-4)) 3 (-4)), .inl (4, fun _ => 0), .inl (576, fun _ => 0), .inl (6, fun _ => 0), .inl (6, fun _ => 0), .inl (6, fun _ => 0), .inl (192, fun _ => 0), .inl (80, fun _ => 0), .inl (72, fun _ => 0), .inr (.inl (6000, fun _ => 0)), .inr (.inl (6000, fun _ => 0)), .inl (48000, fun _ => 0)] := b15
  obtain ⟨w16, e16, b16⟩ := d15.NP 8 8 20 16 (8 : Int32) rfl (by omega) (by omega) (Nat.le_of_ble_eq_true rfl) rfl
  have d16 : bld w w16 w.2 7 [.int 0, .ref (w.2 + 1), .ref (w.2 + 2), .ref (w.2 + 3), .ref (w.2 + 4), .ref (w.2 + 5), .ref (w.2 + 6), .int 0, .ref (w.2 + 7), .ref (w.2 + 8), .ref (w.2 + 9), .ref (w.2 + 10), .ref (w.2 + 11), .ref (w.2 + 12), .int 0, .long 0, .long 0, .ref (w.2 + 13), .ref (w.2 + 14), .ref (w.2 + 15), .ref (w.2 + 16), .null, .null, .int 0, .int 0, .null, .null, .null, .int 0, .int 0, .null, .null, .null, .null, .null, .int 0, .int 0, .int 0, .int 0, .int 0] [.inl (8, fun _ => 0), .inl (41472, fun _ => 0), .inl (8, fun _ => 0), .inl (4, upd (upd (upd (upd (fun _ => (0 : Int32)) 0 (-4)) 1 (-4)) 2 (-4)) 3 (-4)), .inl (4, fun _ => 0), .inl (576, fun _ => 0), .inl (6, fun _ => 0), .inl (6, fun _ => 0), .inl (6, fun _ => 0), .inl (192, fun _ => 0), .inl (80, fun _ => 0), .inl (72, fun _ => 0), .inr (.inl (6000, fun _ => 0)), .inr (.inl (6000, fun _ => 0)), .inl (48000, fun _ => 0), .inl (8, fun _ => 0)] := b16
  obtain ⟨w17, e17, b17⟩ := d16.NP 8 8 21 17 (8 : Int32) rfl (by omega) (by omega) (Nat.le_of_ble_eq_true rfl) rfl
  have d17 : bld w w17 w.2 7 [.int 0, .ref (w.2 + 1), .ref (w.2 + 2), .ref (w.2 + 3), .ref (w.2 + 4), .ref (w.2 + 5), .ref (w.2 + 6), .int 0, .ref (w.2 + 7), .ref (w.2 + 8), .ref (w.2 + 9), .ref (w.2 + 10), .ref (w.2 + 11), .ref (w.2 + 12), .int 0, .long 0, .long 0, .ref (w.2 + 13), .ref (w.2 + 14), .ref (w.2 + 15), .ref (w.2 + 16), .ref (w.2 + 17), .null, .int 0, .int 0, .null, .null, .null, .int 0, .int 0, .null, .null, .null, .null, .null, .int 0, .int 0, .int 0, .int 0, .int 0] [.inl (8, fun _ => 0), .inl (41472, fun _ => 0), .inl (8, fun _ => 0), .inl (4, upd (upd (upd (upd (fun _ => (0 : Int32)) 0 (-4)) 1 (-4)) 2 (-4)) 3 (-4)), .inl (4, fun _ => 0), .inl (576, fun _ => 0), .inl (6, fun _ => 0), .inl (6, fun _ => 0), .inl (6, fun _ => 0), .inl (192, fun _ => 0), .inl (80, fun _ => 0), .inl (72, fun _ => 0), .inr (.inl (6000, fun _ => 0)), .inr (.inl (6000, fun _ => 0)), .inl (48000, fun _ => 0), .inl (8, fun _ => 0), .inl (8, fun _ => 0)] := b17
  obtain ⟨w18, e18, b18⟩ := d17.NP 72 72 22 18 (72 : Int32) rfl (by omega) (by omega) (Nat.le_of_ble_eq_true rfl) rfl
  have d18 : bld w w18 w.2 7 [.int 0, .ref (w.2 + 1), .ref (w.2 + 2), .ref (w.2 + 3), .ref (w.2 + 4), .ref (w.2 + 5), .ref (w.2 + 6), .int 0, .ref (w.2 + 7), .ref (w.2 + 8), .ref (w.2 + 9), .ref (w.2 + 10), .ref (w.2 + 11), .ref (w.2 + 12), .int 0, .long 0, .long 0, .ref (w.2 + 13), .ref (w.2 + 14), .ref (w.2 + 15), .ref (w.2 + 16), .ref (w.2 + 17), .ref (w.2 + 18), .int 0, .int 0, .null, .null, .null, .int 0, .int 0, .null, .null, .null, .null, .null, .int 0, .int 0, .int 0, .int 0, .int 0] [.inl (8, fun _ => 0), .inl (41472, fun _ => 0), .inl (8, fun _ => 0), .inl (4, upd (upd (upd (upd (fun _ => (0 : Int32)) 0 (-4)) 1 (-4)) 2 (-4)) 3 (-4)), .inl (4, fun _ => 0), .inl (576, fun _ => 0), .inl (6, fun _ => 0), .inl (6, fun _ => 0), .inl (6, fun _ => 0), .inl (192, fun _ => 0), .inl (80, fun _ => 0), .inl (72, fun _ => 0), .inr (.inl (6000, fun _ => 0)), .inr (.inl (6000, fun _ => 0)), .inl (48000, fun _ => 0), .inl (8, fun _ => 0), .inl (8, fun _ => 0), .inl (72, fun _ => 0)] := b18
  obtain ⟨w19, e19, b19⟩ := d18.NP 98 98 25 19 (98 : Int32) rfl (by omega) (by omega) (Nat.le_of_ble_eq_true rfl) rfl
  have d19 : bld w w19 w.2 7 [.int 0, .ref (w.2 + 1), .ref (w.2 + 2), .ref (w.2 + 3), .ref (w.2 + 4), .ref (w.2 + 5), .ref (w.2 + 6), .int 0, .ref (w.2 + 7), .ref (w.2 + 8), .ref (w.2 + 9), .ref (w.2 + 10), .ref (w.2 + 11), .ref (w.2 + 12), .int 0, .long 0, .long 0, .ref (w.2 + 13), .ref (w.2 + 14), .ref (w.2 + 15), .ref (w.2 + 16), .ref (w.2 + 17), .ref (w.2 + 18), .int 0, .int 0, .ref (w.2 + 19), .null, .null, .int 0, .int 0, .null, .null, .null, .null, .null, .int 0, .int 0, .int 0, .int 0, .int 0] [.inl (8, fun _ => 0), .inl (41472, fun _ => 0), .inl (8, fun _ => 0), .inl (4, upd (upd (upd (upd (fun _ => (0 : Int32)) 0 (-4)) 1 (-4)) 2 (-4)) 3 (-4)), .inl (4, fun _ => 0), .inl (576, fun _ => 0), .inl (6, fun _ => 0), .inl (6, fun _ => 0), .inl (6, fun _ => 0), .inl (192, fun _ => 0), .inl (80, fun _ => 0), .inl (72, fun _ => 0), .inr (.inl (6000, fun _ => 0)), .inr (.inl (6000, fun _ => 0)), .inl (48000, fun _ => 0), .inl (8, fun _ => 0), .inl (8, fun _ => 0), .inl (72, fun _ => 0), .inl (98, fun _ => 0)] := b19
  obtain ⟨w20, e20, b20⟩ := d19.NP 9604 9604 26 20 (9604 : Int32) rfl (by omega) (by omega) (Nat.le_of_ble_eq_true rfl) rfl
  have d20 : bld w w20 w.2 7 [.int 0, .ref (w.2 + 1), .ref (w.2 + 2), .ref (w.2 + 3), .ref (w.2 + 4), .ref (w.2 + 5), .ref (w.2 + 6), .int 0, .ref (w.2 + 7), .ref (w.2 + 8), .ref (w.2 + 9), .ref (w.2 + 10), .ref (w.2 + 11), .ref (w.2 + 12), .int 0, .long 0, .long 0, .ref (w.2 + 13), .ref (w.2 + 14), .ref (w.2 + 15), .ref (w.2 + 16), .ref (w.2 + 17), .ref (w.2 + 18), .int 0, .int 0, .ref (w.2 + 19), .ref (w.2 + 20), .null, .int 0, .int 0, .null, .null, .null, .null, .null, .int 0, .int 0, .int 0, .int 0, .int 0] [.inl (8, fun _ => 0), .inl (41472, fun _ => 0), .inl (8, fun _ => 0), .inl (4, upd (upd (upd (upd (fun _ => (0 : Int32)) 0 (-4)) 1 (-4)) 2 (-4)) 3 (-4)), .inl (4, fun _ => 0), .inl (576, fun _ => 0), .inl (6, fun _ => 0), .inl (6, fun _ => 0), .inl (6, fun _ => 0), .inl (192, fun _ => 0), .inl (80, fun _ => 0), .inl (72, fun _ => 0), .inr (.inl (6000, fun _ => 0)), .inr (.inl (6000, fun _ => 0)), .inl (48000, fun _ => 0), .inl (8, fun _ => 0), .inl (8, fun _ => 0), .inl (72, fun _ => 0), .inl (98, fun _ => 0), .inl (9604, fun _ => 0)] := b20
  obtain ⟨w21, e21, b21⟩ := d20.NP 98 98 27 21 (98 : Int32) rfl (by omega) (by omega) (Nat.le_of_ble_eq_true rfl) rfl
  have d21 : bld w w21 w.2 7 [.int 0, .ref (w.2 + 1), .ref (w.2 + 2), .ref (w.2 + 3), .ref (w.2 + 4), .ref (w.2 + 5), .ref (w.2 + 6), .int 0, .ref (w.2 + 7), .ref (w.2 + 8), .ref (w.2 + 9), .ref (w.2 + 10), .ref (w.2 + 11), .ref (w.2 + 12), .int 0, .long 0, .long 0, .ref (w.2 + 13), .ref (w.2 + 14), .ref (w.2 + 15), .ref (w.2 + 16), .ref (w.2 + 17), .ref (w.2 + 18), .int 0, .int 0, .ref (w.2 + 19), .ref (w.2 + 20), .ref (w.2 + 21), .int 0, .int 0, .null, .null, .null, .null, .null, .int 0, .int 0, .int 0, .int 0, .int 0] [.inl (8, fun _ => 0), .inl (41472, fun _ => 0), .inl (8, fun _ => 0), .inl (4, upd (upd (upd (upd (fun _ => (0 : Int32)) 0 (-4)) 1 (-4)) 2 (-4)) 3 (-4)), .inl (4, fun _ => 0), .inl (576, fun _ => 0), .inl (6, fun _ => 0), .inl (6, fun _ => 0), .inl (6, fun _ => 0), .inl (192, fun _ => 0), .inl (80, fun _ => 0), .inl (72, fun _ => 0), .inr (.inl (6000, fun _ => 0)), .inr (.inl (6000, fun _ => 0)), .inl (48000, fun _ => 0), .inl (8, fun _ => 0), .inl (8, fun _ => 0), .inl (72, fun _ => 0), .inl (98, fun _ => 0), .inl (9604, fun _ => 0), .inl (98, fun _ => 0)] := b21
  obtain ⟨w22, e22, z22, b22⟩ := d21.P 29 (Nat.le_of_ble_eq_true rfl) (.inl (-4))
  have d22 : bld w w22 w.2 7 [.int 0, .ref (w.2 + 1), .ref (w.2 + 2), .ref (w.2 + 3), .ref (w.2 + 4), .ref (w.2 + 5), .ref (w.2 + 6), .int 0, .ref (w.2 + 7), .ref (w.2 + 8), .ref (w.2 + 9), .ref (w.2 + 10), .ref (w.2 + 11), .ref (w.2 + 12), .int 0, .long 0, .long 0, .ref (w.2 + 13), .ref (w.2 + 14), .ref (w.2 + 15), .ref (w.2 + 16), .ref (w.2 + 17), .ref (w.2 + 18), .int 0, .int 0, .ref (w.2 + 19), .ref (w.2 + 20), .ref (w.2 + 21), .int 0, .int (-4), .null, .null, .null, .null, .null, .int 0, .int 0, .int 0, .int 0, .int 0] [.inl (8, fun _ => 0), .inl (41472, fun _ => 0), .inl (8, fun _ => 0), .inl (4, upd (upd (upd (upd (fun _ => (0 : Int32)) 0 (-4)) 1 (-4)) 2 (-4)) 3 (-4)), .inl (4, fun _ => 0), .inl (576, fun _ => 0), .inl (6, fun _ => 0), .inl (6, fun _ => 0), .inl (6, fun _ => 0), .inl (192, fun _ => 0), .inl (80, fun _ => 0), .inl (72, fun _ => 0), .inr (.inl (6000, fun _ => 0)), .inr (.inl (6000, fun _ => 0)), .inl (48000, fun _ => 0), .inl (8, fun _ => 0), .inl (8, fun _ => 0), .inl (72, fun _ => 0), .inl (98, fun _ => 0), .inl (9604, fun _ => 0), .inl (98, fun _ => 0)] := b22
  obtain ⟨w23, e23, b23⟩ := d22.NP 5 5 30 22 (5 : Int32) rfl (by omega) (by omega) (Nat.le_of_ble_eq_true rfl) rfl
  have d23 : bld w w23 w.2 7 [.int 0, .ref (w.2 + 1), .ref (w.2 + 2), .ref (w.2 + 3), .ref (w.2 + 4), .ref (w.2 + 5), .ref (w.2 + 6), .int 0, .ref (w.2 + 7), .ref (w.2 + 8), .ref (w.2 + 9), .ref (w.2 + 10), .ref (w.2 + 11), .ref (w.2 + 12), .int 0, .long 0, .long 0, .ref (w.2 + 13), .ref (w.2 + 14), .ref (w.2 + 15), .ref (w.2 + 16), .ref (w.2 + 17), .ref (w.2 + 18), .int 0, .int 0, .ref (w.2 + 19), .ref (w.2 + 20), .ref (w.2 + 21), .int 0, .int (-4), .ref (w.2 + 22), .null, .null, .null, .null, .int 0, .int 0, .int 0, .int 0, .int 0] [.inl (8, fun _ => 0), .inl (41472, fun _ => 0), .inl (8, fun _ => 0), .inl (4, upd (upd (upd (upd (fun _ => (0 : Int32)) 0 (-4)) 1 (-4)) 2 (-4)) 3 (-4)), .inl (4, fun _ => 0), .inl (576, fun _ => 0), .inl (6, fun _ => 0), .inl (6, fun _ => 0), .inl (6, fun _ => 0), .inl (192, fun _ => 0), .inl (80, fun _ => 0), .inl (72, fun _ => 0), .inr (.inl (6000, fun _ => 0)), .inr (.inl (6000, fun _ => 0)), .inl (48000, fun _ => 0), .inl (8, fun _ => 0), .inl (8, fun _ => 0), .inl (72, fun _ => 0), .inl (98, fun _ => 0), .inl (9604, fun _ => 0), .inl (98, fun _ => 0), .inl (5, fun _ => 0)] := b23
  obtain ⟨w24, e24, b24⟩ := d23.NP 1372 1372 31 23 (1372 : Int32) rfl (by omega) (by omega) (Nat.le_of_ble_eq_true rfl) rfl
  have d24 : bld w w24 w.2 7 [.int 0, .ref (w.2 + 1), .ref (w.2 + 2), .ref (w.2 + 3), .ref (w.2 + 4), .ref (w.2 + 5), .ref (w.2 + 6), .int 0, .ref (w.2 + 7), .ref (w.2 + 8), .ref (w.2 + 9), .ref (w.2 + 10), .ref (w.2 + 11), .ref (w.2 + 12), .int 0, .long 0, .long 0, .ref (w.2 + 13), .ref (w.2 + 14), .ref (w.2 + 15), .ref (w.2 + 16), .ref (w.2 + 17), .ref (w.2 + 18), .int 0, .int 0, .ref (w.2 + 19), .ref (w.2 + 20), .ref (w.2 + 21), .int 0, .int (-4), .ref (w.2 + 22), .ref (w.2 + 23), .null, .null, .null, .int 0, .int 0, .int 0, .int 0, .int 0] [.inl (8, fun _ => 0), .inl (41472, fun _ => 0), .inl (8, fun _ => 0), .inl (4, upd (upd (upd (upd (fun _ => (0 : Int32)) 0 (-4)) 1 (-4)) 2 (-4)) 3 (-4)), .inl (4, fun _ => 0), .inl (576, fun _ => 0), .inl (6, fun _ => 0), .inl (6, fun _ => 0), .inl (6, fun _ => 0), .inl (192, fun _ => 0), .inl (80, fun _ => 0), .inl (72, fun _ => 0), .inr (.inl (6000, fun _ => 0)), .inr (.inl (6000, fun _ => 0)), .inl (48000, fun _ => 0), .inl (8, fun _ => 0), .inl (8, fun _ => 0), .inl (72, fun _ => 0), .inl (98, fun _ => 0), .inl (9604, fun _ => 0), .inl (98, fun _ => 0), .inl (5, fun _ => 0), .inl (1372, fun _ => 0)] := b24
  obtain ⟨w25, e25, b25⟩ := d24.NP 14 14 32 24 (14 : Int32) rfl (by omega) (by omega) (Nat.le_of_ble_eq_true rfl) rfl
  have d25 : bld w w25 w.2 7 [.int 0, .ref (w.2 + 1), .ref (w.2 + 2), .ref (w.2 + 3), .ref (w.2 + 4), .ref (w.2 + 5), .ref (w.2 + 6), .int 0, .ref (w.2 + 7), .ref (w.2 + 8), .ref (w.2 + 9), .ref (w.2 + 10), .ref (w.2 + 11), .ref (w.2 + 12), .int 0, .long 0, .long 0, .ref (w.2 + 13), .ref (w.2 + 14), .ref (w.2 + 15), .ref (w.2 + 16), .ref (w.2 + 17), .ref (w.2 + 18), .int 0, .int 0, .ref (w.2 + 19), .ref (w.2 + 20), .ref (w.2 + 21), .int 0, .int (-4), .ref (w.2 + 22), .ref (w.2 + 23), .ref (w.2 + 24), .null, .null, .int 0, .int 0, .int 0, .int 0, .int 0] [.inl (8, fun _ => 0), .inl (41472, fun _ => 0), .inl (8, fun _ => 0), .inl (4, upd (upd (upd (upd (fun _ => (0 : Int32)) 0 (-4)) 1 (-4)) 2 (-4)) 3 (-4)), .inl (4, fun _ => 0), .inl (576, fun _ => 0), .inl (6, fun _ => 0), .inl (6, fun _ => 0), .inl (6, fun _ => 0), .inl (192, fun _ => 0), .inl (80, fun _ => 0), .inl (72, fun _ => 0), .inr (.inl (6000, fun _ => 0)), .inr (.inl (6000, fun _ => 0)), .inl (48000, fun _ => 0), .inl (8, fun _ => 0), .inl (8, fun _ => 0), .inl (72, fun _ => 0), .inl (98, fun _ => 0), .inl (9604, fun _ => 0), .inl (98, fun _ => 0), .inl (5, fun _ => 0), .inl (1372, fun _ => 0), .inl (14, fun _ => 0)] := b25
  obtain ⟨w26, e26, b26⟩ := d25.NP 9604 9604 33 25 (9604 : Int32) rfl (by omega) (by omega) (Nat.le_of_ble_eq_true rfl) rfl
  have d26 : bld w w26 w.2 7 [.int 0, .ref (w.2 + 1), .ref (w.2 + 2), .ref (w.2 + 3), .ref (w.2 + 4), .ref (w.2 + 5), .ref (w.2 + 6), .int 0, .ref (w.2 + 7), .ref (w.2 + 8), .ref (w.2 + 9), .ref (w.2 + 10), .ref (w.2 + 11), .ref (w.2 + 12), .int 0, .long 0, .long 0, .ref (w.2 + 13), .ref (w.2 + 14), .ref (w.2 + 15), .ref (w.2 + 16), .ref (w.2 + 17), .ref (w.2 + 18), .int 0, .int 0, .ref (w.2 + 19), .ref (w.2 + 20), .ref (w.2 + 21), .int 0, .int (-4), .ref (w.2 + 22), .ref (w.2 + 23), .ref (w.2 + 24), .ref (w.2 + 25), .null, .int 0, .int 0, .int 0, .int 0, .int 0] [.inl (8, fun _ => 0), .inl (41472, fun _ => 0), .inl (8, fun _ => 0), .inl (4, upd (upd (upd (upd (fun _ => (0 : Int32)) 0 (-4)) 1 (-4)) 2 (-4)) 3 (-4)), .inl (4, fun _ => 0), .inl (576, fun _ => 0), .inl (6, fun _ => 0), .inl (6, fun _ => 0), .inl (6, fun _ => 0), .inl (192, fun _ => 0), .inl (80, fun _ => 0), .inl (72, fun _ => 0), .inr (.inl (6000, fun _ => 0)), .inr (.inl (6000, fun _ => 0)), .inl (48000, fun _ => 0), .inl (8, fun _ => 0), .inl (8, fun _ => 0), .inl (72, fun _ => 0), .inl (98, fun _ => 0), .inl (9604, fun _ => 0), .inl (98, fun _ => 0), .inl (5, fun _ => 0), .inl (1372, fun _ => 0), .inl (14, fun _ => 0), .inl (9604, fun _ => 0)] := b26
  obtain ⟨w27, e27, b27⟩ := d26.NP 9604 9604 34 26 (9604 : Int32) rfl (by omega) (by omega) (Nat.le_of_ble_eq_true rfl) rfl
  have d27 : bld w w27 w.2 7 [.int 0, .ref (w.2 + 1), .ref (w.2 + 2), .ref (w.2 + 3), .ref (w.2 + 4), .ref (w.2 + 5), .ref (w.2 + 6), .int 0, .ref (w.2 + 7), .ref (w.2 + 8), .ref (w.2 + 9), .ref (w.2 + 10), .ref (w.2 + 11), .ref (w.2 + 12), .int 0, .long 0, .long 0, .ref (w.2 + 13), .ref (w.2 + 14), .ref (w.2 + 15), .ref (w.2 + 16), .ref (w.2 + 17), .ref (w.2 + 18), .int 0, .int 0, .ref (w.2 + 19), .ref (w.2 + 20), .ref (w.2 + 21), .int 0, .int (-4), .ref (w.2 + 22), .ref (w.2 + 23), .ref (w.2 + 24), .ref (w.2 + 25), .ref (w.2 + 26), .int 0, .int 0, .int 0, .int 0, .int 0] [.inl (8, fun _ => 0), .inl (41472, fun _ => 0), .inl (8, fun _ => 0), .inl (4, upd (upd (upd (upd (fun _ => (0 : Int32)) 0 (-4)) 1 (-4)) 2 (-4)) 3 (-4)), .inl (4, fun _ => 0), .inl (576, fun _ => 0), .inl (6, fun _ => 0), .inl (6, fun _ => 0), .inl (6, fun _ => 0), .inl (192, fun _ => 0), .inl (80, fun _ => 0), .inl (72, fun _ => 0), .inr (.inl (6000, fun _ => 0)), .inr (.inl (6000, fun _ => 0)), .inl (48000, fun _ => 0), .inl (8, fun _ => 0), .inl (8, fun _ => 0), .inl (72, fun _ => 0), .inl (98, fun _ => 0), .inl (9604, fun _ => 0), .inl (98, fun _ => 0), .inl (5, fun _ => 0), .inl (1372, fun _ => 0), .inl (14, fun _ => 0), .inl (9604, fun _ => 0), .inl (9604, fun _ => 0)] := b27
  refine ⟨w27, ?_, d27.1, d27.2.2.2.1, d27.at rfl ?_⟩
  · unfold mX7_init
    rw [e1]
    rw [e2]
    rw [e3]
    have ad : w3.2 = w.2 + 1 + 3 := sz
    have y0 : gNI 4 (4 : Int32) w3 = _ := y0
    have y1 : gSI (some (w.2 + 1 + 3)) (0 : Int32) (-4 : Int32) _ = _ := y1
    have y2 : gSI (some (w.2 + 1 + 3)) (1 : Int32) (-4 : Int32) _ = _ := y2
    have y3 : gSI (some (w.2 + 1 + 3)) (2 : Int32) (-4 : Int32) _ = _ := y3
    have y4 : gSI (some (w.2 + 1 + 3)) (3 : Int32) (-4 : Int32) _ = _ := y4
    rw [ad, y0, Option.bind_some, y1, Option.bind_some, y2, Option.bind_some, y3, Option.bind_some, y4, Option.bind_some, y5, Option.bind_some]
    rw [e5]
    rw [e6]
    rw [e7]
    rw [e8]
    rw [e9]
    rw [e10]
    rw [e11]
    rw [e12]
    rw [e13]
    rw [e14]
    rw [e15]
    rw [e16]
    rw [e17]
    rw [e18]
    rw [e19]
    rw [e20]
    rw [e21]
    rw [e22, Option.bind_some]
    rw [e23]
    rw [e24]
    rw [e25]
    rw [e26]
    rw [e27]
  · intro k e g hk hg
    rcases k with _ | _ | _ | _ | _ | _ | _ | _ | _ | _ | _ | _ | _ | _ | _ | _ | _ | _ | _ | _ | _ | _ | _ | _ | _ | _ | _ | _ | _ | _ | _ | _ | _ | _ | _ | _ | _ | _ | _ | _ | k
    · cases hk; cases hg
    · cases hk; cases hg; exact ⟨0, rfl, rfl⟩
    · cases hk; cases hg; exact ⟨1, rfl, rfl⟩
    · cases hk; cases hg; exact ⟨2, rfl, rfl⟩
    · cases hk; cases hg; rw [← i4]; exact ⟨3, rfl, rfl⟩
    · cases hk; cases hg; exact ⟨4, rfl, rfl⟩
    · cases hk; cases hg; exact ⟨5, rfl, rfl⟩
    · cases hk; cases hg
    · cases hk; cases hg; exact ⟨6, rfl, rfl⟩
    · cases hk; cases hg; exact ⟨7, rfl, rfl⟩
    · cases hk; cases hg; exact ⟨8, rfl, rfl⟩
    · cases hk; cases hg; exact ⟨9, rfl, rfl⟩
    · cases hk; cases hg; exact ⟨10, rfl, rfl⟩
    · cases hk; cases hg; exact ⟨11, rfl, rfl⟩
    · cases hk; cases hg
    · cases hk; cases hg
    · cases hk; cases hg
    · cases hk; cases hg; exact ⟨12, rfl, rfl⟩
    · cases hk; cases hg; exact ⟨13, rfl, rfl⟩
    · cases hk; cases hg; exact ⟨14, rfl, rfl⟩
    · cases hk; cases hg; exact ⟨15, rfl, rfl⟩
    · cases hk; cases hg; exact ⟨16, rfl, rfl⟩
    · cases hk; cases hg; exact ⟨17, rfl, rfl⟩
    · cases hk; cases hg
    · cases hk; cases hg
    · cases hk; cases hg; exact ⟨18, rfl, rfl⟩
    · cases hk; cases hg; exact ⟨19, rfl, rfl⟩
    · cases hk; cases hg; exact ⟨20, rfl, rfl⟩
    · cases hk; cases hg
    · cases hk; cases hg
    · cases hk; cases hg; exact ⟨21, rfl, rfl⟩
    · cases hk; cases hg; exact ⟨22, rfl, rfl⟩
    · cases hk; cases hg; exact ⟨23, rfl, rfl⟩
    · cases hk; cases hg; exact ⟨24, rfl, rfl⟩
    · cases hk; cases hg; exact ⟨25, rfl, rfl⟩
    · cases hk; cases hg
    · cases hk; cases hg
    · cases hk; cases hg
    · cases hk; cases hg
    · cases hk; cases hg
    · cases hk
end INI
