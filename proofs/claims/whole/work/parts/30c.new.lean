/-! NEW GROUPS, MATCHINGS, ROWS THAT LEAD, MODULES, SHEETS -/
section NEW
variable {F : Nat} {C : yC} {x m : Nat} {w w0 w1 : gW} {O : zO} {S : oSt} {Z : zS} {a ci : Nat} {fs : List Value} {rows : List gE}
theorem bld.NP (h : bld w0 w a ci fs rows) (lim n k off : Nat) (v : Int32) (hv : v = nI n) (hn : n ≤ lim) (hl : n < 2147483648) (hk : k < fs.length) (ho : off = 1 + rows.length) : ∃ w2, (∀ f : gW → Option gW, ((gNI lim v w).bind fun w8 => (gP ci k (some a) (.inr (.inr (some w.2))) w8).bind f) = f w2) ∧ bld w0 w2 a ci (fs.set k (.ref (a + off))) (rows ++ [.inl (n, fun _ => 0)]) := by
  obtain ⟨e1, b1⟩ := h.N lim n hn hl
  obtain ⟨w2, p1, p2, p3⟩ := b1.P k hk (.inr (.inr (some w.2)))
  refine ⟨w2, fun f => by rw [hv, e1, Option.bind_some, p1, Option.bind_some], ?_⟩
  have : w.2 = a + off := by rw [h.1, ho]; omega
  rw [this] at p3
  exact p3
theorem bld.LP (h : bld w0 w a ci fs rows) (lim n k off : Nat) (v : Int32) (hv : v = nI n) (hn : n ≤ lim) (hl : n < 2147483648) (hk : k < fs.length) (ho : off = 1 + rows.length) : ∃ w2, (∀ f : gW → Option gW, ((gNL lim v w).bind fun w8 => (gP ci k (some a) (.inr (.inr (some w.2))) w8).bind f) = f w2) ∧ bld w0 w2 a ci (fs.set k (.ref (a + off))) (rows ++ [.inr (.inl (n, fun _ => 0))]) := by
  obtain ⟨e1, b1⟩ := h.L lim n hn hl
  obtain ⟨w2, p1, p2, p3⟩ := b1.P k hk (.inr (.inr (some w.2)))
  refine ⟨w2, fun f => by rw [hv, e1, Option.bind_some, p1, Option.bind_some], ?_⟩
  have : w.2 = a + off := by rw [h.1, ho]; omega
  rw [this] at p3
  exact p3
theorem bld.QP (h : bld w0 w a ci fs rows) (c lim n k off : Nat) (v : Int32) (hv : v = nI n) (hn : n ≤ lim) (hl : n < 2147483648) (hk : k < fs.length) (ho : off = 1 + rows.length) : ∃ w2, (∀ f : gW → Option gW, ((gNR c lim v w).bind fun w8 => (gP ci k (some a) (.inr (.inr (some w.2))) w8).bind f) = f w2) ∧ bld w0 w2 a ci (fs.set k (.ref (a + off))) (rows ++ [.inr (.inr (.inl (c, n, fun _ => none)))]) := by
  obtain ⟨e1, b1⟩ := h.Q c lim n hn hl
  obtain ⟨w2, p1, p2, p3⟩ := b1.P k hk (.inr (.inr (some w.2)))
  refine ⟨w2, fun f => by rw [hv, e1, Option.bind_some, p1, Option.bind_some], ?_⟩
  have : w.2 = a + off := by rw [h.1, ho]; omega
  rw [this] at p3
  exact p3
theorem i0_ofInt : Int32.ofInt (0 : Int) = 0 := rfl
/-- the picture of an object just made: its numbers are 0 -/
theorem cv0 {C' : yC} {b : Nat} : cvO C' (oup O b zZ) b = (fun _ => 0, fun _ => 0, fun _ _ => 0, fun _ _ => 0, C'.2 b, fun _ _ => none) := by
  unfold cvO
  rw [oup_s]; rfl
theorem hW.newG (h : hW C x m w O S Z) : ∃ w1, mX2_init F w.2 (gNO 2 [.null, .null, .null, .null, .null, .null, .int 0, .int 0] w) = some w1 ∧ w1.2 = w.2 + 7 ∧ hW (cNew C w.2 (2, 0)) x m w1 (oup O w.2 zZ) S Z := by
  have b0 := bld_0 w 2 [.null, .null, .null, .null, .null, .null, .int 0, .int 0]
  obtain ⟨w1, e1, b1⟩ := b0.NP 2304 2304 0 1 (2304 : Int32) rfl (by omega) (by omega) (Nat.le_of_ble_eq_true rfl) rfl
  obtain ⟨w2, e2, b2⟩ := b1.NP 48 48 1 2 (48 : Int32) rfl (by omega) (by omega) (Nat.le_of_ble_eq_true rfl) rfl
  obtain ⟨w3, e3, b3⟩ := b2.NP 48 48 2 3 (48 : Int32) rfl (by omega) (by omega) (Nat.le_of_ble_eq_true rfl) rfl
  obtain ⟨w4, e4, b4⟩ := b3.NP 48 48 3 4 (48 : Int32) rfl (by omega) (by omega) (Nat.le_of_ble_eq_true rfl) rfl
  obtain ⟨w5, e5, b5⟩ := b4.NP 48 48 4 5 (48 : Int32) rfl (by omega) (by omega) (Nat.le_of_ble_eq_true rfl) rfl
  obtain ⟨w6, e6, b6⟩ := b5.NP 5 5 5 6 (5 : Int32) rfl (by omega) (by omega) (Nat.le_of_ble_eq_true rfl) rfl
  refine ⟨w6, ?_, b6.1, h.new (q := (2, 0)) (by decide) b6.1 b6.2.2.2.1 (b6.at ?_ ?_)⟩
  · unfold mX2_init
    rw [e1, e2, e3, e4, e5, e6]
  · rw [cv0]; rfl
  · rw [cv0]
    intro k e g hk hg
    rcases k with _ | _ | _ | _ | _ | _ | _ | _ | k
    · cases hk; cases hg; exact ⟨0, rfl, rfl⟩
    · cases hk; cases hg; exact ⟨1, rfl, rfl⟩
    · cases hk; cases hg; exact ⟨2, rfl, rfl⟩
    · cases hk; cases hg; exact ⟨3, rfl, rfl⟩
    · cases hk; cases hg; exact ⟨4, rfl, rfl⟩
    · cases hk; cases hg; exact ⟨5, rfl, rfl⟩
    · cases hk; cases hg
    · cases hk; cases hg
    · cases hk
theorem hW.newM (h : hW C x m w O S Z) : ∃ w1, mX3_init F w.2 (gNO 3 [.null, .null, .null, .null, .null, .null, .null, .int 0] w) = some w1 ∧ w1.2 = w.2 + 8 ∧ hW (cNew C w.2 (3, 0)) x m w1 (oup O w.2 zZ) S Z := by
  have b0 := bld_0 w 3 [.null, .null, .null, .null, .null, .null, .null, .int 0]
  obtain ⟨w1, e1, b1⟩ := b0.NP 48 48 0 1 (48 : Int32) rfl (by omega) (by omega) (Nat.le_of_ble_eq_true rfl) rfl
  obtain ⟨w2, e2, b2⟩ := b1.NP 48 48 1 2 (48 : Int32) rfl (by omega) (by omega) (Nat.le_of_ble_eq_true rfl) rfl
  obtain ⟨w3, e3, b3⟩ := b2.NP 48 48 2 3 (48 : Int32) rfl (by omega) (by omega) (Nat.le_of_ble_eq_true rfl) rfl
  obtain ⟨w4, e4, b4⟩ := b3.NP 48 48 3 4 (48 : Int32) rfl (by omega) (by omega) (Nat.le_of_ble_eq_true rfl) rfl
  obtain ⟨w5, e5, b5⟩ := b4.NP 48 48 4 5 (48 : Int32) rfl (by omega) (by omega) (Nat.le_of_ble_eq_true rfl) rfl
  obtain ⟨w6, e6, b6⟩ := b5.NP 5 5 5 6 (5 : Int32) rfl (by omega) (by omega) (Nat.le_of_ble_eq_true rfl) rfl
  obtain ⟨w7, e7, b7⟩ := b6.NP 49 49 6 7 (49 : Int32) rfl (by omega) (by omega) (Nat.le_of_ble_eq_true rfl) rfl
  refine ⟨w7, ?_, b7.1, h.new (q := (3, 0)) (by decide) b7.1 b7.2.2.2.1 (b7.at ?_ ?_)⟩
  · unfold mX3_init
    rw [e1, e2, e3, e4, e5, e6, e7]
  · rw [cv0]; rfl
  · rw [cv0]
    intro k e g hk hg
    rcases k with _ | _ | _ | _ | _ | _ | _ | _ | k
    · cases hk; cases hg; exact ⟨0, rfl, rfl⟩
    · cases hk; cases hg; exact ⟨1, rfl, rfl⟩
    · cases hk; cases hg; exact ⟨2, rfl, rfl⟩
    · cases hk; cases hg; exact ⟨3, rfl, rfl⟩
    · cases hk; cases hg; exact ⟨4, rfl, rfl⟩
    · cases hk; cases hg; exact ⟨5, rfl, rfl⟩
    · cases hk; cases hg; exact ⟨6, rfl, rfl⟩
    · cases hk; cases hg
    · cases hk
theorem hW.newE (h : hW C x m w O S Z) (l : Nat) (hl : l ≤ 98) (v : Int32) (hv : v = nI l) : ∃ w1, mX1_init F l w.2 v (gNO 1 [.null, .null, .null, .int 0, .int 0, .int 0] w) = some w1 ∧ w1.2 = w.2 + 4 ∧ hW (cNew C w.2 (1, l)) x m w1 (oup O w.2 zZ) S Z := by
  have b0 := bld_0 w 1 [.null, .null, .null, .int 0, .int 0, .int 0]
  obtain ⟨w1, e1, b1⟩ := b0.NP 98 98 2 1 (98 : Int32) rfl (by omega) (by omega) (Nat.le_of_ble_eq_true rfl) rfl
  obtain ⟨w2, e2, b2⟩ := b1.NP (l * 98) (l * 98) 0 2 (v * (98 : Int32)) (by rw [hv]; exact pk_mul l 98) (by omega) (by omega) (Nat.le_of_ble_eq_true rfl) rfl
  obtain ⟨w3, e3, b3⟩ := b2.NP l l 1 3 v hv (by omega) (by omega) (Nat.le_of_ble_eq_true rfl) rfl
  refine ⟨w3, ?_, b3.1, h.new (q := (1, l)) hl b3.1 b3.2.2.2.1 (b3.at ?_ ?_)⟩
  · unfold mX1_init
    rw [e1, hv, c_max0 (by omega), Option.bind_some]
    dsimp only
    rw [← hv, e2, e3]
  · rw [cv0]; rfl
  · rw [cv0]
    intro k e g hk hg
    rcases k with _ | _ | _ | _ | _ | _ | k
    · cases hk; cases hg; exact ⟨1, rfl, rfl⟩
    · cases hk; cases hg; exact ⟨2, rfl, rfl⟩
    · cases hk; cases hg; exact ⟨0, rfl, rfl⟩
    · cases hk; cases hg
    · cases hk; cases hg
    · cases hk; cases hg
    · cases hk
end NEW
