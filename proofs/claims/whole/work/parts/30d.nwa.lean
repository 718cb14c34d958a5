/-! A NEW MODULE OF THE CLASS -/
section NWA
variable {F : Nat} {C : yC} {x m : Nat} {w : gW} {O : zO} {S : oSt} {Z : zS}
theorem hW.newA (h : hW C x m w O S Z) : ∃ (w1 : gW) (C' : yC) (O' : zO) (t b s : Nat), mX0_init F w.2 (gNO 0 [.null, .null, .null, .int 0, .int 0, .int 0, .int 0] w) = some w1 ∧ hW C' x m w1 O' S Z ∧ (∀ c, c < w.2 → C'.1 c = C.1 c ∧ (∀ k, C'.2 c k = C.2 c k) ∧ O' c = O c) ∧ (C'.1 w.2 = some (0, 0) ∧ C'.1 t = some (5, 0) ∧ C'.1 b = some (1, 14) ∧ C'.1 s = some (1, 12)) ∧ (C'.2 w.2 1 = some t ∧ C'.2 t 1 = some b ∧ C'.2 t 2 = some s) ∧ (w.2 < t ∧ w.2 < b ∧ w.2 < s) ∧ O' w.2 = zZ := by
  -- the module and its row
  have b0 := bld_0 w 0 [.null, .null, .null, .int 0, .int 0, .int 0, .int 0]
  obtain ⟨w1, e1, b1⟩ := b0.NP 32 32 0 1 (32 : Int32) rfl (by omega) (by omega) (Nat.le_of_ble_eq_true rfl) rfl
  have h1 : hW (cNew C w.2 (0, 0)) x m w1 (oup O w.2 zZ) S Z := by
    refine h.new (q := (0, 0)) (by decide) b1.1 b1.2.2.2.1 (b1.at ?_ ?_)
    · rw [cv0]
      show _ = [Value.ref (w.2 + 1), va_rf ((cNew C w.2 (0, 0)).2 w.2 1), va_rf ((cNew C w.2 (0, 0)).2 w.2 2), Value.int 0, Value.int 0, Value.int 0, Value.int 0]
      rw [cNew_0, cNew_0]; rfl
    · rw [cv0]
      intro k e g hk hg
      rcases k with _ | _ | _ | _ | _ | _ | _ | k
      · cases hk; cases hg; exact ⟨0, rfl, rfl⟩
      · cases hk; cases hg
      · cases hk; cases hg
      · cases hk; cases hg
      · cases hk; cases hg
      · cases hk; cases hg
      · cases hk; cases hg
      · cases hk
  have s1 : w1.2 = w.2 + 2 := b1.1
  -- its twists and their row
  have c0 := bld_0 w1 5 [.null, .null, .null, .int 0, .int 0, .int 0, .int 0]
  obtain ⟨w2, e2, b2⟩ := c0.NP 98 98 0 1 (98 : Int32) rfl (by omega) (by omega) (Nat.le_of_ble_eq_true rfl) rfl
  have h2 : hW (cNew (cNew C w.2 (0, 0)) w1.2 (5, 0)) x m w2 (oup (oup O w.2 zZ) w1.2 zZ) S Z := by
    refine h1.new (q := (5, 0)) (by decide) b2.1 b2.2.2.2.1 (b2.at ?_ ?_)
    · rw [cv0]
      show _ = [Value.ref (w1.2 + 1), va_rf ((cNew (cNew C w.2 (0, 0)) w1.2 (5, 0)).2 w1.2 1), va_rf ((cNew (cNew C w.2 (0, 0)) w1.2 (5, 0)).2 w1.2 2), Value.int 0, Value.int 0, Value.int 0, Value.int 0]
      rw [cNew_0, cNew_0]; rfl
    · rw [cv0]
      intro k e g hk hg
      rcases k with _ | _ | _ | _ | _ | _ | _ | k
      · cases hk; cases hg; exact ⟨0, rfl, rfl⟩
      · cases hk; cases hg
      · cases hk; cases hg
      · cases hk; cases hg
      · cases hk; cases hg
      · cases hk; cases hg
      · cases hk; cases hg
      · cases hk
  have s2 : w2.2 = w1.2 + 2 := b2.1
  obtain ⟨w3, e3, s3, h3⟩ := h2.newE (F := F) 14 (by omega) (14 : Int32) rfl
  have kt3 : (cNew (cNew (cNew C w.2 (0, 0)) w1.2 (5, 0)) w2.2 (1, 14)).1 w1.2 = some (5, 0) := by rw [cNew_n (by omega), cNew_s]
  obtain ⟨w4, e4, s4, h4⟩ := h3.ref kt3 (k := 1) rfl (some w2.2)
  obtain ⟨w5, e5, s5, h5⟩ := h4.newE (F := F) 12 (by omega) (12 : Int32) rfl
  have kt5 : (cNew (cRef (cNew (cNew (cNew C w.2 (0, 0)) w1.2 (5, 0)) w2.2 (1, 14)) w1.2 1 (some w2.2)) w4.2 (1, 12)).1 w1.2 = some (5, 0) := by
    rw [cNew_n (by omega)]; exact kt3
  obtain ⟨w6, e6, s6, h6⟩ := h5.ref kt5 (k := 2) rfl (some w4.2)
  have kA6 : (cRef (cNew (cRef (cNew (cNew (cNew C w.2 (0, 0)) w1.2 (5, 0)) w2.2 (1, 14)) w1.2 1 (some w2.2)) w4.2 (1, 12)) w1.2 2 (some w4.2)).1 w.2 = some (0, 0) := by
    show (cNew (cRef (cNew (cNew (cNew C w.2 (0, 0)) w1.2 (5, 0)) w2.2 (1, 14)) w1.2 1 (some w2.2)) w4.2 (1, 12)).1 w.2 = _
    rw [cNew_n (by omega)]
    show (cNew (cNew (cNew C w.2 (0, 0)) w1.2 (5, 0)) w2.2 (1, 14)).1 w.2 = _
    rw [cNew_n (by omega), cNew_n (by omega), cNew_s]
  obtain ⟨w7, e7, s7, h7⟩ := h6.ref kA6 (k := 1) rfl (some w1.2)
  have rf : ∀ (D : yC) (a k : Nat) (v : Option Nat) b l, (cRef D a k v).2 b l = if b = a ∧ l = k then v else D.2 b l := fun _ _ _ _ _ _ => rfl
  have rf1 : ∀ (D : yC) (a k : Nat) (v : Option Nat), (cRef D a k v).1 = D.1 := fun _ _ _ _ => rfl
  refine ⟨w7, _, _, w1.2, w2.2, w4.2, ?_, h7, fun c hc => ⟨?_, fun k => ?_, ?_⟩, ⟨kA6, kt5, ?_, ?_⟩, ⟨?_, ?_, ?_⟩, ⟨by omega, by omega, by omega⟩, ?_⟩
  · unfold mX0_init
    rw [e1]
    have i5 : mX5_init F w1.2 (gNO 5 [.null, .null, .null, .int 0, .int 0, .int 0, .int 0] w1) = some w6 := by
      unfold mX5_init
      rw [e2, e3, Option.bind_some, e4, Option.bind_some, e5, Option.bind_some, e6, Option.bind_some]
    rw [i5, Option.bind_some, e7, Option.bind_some]
  · rw [rf1, rf1, cNew_n (by omega), rf1, cNew_n (by omega), cNew_n (by omega), cNew_n (by omega)]
  · rw [rf, if_neg (by omega), rf, if_neg (by omega), cNew_r (by omega), rf, if_neg (by omega), cNew_r (by omega), cNew_r (by omega), cNew_r (by omega)]
  · rw [oup_n (by omega), oup_n (by omega), oup_n (by omega), oup_n (by omega)]
  · rw [rf1, rf1, cNew_n (by omega), rf1, cNew_s]
  · rw [rf1, rf1, cNew_s]
  · rw [rf, if_pos ⟨rfl, rfl⟩]
  · rw [rf, if_neg (by omega), rf, if_neg (by omega), cNew_r (by omega), rf, if_pos ⟨rfl, rfl⟩]
  · rw [rf, if_neg (by omega), rf, if_pos ⟨rfl, rfl⟩]
  · rw [oup_n (by omega), oup_n (by omega), oup_n (by omega), oup_s]
end NWA
