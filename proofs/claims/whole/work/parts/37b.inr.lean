section INR
variable {F x m : Nat} {w w0 w1 : gW} {S : oSt}
/-- the root while its sheets are made -/
def rtI (x k : Nat) (w : gW) (S : oSt) : Prop := w.2 = x + 4 + 2 * k ∧ oAt 6 lyX w x S ∧ (∀ i, i < k → oQ S 2 i = some (x + 4 + 2 * i)) ∧ (∀ i, i < k → oAt 4 lyS w (x + 4 + 2 * i) (cvO (iC x) iO (x + 4 + 2 * i))) ∧ (oI S 3 = 0 ∧ oI S 4 = 0) ∧ (∀ i, oQ S 0 i = none) ∧ (∀ i, oQ S 1 i = none) ∧ oP S 5 = none ∧ oP S 6 = none
theorem ini_sheet (w : gW) : ∃ w1, mX4_init F w.2 (gNO 4 [.null, .int 0, .int 0] w) = some w1 ∧ w1.2 = w.2 + 2 ∧ (∀ b, b < w.2 → w1.1 b = w.1 b) ∧ oAt 4 lyS w1 w.2 (cvO (iC x) iO w.2) := by
  have b0 := bld_0 w 4 [.null, .int 0, .int 0]
  obtain ⟨w1, e1, b1⟩ := b0.NP 144 144 0 1 (144 : Int32) rfl (by omega) (by omega) (Nat.le_of_ble_eq_true rfl) rfl
  obtain ⟨w2, e2, z2, b2⟩ := b1.P 1 (Nat.le_of_ble_eq_true rfl) (.inl (-1))
  refine ⟨w2, ?_, b2.1, b2.2.2.2.1, b2.at rfl ?_⟩
  · unfold mX4_init
    rw [e1, e2, Option.bind_some]
  · intro k e g hk hg
    rcases k with _ | _ | _ | k
    · cases hk; cases hg; exact ⟨0, rfl, rfl⟩
    · cases hk; cases hg
    · cases hk; cases hg
    · cases hk
theorem rtI.step {k : Nat} (hk : k < 4) (h : rtI x k w S) : ∃ (w1 : gW) (S1 : oSt), (∀ r : Nat → Int32 → gW → Option gW, mX6_init_h32 F r x (nI k) w = r x (nI (k + 1)) w1) ∧ rtI x (k + 1) w1 S1 := by
  obtain ⟨h1, h2, h3, h4, h5, h6, h7, h8, h9⟩ := h
  obtain ⟨w1, e1, e2, e3, e4⟩ := ini_sheet (F := F) (x := x) w
  have a2 : oAt 6 lyX w1 x S := h2.sm lyX_ok (by omega) fun b t1 t2 => e3 b (by omega)
  obtain ⟨w2, f1, f2, f3⟩ := a2.stR lyX_ok 2 (c := 4) (off := 3) (len := 4) rfl (j := k) hk (by decide) (b := w.2) e4.O
  have r2 : gFR 6 2 (some x) w = some (some (x + 3)) := h2.rQ 2 (c := 4) rfl
  have hq : ∀ i, oQ (uQ S 2 (va_up (oQ S 2) k (some w.2))) 2 i = if i = k then some w.2 else oQ S 2 i := fun i => by
    show va_up (oQ S) 2 (va_up (oQ S 2) k (some w.2)) 2 i = _
    rw [va_upS]
    by_cases c : i = k
    · rw [c, va_upS, if_pos rfl]
    · rw [va_upN c, if_neg c]
  have hq2 : ∀ l, l ≠ 2 → oQ (uQ S 2 (va_up (oQ S 2) k (some w.2))) l = oQ S l := fun l hl => va_upN hl
  refine ⟨w2, uQ S 2 (va_up (oQ S 2) k (some w.2)), fun r => ?_, by rw [f3.1]; omega, f2, fun i hi => ?_, fun i hi => ?_, h5, fun i => by rw [hq2 0 (by decide)]; exact h6 i, fun i => by rw [hq2 1 (by decide)]; exact h7 i, h8, h9⟩
  · unfold mX6_init_h32
    rw [if_neg (show ¬ (4 : Int32) ≤ nI k by rw [show (4 : Int32) = nI 4 from rfl]; exact nI_ge hk (by omega)), r2, Option.bind_some, e1, Option.bind_some, f1, Option.bind_some, nI_1]
  · rw [hq]
    by_cases c : i = k
    · rw [if_pos c, c, h1]
    · rw [if_neg c]; exact h3 i (by omega)
  · by_cases c : i = k
    · have := e4.keep lyS_ok f3 (by omega) (by omega)
      rw [c, ← h1]; exact this
    · exact ((h4 i (by omega)).sm lyS_ok (by omega) fun b t1 t2 => e3 b (by omega)).keep lyS_ok f3 (by omega) (by omega)
theorem ini_root (w : gW) : ∃ (w1 : gW) (S : oSt), mX6_init F w.2 (gNO 6 [.null, .null, .null, .int 0, .int 0, .null, .null] w) = some w1 ∧ rtI w.2 4 w1 S := by
  have b0 := bld_0 w 6 [.null, .null, .null, .int 0, .int 0, .null, .null]
  obtain ⟨w1, e1, b1⟩ := b0.QP 2 8 8 0 1 (8 : Int32) rfl (by omega) (by omega) (Nat.le_of_ble_eq_true rfl) rfl
  obtain ⟨w2, e2, b2⟩ := b1.QP 0 6 6 1 2 (6 : Int32) rfl (by omega) (by omega) (Nat.le_of_ble_eq_true rfl) rfl
  obtain ⟨w3, e3, b3⟩ := b2.QP 4 4 4 2 3 (4 : Int32) rfl (by omega) (by omega) (Nat.le_of_ble_eq_true rfl) rfl
  have st : rtI w.2 0 w3 (fun _ => 0, fun _ => 0, fun _ _ => 0, fun _ _ => 0, fun _ => none, fun _ _ => none) := by
    refine ⟨b3.1, b3.at rfl ?_, fun i hi => by omega, fun i hi => by omega, ⟨rfl, rfl⟩, fun _ => rfl, fun _ => rfl, rfl, rfl⟩
    intro k e g hk hg
    rcases k with _ | _ | _ | _ | _ | _ | _ | k
    · cases hk; cases hg; exact ⟨0, rfl, rfl⟩
    · cases hk; cases hg; exact ⟨1, rfl, rfl⟩
    · cases hk; cases hg; exact ⟨2, rfl, rfl⟩
    · cases hk; cases hg
    · cases hk; cases hg
    · cases hk; cases hg
    · cases hk; cases hg
    · cases hk
  obtain ⟨v1, S1, p1, q1⟩ := st.step (F := F) (k := 0) (by omega)
  obtain ⟨v2, S2, p2, q2⟩ := q1.step (F := F) (by omega)
  obtain ⟨v3, S3, p3, q3⟩ := q2.step (F := F) (by omega)
  obtain ⟨v4, S4, p4, q4⟩ := q3.step (F := F) (by omega)
  refine ⟨v4, S4, ?_, q4⟩
  unfold mX6_init
  rw [e1, e2, e3]
  show mX6_init_h32 F (mX6_init_l32 F 4) w.2 (nI 0) w3 = _
  rw [p1]
  show mX6_init_h32 F (mX6_init_l32 F 3) w.2 (nI 1) v1 = _
  rw [p2]
  show mX6_init_h32 F (mX6_init_l32 F 2) w.2 (nI 2) v2 = _
  rw [p3]
  show mX6_init_h32 F (mX6_init_l32 F 1) w.2 (nI 3) v3 = _
  rw [p4]
  show mX6_init_h32 F (mX6_init_l32 F 0) w.2 (nI 4) v4 = _
  unfold mX6_init_h32
  rw [if_pos (by decide)]
end INR
