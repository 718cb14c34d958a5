/-! THE MODEL: what stays when a group comes; count, drop -/
section MST
variable {F m g g1 n n1 r x y : Nat} {Z : zS} {T T1 : Nat → Nat → Nat} {M : Nat → Nat → Nat → Int} {f : Int → Int}
theorem yG_new (hf : tbF Z g n T n 0 f) (hG : zGrp n T) (hn : n ≤ 48) (hg : g < 8) : yG (gNew Z f g (n : Nat)) g n T := by
  refine ⟨hg, ?_, hn, hG, fun x' y' h1 h2 => ?_⟩
  · rw [gNew_1, zup_s]
  · rw [gNew_2]; exact hf.1 x' y' h1 h2 (by omega)
theorem yG_old {v : Int} (hf : tbF Z g n T x y f) (h : yG Z g1 n1 T1) (hg : g1 < g) : yG (gNew Z f g v) g1 n1 T1 := by
  obtain ⟨a1, a2, a3, a4, a5⟩ := tb_yG hf h hg
  refine ⟨a1, ?_, a3, a4, fun x' y' h1 h2 => ?_⟩
  · rw [gNew_1, zup_n (by omega)]; exact a2
  · rw [gNew_2]; exact a5 x' y' h1 h2
theorem mGs_new {v : Int} (h : mGs Z) (h0 : zI Z 0 = g) (hg : g < 8) (hv : 0 < v ∧ v ≤ 48) : mGs (gNew Z f g v) := by
  refine ⟨by rw [gNew_0]; omega, fun a h1 h2 => ?_⟩
  rw [gNew_0] at h2
  rw [gNew_1]
  by_cases c : a = g
  · rw [c, zup_s]; exact hv
  · rw [zup_n c]; exact h.2 a h1 (by omega)
theorem mMd_old {p : Nat} {v : Int} (hf : tbF Z g n T x y f) (h : mMd Z m g1 n1 T1 p r M) (hg : g1 < g) : mMd (gNew Z f g v) m g1 n1 T1 p r M := by
  obtain ⟨a1, a2, a3, a4, a5, a6, a7⟩ := h
  refine ⟨a1, yG_old hf a2 hg, a3, ?_, a5, a6, ?_⟩
  · rw [gNew_A (by omega) (by omega) (by omega), gNew_A (by omega) (by omega) (by omega), gNew_A (by omega) (by omega) (by omega)]; exact a4
  · rw [gNew_A (by omega) (by omega) (by omega)]; exact a7
theorem mKn_new {p : Nat} [NeZero p] {v : Int} (h : mKn (p := p) n1 r T1 M Z) : mKn (p := p) n1 r T1 M (gNew Z f g v) := by
  unfold mKn at *
  rw [gNew_A (by omega) (by omega) (by omega), gNew_A (by omega) (by omega) (by omega), gNew_A (by omega) (by omega) (by omega), gNew_A (by omega) (by omega) (by omega), gNew_I (by omega)]
  exact h
theorem mOk_old {p : Nat} [NeZero p] {v : Int} (hf : tbF Z g n T x y f) (h : mOk p Z m g1 n1 T1 r M) (hg : g1 < g) : mOk p (gNew Z f g v) m g1 n1 T1 r M := by
  obtain ⟨a1, a2, a3, a4⟩ := h
  refine ⟨mMd_old hf a1 hg, ?_, ?_, fun e => mKn_new (a4 ?_)⟩
  · rw [gNew_I (by omega)]; exact a2
  · rw [gNew_I (by omega)]; exact a3
  · rw [gNew_I (by omega)] at e; exact e
/-- no module speaks of the last group: it goes -/
theorem m_drop0 (h0 : zI Z 0 = 0) : zX7_drop F Z = some (-4, Z) := by
  unfold zX7_drop
  rw [zEq_t (by omega)]
theorem m_drop (hF : fF F) (h0 : zI Z 0 = (g : Int) + 1) (hg : g < 8) {L : Nat} (h7 : zI Z 7 = L) (hL : L ≤ 6) (h8 : ∀ j : Nat, j < L → 0 ≤ zA Z 8 j ∧ zA Z 8 j < 8) : ((∃ j : Nat, j < L ∧ zA Z 8 j = g) → zX7_drop F Z = some (-2, Z)) ∧ ((∀ j : Nat, j < L → zA Z 8 j ≠ g) → zX7_drop F Z = some ((g : Int), zuI Z 0 g)) := by
  have key : ∀ P : Option (Int × zS) → Prop, ((∃ j : Nat, j < L ∧ zA Z 8 j = g) → P (some (-2, Z))) → ((∀ j : Nat, j < L → zA Z 8 j ≠ g) → P (some ((g : Int), zuI Z 0 g))) → P (zX7_drop F Z) := by
    intro P p1 p2
    unfold zX7_drop
    rw [zEq_f (by omega)]
    refine iX7_drop_l12 (I := fun v1 w => ∃ j : Nat, j = v1 ∧ j ≤ L ∧ Z = w ∧ ∀ j' : Nat, j' < j → zA Z 8 j' ≠ g) (μ := fun v1 _ => (L - v1).toNat) (P := P) ?_ F _ _ ⟨0, rfl, by omega, rfl, fun j' h => by omega⟩ (by unfold fF at hF; omega)
    rintro ra _ _ ⟨j, rfl, hj, rfl, hn⟩ ih
    unfold zX7_drop_h12
    rw [h7]
    by_cases c1 : j = L
    · rw [zLe_t (by omega)]
      dsimp only
      rw [zPI_o, h0, show (g : Int) + 1 - 1 = g by omega]
      exact p2 (by rw [← c1]; exact hn)
    · have hb := h8 j (by omega)
      rw [zLe_f (by omega), zLd_o (by omega), h0, show (g : Int) + 1 - 1 = g by omega]
      by_cases c2 : zA Z 8 j = g
      · rw [zEq_t (by omega)]
        exact p1 ⟨j, by omega, c2⟩
      · rw [zEq_f (by omega)]
        exact ih _ _ ⟨j + 1, by omega, by omega, rfl, fun j' h => by
          by_cases c3 : j' = j
          · rw [c3]; exact c2
          · exact hn j' (by omega)⟩ (by omega)
  exact ⟨fun h => key (fun x => x = some (-2, Z)) (fun _ => rfl) (fun q => by obtain ⟨j, a, b⟩ := h; exact (q j a b).elim), fun h => key (fun x => x = some ((g : Int), zuI Z 0 g)) (fun ⟨j, a, b⟩ => (h j a b).elim) (fun _ => rfl)⟩
end MST
