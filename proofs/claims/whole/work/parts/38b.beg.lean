section BEG
variable {F x m L : Nat} {w w1 w2 : gW} {S : oSt} {xs : Nat → Int32}
theorem iC_sp {a : Nat} {q : Nat × Nat} (h : (iC x).1 a = some q) : q = (4, 0) ∧ ∃ i, i < 4 ∧ a = x + 4 + 2 * i := by
  have h : (if a = x + 4 ∨ a = x + 6 ∨ a = x + 8 ∨ a = x + 10 then some (4, 0) else none) = some q := h
  by_cases c : a = x + 4 ∨ a = x + 6 ∨ a = x + 8 ∨ a = x + 10
  · rw [if_pos c] at h
    refine ⟨(Option.some.inj h).symm, ?_⟩
    rcases c with c | c | c | c
    · exact ⟨0, by omega, by omega⟩
    · exact ⟨1, by omega, by omega⟩
    · exact ⟨2, by omega, by omega⟩
    · exact ⟨3, by omega, by omega⟩
  · rw [if_neg c] at h; cases h
theorem iC_at {i : Nat} (hi : i < 4) : (iC x).1 (x + 4 + 2 * i) = some (4, 0) := if_pos (by omega)
theorem beg_WI (h : rtI x 4 w1 S) (h2 : w2.2 = w1.2 + 27) (h3 : ∀ b, b < w1.2 → w2.1 b = w1.1 b) (h4 : oAt 7 lyZ w2 w1.2 (cvZ iZ)) : WI x w1.2 w2 := by
  obtain ⟨r1, r2, r3, r4, ⟨r5, r6⟩, r7, r8, r9, r10⟩ := h
  have sz : SZ (4, 0) = 2 := rfl
  refine ⟨iC x, iO, S, iZ, fun _ => 0, fun _ _ _ => 0, 0, 0, ⟨⟨fun a q ha => ?_, fun a b q q' ha hb hne => ?_⟩, fun a q ha => ?_, r2.sm lyX_ok (by omega) fun b t1 t2 => h3 b (by omega), h4, fun a q ha => ?_, by omega, by omega, by omega⟩, ⟨⟨by omega, by omega⟩, ⟨r5, r6⟩, ⟨rfl, rfl⟩, by show -2147483648 ≤ (-4 : Int) ∧ (-4 : Int) < 2147483648; omega⟩, ⟨fun k a _ e => ?_, fun k k' a _ _ e => ?_, fun k hk => by omega⟩, ⟨fun k a _ e => ?_, fun k k' a a' t b s t' b' s' _ _ _ e => ?_⟩, fun j hj => by omega, ⟨fun k k' a hk hk' e e' => ?_, fun k hk => ?_⟩, fun e he => ?_, fun e he => ?_⟩
  · rw [(iC_sp ha).1]; decide
  · obtain ⟨p1, i, i1, i2⟩ := iC_sp ha
    obtain ⟨p2, j, j1, j2⟩ := iC_sp hb
    rw [p1, p2, sz]
    omega
  · obtain ⟨p1, i, i1, i2⟩ := iC_sp ha
    rw [p1, i2]
    exact (r4 i i1).sm lyS_ok (by omega) fun b t1 t2 => h3 b (by omega)
  · obtain ⟨p1, i, i1, i2⟩ := iC_sp ha
    rw [p1, sz]
    omega
  · rw [r7] at e; cases e
  · rw [r7] at e; cases e
  · rw [r8] at e; cases e
  · rw [r8] at e; cases e
  · rw [r3 k hk] at e
    rw [r3 k' hk'] at e'
    have := Option.some.inj e
    have := Option.some.inj e'
    omega
  · refine ⟨x + 4 + 2 * k, r3 k hk, iC_at hk, fun i hi => ⟨rfl, ?_⟩, rfl, ?_, Or.inl ⟨rfl, ?_⟩⟩
    · show -2147483648 ≤ (0 : Int) ∧ (0 : Int) < 2147483648
      omega
    · show (0 : Int) ≤ 0 ∧ (0 : Int) ≤ 144
      omega
    · show (if ((k : Nat) : Int) < 4 then (-4 : Int) else 0) = -4
      rw [if_pos (by omega)]
  · rw [r9] at he; cases he
  · rw [r10] at he; cases he
theorem law_all (hF : fG F) (hL : L ≤ 3584) (w : gW) : mL_law F L xs w = some () := by
  obtain ⟨w1, S, e1, h1⟩ := ini_root (F := F) w
  obtain ⟨w2, e2, h2, h3, h4⟩ := ini_model (F := F) w1
  unfold mL_law
  rw [e1, Option.bind_some, e2, Option.bind_some]
  exact law_loop hF hL 513 0 w2 (by omega) (by omega) (beg_WI h1 h2 h3 h4)
end BEG
