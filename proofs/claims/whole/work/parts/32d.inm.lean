section INM
variable {F x m gc ac j a : Nat} {C C' : yC} {w : gW} {O O' : zO} {S S' : oSt} {Z Z' : zS} {gn : Nat → Nat} {gT : Nat → Nat → Nat → Nat}
theorem mOk.zk {p g n r : Nat} [NeZero p] {T : Nat → Nat → Nat} {M : Nat → Nat → Nat → Int} (h : mOk p Z j g n T r M) (hz : zKp Z Z') (hk : ∀ k, 23 ≤ k → zA Z' k = zA Z k) (hi : ∀ k, 23 ≤ k → zI Z' k = zI Z k) : mOk p Z' j g n T r M := by
  obtain ⟨h1, h2, h3, h4⟩ := h
  refine ⟨hz.md h1, by rw [hz.2.2]; exact h2, by rw [hi 29 (by omega)]; exact h3, fun e => ?_⟩
  rw [hi 29 (by omega)] at e
  have := h4 e
  unfold mKn at *
  rw [hk 31 (by omega), hk 32 (by omega), hk 33 (by omega), hi 35 (by omega), hk 30 (by omega)]
  exact this
theorem LI.sm (h : LI C O S Z gn gT gc ac) (hz : smF (gn a) (gT a) Z Z' a) : LI C O S Z' gn gT gc ac := by
  have hk : zKp Z Z' := ⟨fun k h1 h2 => hz.1 k (by omega) h2, hz.2.1 0 (by decide), hz.2.1 7 (by decide)⟩
  refine h.gen (X := fun _ => False) cEx.rf rSm.rf h.2.2.2.2.2 (fun _ _ _ _ => rfl) (fun _ _ _ _ q => q.elim) (fun _ _ q => q) hk (by rw [hz.2.1 29 (by decide)]; exact h.1.2.2.2) (fun k hk => ?_) fun G j hj e => ?_
  · have o := (h.2.1.2.2 k hk).2.2
    rcases hz.2.2 with e | ⟨L, e1, e2, e3⟩
    · rw [e]; exact o
    · rw [e3]
      by_cases c : k = a
      · subst c
        exact Or.inr ⟨L, zup_s _ _ _, e1, e2⟩
      · rw [zup_n (by omega)]; exact o
  · exact e.mono (X := fun _ => False) cEx.rf rfl (fun _ _ _ _ => rfl) (fun _ _ _ _ _ _ => ⟨fun q => q, fun q => q, fun q => q, fun q => q⟩) G fun p gi r M hp _ o => o.zk hk (fun k hk => hz.1 k (by omega) (by omega)) fun k hk => hz.2.1 k (by omega)
theorem LI.sc (h : LI C O S Z gn gT gc ac) (hz : scF Z Z') : LI C O S Z' gn gT gc ac := h.sm (a := 0) ⟨fun k h1 _ => hz.1 k h1, hz.2, Or.inl (hz.1 3 (by omega))⟩
theorem mOk.km {p g n r j' : Nat} [NeZero p] {T : Nat → Nat → Nat} {M : Nat → Nat → Nat → Int} (h : mOk p Z j' g n T r M) (hz : kM Z Z' j) (hj : j' ≠ j) (hj6 : j < 6) : mOk p Z' j' g n T r M := by
  obtain ⟨h1, h2, h3, h4⟩ := h
  have hb := h1.1
  rcases hz.2 with e | ⟨e1, e2⟩
  · refine ⟨h1.k hz.1, by rw [hz.1.2.1 7 (by omega)]; exact h2, by omega, fun e' => ?_⟩
    exact (hj (by omega)).elim
  · refine ⟨h1.k hz.1, by rw [hz.1.2.1 7 (by omega)]; exact h2, by rw [e2]; exact h3, fun e => ?_⟩
    rw [e2] at e
    have := h4 e
    unfold mKn at *
    rw [e1 31 (by omega), e1 32 (by omega), e1 33 (by omega), e2 35, e1 30 (by omega)]
    exact this
end INM
