section INQ
variable {F x m gc ac j a : Nat} {C C' : yC} {w : gW} {O O' : zO} {S S' : oSt} {Z Z' : zS} {gn : Nat → Nat} {gT : Nat → Nat → Nat → Nat}
theorem kd_ne {a b : Nat} {q q' : Nat × Nat} (h1 : C.1 a = some q) (h2 : C.1 b = some q') (h : q ≠ q') : a ≠ b := fun u => by
  rw [u, h2] at h1
  exact h (Option.some.inj h1).symm
theorem LI.mod {A g t b s p r gi : Nat} {M : Nat → Nat → Nat → Int} [NeZero p] (h : LI C O S Z gn gT gc ac) (hj : j < ac) (hI : fInv p) (e1 : oQ S 1 j = some A) (e2 : gi < gc) (e3 : oQ S 0 gi = some g) (hA : yAct C O A g t (gn gi) (gT gi) p r M) (hk : yKd C A t b s) (hc : cEx C C') (hs : rSm S S') (hl : lIn C' S') (hX : ∀ a q, C.1 a = some q → a ≠ A → a ≠ t → a ≠ b → a ≠ s → q ≠ (1, 98) → a ≠ g → O' a = O a) (hG : gSt (O' g) (gn gi) (gT gi)) (hA' : yAct C' O' A g t (gn gi) (gT gi) p r M) (h5 : zI (O' A) 5 = (p ^ r : Nat)) (hf : ySf p O' A t b s (gn gi) r (gT gi) M) (hz : kM Z Z' j) (hm : mOk p Z' j gi (gn gi) (gT gi) r M) : LI C' O' S' Z' gn gT gc ac := by
  have sl : aSl C A t b s := ⟨hA.1.1, hA.1.2.2.2.1, hA.1.2.2.1, hk⟩
  have kA := hA.1.1
  have kg := hA.1.2.1
  have kt := hA.1.2.2.1
  have kb := hk.1
  have ks := hk.2.2.1
  have hcn := h.1
  have hg8 : gc ≤ 8 := hcn.1.1
  have h6 : j < 6 := by have := hcn.1.2; omega
  have zk : zKp Z Z' := ⟨fun k h1 _ => hz.1.1 k (by omega), hz.1.2.1 0 (by omega), hz.1.2.1 7 (by omega)⟩
  have hO : ∀ a q, C.1 a = some q → ¬ (a = A ∨ a = t ∨ a = b ∨ a = s ∨ a = g ∨ C.1 a = some (1, 98)) → O' a = O a := fun a q hq n => by
    refine hX a q hq (fun u => n (Or.inl u)) (fun u => n (Or.inr (Or.inl u))) (fun u => n (Or.inr (Or.inr (Or.inl u)))) (fun u => n (Or.inr (Or.inr (Or.inr (Or.inl u))))) (fun u => n (Or.inr (Or.inr (Or.inr (Or.inr (Or.inr (by rw [hq, u]))))))) (fun u => n (Or.inr (Or.inr (Or.inr (Or.inr (Or.inl u))))))
  refine h.gen (X := fun a => a = A ∨ a = t ∨ a = b ∨ a = s ∨ a = g ∨ C.1 a = some (1, 98)) hc hs hl hO (fun k a hk' e hx => ?_) (fun a ka hx => ?_) zk hm.2.2.1 (fun k hk' => ?_) fun G j' hj' e => ?_
  · have ka := h.2.1.1 k a (by omega) e
    rcases hx with u | u | u | u | u | u
    · exact (kd_ne ka kA (by decide) u).elim
    · exact (kd_ne ka kt (by decide) u).elim
    · exact (kd_ne ka kb (by decide) u).elim
    · exact (kd_ne ka ks (by decide) u).elim
    · subst u
      have := h.2.1.2.1 k gi a (by omega) (by omega) e e3
      rw [this]; exact hG
    · rw [ka] at u; cases u
  · rcases hx with u | u | u | u | u | u
    · exact (kd_ne ka kA (by decide) u).elim
    · exact (kd_ne ka kt (by decide) u).elim
    · exact (kd_ne ka kb (by decide) u).elim
    · exact (kd_ne ka ks (by decide) u).elim
    · exact (kd_ne ka kg (by decide) u).elim
    · rw [ka] at u; cases u
  · rw [hz.1.1 3 (by omega)]; exact (h.2.1.2.2 k hk').2.2
  · by_cases c : j' = j
    · subst c
      exact ⟨A, g, t, b, s, p, r, gi, M, inferInstance, hI, by rw [hs.2]; exact e1, e2, by rw [hs.2]; exact e3, hA', hk.cx kt hc, h5, hf, hm⟩
    · have h6' : j' < 6 := by have := hcn.1.2; omega
      refine e.mono (X := fun a => a = A ∨ a = t ∨ a = b ∨ a = s ∨ a = g ∨ C.1 a = some (1, 98)) hc hs.2 hO (fun a' t' b' s' q sl' => ?_) G fun p gi r M hp _ o => o.km hz c h6
      obtain ⟨d1, d2, d3, d4⟩ := h.2.2.1.2 j' j a' A t' b' s' t b s h6' h6 c q e1 sl' sl
      obtain ⟨ka', -, kt', kb', -, ks', -⟩ := sl'
      refine ⟨?_, ?_, ?_, ?_⟩
      · rintro (u | u | u | u | u | u)
        · exact d1 u
        · exact kd_ne ka' kt (by decide) u
        · exact kd_ne ka' kb (by decide) u
        · exact kd_ne ka' ks (by decide) u
        · exact kd_ne ka' kg (by decide) u
        · rw [ka'] at u; cases u
      · rintro (u | u | u | u | u | u)
        · exact kd_ne kt' kA (by decide) u
        · exact d2 u
        · exact kd_ne kt' kb (by decide) u
        · exact kd_ne kt' ks (by decide) u
        · exact kd_ne kt' kg (by decide) u
        · rw [kt'] at u; cases u
      · rintro (u | u | u | u | u | u)
        · exact kd_ne kb' kA (by decide) u
        · exact kd_ne kb' kt (by decide) u
        · exact d3 u
        · exact kd_ne kb' ks (by decide) u
        · exact kd_ne kb' kg (by decide) u
        · rw [kb'] at u; cases u
      · rintro (u | u | u | u | u | u)
        · exact kd_ne ks' kA (by decide) u
        · exact kd_ne ks' kt (by decide) u
        · exact kd_ne ks' kb (by decide) u
        · exact d4 u
        · exact kd_ne ks' kg (by decide) u
        · rw [ks'] at u; cases u
/-- the makers of a group, or the matching, may be others -/
theorem LI.grp {g : Nat} (h : LI C O S Z gn gT gc ac) (ha : a < gc) (e3 : oQ S 0 a = some g) (hc : cEx C C') (hs : rSm S S') (hl : lIn C' S') (hX : ∀ b q, C.1 b = some q → b ≠ g → q ≠ (3, 0) → O' b = O b) (hG : gSt (O' g) (gn a) (gT a)) (hz : smF (gn a) (gT a) Z Z' a) : LI C' O' S' Z' gn gT gc ac := by
  have h' := h.sm hz
  have hcn := h.1
  have hg8 : gc ≤ 8 := hcn.1.1
  have kg := h.2.1.1 a g (by omega) e3
  have hO : ∀ b q, C.1 b = some q → ¬ (b = g ∨ C.1 b = some (3, 0)) → O' b = O b := fun b q hq n => hX b q hq (fun u => n (Or.inl u)) fun u => n (Or.inr (by rw [hq, u]))
  refine h'.gen (X := fun b => b = g ∨ C.1 b = some (3, 0)) hc hs hl hO (fun k b hk' e hx => ?_) (fun b kb hx => ?_) ⟨fun _ _ _ => rfl, rfl, rfl⟩ h'.1.2.2.2 (fun k hk' => (h'.2.1.2.2 k hk').2.2) fun G j' hj' e => ?_
  · have kb := h.2.1.1 k b (by omega) e
    rcases hx with u | u
    · subst u
      have := h.2.1.2.1 k a b (by omega) (by omega) e e3
      rw [this]; exact hG
    · rw [kb] at u; cases u
  · rcases hx with u | u
    · exact kd_ne kb kg (by decide) u
    · rw [kb] at u; cases u
  · refine e.mono (X := fun b => b = g ∨ C.1 b = some (3, 0)) hc hs.2 hO (fun a' t' b' s' q sl' => ?_) G fun p gi r M hp _ o => o
    obtain ⟨ka', -, kt', kb', -, ks', -⟩ := sl'
    refine ⟨?_, ?_, ?_, ?_⟩
    · rintro (u | u)
      · exact kd_ne ka' kg (by decide) u
      · rw [ka'] at u; cases u
    · rintro (u | u)
      · exact kd_ne kt' kg (by decide) u
      · rw [kt'] at u; cases u
    · rintro (u | u)
      · exact kd_ne kb' kg (by decide) u
      · rw [kb'] at u; cases u
    · rintro (u | u)
      · exact kd_ne ks' kg (by decide) u
      · rw [ks'] at u; cases u
end INQ
