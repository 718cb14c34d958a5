/-! WHAT HOLDS BETWEEN TWO CALLS is kept -/
section INK
variable {F x m gc ac j a : Nat} {C C' : yC} {w : gW} {O O' : zO} {S S' : oSt} {Z Z' : zS} {gn : Nat → Nat} {gT : Nat → Nat → Nat → Nat} {X : Nat → Prop}
theorem ySf.eq {p A t b s n r : Nat} [NeZero p] {T : Nat → Nat → Nat} {M : Nat → Nat → Nat → Int} (h : ySf p O A t b s n r T M) (e1 : O' A = O A) (e2 : O' t = O t) (e3 : O' b = O b) (e4 : O' s = O s) : ySf p O' A t b s n r T M := by
  unfold ySf ySol at *
  rw [e1, e2, e3, e4]
  exact h
theorem ySf_of {p A t b s n r : Nat} [NeZero p] {T : Nat → Nat → Nat} {M : Nat → Nat → Nat → Int} (h : ySd p O A t b s n r T M) : ySf p O A t b s n r T M := by
  by_cases c : sdV n p r T M = 0
  · exact Or.inr ⟨(h.1 c).1, c, (h.1 c).2⟩
  · exact Or.inl (h.2 c)
theorem aSl.cx {a t b s : Nat} (h : aSl C a t b s) (hc : cEx C C') : aSl C' a t b s := by
  obtain ⟨h1, h2, h3, h4⟩ := h
  exact ⟨(hc a _ h1).1, ((hc a _ h1).2 1).trans h2, (hc t _ h3).1, h4.cx h3 hc⟩
theorem aSl.one {a t b s t' b' s' : Nat} (h : aSl C a t b s) (h' : aSl C a t' b' s') : t = t' ∧ b = b' ∧ s = s' := by
  obtain ⟨-, h2, -, -, h4, -, h6⟩ := h
  obtain ⟨-, k2, -, -, k4, -, k6⟩ := h'
  have e : t = t' := Option.some.inj (h2.symm.trans k2)
  subst e
  exact ⟨rfl, Option.some.inj (h4.symm.trans k4), Option.some.inj (h6.symm.trans k6)⟩
theorem aIn.cx (h : aIn C S) (hc : cEx C C') (hs : oQ S' = oQ S) : aIn C' S' := by
  obtain ⟨h1, h2⟩ := h
  refine ⟨fun k a hk hq => ?_, fun k k' a a' t b s t' b' s' hk hk' hne hq hq' hs hs' => ?_⟩
  · rw [hs] at hq
    obtain ⟨t, b, s, e⟩ := h1 k a hk hq
    exact ⟨t, b, s, e.cx hc⟩
  · rw [‹oQ S' = oQ S›] at hq hq'
    obtain ⟨t1, b1, s1, e⟩ := h1 k a hk hq
    obtain ⟨t2, b2, s2, e'⟩ := h1 k' a' hk' hq'
    obtain ⟨q1, q2, q3⟩ := hs.one (e.cx hc)
    obtain ⟨p1, p2, p3⟩ := hs'.one (e'.cx hc)
    rw [q1, q2, q3, p1, p2, p3]
    exact h2 k k' a a' t1 b1 s1 t2 b2 s2 hk hk' hne hq hq' e e'
theorem aOk.mono (h : aOk C O S Z gn gT gc j) (hc : cEx C C') (hs : oQ S' = oQ S) (hX : ∀ a q, C.1 a = some q → ¬ X a → O' a = O a) (hn : ∀ a t b s, oQ S 1 j = some a → aSl C a t b s → ¬ X a ∧ ¬ X t ∧ ¬ X b ∧ ¬ X s) (hg : ∀ k a, k < gc → oQ S 0 k = some a → yGp (O' a) (gn k) (gT k)) (hz : ∀ (p gi r : Nat) (M : Nat → Nat → Nat → Int) (_ : NeZero p), gi < gc → mOk p Z j gi (gn gi) (gT gi) r M → mOk p Z' j gi (gn gi) (gT gi) r M) : aOk C' O' S' Z' gn gT gc j := by
  obtain ⟨A, g, t, b, s, p, r, gi, M, hp, h1, h2, h3, h4, h5, h6, h7, h8, h9⟩ := h
  have sl : aSl C A t b s := ⟨h5.1.1, h5.1.2.2.2.1, h5.1.2.2.1, h6⟩
  obtain ⟨n1, n2, n3, n4⟩ := hn A t b s h2 sl
  have eA := hX A _ sl.1 n1
  have et := hX t _ sl.2.2.1 n2
  have eb := hX b _ h6.1 n3
  have es := hX s _ h6.2.2.1 n4
  refine ⟨A, g, t, b, s, p, r, gi, M, hp, h1, by rw [hs]; exact h2, h3, by rw [hs]; exact h4, ?_, h6.cx sl.2.2.1 hc, by rw [eA]; exact h7, h8.eq eA et eb es, hz p gi r M hp h3 h9⟩
  obtain ⟨c1, c2, c3⟩ := h5.cx hc
  exact ⟨c1, hg gi g h3 h4, by rw [eA]; exact c3⟩
/-- the model's numbers that count -/
def zKp (Z Z' : zS) : Prop := (∀ k, k < 12 → k ≠ 3 → zA Z' k = zA Z k) ∧ zI Z' 0 = zI Z 0 ∧ zI Z' 7 = zI Z 7
theorem zKp.yG {g n : Nat} {T : Nat → Nat → Nat} (hz : zKp Z Z') (h : yG Z g n T) : yG Z' g n T := h.of (hz.1 1 (by omega) (by decide)) (hz.1 2 (by omega) (by decide))
theorem zKp.md {g n p r i : Nat} {T : Nat → Nat → Nat} {M : Nat → Nat → Nat → Int} (hz : zKp Z Z') (h : mMd Z i g n T p r M) : mMd Z' i g n T p r M := by
  obtain ⟨h1, h2, h3, h4, h5, h6, h7⟩ := h
  refine ⟨h1, hz.yG h2, h3, ?_, h5, h6, ?_⟩
  · rw [hz.1 8 (by omega) (by decide), hz.1 9 (by omega) (by decide), hz.1 10 (by omega) (by decide)]; exact h4
  · rw [hz.1 11 (by omega) (by decide)]; exact h7
/-- the class changes what X says, the model what is not in zKp -/
theorem LI.gen (h : LI C O S Z gn gT gc ac) (hc : cEx C C') (hs : rSm S S') (hl : lIn C' S') (hX : ∀ a q, C.1 a = some q → ¬ X a → O' a = O a) (hg : ∀ k a, k < gc → oQ S 0 k = some a → X a → gSt (O' a) (gn k) (gT k)) (hsh : ∀ a, C.1 a = some (4, 0) → ¬ X a) (hz : zKp Z Z') (h29 : -2147483648 ≤ zI Z' 29 ∧ zI Z' 29 < 2147483648) (h3 : ∀ k, k < gc → zA Z' 3 k = -4 ∨ ∃ L : Nat, zA Z' 3 k = L ∧ L ≤ 5 ∧ zLst (gn k) (gT k) L) (ha : (∀ k a, k < gc → oQ S 0 k = some a → yGp (O' a) (gn k) (gT k)) → ∀ j, j < ac → aOk C O S Z gn gT gc j → aOk C' O' S' Z' gn gT gc j) : LI C' O' S' Z' gn gT gc ac := by
  obtain ⟨⟨c1, ⟨c2, c3⟩, ⟨c4, c5⟩, c6⟩, ⟨g1, g2, g3⟩, a1, a2, ⟨s1, s2⟩, -⟩ := h
  have G : ∀ k, k < gc → ∃ a, oQ S 0 k = some a ∧ gSt (O' a) (gn k) (gT k) := fun k hk => by
    obtain ⟨⟨a, e1, e2⟩, -⟩ := g3 k hk
    refine ⟨a, e1, ?_⟩
    by_cases c : X a
    · exact hg k a hk e1 c
    · rw [hX a _ (g1 k a (by omega) e1) c]; exact e2
  refine ⟨⟨c1, ⟨by rw [hs.1]; exact c2, by rw [hs.1]; exact c3⟩, ⟨by rw [hz.2.1]; exact c4, by rw [hz.2.2]; exact c5⟩, h29⟩, ⟨?_, ?_, ?_⟩, a1.cx hc hs.2, ?_, ⟨?_, ?_⟩, hl⟩
  · intro k a hk e; rw [hs.2] at e; exact (hc a _ (g1 k a hk e)).1
  · intro k k' a hk hk' e e'; rw [hs.2] at e e'; exact g2 k k' a hk hk' e e'
  · intro k hk
    rw [hs.2]
    exact ⟨G k hk, hz.yG (g3 k hk).2.1, h3 k hk⟩
  · intro j hj
    refine ha (fun k a hk e => ?_) j hj (a2 j hj)
    obtain ⟨a', e1, e2⟩ := G k hk
    have : a' = a := Option.some.inj (e1.symm.trans e)
    rw [← this]; exact e2.1
  · intro k k' a hk hk' e e'; rw [hs.2] at e e'; exact s1 k k' a hk hk' e e'
  · intro k hk
    obtain ⟨a, e1, e2, e3, e4⟩ := s2 k hk
    refine ⟨a, by rw [hs.2]; exact e1, (hc a _ e2).1, ?_⟩
    rw [hX a _ e2 (hsh a e2), hz.1 6 (by omega) (by decide), hz.1 5 (by omega) (by decide), hz.1 4 (by omega) (by decide)]
    exact ⟨e3, e4⟩
end INK
