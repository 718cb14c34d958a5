/-! THE CLASS'S GROUPS IN THE WORLD -/
/-- a group of the class that is kept: its table, inverses, orders, its makers if they were looked for -/
def gSt (S : zS) (n : Nat) (T : Nat → Nat → Nat) : Prop := yGp S n T ∧ gDn S n T ∧ (zI S 6 = -1 ∨ ∃ (L : Nat) (gg : Nat → Nat), zMost n T L gg ∧ zI S 6 = L ∧ ∀ i : Nat, i < L → zA S 5 i = gg i)
section GRS
variable {F : Nat} {C : yC} {x m a n : Nat} {w w1 : gW} {O : zO} {S S1 : oSt} {Z : zS} {T : Nat → Nat → Nat}
theorem zAt_of (h : hW C x m w O S Z) (ha : C.1 a = some (2, 0)) (hG : yGp (O a) n T) : zAt w a n T (cvO C O a) := by
  obtain ⟨g1, g2, g3, g4⟩ := hG
  refine ⟨h.2.1 a _ ha, g3.1, g2, ?_, fun x y hx hy => g3.2.1 x y hx hy, fun x y hx hy => ?_⟩
  · show Int32.ofInt (zI (O a) 7) = nI n
    rw [g1, iO_nat]
  · show Int32.ofInt (zA (O a) 0 ((x * 48 + y : Nat) : Int)) = nI (T x y)
    rw [show ((x * 48 + y : Nat) : Int) = (x : Int) * 48 + y by omega, g4 x y hx hy, iO_nat]
theorem nI_tI2 {k : Nat} {v : Int32} (h : v = nI k) (hk : k < 2147483648) : v.toInt = k := by rw [h, nI_tI hk]
theorem yGp_un (h : zAt w a n T S1) (G : zGrp n T) : yGp (unS S1) n T := by
  obtain ⟨a1, a2, a3, a4, a5, a6⟩ := h
  refine ⟨nI_tI2 a4 (by omega), a3, G, fun x y hx hy => ?_⟩
  show (oA S1 0 ((x : Int) * 48 + y).toNat).toInt = _
  have := a5 x y hx hy
  rw [show ((x : Int) * 48 + y).toNat = x * 48 + y by omega]
  exact nI_tI2 (a6 x y hx hy) (by omega)
theorem gDn_un (h : zDone n T S1) (G : zGrp n T) (hn : n ≤ 48) : gDn (unS S1) n T := by
  intro x hx
  obtain ⟨h1, h2⟩ := h x hx
  have i1 := (zInv_sp G hx).1
  have i2 := (zOr_sp G hx).1
  refine ⟨?_, ?_⟩
  · show (oA S1 3 ((x : Nat) : Int).toNat).toInt = _
    rw [Int.toNat_natCast]; exact nI_tI2 h1 (by omega)
  · show (oA S1 4 ((x : Nat) : Int).toNat).toInt = _
    rw [Int.toNat_natCast]; exact nI_tI2 h2 (by omega)
theorem zDone_of (h : gDn (O a) n T) : zDone n T (cvO C O a) := by
  intro x hx
  obtain ⟨h1, h2⟩ := h x hx
  refine ⟨?_, ?_⟩
  · show Int32.ofInt (zA (O a) 3 (x : Nat)) = _
    rw [h1, iO_nat]
  · show Int32.ofInt (zA (O a) 4 (x : Nat)) = _
    rw [h2, iO_nat]
theorem un_I (k : Nat) : zI (unS S1) k = (oI S1 k).toInt := rfl
theorem un_A (k i : Nat) : zA (unS S1) k i = (oA S1 k i).toInt := by
  show (oA S1 k ((i : Nat) : Int).toNat).toInt = _
  rw [Int.toNat_natCast]
/-- the makers are looked for -/
theorem hW.mk (hF : fF F) (h : hW C x m w O S Z) (ha : C.1 a = some (2, 0)) (hG : gSt (O a) n T) : ∃ (w' : gW) (O' : zO) (L : Nat) (gg : Nat → Nat), mX2_findMakers F a w = some (nI L, w') ∧ hW C x m w' O' S Z ∧ (∀ b, b ≠ a → O' b = O b) ∧ gSt (O' a) n T ∧ zMost n T L gg ∧ zI (O' a) 6 = L ∧ ∀ i : Nat, i < L → zA (O' a) 5 i = gg i := by
  have hz := zAt_of h ha hG.1
  have G := hG.1.2.2.1
  have hn := hG.1.2.1
  rcases hG.2.2 with h6 | ⟨L, gg, h1, h2, h3⟩
  · obtain ⟨L, gg, w1, S1, e1, e2, e3, e4, e5, e6, e7, e8⟩ := c_findMakers hF G hz (by show Int32.ofInt (zI (O a) 6) = -1; rw [h6]; rfl)
    have hL := e2.1
    have hgg : ∀ i, i < L → gg i < n := e2.2.2.1.2.1
    have i6 : zI (unS S1) 6 = L := by rw [un_I, e7, nI_tI (by omega)]
    have i5 : ∀ i : Nat, i < L → zA (unS S1) 5 i = gg i := fun i hi => by
      rw [un_A, e8 i hi, nI_tI (by have := hgg i hi; omega)]
    have dn : gDn (unS S1) n T := by
      refine gDn_un (fun x hx => ?_) G hn
      obtain ⟨d1, d2⟩ := zDone_of (C := C) hG.2.1 x hx
      rw [e5 3 (by decide), e5 4 (by decide)]
      exact ⟨d1, d2⟩
    refine ⟨w1, oup O a (unS S1), L, gg, e1, h.g ha lyG_k e3.1 e4, fun b hb => oup_n hb, ?_, e2, by rw [oup_s]; exact i6, fun i hi => by rw [oup_s]; exact i5 i hi⟩
    rw [oup_s]
    exact ⟨yGp_un e3 G, dn, Or.inr ⟨L, gg, e2, i6, i5⟩⟩
  · have hL := h1.1
    have r6 : gFI 2 6 (some a) w = some (nI L) := by
      have := hz.1.rI 6 rfl
      rw [this]
      show some (Int32.ofInt (zI (O a) 6)) = _
      rw [h2, iO_nat]
    refine ⟨w, O, L, gg, ?_, h, fun _ _ => rfl, hG, h1, h2, h3⟩
    unfold mX2_findMakers
    obtain ⟨k, hk⟩ : ∃ k, F = k + 1 := ⟨F - 1, by unfold fF at hF; omega⟩
    have hs : ∀ F', mX2_findMakers_l2 F' (fun v0 w => mX2_findMakers_b35 F' v0 w) F a 0 w = some (nI L, w) := fun F' => by
      rw [hk]
      show mX2_findMakers_h2 F' (mX2_findMakers_l2 F' (fun v0 w => mX2_findMakers_b35 F' v0 w) k) (fun v0 w => mX2_findMakers_b35 F' v0 w) a 0 w = _
      unfold mX2_findMakers_h2 mX2_findMakers_b35
      rw [if_neg (show ¬ (5 : Int32) < 0 by decide), r6, Option.bind_some, if_pos (nI_pos' (by omega))]
      try dsimp only
      rw [r6, Option.bind_some]
    exact hs F
end GRS
