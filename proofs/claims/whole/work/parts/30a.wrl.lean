/-! THE WHOLE WORLD: the root at x, the class's objects C with their numbers O, the model at m with its numbers Z -/
def lyX : oLy := [(7, 1, 8), (5, 2, 6), (9, 3, 4), (0, 0, 0), (0, 0, 0), (4, 0, 0), (4, 0, 0)]
theorem lyX_ok : oLay lyX 4 := oLay_of (by decide +kernel)
def hW (C : yC) (x m : Nat) (w : gW) (O : zO) (S : oSt) (Z : zS) : Prop := oSep C ∧ oRep C O w ∧ oAt 6 lyX w x S ∧ oAt 7 lyZ w m (cvZ Z) ∧ (∀ a q, C.1 a = some q → a + SZ q ≤ w.2 ∧ (a + SZ q ≤ x ∨ x + 4 ≤ a) ∧ (a + SZ q ≤ m ∨ m + 27 ≤ a)) ∧ x + 4 ≤ w.2 ∧ m + 27 ≤ w.2 ∧ (x + 4 ≤ m ∨ m + 27 ≤ x)
/-- numbers of an object given by its cells -/
def unS (S : oSt) : zS := (fun k => (oI S k).toInt, oJ S, fun k i => (oA S k i.toNat).toInt, fun k i => oB S k i.toNat)
section WRL
variable {C : yC} {x m a : Nat} {w w1 : gW} {O O1 : zO} {S S1 : oSt} {Z Z1 : zS} {ci size : Nat} {lay : oLy}
theorem oAt.sm (h : oAt ci lay w a S) (hL : oLay lay size) (hs : 0 < size) (hb : ∀ b, a ≤ b → b < a + size → w1.1 b = w.1 b) : oAt ci lay w1 a S := by
  refine ⟨by rw [hb a (by omega) (by omega)]; exact h.1, fun l e g hl hg => ?_⟩
  have hl2 := oLy_at hl
  have hn : e.1 ≠ 0 ∧ e.1 ≠ 2 ∧ e.1 ≠ 4 := by
    refine ⟨fun q => ?_, fun q => ?_, fun q => ?_⟩ <;> (unfold oE at hg; rw [q] at hg; cases hg)
  have hb2 := hL.2 l hl2.1 (by rw [hl2.2]; exact hn.1) (by rw [hl2.2]; exact hn.2.1) (by rw [hl2.2]; exact hn.2.2)
  rw [hl2.2] at hb2
  rw [hb _ (by omega) (by omega)]
  exact h.2 l e g hl hg
/-- another picture with the same cells -/
theorem oAt.eq (h : oAt ci lay w a S) (h1 : ∀ k e, lay[k]? = some e → oF a S1 k e = oF a S k e) (h2 : ∀ k e, lay[k]? = some e → oE S1 k e = oE S k e) : oAt ci lay w a S1 := by
  refine ⟨by rw [h.1, oFs_eq (fun k e he => (h1 k e he).symm)], fun l e g hl hg => ?_⟩
  rw [h2 l e hl] at hg
  exact h.2 l e g hl hg
theorem hW.y1 (h : hW C x m w O S Z) {X : Option (Int × zO)} {Y : Option (Int32 × gW)} (r : zR (Y1 C w) X Y) {v : Int} (e : X = some (v, O1)) : ∃ w', Y = some (Int32.ofInt v, w') ∧ hW C x m w' O1 S Z := by
  obtain ⟨a1, a2, a3, a4, a5, a6, a7, a8⟩ := h
  obtain ⟨⟨v', w'⟩, e1, e2, e3, e4⟩ := r _ e
  have e2 : v' = Int32.ofInt v := e2
  rw [e2] at e1
  refine ⟨w', e1, a1, e3, a3.sm lyX_ok (by omega) fun b h1 h2 => e4.2 b fun a q hq => ?_, a4.sm lyZ_ok (by omega) fun b h1 h2 => e4.2 b fun a q hq => ?_, fun a q hq => ?_, by rw [e4.1]; exact a6, by rw [e4.1]; exact a7, a8⟩
  · have := a5 a q hq; omega
  · have := a5 a q hq; omega
  · rw [e4.1]; exact a5 a q hq
theorem hW.y0 (h : hW C x m w O S Z) {X : Option zO} {Y : Option gW} (r : zR (Y0 C w) X Y) (e : X = some O1) : ∃ w', Y = some w' ∧ hW C x m w' O1 S Z := by
  obtain ⟨a1, a2, a3, a4, a5, a6, a7, a8⟩ := h
  obtain ⟨w', e1, e3, e4⟩ := r _ e
  refine ⟨w', e1, a1, e3, a3.sm lyX_ok (by omega) fun b h1 h2 => e4.2 b fun a q hq => ?_, a4.sm lyZ_ok (by omega) fun b h1 h2 => e4.2 b fun a q hq => ?_, fun a q hq => ?_, by rw [e4.1]; exact a6, by rw [e4.1]; exact a7, a8⟩
  · have := a5 a q hq; omega
  · have := a5 a q hq; omega
  · rw [e4.1]; exact a5 a q hq
theorem hW.m1 (h : hW C x m w O S Z) {X : Option (Int × zS)} {Y : Option (Int32 × gW)} (r : zR (E1 m w) X Y) {v : Int} (e : X = some (v, Z1)) : ∃ w', Y = some (Int32.ofInt v, w') ∧ hW C x m w' O S Z1 := by
  obtain ⟨a1, a2, a3, a4, a5, a6, a7, a8⟩ := h
  obtain ⟨⟨v', w'⟩, e1, e2, e3, e4⟩ := r _ e
  have e2 : v' = Int32.ofInt v := e2
  rw [e2] at e1
  refine ⟨w', e1, a1, fun a q hq => (a2 a q hq).keep (LY_ok q) e4 (a5 a q hq).2.2 (SZ_pos q), a3.keep lyX_ok e4 (by omega) (by omega), e3, fun a q hq => ?_, by rw [e4.1]; exact a6, by rw [e4.1]; exact a7, a8⟩
  rw [e4.1]; exact a5 a q hq
/-- one object of the class is changed -/
theorem hW.o (h : hW C x m w O S Z) {q : Nat × Nat} (hq : C.1 a = some q) {z : zS} (h1 : oAt q.1 (LY q) w1 a (cvO C (oup O a z) a)) (h2 : wF a (a + SZ q) w w1) : hW C x m w1 (oup O a z) S Z := by
  obtain ⟨a1, a2, a3, a4, a5, a6, a7, a8⟩ := h
  have ha := a5 a q hq
  refine ⟨a1, a2.wr a1 hq h1 h2, a3.keep lyX_ok h2 (by omega) (by omega), a4.keep lyZ_ok h2 (by omega) (by omega), fun b p hb => ?_, by rw [h2.1]; exact a6, by rw [h2.1]; exact a7, a8⟩
  rw [h2.1]; exact a5 b p hb
theorem oA_un (S : oSt) (a k : Nat) : oA (cvO C (oup O a (unS S)) a) k = oA S k := by
  funext j
  show Int32.ofInt (zA (oup O a (unS S) a) k (j : Nat)) = oA S k j
  rw [oup_s]
  show Int32.ofInt ((oA S k ((j : Int)).toNat).toInt) = oA S k j
  rw [Int32.ofInt_toInt, Int.toNat_natCast]
theorem oI_un (S : oSt) (a k : Nat) : oI (cvO C (oup O a (unS S)) a) k = oI S k := by
  show Int32.ofInt (zI (oup O a (unS S) a) k) = oI S k
  rw [oup_s]
  show Int32.ofInt ((oI S k).toInt) = oI S k
  rw [Int32.ofInt_toInt]
/-- a group, or the matching, is changed by its own methods -/
theorem hW.g (h : hW C x m w O S Z) {q : Nat × Nat} (hq : C.1 a = some q) (hk : ∀ (k : Nat) (e : Nat × Nat × Nat), (LY q)[k]? = some e → e.1 = 0 ∨ e.1 = 1) (h1 : oAt q.1 (LY q) w1 a S1) (h2 : wF a (a + SZ q) w w1) : hW C x m w1 (oup O a (unS S1)) S Z := by
  refine h.o hq (h1.eq (fun k e he => ?_) fun k e he => ?_) h2
  · rcases hk k e he with c | c
    · unfold oF; rw [c]
      show Value.int (oI (cvO C (oup O a (unS S1)) a) k) = Value.int (oI S1 k)
      rw [oI_un]
    · unfold oF; rw [c]; rfl
  · rcases hk k e he with c | c
    · unfold oE; rw [c]; try rfl
    unfold oE; rw [c]
    show some (Sum.inl (e.2.2, oA (cvO C (oup O a (unS S1)) a) k)) = some (Sum.inl (e.2.2, oA S1 k))
    rw [oA_un]
theorem lyG_k : ∀ (k : Nat) (e : Nat × Nat × Nat), (LY (2, 0))[k]? = some e → e.1 = 0 ∨ e.1 = 1 := by
  intro k e he
  rcases k with _ | _ | _ | _ | _ | _ | _ | _ | k
  · cases he; exact Or.inr rfl
  · cases he; exact Or.inr rfl
  · cases he; exact Or.inr rfl
  · cases he; exact Or.inr rfl
  · cases he; exact Or.inr rfl
  · cases he; exact Or.inr rfl
  · cases he; exact Or.inl rfl
  · cases he; exact Or.inl rfl
  · cases he
theorem lyM_k : ∀ (k : Nat) (e : Nat × Nat × Nat), (LY (3, 0))[k]? = some e → e.1 = 0 ∨ e.1 = 1 := by
  intro k e he
  rcases k with _ | _ | _ | _ | _ | _ | _ | _ | k
  · cases he; exact Or.inr rfl
  · cases he; exact Or.inr rfl
  · cases he; exact Or.inr rfl
  · cases he; exact Or.inr rfl
  · cases he; exact Or.inr rfl
  · cases he; exact Or.inr rfl
  · cases he; exact Or.inr rfl
  · cases he; exact Or.inl rfl
  · cases he
/-- the root's own slots -/
theorem hW.r (h : hW C x m w O S Z) (h1 : oAt 6 lyX w1 x S1) (h2 : wF x (x + 4) w w1) : hW C x m w1 O S1 Z := by
  obtain ⟨a1, a2, a3, a4, a5, a6, a7, a8⟩ := h
  refine ⟨a1, fun a q hq => (a2 a q hq).keep (LY_ok q) h2 (a5 a q hq).2.1 (SZ_pos q), h1, a4.keep lyZ_ok h2 (by omega) (by omega), fun a q hq => ?_, by rw [h2.1]; exact a6, by rw [h2.1]; exact a7, a8⟩
  rw [h2.1]; exact a5 a q hq
theorem hW.rI (h : hW C x m w O S Z) (k : Nat) (hk : lyX[k]? = some (0, 0, 0)) (v : Int32) : ∃ w', gP 6 k (some x) (.inl v) w = some w' ∧ hW C x m w' O (uI S k v) Z := by
  obtain ⟨w', e1, e2, e3⟩ := h.2.2.1.pI lyX_ok (by omega) k hk v
  exact ⟨w', e1, h.r e2 e3⟩
theorem hW.rP (h : hW C x m w O S Z) (k : Nat) (hk : lyX[k]? = some (4, 0, 0)) (v : Option Nat) : ∃ w', gP 6 k (some x) (.inr (.inr v)) w = some w' ∧ hW C x m w' O (uP S k v) Z := by
  obtain ⟨w', e1, e2, e3⟩ := h.2.2.1.pP lyX_ok (by omega) k hk v
  exact ⟨w', e1, h.r e2 e3⟩
theorem hW.rQ (h : hW C x m w O S Z) (k c off len l : Nat) (hk : lyX[k]? = some (c + 5, off, len)) (hl : len < 2 ^ 31) {j b : Nat} (hj : j < len) (hb : C.1 b = some (c, l)) : ∃ w', gSR c (some (x + off)) (nI j) (some b) w = some w' ∧ hW C x m w' O (uQ S k (va_up (oQ S k) j (some b))) Z := by
  obtain ⟨w', e1, e2, e3⟩ := h.2.2.1.stR lyX_ok k hk hj hl (h.2.1 b _ hb).O
  exact ⟨w', e1, h.r e2 e3⟩
theorem hW.gO6 (h : hW C x m w O S Z) : gO 6 (some x) w = some x := h.2.2.1.O
theorem hW.gO7 (h : hW C x m w O S Z) : gO 7 (some m) w = some m := h.2.2.2.1.O
theorem hW.gO (h : hW C x m w O S Z) {c l : Nat} (ha : C.1 a = some (c, l)) : gO c (some a) w = some a := (h.2.1 a _ ha).O
end WRL
