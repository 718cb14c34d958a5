/-! WHAT HOLDS BETWEEN TWO CALLS: the class and the model say the same -/
/-- the groups -/
def gIn (C : yC) (O : zO) (S : oSt) (Z : zS) (gn : Nat → Nat) (gT : Nat → Nat → Nat → Nat) (gc : Nat) : Prop := (∀ k a, k < 8 → oQ S 0 k = some a → C.1 a = some (2, 0)) ∧ (∀ k k' a, k < 8 → k' < 8 → oQ S 0 k = some a → oQ S 0 k' = some a → k = k') ∧ ∀ k, k < gc → (∃ a, oQ S 0 k = some a ∧ gSt (O a) (gn k) (gT k)) ∧ yG Z k (gn k) (gT k) ∧ (zA Z 3 k = -4 ∨ ∃ L : Nat, zA Z 3 k = L ∧ L ≤ 5 ∧ zLst (gn k) (gT k) L)
/-- a module -/
def aOk (C : yC) (O : zO) (S : oSt) (Z : zS) (gn : Nat → Nat) (gT : Nat → Nat → Nat → Nat) (gc j : Nat) : Prop := ∃ (A g t b s p r gi : Nat) (M : Nat → Nat → Nat → Int) (_ : NeZero p), fInv p ∧ oQ S 1 j = some A ∧ gi < gc ∧ oQ S 0 gi = some g ∧ yAct C O A g t (gn gi) (gT gi) p r M ∧ yKd C A t b s ∧ zI (O A) 5 = (p ^ r : Nat) ∧ ySf p O A t b s (gn gi) r (gT gi) M ∧ mOk p Z j gi (gn gi) (gT gi) r M
/-- what an action's slot refers to -/
def aSl (C : yC) (a t b s : Nat) : Prop := C.1 a = some (0, 0) ∧ C.2 a 1 = some t ∧ C.1 t = some (5, 0) ∧ yKd C a t b s
def aIn (C : yC) (S : oSt) : Prop := (∀ k a, k < 6 → oQ S 1 k = some a → ∃ t b s, aSl C a t b s) ∧ ∀ k k' a a' t b s t' b' s', k < 6 → k' < 6 → k ≠ k' → oQ S 1 k = some a → oQ S 1 k' = some a' → aSl C a t b s → aSl C a' t' b' s' → a ≠ a' ∧ t ≠ t' ∧ b ≠ b' ∧ s ≠ s'
/-- the sheets -/
def sOk (C : yC) (O : zO) (S : oSt) (Z : zS) (k : Nat) : Prop := ∃ a, oQ S 2 k = some a ∧ C.1 a = some (4, 0) ∧ (∀ i : Nat, i < 144 → zA (O a) 0 i = zA Z 6 (144 * (k : Int) + i) ∧ -2147483648 ≤ zA (O a) 0 i ∧ zA (O a) 0 i < 2147483648) ∧ zI (O a) 2 = zA Z 5 k ∧ (0 ≤ zI (O a) 2 ∧ zI (O a) 2 ≤ 144) ∧ ((zI (O a) 1 = -1 ∧ zA Z 4 k = -4) ∨ ((0 ≤ zI (O a) 1 ∧ zI (O a) 1 ≤ 1) ∧ zA Z 4 k = zI (O a) 1))
def sIn (C : yC) (O : zO) (S : oSt) (Z : zS) : Prop := (∀ k k' a, k < 4 → k' < 4 → oQ S 2 k = some a → oQ S 2 k' = some a → k = k') ∧ ∀ k, k < 4 → sOk C O S Z k
def lIn (C : yC) (S : oSt) : Prop := (∀ e, oP S 5 = some e → C.1 e = some (3, 0)) ∧ ∀ e, oP S 6 = some e → C.1 e = some (1, 98)
def cIn (S : oSt) (Z : zS) (gc ac : Nat) : Prop := (gc ≤ 8 ∧ ac ≤ 6) ∧ (oI S 3 = nI gc ∧ oI S 4 = nI ac) ∧ (zI Z 0 = gc ∧ zI Z 7 = ac) ∧ (-2147483648 ≤ zI Z 29 ∧ zI Z 29 < 2147483648)
def LI (C : yC) (O : zO) (S : oSt) (Z : zS) (gn : Nat → Nat) (gT : Nat → Nat → Nat → Nat) (gc ac : Nat) : Prop := cIn S Z gc ac ∧ gIn C O S Z gn gT gc ∧ aIn C S ∧ (∀ j, j < ac → aOk C O S Z gn gT gc j) ∧ sIn C O S Z ∧ lIn C S
/-- the world between two calls -/
def WI (x m : Nat) (w : gW) : Prop := ∃ (C : yC) (O : zO) (S : oSt) (Z : zS) (gn : Nat → Nat) (gT : Nat → Nat → Nat → Nat) (gc ac : Nat), hW C x m w O S Z ∧ LI C O S Z gn gT gc ac
/-- a call goes well: both answer the same -/
def aOK (x m : Nat) (w : gW) (f g : gW → Option (Int32 × gW)) : Prop := ∃ v w1 w2, f w = some (v, w1) ∧ g w1 = some (v, w2) ∧ gO 7 (some m) w1 = some m ∧ WI x m w2
section INV
variable {F x m gc ac : Nat} {C C' : yC} {w : gW} {O O' : zO} {S S' : oSt} {Z Z' : zS} {gn gn' : Nat → Nat} {gT gT' : Nat → Nat → Nat → Nat}
theorem LI.gs (h : LI C O S Z gn gT gc ac) : mGs Z := by
  obtain ⟨⟨⟨h1, h2⟩, -, ⟨h3, h4⟩, -⟩, ⟨-, -, h5⟩, -⟩ := h
  refine ⟨by omega, fun a a0 a1 => ?_⟩
  obtain ⟨-, y, -⟩ := h5 a.toNat (by omega)
  have e : ((a.toNat : Nat) : Int) = a := by omega
  have y1 := y.2.1
  have yb := y.b
  rw [e] at y1
  omega
theorem hW.xI (h : hW C x m w O S Z) (k : Nat) (hk : lyX[k]? = some (0, 0, 0)) : gFI 6 k (some x) w = some (oI S k) := h.2.2.1.rI k hk
theorem w_groupAt (h : hW C x m w O S Z) (hc : oI S 3 = nI gc) (hgc : gc ≤ 8) {v : Int} (hv : -2147483648 ≤ v ∧ v < 2147483648) : mX6_groupAt F x (Int32.ofInt v) w = some (if 0 ≤ v ∧ v < gc then oQ S 0 v.toNat else none, w) := by
  unfold mX6_groupAt mX6_groupAt_b21
  have e0 : (0 : Int32) = Int32.ofInt 0 := rfl
  by_cases c1 : v < 0
  · rw [e0, if_pos ((iO_lt (by omega)).mpr c1), if_neg (by omega)]
  · rw [e0, if_neg (fun u => c1 ((iO_lt (by omega)).mp u)), h.xI 3 rfl, Option.bind_some, hc, ← iO_nat]
    by_cases c2 : (gc : Int) ≤ v
    · rw [if_pos ((iO_le (by omega)).mpr c2), if_neg (by omega)]
    · obtain ⟨k, rfl⟩ : ∃ k : Nat, v = k := ⟨v.toNat, by omega⟩
      have r0 : gFR 6 0 (some x) w = some (some (x + 1)) := h.2.2.1.rQ 0 (c := 2) rfl
      have l0 : gLR 2 (some (x + 1)) (nI k) w = some (oQ S 0 k) := h.2.2.1.ldR 0 (c := 2) (len := 8) rfl (by omega) (by decide)
      rw [if_neg (fun u => c2 ((iO_le (by omega)).mp u)), r0, Option.bind_some, iO_nat, l0, Option.bind_some, if_pos (by omega), Int.toNat_natCast]
theorem w_actionAt (h : hW C x m w O S Z) (hc : oI S 4 = nI ac) (hac : ac ≤ 6) {v : Int} (hv : -2147483648 ≤ v ∧ v < 2147483648) : mX6_actionAt F x (Int32.ofInt v) w = some (if 0 ≤ v ∧ v < ac then oQ S 1 v.toNat else none, w) := by
  unfold mX6_actionAt mX6_actionAt_b21
  have e0 : (0 : Int32) = Int32.ofInt 0 := rfl
  by_cases c1 : v < 0
  · rw [e0, if_pos ((iO_lt (by omega)).mpr c1), if_neg (by omega)]
  · rw [e0, if_neg (fun u => c1 ((iO_lt (by omega)).mp u)), h.xI 4 rfl, Option.bind_some, hc, ← iO_nat]
    by_cases c2 : (ac : Int) ≤ v
    · rw [if_pos ((iO_le (by omega)).mpr c2), if_neg (by omega)]
    · obtain ⟨k, rfl⟩ : ∃ k : Nat, v = k := ⟨v.toNat, by omega⟩
      have r0 : gFR 6 1 (some x) w = some (some (x + 2)) := h.2.2.1.rQ 1 (c := 0) rfl
      have l0 : gLR 0 (some (x + 2)) (nI k) w = some (oQ S 1 k) := h.2.2.1.ldR 1 (c := 0) (len := 6) rfl (by omega) (by decide)
      rw [if_neg (fun u => c2 ((iO_le (by omega)).mp u)), r0, Option.bind_some, iO_nat, l0, Option.bind_some, if_pos (by omega), Int.toNat_natCast]
theorem w_sheetAt (h : hW C x m w O S Z) {v : Int} (hv : -2147483648 ≤ v ∧ v < 2147483648) : mX6_sheetAt F x (Int32.ofInt v) w = some (if 0 ≤ v ∧ v < 4 then oQ S 2 v.toNat else none, w) := by
  unfold mX6_sheetAt mX6_sheetAt_b18
  have e0 : (0 : Int32) = Int32.ofInt 0 := rfl
  have e4 : (4 : Int32) = Int32.ofInt 4 := rfl
  by_cases c1 : v < 0
  · rw [e0, if_pos ((iO_lt (by omega)).mpr c1), if_neg (by omega)]
  · rw [e0, if_neg (fun u => c1 ((iO_lt (by omega)).mp u)), e4]
    by_cases c2 : 4 ≤ v
    · rw [if_pos ((iO_le (by omega)).mpr c2), if_neg (by omega)]
    · obtain ⟨k, rfl⟩ : ∃ k : Nat, v = k := ⟨v.toNat, by omega⟩
      have r0 : gFR 6 2 (some x) w = some (some (x + 3)) := h.2.2.1.rQ 2 (c := 4) rfl
      have l0 : gLR 4 (some (x + 3)) (nI k) w = some (oQ S 2 k) := h.2.2.1.ldR 2 (c := 4) (len := 4) rfl (by omega) (by decide)
      rw [if_neg (fun u => c2 ((iO_le (by omega)).mp u)), r0, Option.bind_some, iO_nat, l0, Option.bind_some, if_pos (by omega), Int.toNat_natCast]
end INV
