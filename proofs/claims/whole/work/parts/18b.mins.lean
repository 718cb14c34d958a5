/-! THE MODEL'S LINES: one more row, all brought to steps -/
def mS (Z : zS) (f g h : Int → Int) (c : Int) : zS := (fun l => if l = 28 then c else zI Z l, zJ Z, fun l => if l = 25 then f else if l = 26 then g else if l = 27 then h else zA Z l, zB Z)
section MSL
variable {Z : zS} {f g h : Int → Int} {c : Int}
theorem mS_28 : zI (mS Z f g h c) 28 = c := rfl
theorem mS_24 : zI (mS Z f g h c) 24 = zI Z 24 := rfl
theorem mS_23 : zI (mS Z f g h c) 23 = zI Z 23 := rfl
theorem mS_A25 : zA (mS Z f g h c) 25 = f := rfl
theorem mS_A26 : zA (mS Z f g h c) 26 = g := rfl
theorem mS_A27 : zA (mS Z f g h c) 27 = h := rfl
theorem mS_e : mS Z (zA Z 25) (zA Z 26) (zA Z 27) (zI Z 28) = Z := by
  have e1 : (fun l => if l = 28 then zI Z 28 else zI Z l) = zI Z := by
    funext l; by_cases q : l = 28
    · rw [if_pos q, q]
    · rw [if_neg q]
  have e2 : (fun l => if l = 25 then zA Z 25 else if l = 26 then zA Z 26 else if l = 27 then zA Z 27 else zA Z l) = zA Z := by
    funext l
    by_cases q : l = 25
    · rw [if_pos q, q]
    · rw [if_neg q]
      by_cases q : l = 26
      · rw [if_pos q, q]
      · rw [if_neg q]
        by_cases q : l = 27
        · rw [if_pos q, q]
        · rw [if_neg q]
  show (fun l => if l = 28 then zI Z 28 else zI Z l, zJ Z, fun l => if l = 25 then zA Z 25 else if l = 26 then zA Z 26 else if l = 27 then zA Z 27 else zA Z l, zB Z) = _
  rw [e1, e2]; rfl
theorem mS_u25 (i x : Int) : zuA (mS Z f g h c) 25 i x = mS Z (zup f i x) g h c := by
  have e : (fun l => if l = 25 then zup (zA (mS Z f g h c) 25) i x else zA (mS Z f g h c) l) = fun l => if l = 25 then zup f i x else if l = 26 then g else if l = 27 then h else zA Z l := by
    funext l
    by_cases q : l = 25
    · rw [if_pos q, if_pos q]; rfl
    · rw [if_neg q, if_neg q]; exact if_neg q
  unfold zuA; rw [e]; rfl
theorem mS_u26 (i x : Int) : zuA (mS Z f g h c) 26 i x = mS Z f (zup g i x) h c := by
  have e : (fun l => if l = 26 then zup (zA (mS Z f g h c) 26) i x else zA (mS Z f g h c) l) = fun l => if l = 25 then f else if l = 26 then zup g i x else if l = 27 then h else zA Z l := by
    funext l
    by_cases q : l = 26
    · subst q; rfl
    · rw [if_neg q, if_neg q]
      show (if l = 25 then f else if l = 26 then g else if l = 27 then h else zA Z l) = _
      rw [if_neg q]
  unfold zuA; rw [e]; rfl
theorem mS_u27 (i x : Int) : zuA (mS Z f g h c) 27 i x = mS Z f g (zup h i x) c := by
  have e : (fun l => if l = 27 then zup (zA (mS Z f g h c) 27) i x else zA (mS Z f g h c) l) = fun l => if l = 25 then f else if l = 26 then g else if l = 27 then zup h i x else zA Z l := by
    funext l
    by_cases q : l = 27
    · subst q; rfl
    · rw [if_neg q, if_neg q]
      show (if l = 25 then f else if l = 26 then g else if l = 27 then h else zA Z l) = _
      rw [if_neg q]
  unfold zuA; rw [e]; rfl
theorem mS_ui (x : Int) : zuI (mS Z f g h c) 28 x = mS Z f g h x := by
  have e : (fun l => if l = 28 then x else zI (mS Z f g h c) l) = fun l => if l = 28 then x else zI Z l := by
    funext l
    by_cases q : l = 28
    · rw [if_pos q, if_pos q]
    · rw [if_neg q, if_neg q]; exact if_neg q
  unfold zuI; rw [e]; rfl
theorem mS_w25 (f' : Int → Int) : zwA (mS Z f g h c) 25 f' = mS Z f' g h c := by
  have e : (fun l => if l = 25 then f' else zA (mS Z f g h c) l) = fun l => if l = 25 then f' else if l = 26 then g else if l = 27 then h else zA Z l := by
    funext l
    by_cases q : l = 25
    · rw [if_pos q, if_pos q]
    · rw [if_neg q, if_neg q]; exact if_neg q
  unfold zwA; rw [e]; rfl
end MSL
/-- a row put in its place among rows in order -/
def rIns {α : Type} (m : Nat) (R : Nat → α) (u : α) : Nat → α := fun i => if i < m then R i else if i = m then u else R (i - 1)
theorem fRref_ins {p W : Nat} [NeZero p] (hI : fInv p) {Gn : fV p → Prop} (hG : ∀ g, Gn g → fOk W g) {k : Nat} {R : Nat → fV p} {l : Nat → Nat} (hE : fRref (fSpn W Gn) k R l) {v u w : fV p} (hv : fOk W v) (hu : fSpn W Gn (fun i => u i - v i)) (hz : ∀ s, s < k → u (l s) = 0) {f : Nat} {c : Fin p} (hc : c ≠ 0) (hw : w = fun i => c * u i) (hw1 : w f = 1) (hf0 : ∀ j, j < f → u j = 0) {a : Nat} (ha : a ≤ k) (ha1 : ∀ s, s < a → l s < f) (ha2 : ∀ s, a ≤ s → s < k → f < l s) : fRref (fSpn W (fun g => Gn g ∨ g = v)) (k + 1) (rIns a (fun s => fAx (R s) (- R s f) w) w) (rIns a l f) := by
  have hG' : ∀ g, Gn g ∨ g = v → fOk W g := fun g h => h.elim (hG g) (fun e => e ▸ hv)
  have hS' := fSpn_sub hG'
  have hu' : fSpn W (fun g => Gn g ∨ g = v) u := fSpn_u hG hv hu
  have hw' : fSpn W (fun g => Gn g ∨ g = v) w := by rw [hw]; exact hS'.smul c hu'
  have hwl : ∀ s, s < k → w (l s) = 0 := fun s hs => by rw [hw]; show c * u (l s) = 0; rw [hz s hs]; grind
  have hwf : ∀ j, j < f → w j = 0 := fun j hj => by rw [hw]; show c * u j = 0; rw [hf0 j hj]; grind
  have huf : u f ≠ 0 := fun e => by
    rw [hw] at hw1
    have : c * u f = 1 := hw1
    rw [e] at this
    exact hI.1 (by grind)
  obtain ⟨hE1, hE2, hE3⟩ := hE
  -- what an index of the new rows is
  have cs : ∀ i, i < k + 1 → ((∃ s, s < k ∧ rIns a l f i = l s ∧ rIns a (fun s => fAx (R s) (- R s f) w) w i = fAx (R s) (- R s f) w ∧ ((i < a ∧ s = i) ∨ (a < i ∧ s = i - 1))) ∨ (i = a ∧ rIns a l f i = f ∧ rIns a (fun s => fAx (R s) (- R s f) w) w i = w)) := fun i hi => by
    unfold rIns
    by_cases q : i < a
    · exact Or.inl ⟨i, by omega, if_pos q, if_pos q, Or.inl ⟨q, rfl⟩⟩
    · by_cases q2 : i = a
      · exact Or.inr ⟨q2, by rw [if_neg q, if_pos q2], by rw [if_neg q, if_pos q2]⟩
      · exact Or.inl ⟨i - 1, by omega, by rw [if_neg q, if_neg q2], by rw [if_neg q, if_neg q2], Or.inr ⟨by omega, rfl⟩⟩
  have hfl : ∀ s, s < k → l s ≠ f := fun s hs => by
    rcases Nat.lt_or_ge s a with q | q
    · have := ha1 s q; omega
    · have := ha2 s q hs; omega
  have sorted : ∀ i j, i < j → j < k + 1 → rIns a l f i < rIns a l f j := fun i j hij hj => by
    rcases cs i (by omega) with ⟨s, hs, e1, -, hs2⟩ | ⟨ei, e1, -⟩ <;> rcases cs j hj with ⟨t, ht, e2, -, ht2⟩ | ⟨ej, e2, -⟩
    · rw [e1, e2]; exact hE3 s t (by omega) ht
    · rw [e1, e2]; exact ha1 s (by omega)
    · rw [e1, e2]; exact ha2 t (by omega) ht
    · omega
  have delta : ∀ i j, i < k + 1 → j < k + 1 → rIns a (fun s => fAx (R s) (- R s f) w) w i (rIns a l f j) = if i = j then 1 else 0 := fun i j hi hj => by
    rcases cs i hi with ⟨s, hs, e1, e1', hs2⟩ | ⟨ei, e1, e1'⟩ <;> rcases cs j hj with ⟨t, ht, e2, e2', ht2⟩ | ⟨ej, e2, e2'⟩
    · rw [e1', e2]
      show R s (l t) + - R s f * w (l t) = _
      rw [hwl t ht, hE2 s t hs ht]
      by_cases q : s = t
      · rw [if_pos q, if_pos (by omega)]; grind
      · rw [if_neg q, if_neg (by omega)]; grind
    · rw [e1', e2]
      show R s f + - R s f * w f = _
      rw [hw1, if_neg (by omega)]; grind
    · rw [e1', e2, hwl t ht, if_neg (by omega)]
    · rw [e1', e2, hw1, if_pos (by omega)]
  refine ⟨⟨fun i hi => ⟨?_, by rw [delta i i hi hi, if_pos rfl]; exact hI.1, fun j hj => ?_⟩, fun i j hi hj e => ?_, fun x hx hx0 => ?_⟩, delta, sorted⟩
  · rcases cs i hi with ⟨s, hs, e1, e1', hs2⟩ | ⟨ei, e1, e1'⟩
    · rw [e1']
      exact hS'.2.2 _ _ _ (fSpn_mono hG' (fun g h => fSpn_of (Or.inl h)) (hE1.1 s hs).1) hw'
    · rw [e1']; exact hw'
  · rcases cs i hi with ⟨s, hs, e1, e1', hs2⟩ | ⟨ei, e1, e1'⟩
    · rw [e1] at hj
      rw [e1']
      show R s j + - R s f * w j = 0
      rw [(hE1.1 s hs).2.2 j hj]
      rcases Nat.lt_or_ge f (l s) with q | q
      · rw [(hE1.1 s hs).2.2 f q]; grind
      · have := hfl s hs
        rw [hwf j (by omega)]; grind
    · rw [e1] at hj
      rw [e1']
      exact hwf j hj
  · rcases Nat.lt_trichotomy i j with q | q | q
    · have := sorted i j q hj; omega
    · exact q
    · have := sorted j i q hi; omega
  · have hx1 : ∀ s, s < k → x (l s) = 0 := fun s hs => by
      rcases Nat.lt_or_ge s a with q | q
      · have := hx0 s (by omega)
        unfold rIns at this; rw [if_pos q] at this; exact this
      · have := hx0 (s + 1) (by omega)
        unfold rIns at this; rw [if_neg (by omega), if_neg (by omega)] at this; exact this
    obtain ⟨b, rfl⟩ := fEch_add0 hG hE1 hv hu hz hx hx1
    have h1 : b * u f = 0 := by
      have := hx0 a (by omega)
      unfold rIns at this; rw [if_neg (by omega), if_pos rfl] at this; exact this
    have hb : b = 0 := Classical.byContradiction fun q => fMul hI q huf h1
    funext i
    rw [hb]; show 0 * u i = 0; grind
theorem fRref_Z {p W : Nat} [NeZero p] {Gn : fV p → Prop} (hG : ∀ g, Gn g → fOk W g) {k : Nat} {R : Nat → fV p} {l : Nat → Nat} (hE : fRref (fSpn W Gn) k R l) {v u : fV p} (hv : fOk W v) (hu : fSpn W Gn (fun i => u i - v i)) (hz : ∀ s, s < k → u (l s) = 0) (h0 : u = fZ) : fRref (fSpn W (fun g => Gn g ∨ g = v)) k R l := ⟨fEch_addZ hG hE.1 hv hu hz h0, hE.2⟩
