/-! A ROW FILLED -/
theorem va_up2 {α : Type} (f : Nat → α) (k : Nat) (u v : α) : va_up (va_up f k u) k v = va_up f k v := by
  funext j
  by_cases h : j = k
  · rw [h, va_upS, va_upS]
  · rw [va_upN h, va_upN h, va_upN h]
theorem uA_uA (S : oSt) (k : Nat) (f g : Nat → Int32) : uA (uA S k f) k g = uA S k g := by
  show (oI S, oJ S, va_up (va_up (oA S) k f) k g, _) = (oI S, oJ S, va_up (oA S) k g, _)
  rw [va_up2]; rfl
theorem oA_uN {S : oSt} {k l : Nat} {f : Nat → Int32} (h : l ≠ k) : oA (uA S k f) l = oA S l := va_upN h
section FIL
variable {F ci a size k off len : Nat} {lay : oLy} {S : oSt} {w : gW}
theorem c_fill (hF : fF F) (hL : oLay lay size) (h : oAt ci lay w a S) (k : Nat) (he : lay[k]? = some (1, off, len)) (hl : len < 100000) (x : Int32) : ∃ w1 f, mJ7_fill_53178 F (some (a + off)) x w = some w1 ∧ oAt ci lay w1 a (uA S k f) ∧ (∀ j, j < len → f j = x) ∧ wF a (a + size) w w1 := by
  have key : ∀ (q i : Nat) (w1 : gW) (f : Nat → Int32), i ≤ len → len - i < q → oAt ci lay w1 a (uA S k f) → (∀ j, j < i → f j = x) → wF a (a + size) w w1 → ∃ w2 f, mJ7_fill_53178_l5 F q (some (a + off)) x (nI i) (nI len) w1 = some w2 ∧ oAt ci lay w2 a (uA S k f) ∧ (∀ j, j < len → f j = x) ∧ wF a (a + size) w w2 := by
    intro q
    induction q with
    | zero => intro i w1 f _ z; omega
    | succ q ih =>
      intro i w1 f hi hq h1 hf hw
      show ∃ w2 f, mJ7_fill_53178_h5 F (mJ7_fill_53178_l5 F q) (some (a + off)) x (nI i) (nI len) w1 = _ ∧ _
      unfold mJ7_fill_53178_h5
      by_cases e : i = len
      · rw [e, if_pos (nI_le (Nat.le_refl _) (by omega))]
        rw [e] at hf
        exact ⟨w1, f, rfl, h1, hf, hw⟩
      · have hi : i < len := by omega
        obtain ⟨w2, s1, s2, s3⟩ := h1.st hL k he hi (by omega) x
        rw [if_neg (nI_ge hi (by omega)), s1, Option.bind_some, nI_1]
        rw [uA_uA, oA_uA] at s2
        refine ih (i + 1) w2 _ (by omega) (by omega) s2 (fun j hj => ?_) (hw.tr s3)
        by_cases t : j = i
        · rw [t, pk_us]
        · rw [pk_un t]; exact hf j (by omega)
  unfold mJ7_fill_53178
  rw [h.ln k he, Option.bind_some]
  have e0 : uA S k (oA S k) = S := by
    show (oI S, oJ S, va_up (oA S) k (oA S k), _) = _
    have : va_up (oA S) k (oA S k) = oA S := by
      funext j
      by_cases t : j = k
      · rw [t, va_upS]
      · rw [va_upN t]
    rw [this]; rfl
  exact key F 0 w (oA S k) (by omega) (by unfold fF at hF; omega) (by rw [e0]; exact h) (fun j hj => by omega) wF.rf
end FIL
