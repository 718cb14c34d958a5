/-! NEW OBJECTS: an object at a, its rows laid down one behind another -/
def bld (w0 w : gW) (a ci : Nat) (fs : List Value) (rows : List gE) : Prop := w.2 = a + 1 + rows.length ∧ w.1 a = some (.inr (.inr (.inr (ci, fs)))) ∧ (∀ (i : Nat) (e : gE), rows[i]? = some e → w.1 (a + 1 + i) = some e) ∧ (∀ b, b < a → w.1 b = w0.1 b) ∧ w0.2 = a
section BLD
variable {w0 w : gW} {a ci : Nat} {fs : List Value} {rows : List gE}
theorem bld_0 (w : gW) (ci : Nat) (fs : List Value) : bld w (gNO ci fs w) w.2 ci fs [] := by
  refine ⟨rfl, ?_, fun i e h => (by cases h), fun b hb => ?_, rfl⟩
  · show (if w.2 = w.2 then _ else w.1 w.2) = _
    rw [if_pos rfl]
  · show (if b = w.2 then _ else w.1 b) = _
    rw [if_neg (by omega)]
theorem bld.add (h : bld w0 w a ci fs rows) (e : gE) : bld w0 (gAdd w e) a ci fs (rows ++ [e]) := by
  obtain ⟨h1, h2, h3, h4, h5⟩ := h
  have ad : ∀ b, (gAdd w e).1 b = if b = w.2 then some e else w.1 b := fun b => rfl
  refine ⟨?_, ?_, fun i e' hi => ?_, fun b hb => ?_, h5⟩
  · show w.2 + 1 = _
    rw [h1, List.length_append, List.length_singleton]; omega
  · rw [ad, if_neg (by omega)]; exact h2
  · by_cases c : i < rows.length
    · rw [List.getElem?_append_left c] at hi
      rw [ad, if_neg (by omega)]; exact h3 i e' hi
    · have hl := (List.getElem?_eq_some_iff.mp hi).1
      rw [List.length_append, List.length_singleton] at hl
      have : i = rows.length := by omega
      rw [this, List.getElem?_append_right (Nat.le_refl _), Nat.sub_self] at hi
      rw [ad, if_pos (by omega)]; exact hi
  · rw [ad, if_neg (by omega)]; exact h4 b hb
theorem bld.N (h : bld w0 w a ci fs rows) (lim n : Nat) (hn : n ≤ lim) (hl : n < 2147483648) : gNI lim (nI n) w = some (gAdd w (.inl (n, fun _ => 0))) ∧ bld w0 (gAdd w (.inl (n, fun _ => 0))) a ci fs (rows ++ [.inl (n, fun _ => 0)]) := by
  refine ⟨?_, h.add _⟩
  unfold gNI
  rw [nI_clamp (by omega), if_neg]
  rintro (q | q)
  · exact nI_pos (by omega) q
  · omega
theorem bld.L (h : bld w0 w a ci fs rows) (lim n : Nat) (hn : n ≤ lim) (hl : n < 2147483648) : gNL lim (nI n) w = some (gAdd w (.inr (.inl (n, fun _ => 0)))) ∧ bld w0 (gAdd w (.inr (.inl (n, fun _ => 0)))) a ci fs (rows ++ [.inr (.inl (n, fun _ => 0))]) := by
  refine ⟨?_, h.add _⟩
  unfold gNL
  rw [nI_clamp (by omega), if_neg]
  rintro (q | q)
  · exact nI_pos (by omega) q
  · omega
theorem bld.Q (h : bld w0 w a ci fs rows) (c lim n : Nat) (hn : n ≤ lim) (hl : n < 2147483648) : gNR c lim (nI n) w = some (gAdd w (.inr (.inr (.inl (c, n, fun _ => none))))) ∧ bld w0 (gAdd w (.inr (.inr (.inl (c, n, fun _ => none))))) a ci fs (rows ++ [.inr (.inr (.inl (c, n, fun _ => none)))]) := by
  refine ⟨?_, h.add _⟩
  unfold gNR
  rw [nI_clamp (by omega), if_neg]
  rintro (q | q)
  · exact nI_pos (by omega) q
  · omega
theorem bld.P (h : bld w0 w a ci fs rows) (k : Nat) (hk : k < fs.length) (v : gV) : ∃ w2, gP ci k (some a) v w = some w2 ∧ w2.2 = w.2 ∧ bld w0 w2 a ci (fs.set k (gTo v)) rows := by
  obtain ⟨h1, h2, h3, h4, h5⟩ := h
  have up : ∀ b, (gUp w a (.inr (.inr (.inr (ci, fs.set k (gTo v)))))).1 b = if b = a then some (.inr (.inr (.inr (ci, fs.set k (gTo v))))) else w.1 b := fun b => rfl
  refine ⟨gUp w a (.inr (.inr (.inr (ci, fs.set k (gTo v))))), ?_, rfl, h1, by rw [up, if_pos rfl], fun i e hi => ?_, fun b hb => ?_, h5⟩
  · show (match w.1 a with
      | some (.inr (.inr (.inr (c, fs)))) => bif c == ci && Nat.blt k fs.length then some (gUp w a (.inr (.inr (.inr (ci, fs.set k (gTo v)))))) else none
      | _ => none) = _
    rw [h2]
    have : Nat.blt k fs.length = true := Nat.ble_eq.mpr hk
    show (bif ci == ci && Nat.blt k fs.length then some (gUp w a (.inr (.inr (.inr (ci, fs.set k (gTo v)))))) else none) = _
    rw [this]
    simp
  · rw [up, if_neg (by omega)]; exact h3 i e hi
  · rw [up, if_neg (by omega)]; exact h4 b hb
theorem bld.S (h : bld w0 w a ci fs rows) {i n j : Nat} {f : Nat → Int32} (hi : rows[i]? = some (.inl (n, f))) (hj : j < n) (hn : n < 2147483648) (v : Int32) : ∃ w2, gSI (some (a + 1 + i)) (nI j) v w = some w2 ∧ w2.2 = w.2 ∧ bld w0 w2 a ci fs (rows.set i (.inl (n, upd f j v))) := by
  obtain ⟨h1, h2, h3, h4, h5⟩ := h
  have hl := (List.getElem?_eq_some_iff.mp hi).1
  have up : ∀ b, (gUp w (a + 1 + i) (.inl (n, upd f j v))).1 b = if b = a + 1 + i then some (.inl (n, upd f j v)) else w.1 b := fun b => rfl
  refine ⟨gUp w (a + 1 + i) (.inl (n, upd f j v)), ?_, rfl, ?_, by rw [up, if_neg (by omega)]; exact h2, fun l e hl2 => ?_, fun b hb => ?_, h5⟩
  · show (match w.1 (a + 1 + i) with
      | some (.inl (n, f)) => if nI j < 0 ∨ n ≤ (nI j).toNatClampNeg then none else some (gUp w (a + 1 + i) (.inl (n, upd f (nI j).toNatClampNeg v)))
      | _ => none) = _
    rw [h3 i _ hi]
    show (if nI j < 0 ∨ n ≤ (nI j).toNatClampNeg then none else some (gUp w (a + 1 + i) (.inl (n, upd f (nI j).toNatClampNeg v)))) = _
    rw [if_neg (nI_bad hj (by omega)), nI_clamp (by omega)]
  · rw [List.length_set]; exact h1
  · by_cases c : l = i
    · rw [c, List.getElem?_set_self hl] at hl2
      rw [up, if_pos (by omega)]; exact hl2
    · rw [List.getElem?_set_ne (Ne.symm c)] at hl2
      rw [up, if_neg (by omega)]; exact h3 l e hl2
  · rw [up, if_neg (by omega)]; exact h4 b hb
theorem bld.at (h : bld w0 w a ci fs rows) {lay : oLy} {S : oSt} (hf : fs = oFs a S 0 lay) (hr : ∀ (k : Nat) (e : Nat × Nat × Nat) (g : gE), lay[k]? = some e → oE S k e = some g → ∃ i, e.2.1 = i + 1 ∧ rows[i]? = some g) : oAt ci lay w a S := by
  obtain ⟨h1, h2, h3, h4, h5⟩ := h
  refine ⟨by rw [h2, hf], fun k e g hk hg => ?_⟩
  obtain ⟨i, e1, e2⟩ := hr k e g hk hg
  rw [e1, show a + (i + 1) = a + 1 + i by omega]
  exact h3 i g e2
end BLD
def zZ : zS := (fun _ => 0, fun _ => 0, fun _ _ => 0, fun _ _ => 0)
/-- the class with one object more -/
def cNew (C : yC) (a : Nat) (q : Nat × Nat) : yC := (fun b => if b = a then some q else C.1 b, fun b k => if b = a then none else C.2 b k)
section BLW
variable {C : yC} {x m : Nat} {w w1 : gW} {O : zO} {S : oSt} {Z : zS} {q : Nat × Nat}
theorem cNew_s {a : Nat} : (cNew C a q).1 a = some q := if_pos rfl
theorem cNew_n {a b : Nat} (h : b ≠ a) : (cNew C a q).1 b = C.1 b := if_neg h
theorem cNew_r {a b : Nat} (h : b ≠ a) (k : Nat) : (cNew C a q).2 b k = C.2 b k := if_neg h
theorem cNew_0 {a k : Nat} : (cNew C a q).2 a k = none := if_pos rfl
theorem hW.fresh (h : hW C x m w O S Z) {b : Nat} {p : Nat × Nat} (hb : C.1 b = some p) : b ≠ w.2 := by
  have := (h.2.2.2.2.1 b p hb).1
  have := SZ_pos p
  omega
theorem hW.new (h : hW C x m w O S Z) (hq : q.2 ≤ 98) (h2 : w1.2 = w.2 + SZ q) (h1 : ∀ b, b < w.2 → w1.1 b = w.1 b) {z : zS} (ha : oAt q.1 (LY q) w1 w.2 (cvO (cNew C w.2 q) (oup O w.2 z) w.2)) : hW (cNew C w.2 q) x m w1 (oup O w.2 z) S Z := by
  have fr := fun b p (hb : C.1 b = some p) => h.fresh hb
  obtain ⟨a1, a2, a3, a4, a5, a6, a7, a8⟩ := h
  have sp := SZ_pos q
  refine ⟨⟨fun b p hb => ?_, fun b b' p p' hb hb' hne => ?_⟩, fun b p hb => ?_, a3.sm lyX_ok (by omega) fun b t1 t2 => h1 b (by omega), a4.sm lyZ_ok (by omega) fun b t1 t2 => h1 b (by omega), fun b p hb => ?_, by omega, by omega, a8⟩
  · by_cases c : b = w.2
    · rw [c, cNew_s] at hb; cases hb; exact hq
    · rw [cNew_n c] at hb; exact a1.1 b p hb
  · by_cases c : b = w.2
    · by_cases c' : b' = w.2
      · omega
      · rw [cNew_n c'] at hb'
        rw [c, cNew_s] at hb
        have := (a5 b' p' hb').1
        omega
    · rw [cNew_n c] at hb
      by_cases c' : b' = w.2
      · have := (a5 b p hb).1
        omega
      · rw [cNew_n c'] at hb'
        exact a1.2 b b' p p' hb hb' hne
  · by_cases c : b = w.2
    · subst c
      rw [cNew_s] at hb
      cases hb
      exact ha
    · rw [cNew_n c] at hb
      have e : cvO (cNew C w.2 q) (oup O w.2 z) b = cvO C O b := by
        unfold cvO
        rw [oup_n c]
        have : (cNew C w.2 q).2 b = C.2 b := by funext k; exact cNew_r c k
        rw [this]
      rw [e]
      exact (a2 b p hb).sm (LY_ok p) (SZ_pos p) fun b' t1 t2 => h1 b' (by have := (a5 b p hb).1; omega)
  · by_cases c : b = w.2
    · rw [c, cNew_s] at hb
      cases hb
      omega
    · rw [cNew_n c] at hb
      have := a5 b p hb
      omega
/-- a reference of an object is set -/
def cRef (C : yC) (a k : Nat) (v : Option Nat) : yC := (C.1, fun b l => if b = a ∧ l = k then v else C.2 b l)
theorem hW.ref (h : hW C x m w O S Z) {a k : Nat} (hq : C.1 a = some q) (hk : (LY q)[k]? = some (4, 0, 0)) (v : Option Nat) : ∃ w', gP q.1 k (some a) (.inr (.inr v)) w = some w' ∧ w'.2 = w.2 ∧ hW (cRef C a k v) x m w' O S Z := by
  obtain ⟨a1, a2, a3, a4, a5, a6, a7, a8⟩ := h
  obtain ⟨w', e1, e2, e3⟩ := (a2 a q hq).pP (LY_ok q) (SZ_pos q) k hk v
  have ha := a5 a q hq
  refine ⟨w', e1, e3.1, a1, fun b p hb => ?_, a3.keep lyX_ok e3 (by omega) (by omega), a4.keep lyZ_ok e3 (by omega) (by omega), fun b p hb => by rw [e3.1]; exact a5 b p hb, by rw [e3.1]; exact a6, by rw [e3.1]; exact a7, a8⟩
  by_cases c : b = a
  · subst c
    have : p = q := Option.some.inj (Eq.trans hb.symm hq)
    subst this
    have e : cvO (cRef C b k v) O b = uP (cvO C O b) k v := by
      have : (cRef C b k v).2 b = va_up (C.2 b) k v := by
        funext l
        show (if b = b ∧ l = k then v else C.2 b l) = _
        by_cases c : l = k
        · rw [if_pos ⟨rfl, c⟩, c, va_upS]
        · rw [if_neg fun t => c t.2, va_upN c]
      unfold cvO
      rw [this]; rfl
    rw [e]; exact e2
  · have e : cvO (cRef C a k v) O b = cvO C O b := by
      have : (cRef C a k v).2 b = C.2 b := by
        funext l
        exact if_neg fun t => c t.1
      unfold cvO
      rw [this]
    rw [e]
    exact (a2 b p hb).keep (LY_ok p) e3 (a1.2 b a p q hb hq c) (SZ_pos p)
end BLW
