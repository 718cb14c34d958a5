/-! THE CLASS'S GROUPS: the least row of makers -/
abbrev zRow (m : Nat) (g : Nat → Nat) (s : Nat) : Prop := ∃ i, i < m ∧ s = g i
def zAll (n : Nat) (T : Nat → Nat → Nat) (m : Nat) (g : Nat → Nat) : Prop := ∀ z, z < n → zGen T (zRow m g) z
/-- a rising row of L makers that begins as r does -/
def zExt (n : Nat) (T : Nat → Nat → Nat) (L d : Nat) (r g : Nat → Nat) : Prop := (∀ i, i < d → g i = r i) ∧ (∀ i, i < L → g i < n) ∧ (∀ i, i + 1 < L → g i < g (i + 1)) ∧ (0 < L → 0 < g 0) ∧ zAll n T L g
def zLex (L : Nat) (g g' : Nat → Nat) : Prop := (∀ i, i < L → g i = g' i) ∨ ∃ j, j < L ∧ (∀ i, i < j → g i = g' i) ∧ g j < g' j
section CMK
variable {F a n L : Nat} {T : Nat → Nat → Nat}
/-- an element that the row before it makes is not needed -/
theorem zExt_held (G : zGrp n T) (hmin : ∀ m g, m < L → (∀ i, i < m → g i < n) → ¬ zAll n T m g) {d : Nat} {r g : Nat → Nat} (hd : d < L) (he : zExt n T L d r g) (h : zGen T (zRow d r) (g d)) : False := by
  obtain ⟨e1, e2, e3, e4, e5⟩ := he
  refine hmin (L - 1) (fun i => if i < d then g i else g (i + 1)) (by omega) (fun i hi => ?_) fun z hz => ?_
  · show (if i < d then g i else g (i + 1)) < n
    by_cases q : i < d
    · rw [if_pos q]; exact e2 i (by omega)
    · rw [if_neg q]; exact e2 _ (by omega)
  · have hS : ∀ s, zRow (L - 1) (fun i => if i < d then g i else g (i + 1)) s → s < n := by
      rintro s ⟨i, hi, hs⟩
      have hs : s = (if i < d then g i else g (i + 1)) := hs
      by_cases q : i < d
      · rw [if_pos q] at hs; rw [hs]; exact e2 i (by omega)
      · rw [if_neg q] at hs; rw [hs]; exact e2 _ (by omega)
    refine (e5 z hz).le G hS ?_
    rintro s ⟨i, hi, hs⟩
    rcases Nat.lt_trichotomy i d with q | q | q
    · refine zGen.self G hS ⟨i, by omega, ?_⟩
      show s = (if i < d then g i else g (i + 1))
      rw [if_pos q]; exact hs
    · rw [hs, q]
      refine h.mono ?_
      rintro s ⟨i, hi, hs⟩
      refine ⟨i, by omega, ?_⟩
      show s = (if i < d then g i else g (i + 1))
      rw [if_pos hi, e1 i hi]; exact hs
    · refine zGen.self G hS ⟨i - 1, by omega, ?_⟩
      show s = (if i - 1 < d then g (i - 1) else g (i - 1 + 1))
      rw [if_neg (by omega), show i - 1 + 1 = i by omega]; exact hs
def zPut (r : Nat → Nat) (d y : Nat) (i : Nat) : Nat := if i = d then y else r i
theorem zPut_s {r : Nat → Nat} {d y : Nat} : zPut r d y d = y := if_pos rfl
theorem zPut_n {r : Nat → Nat} {d y i : Nat} (h : i ≠ d) : zPut r d y i = r i := if_neg h
/-- an element that the row with an earlier one makes: then the earlier one would have done -/
theorem zExt_swap (G : zGrp n T) {d x y : Nat} {r g : Nat → Nat} (hd : d < L) (he : zExt n T L (d + 1) (zPut r d x) g) (hyx : y < x) (hy0 : 0 < y) (hyn : y < n) (hyr : 0 < d → r (d - 1) < y) (h : zGen T (zRow (d + 1) (zPut r d y)) x) : zExt n T L (d + 1) (zPut r d y) (zPut g d y) := by
  obtain ⟨e1, e2, e3, e4, e5⟩ := he
  have gd : g d = x := by rw [e1 d (by omega), zPut_s]
  refine ⟨fun i hi => ?_, fun i hi => ?_, fun i hi => ?_, fun h0 => ?_, fun z hz => ?_⟩
  · by_cases q : i = d
    · rw [q, zPut_s, zPut_s]
    · rw [zPut_n q, zPut_n q, e1 i hi, zPut_n q]
  · by_cases q : i = d
    · rw [q, zPut_s]; exact hyn
    · rw [zPut_n q]; exact e2 i hi
  · by_cases q : i = d
    · rw [q, zPut_s, zPut_n (by omega)]
      have := e3 d (by omega)
      omega
    · rw [zPut_n q]
      by_cases q2 : i + 1 = d
      · rw [q2, zPut_s, e1 i (by omega), zPut_n q]
        have := hyr (by omega)
        rw [show d - 1 = i by omega] at this
        exact this
      · rw [zPut_n q2]; exact e3 i hi
  · by_cases q : 0 = d
    · rw [← q, zPut_s]; exact hy0
    · rw [zPut_n q]; exact e4 h0
  · have hS : ∀ s, zRow L (zPut g d y) s → s < n := by
      rintro s ⟨i, hi, hs⟩
      rw [hs]
      by_cases q : i = d
      · rw [q, zPut_s]; exact hyn
      · rw [zPut_n q]; exact e2 i hi
    refine (e5 z hz).le G hS ?_
    rintro s ⟨i, hi, hs⟩
    by_cases q : i = d
    · rw [hs, q, gd]
      refine h.mono ?_
      rintro s ⟨j, hj, hs⟩
      refine ⟨j, by omega, ?_⟩
      rw [hs]
      by_cases q : j = d
      · rw [q, zPut_s, zPut_s]
      · rw [zPut_n q, zPut_n q, e1 j hj, zPut_n q]
    · exact zGen.self G hS ⟨i, hi, by rw [zPut_n q]; exact hs⟩
end CMK
