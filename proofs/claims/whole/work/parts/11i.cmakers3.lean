/-! THE CLASS'S GROUPS: five makers are enough; the least rows of them -/
theorem nEnum (P : Nat → Prop) : ∀ n, ∃ e : Nat → Nat, (∀ j, j < nC P n → e j < n ∧ P (e j)) ∧ (∀ j, j + 1 < nC P n → e j < e (j + 1)) ∧ ∀ z, z < n → P z → ∃ j, j < nC P n ∧ e j = z
  | 0 => ⟨fun _ => 0, fun j hj => by have : nC P 0 = 0 := rfl; omega, fun j hj => by have : nC P 0 = 0 := rfl; omega, fun z hz => by omega⟩
  | n + 1 => by
    obtain ⟨e, e1, e2, e3⟩ := nEnum P n
    by_cases h : P n
    · rw [nC_t h]
      refine ⟨zPut e (nC P n) n, fun j hj => ?_, fun j hj => ?_, fun z hz hp => ?_⟩
      · by_cases q : j = nC P n
        · rw [q, zPut_s]; exact ⟨by omega, h⟩
        · rw [zPut_n q]
          have := e1 j (by omega)
          exact ⟨by omega, this.2⟩
      · rw [zPut_n (by omega)]
        by_cases q : j + 1 = nC P n
        · rw [q, zPut_s]; exact (e1 j (by omega)).1
        · rw [zPut_n q]; exact e2 j (by omega)
      · by_cases q : z = n
        · exact ⟨nC P n, by omega, by rw [zPut_s, q]⟩
        · obtain ⟨j, j1, j2⟩ := e3 z (by omega) hp
          exact ⟨j, by omega, by rw [zPut_n (by omega), j2]⟩
    · rw [nC_f h]
      refine ⟨e, fun j hj => ?_, e2, fun z hz hp => ?_⟩
      · have := e1 j hj
        exact ⟨by omega, this.2⟩
      · have : z ≠ n := fun q => h (q ▸ hp)
        exact e3 z (by omega) hp
section CMK3
variable {F a n L : Nat} {T : Nat → Nat → Nat}
theorem zSbg_gen (G : zGrp n T) {P : Nat → Prop} (hP : ∀ s, P s → s < n) : zSbg n T (zGen T P) := ⟨zGen.zero, fun a h => h.lt G hP, fun a b ha hb => ha.mul G hP hb⟩
theorem zFew (G : zGrp n T) (hn : n ≤ 48) : ∃ m g, m ≤ 5 ∧ (∀ i, i < m → g i < n) ∧ zAll n T m g := by
  apply Classical.byContradiction
  intro no
  have key : ∀ k, k ≤ 6 → ∃ g, (∀ i, i < k → g i < n) ∧ 2 ^ k ≤ nC (zGen T (zRow k g)) n := by
    intro k
    induction k with
    | zero =>
      intro _
      refine ⟨fun _ => 0, fun i hi => by omega, ?_⟩
      rw [nC_drop (j := 0) G.1 zGen.zero]
      omega
    | succ k ih =>
      intro hk
      obtain ⟨g, g1, g2⟩ := ih (by omega)
      have : ¬ zAll n T k g := fun q => no ⟨k, g, by omega, g1, q⟩
      obtain ⟨z, hz⟩ := Classical.not_forall.mp this
      obtain ⟨z1, z2⟩ := Classical.not_imp.mp hz
      have hg' : ∀ i, i < k + 1 → zPut g k z i < n := fun i hi => by
        by_cases q : i = k
        · rw [q, zPut_s]; exact z1
        · rw [zPut_n q]; exact g1 i (by omega)
      have hP : ∀ s, zRow k g s → s < n := fun s ⟨i, hi, e⟩ => e ▸ g1 i hi
      have hP' : ∀ s, zRow (k + 1) (zPut g k z) s → s < n := fun s ⟨i, hi, e⟩ => e ▸ hg' i hi
      have := zTwice G (zSbg_gen G hP) (zSbg_gen G hP') (fun b hb => hb.mono fun s ⟨i, hi, e⟩ => ⟨i, by omega, by rw [zPut_n (by omega)]; exact e⟩) (zGen.self G hP' ⟨k, by omega, by rw [zPut_s]⟩) z2
      refine ⟨_, hg', ?_⟩
      rw [Nat.pow_succ]; omega
  obtain ⟨g, -, g2⟩ := key 6 (Nat.le_refl _)
  have := nC_le (zGen T (zRow 6 g)) n
  omega
/-- out of a shortest row of makers, a rising one -/
theorem zRise (G : zGrp n T) (hmin : ∀ m g, m < L → (∀ i, i < m → g i < n) → ¬ zAll n T m g) {g : Nat → Nat} (hg : ∀ i, i < L → g i < n) (ha : zAll n T L g) (r : Nat → Nat) : ∃ e, zExt n T L 0 r e := by
  obtain ⟨e, e1, e2, e3⟩ := nEnum (fun z => z ≠ 0 ∧ zRow L g z) n
  have le : nC (fun z => z ≠ 0 ∧ zRow L g z) n ≤ L := by
    have := nC_inj (P := fun z => z ≠ 0 ∧ zRow L g z) (Q := fun _ => True) (n := n) (m := L) (fun z => nF (fun i => g i = z) L) (fun z _ hz => by
      obtain ⟨i, i1, i2⟩ := hz.2
      exact ⟨(nF_sp (P := fun i => g i = z) ⟨i, i1, i2.symm⟩).1, trivial⟩) (fun x y _ _ hx hy q => by
      obtain ⟨i, i1, i2⟩ := hx.2
      obtain ⟨j, j1, j2⟩ := hy.2
      have a1 := (nF_sp (P := fun i => g i = x) ⟨i, i1, i2.symm⟩).2.1
      have a2 := (nF_sp (P := fun i => g i = y) ⟨j, j1, j2.symm⟩).2.1
      have q : nF (fun i => g i = x) L = nF (fun i => g i = y) L := q
      rw [← a1, ← a2, q])
    have := nC_le (fun _ => True) L
    omega
  generalize hm : nC (fun z => z ≠ 0 ∧ zRow L g z) n = m at *
  have hS : ∀ s, zRow m e s → s < n := fun s ⟨i, hi, h⟩ => h ▸ (e1 i hi).1
  have all : zAll n T m e := fun z hz => (ha z hz).le G hS fun s hs => by
    by_cases q : s = 0
    · rw [q]; exact zGen.zero
    · have : s < n := by obtain ⟨i, hi, h⟩ := hs; exact h ▸ hg i hi
      obtain ⟨j, j1, j2⟩ := e3 s this ⟨q, hs⟩
      exact zGen.self G hS ⟨j, j1, j2.symm⟩
  have hmL : m = L := by
    rcases Nat.lt_or_ge m L with q | q
    · exact (hmin m e q (fun i hi => (e1 i hi).1) all).elim
    · omega
  rw [hmL] at e1 e2 all
  exact ⟨e, fun i hi => by omega, fun i hi => (e1 i hi).1, e2, fun h0 => by have := (e1 0 h0).2.1; omega, all⟩
/-- the least row of least length of rising makers -/
def zMost (n : Nat) (T : Nat → Nat → Nat) (L : Nat) (g : Nat → Nat) : Prop := L ≤ 5 ∧ (∀ m g, m < L → (∀ i, i < m → g i < n) → ¬ zAll n T m g) ∧ zExt n T L 0 g g ∧ ∀ g', zExt n T L 0 g' g' → zLex L g g'
theorem zExt_0 {r r' g : Nat → Nat} (h : zExt n T L 0 r g) : zExt n T L 0 r' g := ⟨fun i hi => by omega, h.2⟩
end CMK3
