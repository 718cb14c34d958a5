/-! HOW MANY PARTS OF A GROUP: rows of makers of which each is new; few great parts -/
def zChn (T : Nat → Nat → Nat) (k : Nat) (g : Nat → Nat) : Prop := ∀ i, i < k → ¬ zGen T (zRow i g) (g i)
noncomputable def pcd (P : Nat → Prop) : Nat → Nat
  | 0 => 0
  | k + 1 => 2 * pcd P k + @ite Nat (P k) (Classical.propDecidable _) 1 0
theorem pcd_lt (P : Nat → Prop) (k : Nat) : pcd P k < 2 ^ k := by
  induction k with
  | zero => exact Nat.one_pos
  | succ k ih =>
    show 2 * pcd P k + _ < _
    rw [Nat.pow_succ]
    by_cases h : P k
    · rw [if_pos h]; omega
    · rw [if_neg h]; omega
theorem pcd_inj {P Q : Nat → Prop} : ∀ {k : Nat}, pcd P k = pcd Q k → ∀ i, i < k → (P i ↔ Q i)
  | 0, _, i, hi => by omega
  | k + 1, h, i, hi => by
    have h : 2 * pcd P k + @ite Nat (P k) (Classical.propDecidable _) 1 0 = 2 * pcd Q k + @ite Nat (Q k) (Classical.propDecidable _) 1 0 := h
    have e : pcd P k = pcd Q k ∧ (P k ↔ Q k) := by
      by_cases p : P k
      · by_cases q : Q k
        · rw [if_pos p, if_pos q] at h; exact ⟨by omega, fun _ => q, fun _ => p⟩
        · rw [if_pos p, if_neg q] at h; omega
      · by_cases q : Q k
        · rw [if_neg p, if_pos q] at h; omega
        · rw [if_neg p, if_neg q] at h; exact ⟨by omega, fun t => (p t).elim, fun t => (q t).elim⟩
    by_cases t : i = k
    · rw [t]; exact e.2
    · exact pcd_inj e.1 i (by omega)
theorem nC_fu {P : Nat → Prop} {n : Nat} (h : nC P n = n) : ∀ i, i < n → P i := fun i hi => Classical.byContradiction fun q => by
  have := nC_lt (P := P) (Q := fun _ => True) (n := n) (fun _ _ _ => trivial) hi trivial q
  rw [nC_all (fun _ _ => trivial)] at this
  omega
theorem nC_or_le (P Q : Nat → Prop) (n : Nat) : nC (fun i => P i ∨ Q i) n ≤ nC P n + nC Q n := by
  have e : nC (fun i => P i ∨ Q i) n = nC (fun i => P i ∨ (Q i ∧ ¬ P i)) n := nC_congr fun i _ => by
    constructor
    · rintro (h | h)
      · exact Or.inl h
      · by_cases p : P i
        · exact Or.inl p
        · exact Or.inr ⟨h, p⟩
    · rintro (h | h)
      · exact Or.inl h
      · exact Or.inr h.1
  rw [e, nC_or (P := P) (Q := fun i => Q i ∧ ¬ P i) (fun i h q => q.2 h)]
  have := nC_mono (P := fun i => Q i ∧ ¬ P i) (Q := Q) (n := n) (fun i _ h => h.1)
  omega
section SBC
variable {n : Nat} {T : Nat → Nat → Nat}
theorem zRow_lt {k : Nat} {g : Nat → Nat} (hg : ∀ i, i < k → g i < n) : ∀ s, zRow k g s → s < n := by
  rintro s ⟨i, hi, e⟩
  rw [e]; exact hg i hi
theorem zChn_card (G : zGrp n T) : ∀ {k : Nat} {g : Nat → Nat}, (∀ i, i < k → g i < n) → zChn T k g → 2 ^ k ≤ nC (zGen T (zRow k g)) n
  | 0, g, _, _ => by rw [nC_drop G.1 zGen.zero]; exact Nat.le_add_left _ _
  | k + 1, g, hg, hc => by
    have ih := zChn_card (k := k) (g := g) G (fun i hi => hg i (by omega)) (fun i hi => hc i (by omega))
    have := zTwice G (zGen.sbg G (zRow_lt (k := k) (g := g) fun i hi => hg i (by omega))) (zGen.sbg G (zRow_lt hg)) (fun a ha => ha.mono fun s ⟨i, hi, e⟩ => ⟨i, by omega, e⟩) (y := g k) (zGen.self G (zRow_lt hg) ⟨k, by omega, rfl⟩) (hc k (by omega))
    rw [Nat.pow_succ]; omega
/-- half of a part -/
theorem zHalf (G : zGrp n T) {D L : Nat → Prop} (hD : zSbg n T D) (hL : zSbg n T L) (hDL : ∀ a, D a → L a) (h2 : 2 * nC D n = nC L n) {a b : Nat} (ha : L a) (hb : L b) : D (T a b) ↔ (D a ↔ D b) := by
  have hab := hL.2.2 a b ha hb
  by_cases p : D a
  · by_cases q : D b
    · exact ⟨fun _ => ⟨fun _ => q, fun _ => p⟩, fun _ => hD.2.2 a b p q⟩
    · refine ⟨fun h => (q ?_).elim, fun h => (q (h.mp p)).elim⟩
      obtain ⟨c, hc, -, e⟩ := hD.inv G p
      have e2 := G.2.2.2.1 c a b (hD.2.1 c hc) (hL.2.1 a ha) (hL.2.1 b hb)
      rw [e, (G.2.2.1 b (hL.2.1 b hb)).1] at e2
      rw [e2]; exact hD.2.2 _ _ hc h
  · by_cases q : D b
    · refine ⟨fun h => (p ?_).elim, fun h => (p (h.mpr q)).elim⟩
      obtain ⟨c, hc, e, -⟩ := hD.inv G q
      have e2 := G.2.2.2.1 a b c (hL.2.1 a ha) (hL.2.1 b hb) (hD.2.1 c hc)
      rw [e, (G.2.2.1 a (hL.2.1 a ha)).2] at e2
      rw [← e2]; exact hD.2.2 _ _ h hc
    · refine ⟨fun _ => ⟨fun t => (p t).elim, fun t => (q t).elim⟩, fun _ => ?_⟩
      obtain ⟨u, hu, e1, e2⟩ := hL.inv G ha
      have huD : ¬ D u := fun t => by
        obtain ⟨c, hc, -, e3⟩ := hD.inv G t
        have e4 := G.2.2.2.1 c u a (hD.2.1 c hc) (hL.2.1 u hu) (hL.2.1 a ha)
        rw [e3, e2, (G.2.2.1 a (hL.2.1 a ha)).1, (G.2.2.1 c (hD.2.1 c hc)).2] at e4
        rw [e4] at p; exact p hc
      obtain ⟨-, c2⟩ := zCos G hD hD.2.1 (fun a b ha hb => hD.2.2 a b ha hb) (hL.2.1 u hu) huD
      have hin : D b ∨ ∃ c, D c ∧ b = T u c := Classical.byContradiction fun t => by
        have := nC_lt (P := fun z => D z ∨ ∃ c, D c ∧ z = T u c) (Q := L) (n := n) (fun i _ h => by
          rcases h with h | ⟨c, hc, e⟩
          · exact hDL i h
          · rw [e]; exact hL.2.2 u c hu (hDL c hc)) (hL.2.1 b hb) hb t
        omega
      rcases hin with h | ⟨c, hc, e⟩
      · exact (q h).elim
      · rw [e, ← G.2.2.2.1 a u c (hL.2.1 a ha) (hL.2.1 u hu) (hD.2.1 c hc), e1, (G.2.2.1 c (hD.2.1 c hc)).1]
        exact hc
theorem zHalf_det (G : zGrp n T) {D D' L : Nat → Prop} (hD : zSbg n T D) (hD' : zSbg n T D') (hL : zSbg n T L) (hDL : ∀ a, D a → L a) (hDL' : ∀ a, D' a → L a) (h2 : 2 * nC D n = nC L n) (h2' : 2 * nC D' n = nC L n) {S : Nat → Prop} (hS : ∀ z, L z → zGen T S z) (hSL : ∀ s, S s → L s) (hs : ∀ s, S s → (D s ↔ D' s)) {z : Nat} (hz : L z) : D z ↔ D' z := by
  have := hS z hz (fun z => L z ∧ (D z ↔ D' z)) ⟨hL.1, fun _ => hD'.1, fun _ => hD.1⟩ fun a s ⟨h1, h3⟩ h4 => ⟨hL.2.2 a s h1 (hSL s h4), by
    rw [zHalf G hD hL hDL h2 h1 (hSL s h4), zHalf G hD' hL hDL' h2' h1 (hSL s h4), h3, hs s h4]⟩
  exact this.2
/-- two parts of 16 among 48 -/
theorem zThird (G : zGrp n T) (hn : n = 48) {H L : Nat → Prop} (hH : zSbg n T H) (hL : zSbg n T L) (cH : nC H n = 16) (cL : nC L n = 16) {x : Nat} (hx : H x) (hxL : ¬ L x) : 2 * nC (fun z => H z ∧ L z) n = 16 ∧ ∀ z, H z → (H z ∧ L z) ∨ ∃ c, (H c ∧ L c) ∧ z = T x c := by
  have hD : zSbg n T (fun z => H z ∧ L z) := ⟨⟨hH.1, hL.1⟩, fun a h => hH.2.1 a h.1, fun a b h1 h3 => ⟨hH.2.2 a b h1.1 h3.1, hL.2.2 a b h1.2 h3.2⟩⟩
  have lt := hH.2.1
  have ltL := hL.2.1
  -- what lies behind u in a part
  have bk : ∀ u c, H u → H (T u c) → c < n → H c := fun u c hu huc hc => by
    obtain ⟨v, hv, -, e⟩ := hH.inv G hu
    have e2 := G.2.2.2.1 v u c (lt v hv) (lt u hu) hc
    rw [e, (G.2.2.1 c hc).1] at e2
    rw [e2]; exact hH.2.2 _ _ hv huc
  obtain ⟨k1, c1⟩ := zCos G hD hD.2.1 (fun a b ha hb => hD.2.2 a b ha hb) (lt x hx) (fun h => hxL h.2)
  have sub1 : ∀ z, ((H z ∧ L z) ∨ ∃ c, (H c ∧ L c) ∧ z = T x c) → H z := by
    rintro z (h | ⟨c, hc, e⟩)
    · exact h.1
    · rw [e]; exact hH.2.2 x c hx hc.1
  by_cases all : ∀ z, H z → (H z ∧ L z) ∨ ∃ c, (H c ∧ L c) ∧ z = T x c
  · refine ⟨?_, all⟩
    have : nC H n = nC (fun z => (H z ∧ L z) ∨ ∃ c, (H c ∧ L c) ∧ z = T x c) n := nC_congr fun i _ => ⟨all i, sub1 i⟩
    omega
  · exfalso
    obtain ⟨u, hu⟩ := Classical.not_forall.mp all
    obtain ⟨hu, huA⟩ := Classical.not_imp.mp hu
    obtain ⟨k2, c2⟩ := zCos G hL hL.2.1 (fun a b ha hb => hL.2.2 a b ha hb) (lt x hx) hxL
    have huB : ¬ (L u ∨ ∃ c, L c ∧ u = T x c) := by
      rintro (h | ⟨c, hc, e⟩)
      · exact huA (Or.inl ⟨hu, h⟩)
      · exact huA (Or.inr ⟨c, ⟨bk x c hx (e ▸ hu) (ltL c hc), hc⟩, e⟩)
    obtain ⟨k3, c3⟩ := zCos G hL (A := fun z => L z ∨ ∃ c, L c ∧ z = T x c) (fun a h => by
      rcases h with h | ⟨c, hc, e⟩
      · exact ltL a h
      · rw [e]; exact G.2.1 x c (lt x hx) (ltL c hc)) k2 (lt u hu) huB
    obtain ⟨k4, c4⟩ := zCos G hD (A := fun z => (H z ∧ L z) ∨ ∃ c, (H c ∧ L c) ∧ z = T x c) (fun a h => lt a (sub1 a h)) k1 (lt u hu) huA
    have full := nC_fu (P := fun z => (L z ∨ ∃ c, L c ∧ z = T x c) ∨ ∃ c, L c ∧ z = T u c) (n := n) (by omega)
    have : nC H n = nC (fun z => ((H z ∧ L z) ∨ ∃ c, (H c ∧ L c) ∧ z = T x c) ∨ ∃ c, (H c ∧ L c) ∧ z = T u c) n := nC_congr fun z hz => by
      constructor
      · intro h
        rcases full z hz with (t | ⟨c, hc, e⟩) | ⟨c, hc, e⟩
        · exact Or.inl (Or.inl ⟨h, t⟩)
        · exact Or.inl (Or.inr ⟨c, ⟨bk x c hx (e ▸ h) (ltL c hc), hc⟩, e⟩)
        · exact Or.inr ⟨c, ⟨bk u c hu (e ▸ h) (ltL c hc), hc⟩, e⟩
      · rintro (h | ⟨c, hc, e⟩)
        · exact sub1 z h
        · rw [e]; exact hH.2.2 u c hu hc.1
    omega
end SBC
