/-! THE CLASS'S GROUPS: how many two make, how many the commutators make -/
theorem nC_cut {P : Nat → Prop} {n m : Nat} (h : ∀ i, P i → i < n) (hn : n ≤ m) : nC P m = nC P n := by
  obtain ⟨k, rfl⟩ := Nat.exists_eq_add_of_le hn
  rw [nC_split, nC_none (P := fun i => P (n + i)) (fun i _ q => by have := h _ q; omega), Nat.add_zero]
theorem oA_uA (S : oSt) (k : Nat) (f : Nat → Int32) : oA (uA S k f) k = f := va_upS _ _ _
/-- the group stays as it is, and so do its rows but those of D -/
def zK (D : Nat → Prop) (a n : Nat) (T : Nat → Nat → Nat) (S S1 : oSt) (w w1 : gW) : Prop := zAt w1 a n T S1 ∧ wF a (a + 7) w w1 ∧ (∀ k, ¬ D k → oA S1 k = oA S k) ∧ oI S1 = oI S
def zComm (n : Nat) (T : Nat → Nat → Nat) (s : Nat) : Prop := ∃ x y, x < n ∧ y < n ∧ s = T (T (T x y) (zInv n T x)) (zInv n T y)
section CMD
variable {F a n off len : Nat} {D D' : Nat → Prop} {T : Nat → Nat → Nat} {S S1 S2 : oSt} {w w1 w2 : gW}
theorem zK.rf (h : zAt w a n T S) : zK D a n T S S w w := ⟨h, wF.rf, fun _ _ => rfl, rfl⟩
theorem zK.tr (h1 : zK D a n T S S1 w w1) (h2 : zK D a n T S1 S2 w1 w2) : zK D a n T S S2 w w2 := ⟨h2.1, h1.2.1.tr h2.2.1, fun k hk => (h2.2.2.1 k hk).trans (h1.2.2.1 k hk), h2.2.2.2.trans h1.2.2.2⟩
theorem zK.wide (h1 : zK D a n T S S1 w w1) (h : ∀ k, D k → D' k) : zK D' a n T S S1 w w1 := ⟨h1.1, h1.2.1, fun k hk => h1.2.2.1 k fun q => hk (h k q), h1.2.2.2⟩
theorem zK.st (h : zK D a n T S S1 w w1) {k : Nat} (he : lyG[k]? = some (1, off, len)) (hk : D k) (h0 : k ≠ 0) {j : Nat} (hj : j < len) (hl : len < 2 ^ 31) (x : Int32) : ∃ w2, gSI (some (a + off)) (nI j) x w1 = some w2 ∧ zK D a n T S (uA S1 k (upd (oA S1 k) j x)) w w2 := by
  obtain ⟨w2, e1, e2, e3⟩ := h.1.1.st lyG_ok k he hj hl x
  have hk2 : ∀ l, l ≠ k → oA (uA S1 k (upd (oA S1 k) j x)) l = oA S1 l := fun l hl => va_upN hl
  refine ⟨w2, e1, ⟨e2, h.1.2.1, h.1.2.2.1, h.1.2.2.2.1, h.1.2.2.2.2.1, fun x y hx hy => ?_⟩, h.2.1.tr e3, fun l q => (hk2 l (fun e => q (e ▸ hk))).trans (h.2.2.1 l q), h.2.2.2⟩
  rw [hk2 0 (Ne.symm h0)]; exact h.1.2.2.2.2.2 x y hx hy
theorem spK.zK (h : spK a n T S S1 w w1) : zK (fun k => k = 1) a n T S S1 w w1 := h
theorem zK.done (h : zK D a n T S S1 w w1) (hd : zDone n T S) (h3 : ¬ D 3) (h4 : ¬ D 4) : zDone n T S1 := fun x hx => by rw [h.2.2.1 3 h3, h.2.2.1 4 h4]; exact hd x hx
theorem zGen_cut {P : Nat → Prop} (G : zGrp n T) (hP : ∀ s, P s → s < n) {v : Int64} (hv : ∀ z, jB v z ↔ zGen T P z) (hn : n ≤ 64) : nC (jB v) 64 = nC (zGen T P) n := by
  rw [nC_cut (n := n) (fun i q => ((hv i).mp q).lt G hP) hn]
  exact nC_congr fun i _ => hv i
theorem zGen_iff {P Q : Nat → Prop} (h : ∀ s, P s ↔ Q s) (z : Nat) : zGen T P z ↔ zGen T Q z := ⟨zGen.mono fun s => (h s).mp, zGen.mono fun s => (h s).mpr⟩
theorem c_countMade (hF : fF F) (G : zGrp n T) (h : zAt w a n T S) {x y : Nat} (hx : x < n) (hy : y < n) : ∃ w1 S1, mX2_countMade F a (nI x) (nI y) w = some (nI (nC (zGen T (fun s => s = x ∨ s = y)) n), w1) ∧ zK (fun k => k = 1 ∨ k = 2) a n T S S1 w w1 := by
  have hn := h.n31
  have k0 : zK (fun k => k = 1 ∨ k = 2) a n T S S w w := zK.rf h
  obtain ⟨w2, e2, k2⟩ := k0.st (k := 2) rfl (Or.inr rfl) (by omega) (j := 0) (by omega) (by omega) (nI x)
  obtain ⟨w3, e3, k3⟩ := k2.st (k := 2) rfl (Or.inr rfl) (by omega) (j := 1) (by omega) (by omega) (nI y)
  have e2' : gSI (some (a + 3)) 0 (nI x) w = some w2 := e2
  have e3' : gSI (some (a + 3)) 1 (nI y) w2 = some w3 := e3
  unfold mX2_countMade
  rw [h.1.rA 2 rfl, Option.bind_some, e2', Option.bind_some, k2.1.1.rA 2 rfl, Option.bind_some, e3', Option.bind_some, k3.1.1.rA 2 rfl, Option.bind_some, k3.1.o, Option.bind_some]
  obtain ⟨w4, S4, v, f1, f2, f3⟩ := c_span (m := 2) (g := fun i => if i = 0 then x else y) hF G k3.1 (k' := 2) (off := 3) (len := 48) rfl (by omega) (by omega) (by omega) (by omega) (fun j hj => by
    show (if j = 0 then x else y) < n ∧ oA (uA (uA S 2 (upd (oA S 2) 0 (nI x))) 2 (upd (oA (uA S 2 (upd (oA S 2) 0 (nI x))) 2) 1 (nI y))) 2 j = nI (if j = 0 then x else y)
    rw [oA_uA, oA_uA]
    by_cases q : j = 0
    · rw [if_pos q, q, pk_un (by omega), pk_us]; exact ⟨hx, rfl⟩
    · rw [if_neg q, show j = 1 by omega, pk_us]; exact ⟨hy, rfl⟩)
  have f1' : mX2_span F a (some (a + 3)) 2 w3 = some (v, w4) := f1
  rw [f1', Option.bind_some, c_bitCount, Option.bind_some]
  refine ⟨w4, S4, ?_, k3.tr (f2.zK.wide fun k q => Or.inl q)⟩
  have hv : ∀ z, jB v z ↔ zGen T (fun s => s = x ∨ s = y) z := fun z => by
    rw [f3]
    refine zGen_iff (fun s => ?_) z
    constructor
    · rintro ⟨i, hi, e⟩
      by_cases q : i = 0
      · rw [if_pos q] at e; exact Or.inl e
      · rw [if_neg q] at e; exact Or.inr e
    · rintro (e | e)
      · exact ⟨0, by omega, by rw [if_pos rfl]; exact e⟩
      · exact ⟨1, by omega, by rw [if_neg (by omega)]; exact e⟩
  rw [zGen_cut G (fun s hs => by omega) hv (by omega)]
/-- the commutators laid down so far -/
def cdI (n : Nat) (T : Nat → Nat → Nat) (S : oSt) (v : Int64) (c : Nat) (L : Nat → Nat → Prop) : Prop := ∃ g : Nat → Nat, (∀ i, i < c → g i < n ∧ oA S 2 i = nI (g i)) ∧ (∀ z, jB v z ↔ ∃ i, i < c ∧ z = g i) ∧ nC (jB v) n = c ∧ ∀ z, jB v z ↔ ∃ x y, x < n ∧ y < n ∧ L x y ∧ z = T (T (T x y) (zInv n T x)) (zInv n T y)
theorem c_countDerived (hF : fF F) (G : zGrp n T) (h : zAt w a n T S) (hd : zDone n T S) : ∃ w1 S1, mX2_countDerived F a w = some (nI (nC (zGen T (zComm n T)) n), w1) ∧ zK (fun k => k = 1 ∨ k = 2) a n T S S1 w w1 := by
  have hn := h.n31
  have L2 : ∀ (x : Nat), x < n → ∀ (kk : Nat → Int64 → Int32 → Int32 → gW → Option (Int32 × gW)) (k y : Nat) (v : Int64) (c : Nat) (w1 : gW) (S1 : oSt), y ≤ n → n - y < k → zK (fun k => k = 1 ∨ k = 2) a n T S S1 w w1 → cdI n T S1 v c (fun x' y' => x' < x ∨ (x' = x ∧ y' < y)) → ∃ w3 S3 v3 c3, mX2_countDerived_l19 F kk k a v (nI c) (nI x) (nI y) w1 = kk a v3 (nI c3) (nI x) w3 ∧ zK (fun k => k = 1 ∨ k = 2) a n T S S3 w w3 ∧ cdI n T S3 v3 c3 (fun x' y' => x' < x + 1) := by
    intro x hx kk k
    induction k with
    | zero => intro y v c w1 S1 _ q; omega
    | succ k ih =>
      intro y v c w1 S1 hy hk hK hI
      show ∃ w3 S3 v3 c3, mX2_countDerived_h19 F (mX2_countDerived_l19 F kk k) kk a v (nI c) (nI x) (nI y) w1 = _ ∧ _ ∧ _
      unfold mX2_countDerived_h19
      rw [hK.1.sz, Option.bind_some]
      obtain ⟨g, g1, g2, g3, g4⟩ := hI
      by_cases e : y = n
      · rw [e, if_pos (nI_le (Nat.le_refl _) (by omega))]
        refine ⟨w1, S1, v, c, rfl, hK, g, g1, g2, g3, fun z => ?_⟩
        rw [g4]
        constructor
        · rintro ⟨p, q, hp, hq, hl, hz⟩; exact ⟨p, q, hp, hq, by omega, hz⟩
        · rintro ⟨p, q, hp, hq, hl, hz⟩; exact ⟨p, q, hp, hq, by omega, hz⟩
      · have hy : y < n := by omega
        have t1 := G.2.1 _ _ hx hy
        have t2 := G.2.1 _ _ t1 (zInv_sp G hx).1
        have t3 := G.2.1 _ _ t2 (zInv_sp G hy).1
        have hd1 := hK.done hd (by omega) (by omega)
        rw [if_neg (nI_ge hy (by omega)), hK.1.o, Option.bind_some, hK.1.mul hx hy, Option.bind_some, hK.1.1.rA 3 rfl, Option.bind_some, hK.1.1.ld 3 rfl (by omega) (by omega), Option.bind_some, hK.1.o, Option.bind_some, (hd1 x hx).1, hK.1.mul t1 (zInv_sp G hx).1, Option.bind_some, hK.1.1.rA 3 rfl, Option.bind_some, hK.1.1.ld 3 rfl (by omega) (by omega), Option.bind_some, hK.1.o, Option.bind_some, (hd1 y hy).1, hK.1.mul t2 (zInv_sp G hy).1, Option.bind_some]
        generalize hs : T (T (T x y) (zInv n T x)) (zInv n T y) = s at *
        have nx : ∀ z, (jB v z ∨ z = s) ↔ ∃ x1 y1, x1 < n ∧ y1 < n ∧ (x1 < x ∨ (x1 = x ∧ y1 < y + 1)) ∧ z = T (T (T x1 y1) (zInv n T x1)) (zInv n T y1) := fun z => by
          rw [g4]
          constructor
          · rintro (⟨p, q, hp, hq, hl, hz⟩ | hz)
            · exact ⟨p, q, hp, hq, by omega, hz⟩
            · exact ⟨x, y, hx, hy, by omega, by rw [hs]; exact hz⟩
          · rintro ⟨p, q, hp, hq, hl, hz⟩
            by_cases u : p = x ∧ q = y
            · right; rw [hz, u.1, u.2, hs]
            · exact Or.inl ⟨p, q, hp, hq, by omega, hz⟩
        by_cases u : jB v s
        · rw [if_neg (fun t => (jB_test v (by omega)).mp t u)]
          unfold mX2_countDerived_b89
          rw [nI_1]
          refine ih (y + 1) v c w1 S1 (by omega) (by omega) hK ⟨g, g1, g2, g3, fun z => ?_⟩
          rw [← nx]
          exact ⟨Or.inl, fun q => q.elim id fun e => e ▸ u⟩
        · have bs : ∀ j, jB (v ||| ((1 : Int64) <<< ((nI s).toInt64 &&& 63))) j ↔ jB v j ∨ j = s := jB_set v (by omega)
          have mo := nC_more t3 u bs
          have hcn2 : c + 1 ≤ n := by rw [← g3, ← mo]; exact nC_le _ _
          obtain ⟨w2, f1, f2⟩ := hK.st (k := 2) rfl (Or.inr rfl) (by omega) (j := c) (by omega) (by omega) (nI s)
          rw [if_pos ((jB_test v (by omega)).mpr u), hK.1.1.rA 2 rfl, Option.bind_some, f1, Option.bind_some]
          unfold mX2_countDerived_b89
          rw [nI_1, nI_1]
          refine ih (y + 1) _ (c + 1) w2 _ (by omega) (by omega) f2 ⟨fun i => if i = c then s else g i, fun i hi => ?_, fun z => ?_, by rw [mo, g3], fun z => ?_⟩
          · show (if i = c then s else g i) < n ∧ va_up (oA S1) 2 (upd (oA S1 2) c (nI s)) 2 i = nI (if i = c then s else g i)
            rw [va_upS]
            by_cases t : i = c
            · rw [t, if_pos rfl, pk_us]; exact ⟨t3, rfl⟩
            · rw [if_neg t, pk_un t]; exact g1 i (by omega)
          · rw [bs, g2]
            constructor
            · rintro (⟨i, hi, hh⟩ | hh)
              · exact ⟨i, by omega, by show z = (if i = c then _ else g i); rw [if_neg (by omega)]; exact hh⟩
              · exact ⟨c, by omega, by show z = (if c = c then _ else g c); rw [if_pos rfl]; exact hh⟩
            · rintro ⟨i, hi, hh⟩
              have hh : z = (if i = c then s else g i) := hh
              by_cases t : i = c
              · rw [if_pos t] at hh; exact Or.inr hh
              · rw [if_neg t] at hh; exact Or.inl ⟨i, by omega, hh⟩
          · rw [bs]; exact nx z
  have L1 : ∀ (kk : Nat → Int32 → gW → Option (Int32 × gW)) (k x : Nat) (v : Int64) (c : Nat) (w1 : gW) (S1 : oSt), x ≤ n → n - x < k → zK (fun k => k = 1 ∨ k = 2) a n T S S1 w w1 → cdI n T S1 v c (fun x' y' => x' < x) → ∃ w3 S3 v3 c3, mX2_countDerived_l7 F kk k a v (nI c) (nI x) w1 = kk a (nI c3) w3 ∧ zK (fun k => k = 1 ∨ k = 2) a n T S S3 w w3 ∧ cdI n T S3 v3 c3 (fun x' y' => x' < n) := by
    intro kk k
    induction k with
    | zero => intro x v c w1 S1 _ q; omega
    | succ k ih =>
      intro x v c w1 S1 hx hk hK hI
      show ∃ w3 S3 v3 c3, mX2_countDerived_h7 F (mX2_countDerived_l7 F kk k) kk a v (nI c) (nI x) w1 = _ ∧ _ ∧ _
      unfold mX2_countDerived_h7
      rw [hK.1.sz, Option.bind_some]
      by_cases e : x = n
      · rw [e, if_pos (nI_le (Nat.le_refl _) (by omega))]
        rw [e] at hI
        exact ⟨w1, S1, v, c, rfl, hK, hI⟩
      · have hx : x < n := by omega
        rw [if_neg (nI_ge hx (by omega))]
        obtain ⟨w3, S3, v3, c3, f1, f2, f3⟩ := L2 x hx (fun v0 v1 v3 v4 w => mX2_countDerived_l7 F kk k v0 v1 v3 (v4 + 1) w) F 0 v c w1 S1 (by omega) (by unfold fF at hF; omega) hK (by
          obtain ⟨g, g1, g2, g3, g4⟩ := hI
          refine ⟨g, g1, g2, g3, fun z => ?_⟩
          rw [g4]
          constructor
          · rintro ⟨p, q, hp, hq, hl, hz⟩; exact ⟨p, q, hp, hq, by omega, hz⟩
          · rintro ⟨p, q, hp, hq, hl, hz⟩; exact ⟨p, q, hp, hq, by omega, hz⟩)
        have f1' : mX2_countDerived_l19 F (fun v0 v1 v3 v4 w => mX2_countDerived_l7 F kk k v0 v1 v3 (v4 + 1) w) F a v (nI c) (nI x) 0 w1 = mX2_countDerived_l7 F kk k a v3 (nI c3) (nI x + 1) w3 := f1
        rw [f1', nI_1]
        exact ih (x + 1) v3 c3 w3 S3 (by omega) (by omega) f2 f3
  unfold mX2_countDerived
  obtain ⟨w3, S3, v3, c3, f1, f2, g, g1, g2, g3, g4⟩ := L1 (fun v0 v3 w => (gFR 2 2 (some v0) w).bind fun t103 => (gO 2 (some v0) w).bind fun a107 => (mX2_span F a107 t103 v3 w).bind fun q107 => (mJ13_bitCount_95d88 F q107.1 q107.2).bind fun q110 => some (q110.1, q110.2)) F 0 0 0 w S (by omega) (by unfold fF at hF; omega) (zK.rf h) ⟨fun _ => 0, fun i hi => by omega, fun z => ⟨fun q => (jB_0 z q).elim, fun ⟨_, q, _⟩ => by omega⟩, nC_none fun i _ => jB_0 i, fun z => ⟨fun q => (jB_0 z q).elim, fun ⟨_, _, _, _, q, _⟩ => by omega⟩⟩
  have hc3 : c3 ≤ n := by rw [← g3]; exact nC_le _ _
  obtain ⟨w4, S4, v, h1, h2, h3⟩ := c_span (m := c3) (g := g) hF G f2.1 (k' := 2) (off := 3) (len := 48) rfl (by omega) (by omega) (by omega) (by omega) g1
  have key : ((gFR 2 2 (some a) w3).bind fun t103 => (gO 2 (some a) w3).bind fun a107 => (mX2_span F a107 t103 (nI c3) w3).bind fun q107 => (mJ13_bitCount_95d88 F q107.1 q107.2).bind fun q110 => some (q110.1, q110.2)) = some (nI (nC (zGen T (zComm n T)) n), w4) := by
    rw [f2.1.1.rA 2 rfl, Option.bind_some, f2.1.o, Option.bind_some, h1, Option.bind_some, c_bitCount, Option.bind_some]
    have hP : ∀ s, zComm n T s → s < n := by
      rintro s ⟨x, y, hx, hy, e⟩
      rw [e]; exact G.2.1 _ _ (G.2.1 _ _ (G.2.1 _ _ hx hy) (zInv_sp G hx).1) (zInv_sp G hy).1
    have hv : ∀ z, jB v z ↔ zGen T (zComm n T) z := fun z => by
      rw [h3]
      refine zGen_iff (fun s => ?_) z
      rw [← g2, g4]
      exact ⟨fun ⟨x, y, p, q, _, r⟩ => ⟨x, y, p, q, r⟩, fun ⟨x, y, p, q, r⟩ => ⟨x, y, p, q, p, r⟩⟩
    rw [zGen_cut G hP hv (by omega)]
  exact ⟨w4, S4, Eq.trans f1 key, f2.tr (h2.zK.wide fun k q => Or.inl q)⟩
end CMD
