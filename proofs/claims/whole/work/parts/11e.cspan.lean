/-! THE CLASS'S GROUPS: what some elements make -/
theorem nC_more {P P' : Nat → Prop} {n z : Nat} (hz : z < n) (h : ¬ P z) (hp : ∀ i, P' i ↔ P i ∨ i = z) : nC P' n = nC P n + 1 := by
  rw [nC_drop hz ((hp z).mpr (Or.inr rfl))]
  congr 1
  refine nC_congr fun i _ => ?_
  rw [hp]
  constructor
  · rintro ⟨q | q, e⟩
    · exact q
    · exact (e q).elim
  · intro q
    exact ⟨Or.inl q, fun e => h (e ▸ q)⟩
section CSP
variable {F a n m k' off len : Nat} {T : Nat → Nat → Nat} {S : oSt} {w : gW} {g : Nat → Nat}
/-- on the way: the queue, its bits, how many; what the first p of it reach is there -/
def spI (n m : Nat) (T : Nat → Nat → Nat) (g : Nat → Nat) (S : oSt) (v : Int64) (c p s : Nat) : Prop := ∃ q : Nat → Nat, (∀ i, i < c → oA S 1 i = nI (q i) ∧ q i < n) ∧ (∀ z, jB v z ↔ ∃ i, i < c ∧ z = q i) ∧ nC (jB v) n = c ∧ (∀ z, jB v z → zGen T (fun s => ∃ i, i < m ∧ s = g i) z) ∧ jB v 0 ∧ p ≤ c ∧ (∀ i j, i < p → j < m → jB v (T (q i) (g j))) ∧ ∀ j, j < s → j < m → p < c ∧ jB v (T (q p) (g j))
def spK (a n : Nat) (T : Nat → Nat → Nat) (S S1 : oSt) (w w1 : gW) : Prop := zAt w1 a n T S1 ∧ wF a (a + 7) w w1 ∧ (∀ k, k ≠ 1 → oA S1 k = oA S k) ∧ oI S1 = oI S
theorem spK.st {S1 : oSt} {w1 : gW} (h : spK a n T S S1 w w1) {j : Nat} (hj : j < 48) (x : Int32) : ∃ w2, gSI (some (a + 2)) (nI j) x w1 = some w2 ∧ spK a n T S (uA S1 1 (upd (oA S1 1) j x)) w w2 := by
  obtain ⟨w2, e1, e2, e3⟩ := h.1.1.st lyG_ok 1 rfl hj (by omega) x
  have hk : ∀ k, k ≠ 1 → oA (uA S1 1 (upd (oA S1 1) j x)) k = oA S1 k := fun k hk => va_upN hk
  refine ⟨w2, e1, ⟨e2, h.1.2.1, h.1.2.2.1, h.1.2.2.2.1, h.1.2.2.2.2.1, fun x y hx hy => ?_⟩, h.2.1.tr e3, fun k q => (hk k q).trans (h.2.2.1 k q), h.2.2.2⟩
  rw [hk 0 (by decide)]; exact h.1.2.2.2.2.2 x y hx hy
theorem c_span (hF : fF F) (G : zGrp n T) (h : zAt w a n T S) (he : lyG[k']? = some (1, off, len)) (hk1 : k' ≠ 1) (hl48 : len < 2 ^ 31) (hm : m ≤ len) (hm2 : m ≤ 48) (hg : ∀ j, j < m → g j < n ∧ oA S k' j = nI (g j)) : ∃ w1 S1 v, mX2_span F a (some (a + off)) (nI m) w = some (v, w1) ∧ spK a n T S S1 w w1 ∧ ∀ z, jB v z ↔ zGen T (fun s => ∃ i, i < m ∧ s = g i) z := by
  have hn := h.n31
  have L2 : ∀ (kk : Nat → Option Nat → Int32 → Int64 → Int32 → Int32 → gW → Option (Int64 × gW)) (k s : Nat) (v : Int64) (c p : Nat) (w1 : gW) (S1 : oSt), p < c → s ≤ m → m - s < k → spK a n T S S1 w w1 → spI n m T g S1 v c p s → ∃ w3 S3 v3 c3, mX2_span_l34 F kk k a (some (a + off)) (nI m) v (nI c) (nI p) (nI s) w1 = kk a (some (a + off)) (nI m) v3 (nI c3) (nI p) w3 ∧ spK a n T S S3 w w3 ∧ spI n m T g S3 v3 c3 (p + 1) 0 := by
    intro kk k
    induction k with
    | zero => intro s v c p w1 S1 _ _ q; omega
    | succ k ih =>
      intro s v c p w1 S1 hp hs hk hK hI
      show ∃ w3 S3 v3 c3, mX2_span_h34 F (mX2_span_l34 F kk k) kk a (some (a + off)) (nI m) v (nI c) (nI p) (nI s) w1 = _ ∧ _ ∧ _
      unfold mX2_span_h34
      obtain ⟨q, q1, q2, q3, q4, q5, q6, q7, q8⟩ := hI
      have hcn : c ≤ n := by rw [← q3]; exact nC_le _ _
      by_cases e : s = m
      · rw [e, if_pos (nI_le (Nat.le_refl _) (by omega))]
        refine ⟨w1, S1, v, c, rfl, hK, q, q1, q2, q3, q4, q5, hp, fun i j hi hj => ?_, fun j hj => by omega⟩
        rcases Nat.lt_or_ge i p with u | u
        · exact q7 i j u hj
        · rw [show i = p by omega]; exact (q8 j (by omega) hj).2
      · have hs : s < m := by omega
        obtain ⟨g1, g2⟩ := hg s hs
        obtain ⟨p1, p2⟩ := q1 p hp
        have hz := G.2.1 _ _ p2 g1
        rw [if_neg (nI_ge hs (by omega)), hK.1.1.rA 1 rfl, Option.bind_some, hK.1.1.ld 1 rfl (by omega) (by omega), Option.bind_some, hK.1.1.ld k' he (by omega) hl48, Option.bind_some, hK.1.o, Option.bind_some, p1, hK.2.2.1 k' hk1, g2, hK.1.mul p2 g1, Option.bind_some]
        by_cases u : jB v (T (q p) (g s))
        · rw [if_neg (fun t => (jB_test v (by omega)).mp t u)]
          unfold mX2_span_b96
          rw [nI_1]
          refine ih (s + 1) v c p w1 S1 hp (by omega) (by omega) hK ⟨q, q1, q2, q3, q4, q5, q6, q7, fun j hj hj2 => ⟨hp, ?_⟩⟩
          rcases Nat.lt_or_ge j s with t | t
          · exact (q8 j t hj2).2
          · rw [show j = s by omega]; exact u
        · rw [if_pos ((jB_test v (by omega)).mpr u), hK.1.sz, Option.bind_some]
          have bs : ∀ j, jB (v ||| ((1 : Int64) <<< ((nI (T (q p) (g s))).toInt64 &&& 63))) j ↔ jB v j ∨ j = T (q p) (g s) := jB_set v (by omega)
          have mo := nC_more hz u bs
          have hcn2 : c + 1 ≤ n := by rw [← q3, ← mo]; exact nC_le _ _
          obtain ⟨w2, f1, f2⟩ := hK.st (j := c) (by omega) (nI (T (q p) (g s)))
          rw [if_neg (nI_ge (by omega) (by omega)), hK.1.1.rA 1 rfl, Option.bind_some]
          have f1' : gSI (some (a + 2)) (nI c) (nI (T (q p) (g s))) w1 = some w2 := f1
          rw [f1', Option.bind_some]
          unfold mX2_span_b96
          rw [nI_1, nI_1]
          refine ih (s + 1) _ (c + 1) p w2 _ (by omega) (by omega) (by omega) f2 ⟨fun i => if i = c then T (q p) (g s) else q i, fun i hi => ?_, fun z => ?_, by rw [mo, q3], fun z hz2 => ?_, (bs 0).mpr (Or.inl q5), by omega, fun i j hi hj => ?_, fun j hj hj2 => ⟨by omega, ?_⟩⟩
          · show upd (oA S1 1) c (nI (T (q p) (g s))) i = nI (if i = c then T (q p) (g s) else q i) ∧ (if i = c then T (q p) (g s) else q i) < n
            by_cases t : i = c
            · rw [t, if_pos rfl, pk_us]; exact ⟨rfl, hz⟩
            · rw [if_neg t, pk_un t]; exact q1 i (by omega)
          · rw [bs, q2]
            constructor
            · rintro (⟨i, hi, hh⟩ | hh)
              · exact ⟨i, by omega, by show z = (if i = c then _ else q i); rw [if_neg (by omega)]; exact hh⟩
              · exact ⟨c, by omega, by show z = (if c = c then _ else q c); rw [if_pos rfl]; exact hh⟩
            · rintro ⟨i, hi, hh⟩
              have hh : z = (if i = c then T (q p) (g s) else q i) := hh
              by_cases t : i = c
              · rw [if_pos t] at hh; exact Or.inr hh
              · rw [if_neg t] at hh; exact Or.inl ⟨i, by omega, hh⟩
          · rcases (bs z).mp hz2 with t | t
            · exact q4 z t
            · rw [t]; exact (q4 _ ((q2 _).mpr ⟨p, hp, rfl⟩)).step ⟨s, hs, rfl⟩
          · show jB _ (T (if i = c then _ else q i) (g j))
            rw [if_neg (by omega)]
            exact (bs _).mpr (Or.inl (q7 i j hi hj))
          · show jB _ (T (if p = c then _ else q p) (g j))
            rw [if_neg (by omega)]
            rcases Nat.lt_or_ge j s with t | t
            · exact (bs _).mpr (Or.inl (q8 j t hj2).2)
            · rw [show j = s by omega]; exact (bs _).mpr (Or.inr rfl)
  have L1 : ∀ (k p : Nat) (v : Int64) (c : Nat) (w1 : gW) (S1 : oSt), n - p < k → spK a n T S S1 w w1 → spI n m T g S1 v c p 0 → ∃ w3 S3 v3, mX2_span_l15 F k a (some (a + off)) (nI m) v (nI c) (nI p) w1 = some (v3, w3) ∧ spK a n T S S3 w w3 ∧ ∀ z, jB v3 z ↔ zGen T (fun s => ∃ i, i < m ∧ s = g i) z := by
    intro k
    induction k with
    | zero => intro p v c w1 S1 q; omega
    | succ k ih =>
      intro p v c w1 S1 hk hK hI
      show ∃ w3 S3 v3, mX2_span_h15 F (mX2_span_l15 F k) a (some (a + off)) (nI m) v (nI c) (nI p) w1 = _ ∧ _ ∧ _
      unfold mX2_span_h15
      have hI2 := hI
      obtain ⟨q, q1, q2, q3, q4, q5, q6, q7, q8⟩ := hI
      have hcn : c ≤ n := by rw [← q3]; exact nC_le _ _
      by_cases e : c ≤ p
      · rw [if_pos (nI_le e (by omega))]
        refine ⟨w1, S1, v, rfl, hK, fun z => ⟨q4 z, fun hz => hz (jB v) q5 fun x s hx hs => ?_⟩⟩
        obtain ⟨i, hi, hx⟩ := (q2 x).mp hx
        obtain ⟨j, hj, hs⟩ := hs
        rw [hx, hs]; exact q7 i j (by omega) hj
      · rw [if_neg (nI_ge (by omega) (by omega)), hK.1.sz, Option.bind_some, if_neg (nI_ge (by omega) (by omega))]
        obtain ⟨w3, S3, v3, c3, f1, f2, f3⟩ := L2 (fun v0 v1 v2 v3 v5 v6 w => mX2_span_l15 F k v0 v1 v2 v3 v5 (v6 + 1) w) F 0 v c p w1 S1 (by omega) (by omega) (by unfold fF at hF; omega) hK hI2
        have f1' : mX2_span_l34 F (fun v0 v1 v2 v3 v5 v6 w => mX2_span_l15 F k v0 v1 v2 v3 v5 (v6 + 1) w) F a (some (a + off)) (nI m) v (nI c) (nI p) 0 w1 = mX2_span_l15 F k a (some (a + off)) (nI m) v3 (nI c3) (nI p + 1) w3 := f1
        rw [f1', nI_1]
        exact ih (p + 1) v3 c3 w3 S3 (by omega) f2 f3
  have hK0 : spK a n T S S w w := ⟨h, wF.rf, fun _ _ => rfl, rfl⟩
  obtain ⟨w2, f1, f2⟩ := hK0.st (j := 0) (by omega) (nI 0)
  unfold mX2_span
  rw [h.1.rA 1 rfl, Option.bind_some]
  have f1' : gSI (some (a + 2)) 0 0 w = some w2 := f1
  rw [f1', Option.bind_some]
  refine L1 F 0 1 1 w2 _ (by unfold fF at hF; omega) f2 ⟨fun _ => 0, fun i hi => ?_, fun z => ?_, ?_, fun z hz => ?_, (jB_1 0).mpr rfl, by omega, fun i j hi => by omega, fun j hj => by omega⟩
  · show upd (oA S 1) 0 (nI 0) i = _ ∧ _
    rw [show i = 0 by omega, pk_us]; exact ⟨rfl, G.1⟩
  · rw [jB_1]
    exact ⟨fun e => ⟨0, by omega, e⟩, fun ⟨_, _, e⟩ => e⟩
  · rw [nC_more (P := fun _ => False) (P' := jB 1) (z := 0) G.1 id (fun i => by rw [jB_1]; simp), nC_none (fun _ _ => id)]
  · rw [(jB_1 z).mp hz]; exact zGen.zero
end CSP
