/-! THE CLASS'S GROUPS: their makers are found -/
section CMK4
variable {F a n : Nat} {T : Nat → Nat → Nat} {S : oSt} {w : gW}
theorem c_findMakers (hF : fF F) (G : zGrp n T) (h : zAt w a n T S) (h6 : oI S 6 = -1) : ∃ L g w1 S1, mX2_findMakers F a w = some (nI L, w1) ∧ zMost n T L g ∧ zAt w1 a n T S1 ∧ wF a (a + 7) w w1 ∧ (∀ k, ¬ zE k → oA S1 k = oA S k) ∧ (∀ k, k ≠ 6 → oI S1 k = oI S k) ∧ oI S1 6 = nI L ∧ ∀ i, i < L → oA S1 5 i = nI (g i) := by
  have hn := h.n31
  obtain ⟨m0, g0, m1, m2, m3⟩ := zFew G hn
  have key : ∀ (k l : Nat) (w1 : gW) (S1 : oSt), l ≤ 5 → 6 - l < k → zK zE a n T S S1 w w1 → (∀ m g, m < l → (∀ i, i < m → g i < n) → ¬ zAll n T m g) → ∃ L g w3 S3, mX2_findMakers_l2 F (fun v0 w => mX2_findMakers_b35 F v0 w) k a (nI l) w1 = some (nI L, w3) ∧ zMost n T L g ∧ zAt w3 a n T S3 ∧ wF a (a + 7) w w3 ∧ (∀ k, ¬ zE k → oA S3 k = oA S k) ∧ (∀ k, k ≠ 6 → oI S3 k = oI S k) ∧ oI S3 6 = nI L ∧ ∀ i, i < L → oA S3 5 i = nI (g i) := by
    intro k
    induction k with
    | zero => intro l w1 S1 _ q; omega
    | succ k ih =>
      intro l w1 S1 hl hk hK hmin
      show ∃ L g w3 S3, mX2_findMakers_h2 F (mX2_findMakers_l2 F (fun v0 w => mX2_findMakers_b35 F v0 w) k) (fun v0 w => mX2_findMakers_b35 F v0 w) a (nI l) w1 = _ ∧ _
      unfold mX2_findMakers_h2
      have e6 : oI S1 6 = -1 := by rw [hK.2.2.2]; exact h6
      rw [if_neg (show ¬ (5 : Int32) < nI l from fun q => by have := (nI_ltI (a := 5) (b := l) (by omega) (by omega)).mp q; omega), hK.1.1.rI 6 rfl, Option.bind_some, e6, if_neg (show ¬ (0 : Int32) ≤ -1 by decide)]
      obtain ⟨w2, S2, k2, -, r⟩ := c_extend (a := a) hF G hl hmin 7 0 (fun _ => 0) 1 w1 S1 (by omega) (by omega) hK.1 (fun i hi => by omega) (fun z => by
        rw [jB_1]
        constructor
        · intro e; rw [e]; exact zGen.zero
        · intro q; exact q (fun z => z = 0) rfl fun b s _ ⟨i, hi, _⟩ => by omega) (fun i hi => by omega) (fun q => by omega)
      rcases r with ⟨r1, g, r2, r3, r4⟩ | ⟨r1, r2⟩
      · have r1' : mX2_extendMakers F 7 (some a) (nI l) 0 1 w1 = some (1, w2) := r1
        obtain ⟨w3, p1, p2, p3⟩ := k2.1.1.pI lyG_ok (by omega) 6 rfl (nI l)
        rw [r1', Option.bind_some, if_neg (show ¬ (1 : Int32) = 0 by decide), p1, Option.bind_some]
        unfold mX2_findMakers_b29
        have kk := hK.tr k2
        have i6 : oI (uI S2 6 (nI l)) 6 = nI l := by show va_up (oI S2) 6 (nI l) 6 = _; rw [va_upS]
        have i7 : ∀ k, k ≠ 6 → oI (uI S2 6 (nI l)) k = oI S2 k := fun k hk => by show va_up (oI S2) 6 (nI l) k = _; rw [va_upN hk]
        refine ⟨l, g, w3, uI S2 6 (nI l), ?_, ⟨hl, hmin, zExt_0 r2, fun g' hg' => r3 g' (zExt_0 hg')⟩, ⟨p2, kk.1.2.1, kk.1.2.2.1, by rw [i7 7 (by omega)]; exact kk.1.2.2.2.1, kk.1.2.2.2.2⟩, kk.2.1.tr p3, kk.2.2.1, fun k hk => by rw [i7 k hk, kk.2.2.2], i6, r4⟩
        have end2 : mX2_findMakers_b35 F a w3 = some (nI l, w3) := by
          unfold mX2_findMakers_b35
          rw [p2.rI 6 rfl, Option.bind_some, i6]
        rw [nI_1]
        cases k with
        | zero => omega
        | succ k =>
          show mX2_findMakers_h2 F (mX2_findMakers_l2 F (fun v0 w => mX2_findMakers_b35 F v0 w) k) (fun v0 w => mX2_findMakers_b35 F v0 w) a (nI (l + 1)) w3 = _
          unfold mX2_findMakers_h2
          by_cases q : (5 : Int32) < nI (l + 1)
          · rw [if_pos q]; exact end2
          · rw [if_neg q, p2.rI 6 rfl, Option.bind_some, i6, if_pos (nI_pos' (by omega))]
            exact end2
      · have r1' : mX2_extendMakers F 7 (some a) (nI l) 0 1 w1 = some (0, w2) := r1
        rw [r1', Option.bind_some, if_pos rfl]
        unfold mX2_findMakers_b29
        rw [nI_1]
        have nol : ∀ g, (∀ i, i < l → g i < n) → ¬ zAll n T l g := fun g hg ha => by
          obtain ⟨e, he⟩ := zRise G hmin hg ha (fun _ => 0)
          exact r2 e he
        have hl5 : l < 5 := by
          rcases Nat.lt_or_ge l 5 with q | q
          · exact q
          · exfalso
            rcases Nat.lt_or_ge m0 l with t | t
            · exact hmin m0 g0 t m2 m3
            · have : m0 = l := by omega
              subst this
              exact nol g0 m2 m3
        refine ih (l + 1) w2 S2 (by omega) (by omega) (hK.tr k2) fun m g hm hg => ?_
        rcases Nat.lt_or_ge m l with t | t
        · exact hmin m g t hg
        · have : m = l := by omega
          subst this
          exact nol g hg
  unfold mX2_findMakers
  exact key F 0 w S (by omega) (by unfold fF at hF; omega) (zK.rf h) (fun m g hm => by omega)
end CMK4
