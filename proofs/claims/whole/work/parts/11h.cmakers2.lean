/-! THE CLASS'S GROUPS: the search for the least row of makers -/
section CMK2
variable {F a n L : Nat} {T : Nat → Nat → Nat}
abbrev zE (k : Nat) : Prop := k = 1 ∨ k = 5
def zFind (F a n L : Nat) (T : Nat → Nat → Nat) (D : Nat) : Prop := ∀ (d : Nat) (r : Nat → Nat) (v : Int64) (w : gW) (S : oSt), d ≤ L → L - d < D → zAt w a n T S → (∀ i, i < d → oA S 5 i = nI (r i) ∧ r i < n) → (∀ z, jB v z ↔ zGen T (zRow d r) z) → (∀ i, i + 1 < d → r i < r (i + 1)) → (0 < d → 0 < r 0) → ∃ w1 S1, zK zE a n T S S1 w w1 ∧ (∀ i, i < d → oA S1 5 i = nI (r i)) ∧ ((mX2_extendMakers F D (some a) (nI L) (nI d) v w = some (1, w1) ∧ ∃ g, zExt n T L d r g ∧ (∀ g', zExt n T L d r g' → zLex L g g') ∧ ∀ i, i < L → oA S1 5 i = nI (g i)) ∨ (mX2_extendMakers F D (some a) (nI L) (nI d) v w = some (0, w1) ∧ ∀ g, ¬ zExt n T L d r g))
theorem zAll_n (G : zGrp n T) {m : Nat} {r : Nat → Nat} (hr : ∀ i, i < m → r i < n) {v : Int64} (hv : ∀ z, jB v z ↔ zGen T (zRow m r) z) (hn : n ≤ 48) : nC (jB v) 64 = n ↔ zAll n T m r := by
  rw [zGen_cut G (fun s ⟨i, hi, e⟩ => e ▸ hr i hi) hv (by omega)]
  constructor
  · intro h z hz
    apply Classical.byContradiction
    intro q
    have h1 := nC_not (zGen T (zRow m r)) n
    have h2 := nC_drop (P := fun i => ¬ zGen T (zRow m r) i) hz q
    omega
  · intro h; exact nC_all h
theorem c_extend (hF : fF F) (G : zGrp n T) (hL : L ≤ 5) (hmin : ∀ m g, m < L → (∀ i, i < m → g i < n) → ¬ zAll n T m g) : ∀ D, zFind F a n L T D := by
  intro D
  induction D with
  | zero => intro d r v w S _ q; omega
  | succ D IH =>
    intro d r v w S hd hD h hr hv hi1 hi2
    have hn := h.n31
    show ∃ w1 S1, zK zE a n T S S1 w w1 ∧ _ ∧ ((mX2_extendMakers_body F (mX2_extendMakers F D) (some a) (nI L) (nI d) v w = _ ∧ _) ∨ (mX2_extendMakers_body F (mX2_extendMakers F D) (some a) (nI L) (nI d) v w = _ ∧ _))
    unfold mX2_extendMakers_body
    by_cases e : d = L
    · rw [e, if_pos (nI_le (Nat.le_refl _) (by omega))]
      unfold mX2_extendMakers_b10
      have hc : nC (jB v) 64 ≤ 64 := nC_le _ _
      have al := zAll_n G (fun i hi => (hr i hi).2) hv hn
      rw [c_bitCount, Option.bind_some, h.sz, Option.bind_some]
      refine ⟨w, S, zK.rf h, fun i hi => (hr i (by omega)).1, ?_⟩
      by_cases q : nC (jB v) 64 = n
      · left
        refine ⟨if_pos (by show nI _ = nI _; rw [q]), r, ⟨fun _ _ => rfl, fun i hi => (hr i (by omega)).2, fun i hi => hi1 i (by omega), fun h0 => hi2 (by omega), by rw [← e]; exact al.mp q⟩, fun g' hg => Or.inl fun i hi => (hg.1 i (by omega)).symm, fun i hi => (hr i (by omega)).1⟩
      · right
        refine ⟨if_neg (fun t => q ((nI_eq (by omega) (by omega)).mp t)), fun g hg => q (al.mpr fun z hz => ?_)⟩
        have := hg.2.2.2.2 z hz
        refine this.mono ?_
        rintro s ⟨i, hi, hs⟩
        exact ⟨i, by omega, by rw [hs]; exact hg.1 i (by omega)⟩
    · have hdL : d < L := by omega
      have key : ∀ (k x : Nat) (f : Int64) (w1 : gW) (S1 : oSt), x ≤ n → n - x < k → 0 < x → (0 < d → r (d - 1) < x) → zK zE a n T S S1 w w1 → (∀ i, i < d → oA S1 5 i = nI (r i)) → (∀ z, jB v z → jB f z) → (∀ z, jB f z → jB v z ∨ ∃ y, 0 < y ∧ y < x ∧ (0 < d → r (d - 1) < y) ∧ zGen T (zRow (d + 1) (zPut r d y)) z) → (∀ y, 0 < y → y < x → (0 < d → r (d - 1) < y) → ∀ g, ¬ zExt n T L (d + 1) (zPut r d y) g) → ∃ w3 S3, zK zE a n T S S3 w w3 ∧ (∀ i, i < d → oA S3 5 i = nI (r i)) ∧ ((mX2_extendMakers_l54 F (mX2_extendMakers F D) k (some a) (nI L) (nI d) f (nI x) w1 = some (1, w3) ∧ ∃ g, zExt n T L d r g ∧ (∀ g', zExt n T L d r g' → zLex L g g') ∧ ∀ i, i < L → oA S3 5 i = nI (g i)) ∨ (mX2_extendMakers_l54 F (mX2_extendMakers F D) k (some a) (nI L) (nI d) f (nI x) w1 = some (0, w3) ∧ ∀ g, ¬ zExt n T L d r g)) := by
        have up : ∀ g, zExt n T L d r g → 0 < g d ∧ g d < n ∧ (0 < d → r (d - 1) < g d) ∧ zExt n T L (d + 1) (zPut r d (g d)) g := by
          intro g hg
          obtain ⟨e1, e2, e3, e4, e5⟩ := hg
          have hp : 0 < d → r (d - 1) < g d := fun q => by
            have := e3 (d - 1) (by omega)
            rw [show d - 1 + 1 = d by omega, e1 (d - 1) (by omega)] at this
            exact this
          refine ⟨?_, e2 d hdL, hp, fun i hi => ?_, e2, e3, e4, e5⟩
          · rcases Nat.eq_zero_or_pos d with q | q
            · rw [q]; exact e4 (by omega)
            · have := hp q; omega
          · by_cases q : i = d
            · rw [q, zPut_s]
            · rw [zPut_n q]; exact e1 i (by omega)
        intro k
        induction k with
        | zero => intro x f w1 S1 _ q; omega
        | succ k ih =>
          intro x f w1 S1 hx hk hx0 hxr hK hK5 hf1 hf2 hno
          show ∃ w3 S3, zK zE a n T S S3 w w3 ∧ _ ∧ ((mX2_extendMakers_h54 F (mX2_extendMakers F D) (mX2_extendMakers_l54 F (mX2_extendMakers F D) k) (some a) (nI L) (nI d) f (nI x) w1 = _ ∧ _) ∨ (mX2_extendMakers_h54 F (mX2_extendMakers F D) (mX2_extendMakers_l54 F (mX2_extendMakers F D) k) (some a) (nI L) (nI d) f (nI x) w1 = _ ∧ _))
          unfold mX2_extendMakers_h54
          rw [hK.1.sz, Option.bind_some]
          by_cases ex : x = n
          · rw [ex, if_pos (nI_le (Nat.le_refl _) (by omega))]
            refine ⟨w1, S1, hK, hK5, Or.inr ⟨rfl, fun g hg => ?_⟩⟩
            obtain ⟨u1, u2, u3, u4⟩ := up g hg
            exact hno (g d) u1 (by omega) u3 g u4
          · have hx : x < n := by omega
            rw [if_neg (nI_ge hx (by omega))]
            by_cases fb : jB f x
            · rw [if_neg (fun t => (jB_test f (by omega)).mp t fb)]
              unfold mX2_extendMakers_b118
              rw [nI_1]
              refine ih (x + 1) f w1 S1 (by omega) (by omega) (by omega) (fun q => by have := hxr q; omega) hK hK5 hf1 (fun z hz => ?_) (fun y hy0 hy hyr g hg => ?_)
              · rcases hf2 z hz with q | ⟨y, q1, q2, q3, q4⟩
                · exact Or.inl q
                · exact Or.inr ⟨y, q1, by omega, q3, q4⟩
              · rcases Nat.lt_or_ge y x with q | q
                · exact hno y hy0 q hyr g hg
                · have q : y = x := by omega
                  rw [q] at hg
                  have gd : g d = x := by rw [hg.1 d (by omega), zPut_s]
                  have hg0 : zExt n T L d r g := ⟨fun i hi => by rw [hg.1 i (by omega), zPut_n (by omega)], hg.2⟩
                  rcases hf2 x fb with t | ⟨y', t1, t2, t3, t4⟩
                  · exact zExt_held G hmin hdL hg0 (by rw [gd]; exact (hv x).mp t)
                  · exact hno y' t1 t2 t3 _ (zExt_swap G hdL hg t2 t1 (by omega) t3 t4)
            · sorry
      sorry
end CMK2
