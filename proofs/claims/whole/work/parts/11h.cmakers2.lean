/-! THE CLASS'S GROUPS: the search for the least row of makers -/
theorem nI_prd {d : Nat} (h : 0 < d) : nI d - 1 = nI (d - 1) := by
  have := iO_sub d 1
  rw [show nI 1 = (1 : Int32) from rfl] at this
  rw [this, ← iO_nat]
  congr 1
  omega
section CMK2
variable {F a n L : Nat} {T : Nat → Nat → Nat}
abbrev zE (k : Nat) : Prop := k = 1 ∨ k = 5
def zFind (F a n L : Nat) (T : Nat → Nat → Nat) (D : Nat) : Prop := ∀ (d : Nat) (r : Nat → Nat) (v : Int64) (w : gW) (S : oSt), d ≤ L → L - d < D → zAt w a n T S → (∀ i, i < d → oA S 5 i = nI (r i) ∧ r i < n) → (∀ z, jB v z ↔ zGen T (zRow d r) z) → (∀ i, i + 1 < d → r i < r (i + 1)) → (0 < d → 0 < r 0) → ∃ w1 S1, zK zE a n T S S1 w w1 ∧ (∀ i, i < d → oA S1 5 i = nI (r i)) ∧ ((mX2_extendMakers F D (some a) (nI L) (nI d) v w = some (1, w1) ∧ ∃ g, zExt n T L d r g ∧ (∀ g', zExt n T L d r g' → zLex L g g') ∧ ∀ i, i < L → oA S1 5 i = nI (g i)) ∨ (mX2_extendMakers F D (some a) (nI L) (nI d) v w = some (0, w1) ∧ ∀ g, ¬ zExt n T L d r g))
theorem zAll_n (G : zGrp n T) {m : Nat} {r : Nat → Nat} (hr : ∀ i, i < m → r i < n) {v : Int64} (hv : ∀ z, jB v z ↔ zGen T (zRow m r) z) (hn : n ≤ 48) : nC (jB v) 64 = n ↔ zAll n T m r := by
  rw [zGen_cut G (fun s ⟨i, hi, e⟩ => e ▸ hr i hi) hv (by omega)]
  constructor
  · intro h z hz
    apply Classical.byContradiction
    intro q
    have h1 := nC_not (zGen T (zRow m r)) n
    have h2 := nC_drop (P := fun i => ¬ zGen T (zRow m r) i) hz q
    omega
  · intro h; exact nC_all h
theorem c_extend (hF : fF F) (G : zGrp n T) (hL : L ≤ 5) (hmin : ∀ m g, m < L → (∀ i, i < m → g i < n) → ¬ zAll n T m g) : ∀ D, zFind F a n L T D := by
  intro D
  induction D with
  | zero => intro d r v w S _ q; omega
  | succ D IH =>
    intro d r v w S hd hD h hr hv hi1 hi2
    have hn := h.n31
    show ∃ w1 S1, zK zE a n T S S1 w w1 ∧ _ ∧ ((mX2_extendMakers_body F (mX2_extendMakers F D) (some a) (nI L) (nI d) v w = _ ∧ _) ∨ (mX2_extendMakers_body F (mX2_extendMakers F D) (some a) (nI L) (nI d) v w = _ ∧ _))
    unfold mX2_extendMakers_body
    by_cases e : d = L
    · rw [e, if_pos (nI_le (Nat.le_refl _) (by omega))]
      unfold mX2_extendMakers_b10
      have hc : nC (jB v) 64 ≤ 64 := nC_le _ _
      have al := zAll_n G (fun i hi => (hr i hi).2) hv hn
      rw [c_bitCount, Option.bind_some, h.sz, Option.bind_some]
      refine ⟨w, S, zK.rf h, fun i hi => (hr i (by omega)).1, ?_⟩
      by_cases q : nC (jB v) 64 = n
      · left
        refine ⟨if_pos (by show nI _ = nI _; rw [q]), r, ⟨fun _ _ => rfl, fun i hi => (hr i (by omega)).2, fun i hi => hi1 i (by omega), fun h0 => hi2 (by omega), by rw [← e]; exact al.mp q⟩, fun g' hg => Or.inl fun i hi => (hg.1 i (by omega)).symm, fun i hi => (hr i (by omega)).1⟩
      · right
        refine ⟨if_neg (fun t => q ((nI_eq (by omega) (by omega)).mp t)), fun g hg => q (al.mpr fun z hz => ?_)⟩
        have := hg.2.2.2.2 z hz
        refine this.mono ?_
        rintro s ⟨i, hi, hs⟩
        exact ⟨i, by omega, by rw [hs]; exact hg.1 i (by omega)⟩
    · have hdL : d < L := by omega
      have key : ∀ (k x : Nat) (f : Int64) (w1 : gW) (S1 : oSt), x ≤ n → n - x < k → 0 < x → (0 < d → r (d - 1) < x) → zK zE a n T S S1 w w1 → (∀ i, i < d → oA S1 5 i = nI (r i)) → (∀ z, jB v z → jB f z) → (∀ z, jB f z → jB v z ∨ ∃ y, 0 < y ∧ y < x ∧ (0 < d → r (d - 1) < y) ∧ zGen T (zRow (d + 1) (zPut r d y)) z) → (∀ y, 0 < y → y < x → (0 < d → r (d - 1) < y) → ∀ g, ¬ zExt n T L (d + 1) (zPut r d y) g) → ∃ w3 S3, zK zE a n T S S3 w w3 ∧ (∀ i, i < d → oA S3 5 i = nI (r i)) ∧ ((mX2_extendMakers_l54 F (mX2_extendMakers F D) k (some a) (nI L) (nI d) f (nI x) w1 = some (1, w3) ∧ ∃ g, zExt n T L d r g ∧ (∀ g', zExt n T L d r g' → zLex L g g') ∧ ∀ i, i < L → oA S3 5 i = nI (g i)) ∨ (mX2_extendMakers_l54 F (mX2_extendMakers F D) k (some a) (nI L) (nI d) f (nI x) w1 = some (0, w3) ∧ ∀ g, ¬ zExt n T L d r g)) := by
        have up : ∀ g, zExt n T L d r g → 0 < g d ∧ g d < n ∧ (0 < d → r (d - 1) < g d) ∧ zExt n T L (d + 1) (zPut r d (g d)) g := by
          intro g hg
          obtain ⟨e1, e2, e3, e4, e5⟩ := hg
          have hp : 0 < d → r (d - 1) < g d := fun q => by
            have := e3 (d - 1) (by omega)
            rw [show d - 1 + 1 = d by omega, e1 (d - 1) (by omega)] at this
            exact this
          refine ⟨?_, e2 d hdL, hp, fun i hi => ?_, e2, e3, e4, e5⟩
          · rcases Nat.eq_zero_or_pos d with q | q
            · rw [q]; exact e4 (by omega)
            · have := hp q; omega
          · by_cases q : i = d
            · rw [q, zPut_s]
            · rw [zPut_n q]; exact e1 i (by omega)
        intro k
        induction k with
        | zero => intro x f w1 S1 _ q; omega
        | succ k ih =>
          intro x f w1 S1 hx hk hx0 hxr hK hK5 hf1 hf2 hno
          show ∃ w3 S3, zK zE a n T S S3 w w3 ∧ _ ∧ ((mX2_extendMakers_h54 F (mX2_extendMakers F D) (mX2_extendMakers_l54 F (mX2_extendMakers F D) k) (some a) (nI L) (nI d) f (nI x) w1 = _ ∧ _) ∨ (mX2_extendMakers_h54 F (mX2_extendMakers F D) (mX2_extendMakers_l54 F (mX2_extendMakers F D) k) (some a) (nI L) (nI d) f (nI x) w1 = _ ∧ _))
          unfold mX2_extendMakers_h54
          rw [hK.1.sz, Option.bind_some]
          by_cases ex : x = n
          · rw [ex, if_pos (nI_le (Nat.le_refl _) (by omega))]
            refine ⟨w1, S1, hK, hK5, Or.inr ⟨rfl, fun g hg => ?_⟩⟩
            obtain ⟨u1, u2, u3, u4⟩ := up g hg
            exact hno (g d) u1 (by omega) u3 g u4
          · have hx : x < n := by omega
            rw [if_neg (nI_ge hx (by omega))]
            by_cases fb : jB f x
            · rw [if_neg (fun t => (jB_test f (by omega)).mp t fb)]
              unfold mX2_extendMakers_b118
              rw [nI_1]
              refine ih (x + 1) f w1 S1 (by omega) (by omega) (by omega) (fun q => by have := hxr q; omega) hK hK5 hf1 (fun z hz => ?_) (fun y hy0 hy hyr g hg => ?_)
              · rcases hf2 z hz with q | ⟨y, q1, q2, q3, q4⟩
                · exact Or.inl q
                · exact Or.inr ⟨y, q1, by omega, q3, q4⟩
              · rcases Nat.lt_or_ge y x with q | q
                · exact hno y hy0 q hyr g hg
                · have q : y = x := by omega
                  rw [q] at hg
                  have gd : g d = x := by rw [hg.1 d (by omega), zPut_s]
                  have hg0 : zExt n T L d r g := ⟨fun i hi => by rw [hg.1 i (by omega), zPut_n (by omega)], hg.2⟩
                  rcases hf2 x fb with t | ⟨y', t1, t2, t3, t4⟩
                  · exact zExt_held G hmin hdL hg0 (by rw [gd]; exact (hv x).mp t)
                  · exact hno y' t1 t2 t3 _ (zExt_swap G hdL hg t2 t1 (by omega) t3 t4)
            · rw [if_pos ((jB_test f (by omega)).mpr fb), hK.1.1.rA 5 rfl, Option.bind_some]
              obtain ⟨w2, s1, s2⟩ := hK.st (k := 5) rfl (Or.inr rfl) (by omega) (j := d) (by omega) (by omega) (nI x)
              have s3 : ∀ i, i < d + 1 → oA (uA S1 5 (upd (oA S1 5) d (nI x))) 5 i = nI (zPut r d x i) := fun i hi => by
                rw [oA_uA]
                by_cases q : i = d
                · rw [q, pk_us, zPut_s]
                · rw [pk_un q, zPut_n q]; exact hK5 i (by omega)
              have s4 : ∀ i, i < d + 1 → zPut r d x i < n := fun i hi => by
                by_cases q : i = d
                · rw [q, zPut_s]; exact hx
                · rw [zPut_n q]; exact (hr i (by omega)).2
              obtain ⟨w4, S4, v4, p1, p2, p3⟩ := c_span (m := d + 1) (g := zPut r d x) hF G s2.1 (k' := 5) (off := 6) (len := 5) rfl (by omega) (by omega) (by omega) (by omega) (fun j hj => ⟨s4 j hj, s3 j hj⟩)
              rw [s1, Option.bind_some, s2.1.1.rA 5 rfl, Option.bind_some, s2.1.o, Option.bind_some, nI_1, p1, Option.bind_some]
              obtain ⟨w5, S5, r1, r2, r3⟩ := IH (d + 1) (zPut r d x) v4 w4 S4 (by omega) (by omega) p2.1 (fun i hi => ⟨by rw [p2.2.2.1 5 (by omega)]; exact s3 i hi, s4 i hi⟩) p3 (fun i hi => by
                rw [zPut_n (by omega)]
                by_cases q : i + 1 = d
                · rw [q, zPut_s]
                  have := hxr (by omega)
                  rw [show d - 1 = i by omega] at this; exact this
                · rw [zPut_n q]; exact hi1 i (by omega)) (fun _ => by
                by_cases q : 0 = d
                · rw [← q, zPut_s]; exact hx0
                · rw [zPut_n q]; exact hi2 (by omega))
              have kk : zK zE a n T S S5 w w5 := (s2.tr (p2.zK.wide fun k q => Or.inl q)).tr r1
              have r5 : ∀ i, i < d → oA S5 5 i = nI (r i) := fun i hi => by rw [r2 i (by omega), zPut_n (by omega)]
              rcases r3 with ⟨t1, g, t2, t3, t4⟩ | ⟨t1, t2⟩
              · rw [t1, Option.bind_some, if_neg (show ¬ (1 : Int32) = 0 by decide)]
                have hg0 : zExt n T L d r g := ⟨fun i hi => by rw [t2.1 i (by omega), zPut_n (by omega)], t2.2⟩
                have gd : g d = x := by rw [t2.1 d (by omega), zPut_s]
                refine ⟨w5, S5, kk, r5, Or.inl ⟨rfl, g, hg0, fun g' hg' => ?_, t4⟩⟩
                obtain ⟨u1, u2, u3, u4⟩ := up g' hg'
                rcases Nat.lt_trichotomy (g' d) x with q | q | q
                · exact (hno (g' d) u1 q u3 g' u4).elim
                · rw [q] at u4; exact t3 g' u4
                · exact Or.inr ⟨d, hdL, fun i hi => by rw [hg0.1 i hi, hg'.1 i hi], by omega⟩
              · rw [t1, Option.bind_some, if_pos rfl]
                unfold mX2_extendMakers_b118
                rw [nI_1]
                refine ih (x + 1) (f ||| v4) w5 S5 (by omega) (by omega) (by omega) (fun q => by have := hxr q; omega) kk r5 (fun z hz => (jB_or _ _ z).mpr (Or.inl (hf1 z hz))) (fun z hz => ?_) (fun y hy0 hy hyr g hg => ?_)
                · rcases (jB_or _ _ z).mp hz with q | q
                  · rcases hf2 z q with q | ⟨y, q1, q2, q3, q4⟩
                    · exact Or.inl q
                    · exact Or.inr ⟨y, q1, by omega, q3, q4⟩
                  · exact Or.inr ⟨x, hx0, by omega, hxr, (p3 z).mp q⟩
                · rcases Nat.lt_or_ge y x with q | q
                  · exact hno y hy0 q hyr g hg
                  · rw [show y = x by omega] at hg; exact t2 g hg
      rw [if_neg (nI_ge hdL (by omega)), if_pos (show nI d < (5 : Int32) from (nI_ltI (a := d) (b := 5) (by omega) (by omega)).mpr (by omega))]
      by_cases d0 : d = 0
      · rw [if_pos (show nI d = 0 by rw [d0]; rfl)]
        unfold mX2_extendMakers_b48
        exact key F 1 v w S (by have := G.1; omega) (by unfold fF at hF; omega) (by omega) (by omega) (zK.rf h) (fun i hi => (hr i hi).1) (fun z hz => hz) (fun z hz => Or.inl hz) (fun y _ _ => by omega)
      · rw [if_neg (nI_ne0 (by omega) (by omega)), h.1.rA 5 rfl, Option.bind_some, nI_prd (by omega), h.1.ld 5 rfl (by omega) (by omega), Option.bind_some, (hr (d - 1) (by omega)).1]
        unfold mX2_extendMakers_b48
        rw [nI_1]
        have := (hr (d - 1) (by omega)).2
        exact key F (r (d - 1) + 1) v w S (by omega) (by unfold fF at hF; omega) (by omega) (by omega) (zK.rf h) (fun i hi => (hr i hi).1) (fun z hz => hz) (fun z hz => Or.inl hz) (fun y _ _ q => by have := q (by omega); omega)
end CMK2
