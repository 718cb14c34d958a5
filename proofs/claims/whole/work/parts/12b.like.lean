/-! THE CLASS'S MATCHING: as many of each period -/
def lyM : oLy := [(1, 1, 48), (1, 2, 48), (1, 3, 48), (1, 4, 48), (1, 5, 48), (1, 6, 5), (1, 7, 49), (0, 0, 0)]
theorem lyM_ok : oLay lyM 8 := oLay_of (by decide +kernel)
noncomputable def zPn (n : Nat) (T : Nat → Nat → Nat) (k i : Nat) : Nat := nC (fun x => zOr n T x = k) i
def zLike (n : Nat) (T1 T2 : Nat → Nat → Nat) : Prop := ∀ k, zPn n T1 k n = zPn n T2 k n
theorem zPn_s (n : Nat) (T : Nat → Nat → Nat) (k i : Nat) : zPn n T k (i + 1) = zPn n T k i + (if zOr n T i = k then 1 else 0) := by
  unfold zPn
  by_cases h : zOr n T i = k
  · rw [if_pos h, nC_t (P := fun x => zOr n T x = k) h]
  · rw [if_neg h, nC_f (P := fun x => zOr n T x = k) h, Nat.add_zero]
theorem iO_0 {z : Int} (h1 : -1000 < z) (h2 : z < 1000) : Int32.ofInt z = 0 ↔ z = 0 := by
  constructor
  · intro h
    have := congrArg Int32.toInt h
    rw [iO_toInt (by omega) (by omega), Int32.toInt_zero] at this
    exact this
  · intro h; rw [h]; rfl
theorem iO_p1 (z : Int) : Int32.ofInt z + 1 = Int32.ofInt (z + 1) := by rw [Int32.ofInt_add]; rfl
theorem iO_m1 (z : Int) : Int32.ofInt z - 1 = Int32.ofInt (z - 1) := by rw [Int32.ofInt_sub]; rfl
section CMA
variable {F m a1 a2 n : Nat} {T1 T2 : Nat → Nat → Nat} {SM S1 S2 : oSt} {w : gW}
theorem c_likeInPeriods (hF : fF F) (G1 : zGrp n T1) (G2 : zGrp n T2) (hm : oAt 3 lyM w m SM) (h1 : zAt w a1 n T1 S1) (h2 : zAt w a2 n T2 S2) (d1 : a1 + 7 ≤ m ∨ m + 8 ≤ a1) (d2 : a2 + 7 ≤ m ∨ m + 8 ≤ a2) (z1 : zDone n T1 S1) (z2 : zDone n T2 S2) : ∃ w1 f r, mX3_likeInPeriods F m (some a1) (some a2) w = some (r, w1) ∧ oAt 3 lyM w1 m (uA SM 6 f) ∧ wF m (m + 8) w w1 ∧ ((r = 1 ∧ zLike n T1 T2) ∨ (r = 0 ∧ ¬ zLike n T1 T2)) := by
  have hn := h1.n31
  have le1 : ∀ x, x < n → zOr n T1 x ≤ n := fun x hx => (zOr_sp G1 hx).1
  have le2 : ∀ x, x < n → zOr n T2 x ≤ n := fun x hx => (zOr_sp G2 hx).1
  obtain ⟨w2, f2, s1, s2, s3, s4⟩ := c_fill hF lyM_ok hm 6 rfl (by omega) 0
  let dz : Nat → Nat → Int := fun i k => (zPn n T1 k i : Int) - zPn n T2 k i
  have bd : ∀ i k, i ≤ n → -1000 < dz i k ∧ dz i k < 1000 := fun i k hi => by
    have := nC_le (fun x => zOr n T1 x = k) i
    have := nC_le (fun x => zOr n T2 x = k) i
    show -1000 < (zPn n T1 k i : Int) - zPn n T2 k i ∧ (zPn n T1 k i : Int) - zPn n T2 k i < 1000
    unfold zPn
    omega
  have L2 : ∀ (q k : Nat) (w1 : gW) (f : Nat → Int32), k ≤ 49 → 49 - k < q → oAt 3 lyM w1 m (uA SM 6 f) → wF m (m + 8) w w1 → (∀ j, j < 49 → f j = Int32.ofInt (dz n j)) → (∀ j, j < k → dz n j = 0) → ∃ r, mX3_likeInPeriods_l56 F q m (nI k) w1 = some (r, w1) ∧ ((r = 1 ∧ zLike n T1 T2) ∨ (r = 0 ∧ ¬ zLike n T1 T2)) := by
    intro q
    induction q with
    | zero => intro k w1 f _ z; omega
    | succ q ih =>
      intro k w1 f hk hq ho hw hf hl
      show ∃ r, mX3_likeInPeriods_h56 F (mX3_likeInPeriods_l56 F q) m (nI k) w1 = _ ∧ _
      unfold mX3_likeInPeriods_h56
      rw [ho.rA 6 rfl, Option.bind_some, ho.ln 6 rfl, Option.bind_some]
      by_cases e : k = 49
      · rw [e, if_pos (nI_le (Nat.le_refl _) (by omega))]
        refine ⟨1, rfl, Or.inl ⟨rfl, fun j => ?_⟩⟩
        by_cases u : j < 49
        · have : (zPn n T1 j n : Int) - zPn n T2 j n = 0 := hl j (by omega)
          omega
        · have e1 : zPn n T1 j n = 0 := nC_none fun x hx q => by have := le1 x hx; omega
          have e2 : zPn n T2 j n = 0 := nC_none fun x hx q => by have := le2 x hx; omega
          rw [e1, e2]
      · have hk : k < 49 := by omega
        rw [if_neg (nI_ge hk (by omega)), Option.bind_some, ho.ld 6 rfl hk (by omega), Option.bind_some, oA_uA, hf k hk]
        have b := bd n k (Nat.le_refl _)
        by_cases u : dz n k = 0
        · rw [if_pos ((iO_0 b.1 b.2).mpr u), nI_1]
          exact ih (k + 1) w1 f (by omega) (by omega) ho hw hf fun j hj => by
            rcases Nat.lt_or_ge j k with t | t
            · exact hl j t
            · rw [show j = k by omega]; exact u
        · rw [if_neg (fun t => u ((iO_0 b.1 b.2).mp t))]
          refine ⟨0, rfl, Or.inr ⟨rfl, fun q => u ?_⟩⟩
          have := q k
          show (zPn n T1 k n : Int) - zPn n T2 k n = 0
          omega
  have L1 : ∀ (kk : Nat → gW → Option (Int32 × gW)) (q i : Nat) (w1 : gW) (f : Nat → Int32), i ≤ n → n - i < q → oAt 3 lyM w1 m (uA SM 6 f) → wF m (m + 8) w w1 → (∀ j, j < 49 → f j = Int32.ofInt (dz i j)) → ∃ w3 f3, mX3_likeInPeriods_l10 F kk q m (some a1) (some a2) (nI i) w1 = kk m w3 ∧ oAt 3 lyM w3 m (uA SM 6 f3) ∧ wF m (m + 8) w w3 ∧ ∀ j, j < 49 → f3 j = Int32.ofInt (dz n j) := by
    intro kk q
    induction q with
    | zero => intro i w1 f _ z; omega
    | succ q ih =>
      intro i w1 f hi hq ho hw hf
      show ∃ w3 f3, mX3_likeInPeriods_h10 F (mX3_likeInPeriods_l10 F kk q) kk m (some a1) (some a2) (nI i) w1 = _ ∧ _
      unfold mX3_likeInPeriods_h10
      have k1 := h1.keep hw d1
      have k2 := h2.keep hw d2
      rw [k1.sz, Option.bind_some]
      by_cases e : i = n
      · rw [e, if_pos (nI_le (Nat.le_refl _) (by omega))]
        rw [e] at hf
        exact ⟨w1, f, rfl, ho, hw, hf⟩
      · have hi : i < n := by omega
        have o1 := le1 i hi
        have o2 := le2 i hi
        obtain ⟨w4, t1, t2, t3⟩ := ho.st lyM_ok 6 rfl (j := zOr n T1 i) (by omega) (by omega) (f (zOr n T1 i) + 1)
        rw [uA_uA, oA_uA] at t2
        have hw4 := hw.tr t3
        obtain ⟨w5, u1, u2, u3⟩ := t2.st lyM_ok 6 rfl (j := zOr n T2 i) (by omega) (by omega) (upd f (zOr n T1 i) (f (zOr n T1 i) + 1) (zOr n T2 i) - 1)
        rw [uA_uA, oA_uA] at u2
        have k2' := h2.keep hw4 d2
        rw [if_neg (nI_ge hi (by omega)), ho.rA 6 rfl, Option.bind_some, k1.1.rA 4 rfl, Option.bind_some, k1.1.ld 4 rfl (by omega) (by omega), Option.bind_some, (z1 i hi).2, ho.ld 6 rfl (by omega) (by omega), Option.bind_some, oA_uA, t1, Option.bind_some, t2.rA 6 rfl, Option.bind_some, k2'.1.rA 4 rfl, Option.bind_some, k2'.1.ld 4 rfl (by omega) (by omega), Option.bind_some, (z2 i hi).2, t2.ld 6 rfl (by omega) (by omega), Option.bind_some, oA_uA, u1, Option.bind_some, nI_1]
        refine ih (i + 1) w5 _ (by omega) (by omega) u2 (hw4.tr u3) fun j hj => ?_
        have ej : dz (i + 1) j = dz i j + (if zOr n T1 i = j then 1 else 0) - (if zOr n T2 i = j then 1 else 0) := by
          show (zPn n T1 j (i + 1) : Int) - zPn n T2 j (i + 1) = (zPn n T1 j i : Int) - zPn n T2 j i + _ - _
          rw [zPn_s, zPn_s]
          by_cases x1 : zOr n T1 i = j <;> by_cases x2 : zOr n T2 i = j <;> simp only [x1, x2, if_true, if_false] <;> omega
        rw [ej]
        by_cases x2 : zOr n T2 i = j
        · rw [← x2, pk_us, if_pos rfl]
          by_cases x1 : zOr n T1 i = zOr n T2 i
          · rw [x1, pk_us, if_pos rfl, hf _ (by omega), iO_p1, iO_m1]
          · rw [pk_un (Ne.symm x1), if_neg x1, hf _ (by omega), iO_m1, Int.add_zero]
        · rw [pk_un (Ne.symm x2), if_neg x2]
          by_cases x1 : zOr n T1 i = j
          · rw [x1, pk_us, if_pos rfl, hf _ (by omega), iO_p1, Int.sub_zero]
          · rw [pk_un (Ne.symm x1), if_neg x1, hf _ (by omega), Int.add_zero, Int.sub_zero]
  unfold mX3_likeInPeriods
  have s1' : mJ7_fill_53178 F (some (m + 7)) 0 w = some w2 := s1
  rw [hm.rA 6 rfl, Option.bind_some, s1', Option.bind_some]
  obtain ⟨w3, f3, p1, p2, p3, p4⟩ := L1 (fun v0 w => mX3_likeInPeriods_l56 F F v0 0 w) F 0 w2 f2 (by omega) (by unfold fF at hF; omega) s2 s4 (fun j hj => by
    rw [s3 j hj]; rfl)
  obtain ⟨r, r1, r2⟩ := L2 F 0 w3 f3 (by omega) (by unfold fF at hF; omega) p2 p3 p4 (fun j hj => by omega)
  exact ⟨w3, f3, r, Eq.trans p1 r1, p2, p3, r2⟩
end CMA
