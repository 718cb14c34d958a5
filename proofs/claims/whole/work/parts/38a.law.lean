/-! THE LAW: every script goes through -/
section LAW
variable {F x m L i : Nat} {w : gW} {xs : Nat → Int32} {r : (Option Nat) → (Option Nat) → Int32 → gW → Option Unit}
theorem sc_k {k : Nat} {v : Int32} (hv : v = nI k) (hi : 7 * i + 7 ≤ L) (hk : k < 7) (hL : L ≤ 3584) : gSc L xs (nI (7 * i) + v) = some (xs (7 * i + k)) := by
  unfold gSc
  rw [hv, nI_addk, nI_clamp (by omega), if_neg]
  rintro (q | q)
  · exact nI_pos (by omega) q
  · omega
theorem sc_0 (hi : 7 * i + 7 ≤ L) (hL : L ≤ 3584) : gSc L xs (nI (7 * i)) = some (xs (7 * i)) := by
  unfold gSc
  rw [nI_clamp (by omega), if_neg]
  rintro (q | q)
  · exact nI_pos (by omega) q
  · omega
theorem WI.o6 (h : WI x m w) : gO 6 (some x) w = some x := by
  obtain ⟨C, O, S, Z, gn, gT, gc, ac, hw, hl⟩ := h
  exact hw.gO6
theorem law_step (hF : fG F) (hi : 7 * i + 7 ≤ L) (hL : L ≤ 3584) (h : WI x m w) (hr : ∀ w2, WI x m w2 → r (some x) (some m) (nI (7 * (i + 1))) w2 = some ()) : mL_law_h18 F L xs r (some x) (some m) (nI (7 * i)) w = some () := by
  have hF0 : fF F := by unfold fG at hF; unfold fF; omega
  have s1 := sc_k (xs := xs) (k := 1) (v := (1 : Int32)) rfl hi (by omega) hL
  have s2 := sc_k (xs := xs) (k := 2) (v := (2 : Int32)) rfl hi (by omega) hL
  have s3 := sc_k (xs := xs) (k := 3) (v := (3 : Int32)) rfl hi (by omega) hL
  have s4 := sc_k (xs := xs) (k := 4) (v := (4 : Int32)) rfl hi (by omega) hL
  have s5 := sc_k (xs := xs) (k := 5) (v := (5 : Int32)) rfl hi (by omega) hL
  have s6 := sc_k (xs := xs) (k := 6) (v := (6 : Int32)) rfl hi (by omega) hL
  have o6 := h.o6
  have hb : ∀ w2, WI x m w2 → mL_law_b1082 F L xs r (some x) (some m) (nI (7 * i)) w2 = some () := fun w2 h2 => by
    unfold mL_law_b1082
    rw [show (7 : Int32) = nI 7 from rfl, nI_addk]
    exact hr w2 h2
  have e0 : ¬ Int32.ofNat L - 7 < nI (7 * i) := by
    rw [show Int32.ofNat L = Int32.ofInt (L : Nat) from (iO_nat L).symm, show (7 : Int32) = Int32.ofInt 7 from rfl, ← Int32.ofInt_sub, ← iO_nat, iO_lt (by omega)]
    omega
  unfold mL_law_h18
  rw [if_neg e0, sc_0 hi hL, Option.bind_some]
  by_cases c0 : (xs (7 * i) &&& (31 : Int32)) = (0 : Int32)
  · have hk := k_cyclic (F := F) hF0 h (i32_of (xs (7 * i + 1)))
    simp only [Int32.ofInt_toInt] at hk
    obtain ⟨v, w1, w2, p1, p2, p3, p4⟩ := hk
    dsimp only at p1 p2
    rw [if_pos c0]
    simp only [s1, o6, Option.bind_some, p1, p2, p3]
    rw [if_pos True.intro]
    exact hb w2 p4
  rw [if_neg c0]
  by_cases c1 : (xs (7 * i) &&& (31 : Int32)) = (1 : Int32)
  · have hk := k_dihedral (F := F) hF0 h (i32_of (xs (7 * i + 1)))
    simp only [Int32.ofInt_toInt] at hk
    obtain ⟨v, w1, w2, p1, p2, p3, p4⟩ := hk
    dsimp only at p1 p2
    rw [if_pos c1]
    simp only [s1, o6, Option.bind_some, p1, p2, p3]
    rw [if_pos True.intro]
    exact hb w2 p4
  rw [if_neg c1]
  by_cases c2 : (xs (7 * i) &&& (31 : Int32)) = (2 : Int32)
  · have hk := k_quaternions (F := F) hF0 h
    obtain ⟨v, w1, w2, p1, p2, p3, p4⟩ := hk
    dsimp only at p1 p2
    rw [if_pos c2]
    simp only [o6, Option.bind_some, p1, p2, p3]
    rw [if_pos True.intro]
    exact hb w2 p4
  rw [if_neg c2]
  by_cases c3 : (xs (7 * i) &&& (31 : Int32)) = (3 : Int32)
  · have hk := k_pair (F := F) hF0 h (i32_of (xs (7 * i + 1))) (i32_of (xs (7 * i + 2)))
    simp only [Int32.ofInt_toInt] at hk
    obtain ⟨v, w1, w2, p1, p2, p3, p4⟩ := hk
    dsimp only at p1 p2
    rw [if_pos c3]
    simp only [s1, s2, o6, Option.bind_some, p1, p2, p3]
    rw [if_pos True.intro]
    exact hb w2 p4
  rw [if_neg c3]
  by_cases c4 : (xs (7 * i) &&& (31 : Int32)) = (4 : Int32)
  · have hk := k_sheet (F := F) hF0 h (i32_of (xs (7 * i + 1))) (i32_of (xs (7 * i + 2))) (i32_of (xs (7 * i + 3)))
    simp only [Int32.ofInt_toInt] at hk
    obtain ⟨v, w1, w2, p1, p2, p3, p4⟩ := hk
    dsimp only at p1 p2
    rw [if_pos c4]
    simp only [s1, s2, s3, o6, Option.bind_some, p1, p2, p3]
    rw [if_pos True.intro]
    exact hb w2 p4
  rw [if_neg c4]
  by_cases c5 : (xs (7 * i) &&& (31 : Int32)) = (5 : Int32)
  · have hk := k_lay (F := F) hF0 h (i32_of (xs (7 * i + 1))) (i32_of (xs (7 * i + 2))) (i32_of (xs (7 * i + 3)))
    simp only [Int32.ofInt_toInt] at hk
    obtain ⟨v, w1, w2, p1, p2, p3, p4⟩ := hk
    dsimp only at p1 p2
    rw [if_pos c5]
    simp only [s1, s2, s3, o6, Option.bind_some, p1, p2, p3]
    rw [if_pos True.intro]
    exact hb w2 p4
  rw [if_neg c5]
  by_cases c6 : (xs (7 * i) &&& (31 : Int32)) = (6 : Int32)
  · have hk := k_table (F := F) hF0 h (i32_of (xs (7 * i + 1))) (i32_of (xs (7 * i + 2))) (i32_of (xs (7 * i + 3)))
    simp only [Int32.ofInt_toInt] at hk
    obtain ⟨v, w1, w2, p1, p2, p3, p4⟩ := hk
    dsimp only at p1 p2
    rw [if_pos c6]
    simp only [s1, s2, s3, o6, Option.bind_some, p1, p2, p3]
    rw [if_pos True.intro]
    exact hb w2 p4
  rw [if_neg c6]
  by_cases c7 : (xs (7 * i) &&& (31 : Int32)) = (7 : Int32)
  · have hk := k_drop (F := F) hF0 h
    obtain ⟨v, w1, w2, p1, p2, p3, p4⟩ := hk
    dsimp only at p1 p2
    rw [if_pos c7]
    simp only [o6, Option.bind_some, p1, p2, p3]
    rw [if_pos True.intro]
    exact hb w2 p4
  rw [if_neg c7]
  by_cases c8 : (xs (7 * i) &&& (31 : Int32)) = (8 : Int32)
  · have hk := k_order (F := F) h (i32_of (xs (7 * i + 1)))
    simp only [Int32.ofInt_toInt] at hk
    obtain ⟨v, w1, w2, p1, p2, p3, p4⟩ := hk
    dsimp only at p1 p2
    rw [if_pos c8]
    simp only [s1, o6, Option.bind_some, p1, p2, p3]
    rw [if_pos True.intro]
    exact hb w2 p4
  rw [if_neg c8]
  by_cases c9 : (xs (7 * i) &&& (31 : Int32)) = (9 : Int32)
  · have hk := k_product (F := F) h (i32_of (xs (7 * i + 1))) (i32_of (xs (7 * i + 2))) (i32_of (xs (7 * i + 3)))
    simp only [Int32.ofInt_toInt] at hk
    obtain ⟨v, w1, w2, p1, p2, p3, p4⟩ := hk
    dsimp only at p1 p2
    rw [if_pos c9]
    simp only [s1, s2, s3, o6, Option.bind_some, p1, p2, p3]
    rw [if_pos True.intro]
    exact hb w2 p4
  rw [if_neg c9]
  by_cases c10 : (xs (7 * i) &&& (31 : Int32)) = (10 : Int32)
  · have hk := k_element (F := F) hF0 h (i32_of (xs (7 * i + 1))) (i32_of (xs (7 * i + 2))) (i32_of (xs (7 * i + 3)))
    simp only [Int32.ofInt_toInt] at hk
    obtain ⟨v, w1, w2, p1, p2, p3, p4⟩ := hk
    dsimp only at p1 p2
    rw [if_pos c10]
    simp only [s1, s2, s3, o6, Option.bind_some, p1, p2, p3]
    rw [if_pos True.intro]
    exact hb w2 p4
  rw [if_neg c10]
  by_cases c11 : (xs (7 * i) &&& (31 : Int32)) = (11 : Int32)
  · have hk := k_about (F := F) hF0 h (i32_of (xs (7 * i + 1))) (i32_of (xs (7 * i + 2)))
    simp only [Int32.ofInt_toInt] at hk
    obtain ⟨v, w1, w2, p1, p2, p3, p4⟩ := hk
    dsimp only at p1 p2
    rw [if_pos c11]
    simp only [s1, s2, o6, Option.bind_some, p1, p2, p3]
    rw [if_pos True.intro]
    exact hb w2 p4
  rw [if_neg c11]
  by_cases c12 : (xs (7 * i) &&& (31 : Int32)) = (12 : Int32)
  · have hk := k_made (F := F) hF0 h (i32_of (xs (7 * i + 1))) (i32_of (xs (7 * i + 2))) (i32_of (xs (7 * i + 3)))
    simp only [Int32.ofInt_toInt] at hk
    obtain ⟨v, w1, w2, p1, p2, p3, p4⟩ := hk
    dsimp only at p1 p2
    rw [if_pos c12]
    simp only [s1, s2, s3, o6, Option.bind_some, p1, p2, p3]
    rw [if_pos True.intro]
    exact hb w2 p4
  rw [if_neg c12]
  by_cases c13 : (xs (7 * i) &&& (31 : Int32)) = (13 : Int32)
  · have hk := k_same (F := F) hF h (i32_of (xs (7 * i + 1))) (i32_of (xs (7 * i + 2))) (i32_of (xs (7 * i + 3)))
    simp only [Int32.ofInt_toInt] at hk
    obtain ⟨v, w1, w2, p1, p2, p3, p4⟩ := hk
    dsimp only at p1 p2
    rw [if_pos c13]
    simp only [s1, s2, s3, o6, Option.bind_some, p1, p2, p3]
    rw [if_pos True.intro]
    exact hb w2 p4
  rw [if_neg c13]
  by_cases c14 : (xs (7 * i) &&& (31 : Int32)) = (14 : Int32)
  · have hk := k_module (F := F) hF0 h (i32_of (xs (7 * i + 1))) (i32_of (xs (7 * i + 2))) (i32_of (xs (7 * i + 3)))
    simp only [Int32.ofInt_toInt] at hk
    obtain ⟨v, w1, w2, p1, p2, p3, p4⟩ := hk
    dsimp only at p1 p2
    rw [if_pos c14]
    simp only [s1, s2, s3, o6, Option.bind_some, p1, p2, p3]
    rw [if_pos True.intro]
    exact hb w2 p4
  rw [if_neg c14]
  by_cases c15 : (xs (7 * i) &&& (31 : Int32)) = (15 : Int32)
  · have hk := k_acts (F := F) hF0 h (i32_of (xs (7 * i + 1))) (i32_of (xs (7 * i + 2))) (i32_of (xs (7 * i + 3))) (i32_of (xs (7 * i + 4))) (i32_of (xs (7 * i + 5))) (i32_of (xs (7 * i + 6)))
    simp only [Int32.ofInt_toInt] at hk
    obtain ⟨v, w1, w2, p1, p2, p3, p4⟩ := hk
    dsimp only at p1 p2
    rw [if_pos c15]
    simp only [s1, s2, s3, s4, s5, s6, o6, Option.bind_some, p1, p2, p3]
    rw [if_pos True.intro]
    exact hb w2 p4
  rw [if_neg c15]
  by_cases c16 : (xs (7 * i) &&& (31 : Int32)) = (16 : Int32)
  · have hk := k_sound (F := F) hF0 h (i32_of (xs (7 * i + 1)))
    simp only [Int32.ofInt_toInt] at hk
    obtain ⟨v, w1, w2, p1, p2, p3, p4⟩ := hk
    dsimp only at p1 p2
    rw [if_pos c16]
    simp only [s1, o6, Option.bind_some, p1, p2, p3]
    rw [if_pos True.intro]
    exact hb w2 p4
  rw [if_neg c16]
  by_cases c17 : (xs (7 * i) &&& (31 : Int32)) = (17 : Int32)
  · have hk := k_dimension (F := F) hF0 h (i32_of (xs (7 * i + 1))) (i32_of (xs (7 * i + 2)))
    simp only [Int32.ofInt_toInt] at hk
    obtain ⟨v, w1, w2, p1, p2, p3, p4⟩ := hk
    dsimp only at p1 p2
    rw [if_pos c17]
    simp only [s1, s2, o6, Option.bind_some, p1, p2, p3]
    rw [if_pos True.intro]
    exact hb w2 p4
  rw [if_neg c17]
  by_cases c18 : (xs (7 * i) &&& (31 : Int32)) = (18 : Int32)
  · have hk := k_twist (F := F) hF0 h (i32_of (xs (7 * i + 1))) (i32_of (xs (7 * i + 2))) (i32_of (xs (7 * i + 3))) (i32_of (xs (7 * i + 4))) (i32_of (xs (7 * i + 5)))
    simp only [Int32.ofInt_toInt] at hk
    obtain ⟨v, w1, w2, p1, p2, p3, p4⟩ := hk
    dsimp only at p1 p2
    rw [if_pos c18]
    simp only [s1, s2, s3, s4, s5, o6, Option.bind_some, p1, p2, p3]
    rw [if_pos True.intro]
    exact hb w2 p4
  rw [if_neg c18]
  by_cases c19 : (xs (7 * i) &&& (31 : Int32)) = (19 : Int32)
  · have hk := k_over (F := F) hF0 h (i32_of (xs (7 * i + 1))) (i32_of (xs (7 * i + 2)))
    simp only [Int32.ofInt_toInt] at hk
    obtain ⟨v, w1, w2, p1, p2, p3, p4⟩ := hk
    dsimp only at p1 p2
    rw [if_pos c19]
    simp only [s1, s2, o6, Option.bind_some, p1, p2, p3]
    rw [if_pos True.intro]
    exact hb w2 p4
  rw [if_neg c19]
  by_cases c20 : (xs (7 * i) &&& (31 : Int32)) = (20 : Int32)
  · have hk := k_classOf (F := F) hF0 h (i32_of (xs (7 * i + 1))) (i32_of (xs (7 * i + 2))) (i32_of (xs (7 * i + 3)))
    simp only [Int32.ofInt_toInt] at hk
    obtain ⟨v, w1, w2, p1, p2, p3, p4⟩ := hk
    dsimp only at p1 p2
    rw [if_pos c20]
    simp only [s1, s2, s3, o6, Option.bind_some, p1, p2, p3]
    rw [if_pos True.intro]
    exact hb w2 p4
  rw [if_neg c20]
  by_cases c21 : (xs (7 * i) &&& (31 : Int32)) = (21 : Int32)
  · have hk := k_parts (F := F) hF0 h (i32_of (xs (7 * i + 1))) (i32_of (xs (7 * i + 2)))
    simp only [Int32.ofInt_toInt] at hk
    obtain ⟨v, w1, w2, p1, p2, p3, p4⟩ := hk
    dsimp only at p1 p2
    rw [if_pos c21]
    simp only [s1, s2, o6, Option.bind_some, p1, p2, p3]
    rw [if_pos True.intro]
    exact hb w2 p4
  rw [if_neg c21]
  by_cases c22 : (xs (7 * i) &&& (31 : Int32)) = (22 : Int32)
  · have hk := k_sum (F := F) hF0 h (i32_of (xs (7 * i + 1))) (i32_of (xs (7 * i + 2))) (i32_of (xs (7 * i + 3)))
    simp only [Int32.ofInt_toInt] at hk
    obtain ⟨v, w1, w2, p1, p2, p3, p4⟩ := hk
    dsimp only at p1 p2
    rw [if_pos c22]
    simp only [s1, s2, s3, o6, Option.bind_some, p1, p2, p3]
    rw [if_pos True.intro]
    exact hb w2 p4
  rw [if_neg c22]
  by_cases c23 : (xs (7 * i) &&& (31 : Int32)) = (23 : Int32)
  · have hk := k_times (F := F) hF0 h (i32_of (xs (7 * i + 1))) (i32_of (xs (7 * i + 2))) (i32_of (xs (7 * i + 3)))
    simp only [Int32.ofInt_toInt] at hk
    obtain ⟨v, w1, w2, p1, p2, p3, p4⟩ := hk
    dsimp only at p1 p2
    rw [if_pos c23]
    simp only [s1, s2, s3, o6, Option.bind_some, p1, p2, p3]
    rw [if_pos True.intro]
    exact hb w2 p4
  rw [if_neg c23]
  by_cases c24 : (xs (7 * i) &&& (31 : Int32)) = (24 : Int32)
  · have hk := k_count (F := F) h (i32_of (xs (7 * i + 1)))
    simp only [Int32.ofInt_toInt] at hk
    obtain ⟨v, w1, w2, p1, p2, p3, p4⟩ := hk
    dsimp only at p1 p2
    rw [if_pos c24]
    simp only [s1, o6, Option.bind_some, p1, p2, p3]
    rw [if_pos True.intro]
    exact hb w2 p4
  rw [if_neg c24]
  by_cases c25 : (xs (7 * i) &&& (31 : Int32)) = (25 : Int32)
  · have hk := k_leave (F := F) h
    obtain ⟨v, w1, w2, p1, p2, p3, p4⟩ := hk
    dsimp only at p1 p2
    rw [if_pos c25]
    simp only [o6, Option.bind_some, p1, p2, p3]
    rw [if_pos True.intro]
    exact hb w2 p4
  rw [if_neg c25]
  exact hb w h
theorem law_loop (hF : fG F) (hL : L ≤ 3584) : ∀ (n i : Nat) (w : gW), i ≤ 512 → 513 ≤ n + i → WI x m w → mL_law_l18 F L xs n (some x) (some m) (nI (7 * i)) w = some () := by
  intro n
  induction n with
  | zero => intro i w h1 h2 _; omega
  | succ n ih =>
    intro i w h1 h2 h
    show mL_law_h18 F L xs (mL_law_l18 F L xs n) (some x) (some m) (nI (7 * i)) w = some ()
    by_cases c : 7 * i + 7 ≤ L
    · exact law_step hF c hL h fun w2 hw2 => ih (i + 1) w2 (by omega) (by omega) hw2
    · unfold mL_law_h18
      rw [if_pos]
      rw [show Int32.ofNat L = Int32.ofInt (L : Nat) from (iO_nat L).symm, show (7 : Int32) = Int32.ofInt 7 from rfl, ← Int32.ofInt_sub, ← iO_nat, iO_lt (by omega)]
      omega
end LAW
