/-! THE MODEL: what some elements make -/
def mkF (Z Z1 : zS) : Prop := (∀ k, k ≠ 13 → zA Z1 k = zA Z k) ∧ (∀ k, k ≠ 14 → zI Z1 k = zI Z k) ∧ zB Z1 = zB Z
section MKS
variable {F g n m : Nat} {Z Z1 Z2 : zS} {T : Nat → Nat → Nat} {q0 : Nat → Nat}
theorem mkF.rf : mkF Z Z := ⟨fun _ _ => rfl, fun _ _ => rfl, rfl⟩
theorem mkF.tr (h1 : mkF Z Z1) (h2 : mkF Z1 Z2) : mkF Z Z2 := ⟨fun k hk => (h2.1 k hk).trans (h1.1 k hk), fun k hk => (h2.2.1 k hk).trans (h1.2.1 k hk), h2.2.2.trans h1.2.2⟩
theorem mkF.A (h : mkF Z Z1) (i x : Int) : mkF Z (zuA Z1 13 i x) := h.tr ⟨fun k hk => if_neg hk, fun _ _ => rfl, rfl⟩
theorem mkF.I (h : mkF Z Z1) (x : Int) : mkF Z (zuI Z1 14 x) := h.tr ⟨fun _ _ => rfl, fun k hk => if_neg hk, rfl⟩
theorem mkF.J (h : mkF Z Z1) (k : Nat) (x : Int64) : mkF Z (zuJ Z1 k x) := h.tr ⟨fun _ _ => rfl, fun _ _ => rfl, rfl⟩
theorem yG.of (h : yG Z g n T) (e1 : zA Z1 1 = zA Z 1) (e2 : zA Z1 2 = zA Z 2) : yG Z1 g n T := by
  obtain ⟨a1, a2, a3, a4, a5⟩ := h
  exact ⟨a1, by rw [e1]; exact a2, a3, a4, fun x y hx hy => by rw [e2]; exact a5 x y hx hy⟩
theorem jN_inj {a b : Int64} (h : jN a = jN b) : a = b := by
  have h2 : a.toUInt64 = b.toUInt64 := UInt64.toNat_inj.mp h
  rw [← Int64.toInt64_toUInt64 a, h2, Int64.toInt64_toUInt64]
theorem jB_test1 (v : Int64) {i : Nat} (hi : i < 64) : lg_cmp ((v >>> ((nI i).toInt64 &&& 63)) &&& 1) 1 = 0 ↔ jB v i := by
  have e : ((v >>> ((nI i).toInt64 &&& 63)) &&& 1) = 1 ↔ jN ((v >>> ((nI i).toInt64 &&& 63)) &&& 1) = 1 := ⟨fun q => by rw [q]; rfl, fun q => jN_inj q⟩
  rw [lg_cmp_eq, e, jN_and, show jN 1 = 1 from rfl, Nat.and_one_is_mod, jB_sar v hi]
  rfl
theorem y_isMade {x : Nat} (hx : x < 64) : (jB (zJ Z 15) x → zX7_isMade F (x : Nat) Z = some (1, Z)) ∧ (¬ jB (zJ Z 15) x → zX7_isMade F (x : Nat) Z = some (0, Z)) := by
  unfold zX7_isMade
  rw [zLe_f (by omega), iO_nat]
  exact ⟨fun q => if_pos ((jB_test1 _ hx).mpr q), fun q => if_neg fun u => q ((jB_test1 _ hx).mp u)⟩
/-- on the way: what is made, its bits, how many; what the first p of it reach is there -/
def moI (n m : Nat) (T : Nat → Nat → Nat) (q0 : Nat → Nat) (w : zS) (c p s : Nat) : Prop := zI w 14 = c ∧ zJ w 16 = 0 ∧ nC (jB (zJ w 15)) n = c ∧ ∃ q : Nat → Nat, (∀ i : Nat, i < c → zA w 13 i = q i ∧ q i < n) ∧ (∀ z, jB (zJ w 15) z ↔ ∃ i, i < c ∧ z = q i) ∧ (∀ z, jB (zJ w 15) z → zGen T (zRow m q0) z) ∧ jB (zJ w 15) 0 ∧ p ≤ c ∧ (∀ i j, i < p → j < m → jB (zJ w 15) (T (q i) (q0 j))) ∧ ∀ j, j < s → j < m → p < c ∧ jB (zJ w 15) (T (q p) (q0 j))
def mkD (n m : Nat) (T : Nat → Nat → Nat) (q0 : Nat → Nat) (Z Z1 : zS) : Prop := mkF Z Z1 ∧ zJ Z1 16 = 0 ∧ (∀ z, jB (zJ Z1 15) z ↔ zGen T (zRow m q0) z) ∧ zI Z1 14 = (nC (zGen T (zRow m q0)) n : Nat)
theorem y_makes (hF : fF F) (h : yG Z g n T) (hm : m ≤ 80) (hq : ∀ i : Nat, i < m → zA Z 12 i = q0 i ∧ q0 i < n) : ∃ Z1, zX7_makes F (g : Nat) (m : Nat) Z = some Z1 ∧ mkD n m T q0 Z Z1 := by
  have hn := h.b
  have G := h.G
  unfold zX7_makes
  rw [zPJ_o, zPJ_o, zSt_o (by omega), zPI_o]
  let P : Option zS → Prop := fun o => ∃ Z1, o = some Z1 ∧ mkD n m T q0 Z Z1
  have st : moI n m T q0 (zuI (zuA (zuJ (zuJ Z 15 1) 16 0) 13 0 0) 14 1) 1 0 0 := by
    refine ⟨rfl, rfl, ?_, fun _ => 0, fun i hi => ⟨?_, G.1⟩, fun z => ?_, fun z hz => ?_, (jB_1 0).mpr rfl, by omega, fun i j hi => by omega, fun j hj => by omega⟩
    · show nC (jB 1) n = 1
      rw [nC_drop G.1 ((jB_1 0).mpr rfl), nC_none (fun i _ q => q.2 ((jB_1 i).mp q.1))]
    · show zup (zA Z 13) 0 0 i = _
      rw [show (i : Int) = 0 by omega, zup_s]; rfl
    · show jB 1 z ↔ _
      rw [jB_1]
      exact ⟨fun e => ⟨0, by omega, e⟩, fun ⟨_, _, e⟩ => e⟩
    · have := (jB_1 z).mp hz
      rw [this]; exact zGen.zero
  refine iX7_makes_l24 (I := fun v1 v2 v3 w => g = v1 ∧ m = v2 ∧ mkF Z w ∧ ∃ c p : Nat, p = v3 ∧ moI n m T q0 w c p 0) (μ := fun _ _ v3 _ => (n + 1 - v3).toNat) (P := P) ?_ F _ _ _ _ ⟨rfl, rfl, (((mkF.rf.J 15 1).J 16 0).A 0 0).I 1, 1, 0, rfl, st⟩ (by unfold fF at hF; omega)
  rintro ra _ _ _ w ⟨rfl, rfl, hw, c, p, rfl, hI⟩ ih
  unfold zX7_makes_h24
  have hc : c ≤ n := by rw [← hI.2.2.1]; exact nC_le _ _
  by_cases c1 : p = c
  · obtain ⟨a1, a2, a3, q, b1, b2, b3, b4, b5, b6, b7⟩ := hI
    rw [a1, zLe_t (by omega)]
    refine ⟨w, rfl, hw, a2, fun z => ⟨b3 z, fun hz => ?_⟩, ?_⟩
    · refine hz _ b4 fun a s ha ⟨j, hj, e⟩ => ?_
      obtain ⟨i, hi, e2⟩ := (b2 a).mp ha
      rw [e, e2]; exact b6 i j (by omega) hj
    · rw [a1, ← a3]
      congr 1
      refine nC_congr fun z _ => ⟨b3 z, fun hz => ?_⟩
      refine hz _ b4 fun a s ha ⟨j, hj, e⟩ => ?_
      obtain ⟨i, hi, e2⟩ := (b2 a).mp ha
      rw [e, e2]; exact b6 i j (by omega) hj
  · have hp : p < c := by have := hI.2.2.2; obtain ⟨_, _, _, _, _, b5, _⟩ := this; omega
    rw [hI.1, zLe_f (by omega)]
    refine iX7_makes_l35 (I := fun v1 v2 v3 v4 w => g = v1 ∧ m = v2 ∧ p = v3 ∧ mkF Z w ∧ ∃ c s : Nat, s = v4 ∧ s ≤ m ∧ p < c ∧ moI n m T q0 w c p s) (μ := fun _ _ _ v4 _ => (m - v4).toNat) (P := P) ?_ F _ _ _ _ _ ⟨rfl, rfl, rfl, hw, c, 0, rfl, by omega, hp, hI⟩ (by unfold fF at hF; omega)
    rintro rb _ _ _ _ w ⟨rfl, rfl, rfl, hw, c, s, rfl, hs, hp, hI⟩ ih2
    have hc : c ≤ n := by rw [← hI.2.2.1]; exact nC_le _ _
    obtain ⟨a1, a2, a3, q, b1, b2, b3, b4, b5, b6, b7⟩ := hI
    unfold zX7_makes_h35
    by_cases c2 : s = m
    · rw [zLe_t (by omega)]
      dsimp only
      refine ih _ _ _ _ ⟨rfl, rfl, hw, c, p + 1, by omega, a1, a2, a3, q, b1, b2, b3, b4, by omega, fun i j hi hj => ?_, fun j hj => by omega⟩ (by omega)
      by_cases t : i = p
      · rw [t]; exact (b7 j (by omega) hj).2
      · exact b6 i j (by omega) hj
    · have hsm : s < m := by omega
      obtain ⟨g1, g2⟩ := hq s hsm
      obtain ⟨p1, p2⟩ := b1 p hp
      have hz := G.2.1 _ _ p2 g2
      have hy : yG w g n T := h.of (hw.1 1 (by decide)) (hw.1 2 (by decide))
      rw [zLe_f (by omega), zLd_o (by omega), zLd_o (by omega), p1, hw.1 12 (by decide), g1, zC1_o (hy.mul p2 g2)]
      have im := y_isMade (F := F) (Z := w) (x := T (q p) (q0 s)) (by omega)
      unfold zX7_makes_b130
      by_cases u : jB (zJ w 15) (T (q p) (q0 s))
      · rw [zC1_o (im.1 u), zEq_f (by omega)]
        refine ih2 _ _ _ _ _ ⟨rfl, rfl, rfl, hw, c, s + 1, by omega, by omega, hp, a1, a2, a3, q, b1, b2, b3, b4, b5, b6, fun j hj hj2 => ⟨hp, ?_⟩⟩ (by omega)
        by_cases t : j = s
        · rw [t]; exact u
        · exact (b7 j (by omega) hj2).2
      · rw [zC1_o (im.2 u), zEq_t (by omega), zLe_f (by omega), zPJ_o, iO_nat]
        have bs : ∀ j, jB (zJ w 15 ||| ((1 : Int64) <<< ((nI (T (q p) (q0 s))).toInt64 &&& 63))) j ↔ jB (zJ w 15) j ∨ j = T (q p) (q0 s) := jB_set (zJ w 15) (by omega)
        have mo := nC_more hz u bs
        have hcn2 : c + 1 ≤ n := by rw [← a3, ← mo]; exact nC_le _ _
        unfold zX7_makes_b109
        have a1' : zI (zuJ w 15 (zJ w 15 ||| ((1 : Int64) <<< ((nI (T (q p) (q0 s))).toInt64 &&& 63)))) 14 = c := a1
        rw [a1', zSt_o (by omega), zPI_o]
        unfold zX7_makes_b130
        refine ih2 _ _ _ _ _ ⟨rfl, rfl, rfl, ((hw.J 15 _).A _ _).I _, c + 1, s + 1, by omega, by omega, by omega, by show ((c : Nat) : Int) + 1 = ((c + 1 : Nat) : Int); omega, a2, ?_, fun i => if i = c then T (q p) (q0 s) else q i, fun i hi => ?_, fun z => ?_, fun z hz2 => ?_, (bs 0).mpr (Or.inl b4), by omega, fun i j hi hj => ?_, fun j hj hj2 => ⟨by omega, ?_⟩⟩ (by omega)
        · show nC (jB (zJ w 15 ||| ((1 : Int64) <<< ((nI (T (q p) (q0 s))).toInt64 &&& 63)))) n = c + 1
          rw [mo, a3]
        · show zup (zA w 13) (c : Nat) (T (q p) (q0 s) : Nat) i = ((if i = c then T (q p) (q0 s) else q i : Nat) : Int) ∧ (if i = c then T (q p) (q0 s) else q i) < n
          by_cases t : i = c
          · rw [t, if_pos rfl, zup_s]; exact ⟨rfl, hz⟩
          · rw [if_neg t, zup_n (by omega)]; exact b1 i (by omega)
        · show jB (zJ w 15 ||| ((1 : Int64) <<< ((nI (T (q p) (q0 s))).toInt64 &&& 63))) z ↔ _
          rw [bs, b2]
          constructor
          · rintro (⟨i, hi, hh⟩ | hh)
            · exact ⟨i, by omega, by show z = (if i = c then _ else q i); rw [if_neg (by omega)]; exact hh⟩
            · exact ⟨c, by omega, by show z = (if c = c then _ else q c); rw [if_pos rfl]; exact hh⟩
          · rintro ⟨i, hi, hh⟩
            have hh : z = (if i = c then T (q p) (q0 s) else q i) := hh
            by_cases t : i = c
            · rw [if_pos t] at hh; exact Or.inr hh
            · rw [if_neg t] at hh; exact Or.inl ⟨i, by omega, hh⟩
        · rcases (bs z).mp hz2 with t | t
          · exact b3 z t
          · rw [t]; exact (b3 _ ((b2 _).mpr ⟨p, hp, rfl⟩)).step ⟨s, hsm, rfl⟩
        · refine (bs _).mpr (Or.inl ?_)
          show jB (zJ w 15) (T (if i = c then _ else q i) (q0 j))
          rw [if_neg (by omega)]; exact b6 i j hi hj
        · refine (bs _).mpr ?_
          show jB (zJ w 15) (T (if p = c then _ else q p) (q0 j)) ∨ T (if p = c then _ else q p) (q0 j) = _
          rw [if_neg (by omega)]
          by_cases t : j = s
          · rw [t]; exact Or.inr rfl
          · exact Or.inl (b7 j (by omega) hj2).2
end MKS
