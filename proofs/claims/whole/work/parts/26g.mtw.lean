/-! THE MODEL: lacks, parts, sum, times, twist -/
section MTW
variable {F m g n r : Nat} {Z Z' : zS} {T : Nat → Nat → Nat} {M : Nat → Nat → Nat → Int}
theorem sdV_b {n p r : Nat} {T : Nat → Nat → Nat} {M : Nat → Nat → Nat → Int} (hn : n ≤ 8) : 0 ≤ sdV n p r T M ∧ sdV n p r T M ≤ 1000 := by
  have hnn : n * n ≤ 64 := by have := Nat.mul_le_mul hn hn; omega
  exact sdV_P (fun x => 0 ≤ x ∧ x ≤ 1000) (fun _ => by omega) (fun _ q hq _ _ => by omega) (fun _ _ => by omega)
noncomputable def lkV (p : Nat) [NeZero p] (n r : Nat) (T : Nat → Nat → Nat) (M : Nat → Nat → Nat → Int) (v : Int) : Int := if v < 0 then -1 else if sdV n p r T M = 0 then (if v < ((p ^ dmH p n r T M : Nat) : Int) then 0 else -1) else -2
theorem m_lacks {p : Nat} [NeZero p] {v : Int} (hF : fF F) (hI : fInv p) (h : mOk p Z m g n T r M) (hv : -2147483648 ≤ v ∧ v < 2147483648) : ∃ Z1, zX7_lacks F (m : Nat) v Z = some (lkV p n r T M v, Z1) ∧ kF Z Z1 ∧ mOk p Z1 m g n T r M ∧ (lkV p n r T M v = 0 → sdV n p r T M = 0 ∧ (0 ≤ v ∧ v < ((p ^ dmH p n r T M : Nat) : Int)) ∧ mBo Z1 m g n T p r M ∧ zI Z1 24 = ((n - 1) * (n - 1) * r : Nat) ∧ mKn (p := p) n r T M Z1) ∧ (lkV p n r T M v = 0 ∨ lkV p n r T M v = -1 ∨ lkV p n r T M v = -2) := by
  have hsb := sdV_b (p := p) (r := r) (T := T) (M := M) h.1.2.2.1
  by_cases c1 : v < 0
  · have e : lkV p n r T M v = -1 := if_pos c1
    rw [e]
    exact ⟨Z, m_lacks1 h (by omega), kF.rf, h, fun q => by omega, by omega⟩
  · by_cases c2 : sdV n p r T M = 0
    · obtain ⟨Z1, a1, a2, a3, a4, a5, a6⟩ := m_lacks3 (F := F) (v := v) hF hI h (by omega) c2
      have e : lkV p n r T M v = if v < ((p ^ dmH p n r T M : Nat) : Int) then 0 else -1 := by
        unfold lkV; rw [if_neg c1, if_pos c2]
      rw [e]
      refine ⟨Z1, a1, a2, a3, fun q => ⟨c2, ⟨by omega, ?_⟩, a4, a5, a6⟩, ?_⟩
      · by_cases c3 : v < ((p ^ dmH p n r T M : Nat) : Int)
        · exact c3
        · rw [if_neg c3] at q; omega
      · by_cases c3 : v < ((p ^ dmH p n r T M : Nat) : Int)
        · rw [if_pos c3]; omega
        · rw [if_neg c3]; omega
    · have e : lkV p n r T M v = -2 := by unfold lkV; rw [if_neg c1, if_neg c2]
      rw [e]
      exact ⟨Z, m_lacks2 hF h (by omega) c2 (by omega), kF.rf, h, fun q => by omega, by omega⟩
theorem nB_snoc {p : Nat} : ∀ (k : Nat) (a : Nat → Nat), nB p (k + 1) a = nB p k a + a k * p ^ k
  | 0, a => by show a 0 + p * 0 = 0 + a 0 * p ^ 0; rw [Nat.pow_zero]; omega
  | k + 1, a => by
    show a 0 + p * nB p (k + 1) (fun s => a (s + 1)) = (a 0 + p * nB p k (fun s => a (s + 1))) + a (k + 1) * p ^ (k + 1)
    rw [nB_snoc k (fun s => a (s + 1)), Nat.mul_add, Nat.pow_succ]
    have : p * (a (k + 1) * p ^ k) = a (k + 1) * (p ^ k * p) := by rw [Nat.mul_left_comm, Nat.mul_comm p]
    omega
theorem pw_b {p k : Nat} (h1 : 1 < p ∧ p ≤ 5) (hk : k ≤ 12) : 0 < p ^ k ∧ p ^ k ≤ 244140625 := by
  have h5 : (5 : Nat) ^ 12 = 244140625 := by decide
  have := Nat.le_trans (Nat.pow_le_pow_left h1.2 k) (Nat.pow_le_pow_right (show 0 < 5 by omega) hk)
  exact ⟨Nat.pow_pos (by omega), by omega⟩
theorem m_sumL {p v w k : Nat} (hF : fF F) (h23 : zI Z 23 = p) (hp : 1 < p ∧ p ≤ 5) (h35 : zI Z 35 = (k : Nat)) (hk : k ≤ 12) (hv : v < 2147483648) (hw : w < 2147483648) : zX7_sum_l43 F F (v : Nat) (w : Nat) (0 : Int) (1 : Int) (0 : Int) Z = some (((nB p k (fun s => (v / p ^ s % p + w / p ^ s % p) % p) : Nat) : Int), Z) := by
  refine iX7_sum_l43 (I := fun v2 v3 v5 v6 v7 z => v = v2 ∧ w = v3 ∧ ∃ s : Nat, s = v7 ∧ s ≤ k ∧ ((nB p s (fun s => (v / p ^ s % p + w / p ^ s % p) % p) : Nat) : Int) = v5 ∧ ((p ^ s : Nat) : Int) = v6 ∧ Z = z) (μ := fun _ _ _ _ v7 _ => (k - v7).toNat) (P := fun x => x = some (((nB p k (fun s => (v / p ^ s % p + w / p ^ s % p) % p) : Nat) : Int), Z)) ?_ F _ _ _ _ _ _ ⟨rfl, rfl, 0, rfl, by omega, rfl, rfl, rfl⟩ (by unfold fF at hF; omega)
  rintro ra _ _ _ _ _ _ ⟨rfl, rfl, s, rfl, hs, rfl, rfl, rfl⟩ ih
  unfold zX7_sum_h43
  rw [h35]
  by_cases c1 : s = k
  · rw [zLe_t (by omega), c1]
  · have hb := pw_b (k := s) hp (by omega)
    have e1 : ((v : Nat) : Int) / ((p ^ s : Nat) : Int) = ((v / p ^ s : Nat) : Int) := (Int.natCast_ediv v (p ^ s)).symm
    have e2 : ((w : Nat) : Int) / ((p ^ s : Nat) : Int) = ((w / p ^ s : Nat) : Int) := (Int.natCast_ediv w (p ^ s)).symm
    have l1 := Nat.div_le_self v (p ^ s)
    have p1 : (0 : Int) ≤ ((v / p ^ s : Nat) : Int) := Int.natCast_nonneg _
    have l2 := Nat.div_le_self w (p ^ s)
    have p2 : (0 : Int) ≤ ((w / p ^ s : Nat) : Int) := Int.natCast_nonneg _
    have hsn := nB_snoc (p := p) s (fun s => (v / p ^ s % p + w / p ^ s % p) % p)
    have g1 := Nat.mod_lt (v / p ^ s) (show 0 < p by omega)
    have g2 := Nat.mod_lt (w / p ^ s) (show 0 < p by omega)
    rw [zLe_f (by omega), zDiv_p (by omega), e1, h23, zRem_p (by omega), ← Int.natCast_emod, zDiv_p (by omega), e2, zRem_p (by omega), ← Int.natCast_emod, ← Int.natCast_add, zRem_p (by omega), ← Int.natCast_emod]
    refine ih _ _ _ _ _ _ ⟨rfl, rfl, s + 1, by omega, by omega, ?_, ?_, rfl⟩ (by omega)
    · rw [hsn, Int.natCast_add, Int.natCast_mul]
    · rw [Nat.pow_succ, Int.natCast_mul]
theorem m_timesL {p v c k : Nat} (hF : fF F) (h23 : zI Z 23 = p) (hp : 1 < p ∧ p ≤ 5) (h35 : zI Z 35 = (k : Nat)) (hk : k ≤ 12) (hv : v < 2147483648) (hc : c < p) : zX7_times_l53 F F (v : Nat) (c : Nat) (0 : Int) (1 : Int) (0 : Int) Z = some (((nB p k (fun s => (v / p ^ s % p * c) % p) : Nat) : Int), Z) := by
  refine iX7_times_l53 (I := fun v2 v3 v5 v6 v7 z => v = v2 ∧ c = v3 ∧ ∃ s : Nat, s = v7 ∧ s ≤ k ∧ ((nB p s (fun s => (v / p ^ s % p * c) % p) : Nat) : Int) = v5 ∧ ((p ^ s : Nat) : Int) = v6 ∧ Z = z) (μ := fun _ _ _ _ v7 _ => (k - v7).toNat) (P := fun x => x = some (((nB p k (fun s => (v / p ^ s % p * c) % p) : Nat) : Int), Z)) ?_ F _ _ _ _ _ _ ⟨rfl, rfl, 0, rfl, by omega, rfl, rfl, rfl⟩ (by unfold fF at hF; omega)
  rintro ra _ _ _ _ _ _ ⟨rfl, rfl, s, rfl, hs, rfl, rfl, rfl⟩ ih
  unfold zX7_times_h53
  rw [h35]
  by_cases c1 : s = k
  · rw [zLe_t (by omega), c1]
  · have hb := pw_b (k := s) hp (by omega)
    have e1 : ((v : Nat) : Int) / ((p ^ s : Nat) : Int) = ((v / p ^ s : Nat) : Int) := (Int.natCast_ediv v (p ^ s)).symm
    have l1 := Nat.div_le_self v (p ^ s)
    have p1 : (0 : Int) ≤ ((v / p ^ s : Nat) : Int) := Int.natCast_nonneg _
    have hsn := nB_snoc (p := p) s (fun s => (v / p ^ s % p * c) % p)
    have g1 := Nat.mod_lt (v / p ^ s) (show 0 < p by omega)
    have g2 : v / p ^ s % p * c ≤ 5 * 5 := Nat.mul_le_mul (by omega) (by omega)
    rw [zLe_f (by omega), zDiv_p (by omega), e1, h23, zRem_p (by omega), ← Int.natCast_emod, ← Int.natCast_mul, zRem_p (by omega), ← Int.natCast_emod]
    refine ih _ _ _ _ _ _ ⟨rfl, rfl, s + 1, by omega, by omega, ?_, ?_, rfl⟩ (by omega)
    · rw [hsn, Int.natCast_add, Int.natCast_mul]
    · rw [Nat.pow_succ, Int.natCast_mul]
noncomputable def smV (p : Nat) [NeZero p] (n r : Nat) (T : Nat → Nat → Nat) (M : Nat → Nat → Nat → Int) (v w : Int) : Int := if 0 ≤ lkV p n r T M v then (if 0 ≤ lkV p n r T M w then ((nB p (dmH p n r T M) (fun s => (v.toNat / p ^ s % p + w.toNat / p ^ s % p) % p) : Nat) : Int) else lkV p n r T M w) else lkV p n r T M v
theorem m_sum {p : Nat} [NeZero p] {v w : Int} (hF : fF F) (hI : fInv p) (h : mOk p Z m g n T r M) (hv : -2147483648 ≤ v ∧ v < 2147483648) (hw : -2147483648 ≤ w ∧ w < 2147483648) : ∃ Z1, zX7_sum F (m : Nat) v w Z = some (smV p n r T M v w, Z1) ∧ kF Z Z1 ∧ mOk p Z1 m g n T r M := by
  obtain ⟨Z1, a1, a2, a3, a4, a5⟩ := m_lacks (F := F) hF hI h hv
  unfold zX7_sum zX7_sum_b24
  rw [zC1_o a1]
  by_cases c1 : 0 ≤ lkV p n r T M v
  · obtain ⟨Z2, b1, b2, b3, b4, b5⟩ := m_lacks (F := F) hF hI a3 hw
    rw [zLe_t (by omega), zC1_o b1]
    by_cases c2 : 0 ≤ lkV p n r T M w
    · obtain ⟨s1, s2, -⟩ := a4 (by omega)
      obtain ⟨-, t2, t3, t4, t5⟩ := b4 (by omega)
      have hH := dH_12 hI h.1 (sdM_of h.1.2.1.G s1) t5
      have hsm := m_sumL (F := F) (Z := Z2) (p := p) (v := v.toNat) (w := w.toNat) hF t3.2.2.2.2.2 h.1.2.2.2.2.1 (t5.d hI).1 hH (by omega) (by omega)
      rw [show ((v.toNat : Nat) : Int) = v by omega, show ((w.toNat : Nat) : Int) = w by omega] at hsm
      rw [zLe_t (by omega), hsm]
      refine ⟨Z2, ?_, a2.tr b2, b3⟩
      unfold smV
      rw [if_pos c1, if_pos c2]
    · rw [zLe_f (by omega)]
      refine ⟨Z2, ?_, a2.tr b2, b3⟩
      unfold smV
      rw [if_pos c1, if_neg c2]
  · rw [zLe_f (by omega), zLe_f (by omega)]
    refine ⟨Z1, ?_, a2, a3⟩
    unfold smV
    rw [if_neg c1]
noncomputable def tmV (p : Nat) [NeZero p] (n r : Nat) (T : Nat → Nat → Nat) (M : Nat → Nat → Nat → Int) (v c : Int) : Int := if 1 ≤ c ∧ c < p then (if 0 ≤ lkV p n r T M v then ((nB p (dmH p n r T M) (fun s => (v.toNat / p ^ s % p * c.toNat) % p) : Nat) : Int) else lkV p n r T M v) else -1
theorem m_times {p : Nat} [NeZero p] {v c : Int} (hF : fF F) (hI : fInv p) (h : mOk p Z m g n T r M) (hv : -2147483648 ≤ v ∧ v < 2147483648) (hc : -2147483648 ≤ c ∧ c < 2147483648) : ∃ Z1, zX7_times F (m : Nat) v c Z = some (tmV p n r T M v c, Z1) ∧ kF Z Z1 ∧ mOk p Z1 m g n T r M := by
  have hm := h.1.1
  have h7 := h.2.1
  have hp := h.1.2.2.2.2.1
  unfold zX7_times tmV
  rw [zC1_o (m_isModule (by omega) (by omega)), if_pos (show 0 ≤ (m : Int) ∧ (m : Int) < zI Z 7 by omega), zEq_f (by omega), zLd_o (by omega), h.1.2.2.2.1.2.1, zC1_o (y_in (a := c) (b := 1) (c := (p : Int) - 1) (by decide) rfl (by omega))]
  by_cases c1 : 1 ≤ c ∧ c < p
  · rw [if_pos (show 1 ≤ c ∧ c ≤ (p : Int) - 1 by omega), zEq_f (by omega), if_pos c1]
    obtain ⟨Z1, a1, a2, a3, a4, a5⟩ := m_lacks (F := F) hF hI h hv
    rw [zC1_o a1]
    by_cases c2 : 0 ≤ lkV p n r T M v
    · obtain ⟨s1, s2, t3, t4, t5⟩ := a4 (by omega)
      have hH := dH_12 hI h.1 (sdM_of h.1.2.1.G s1) t5
      have hsm := m_timesL (F := F) (Z := Z1) (p := p) (v := v.toNat) (c := c.toNat) hF t3.2.2.2.2.2 hp (t5.d hI).1 hH (by omega) (by omega)
      rw [show ((v.toNat : Nat) : Int) = v by omega, show ((c.toNat : Nat) : Int) = c by omega] at hsm
      rw [zLe_t (by omega), hsm, if_pos c2]
      exact ⟨Z1, rfl, a2, a3⟩
    · rw [zLe_f (by omega), if_neg c2]
      exact ⟨Z1, rfl, a2, a3⟩
  · rw [if_neg (show ¬ (1 ≤ c ∧ c ≤ (p : Int) - 1) by omega), zEq_t (by omega), if_neg c1]
    exact ⟨Z, rfl, kF.rf, h⟩
end MTW
