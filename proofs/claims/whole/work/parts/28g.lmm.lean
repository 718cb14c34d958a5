/-! THE MODEL'S LEAST MAKERS -/
/-- a child of p with x is in the list -/
def lmV (n : Nat) (T : Nat → Nat → Nat) (k N : Nat) (s r : Nat → Nat → Nat) (p x : Nat) : Prop := ∃ j, j < N ∧ (∀ i, i < k → zGen T (zRow (k + 1) (r j)) (s p i)) ∧ zGen T (zRow (k + 1) (r j)) x
def lmD (n : Nat) (T : Nat → Nat → Nat) (k M N : Nat) (s r : Nat → Nat → Nat) (p : Nat) (v5 : Int) : Prop := (v5 = 0 ∧ (∀ j, j < N → ¬ zAll n T (k + 1) (r j)) ∧ ∀ p', p' < p → ∀ x, x < n → lmV n T k N s r p' x) ∨ (v5 = 1 ∧ ∃ j, j < N ∧ zAll n T (k + 1) (r j))
section LMM
variable {F g n k M N E p x : Nat} {T : Nat → Nat → Nat} {Z w w1 : zS} {P : Option (Int × zS) → Prop} {a1 a3 a5 : Int} {D D' : Int64} {s r : Nat → Nat → Nat} {gg : Nat → Nat}
theorem lmV_app (h : lmV n T k N s r p x) : lmV n T k (N + 1) s (lmA r N gg) p x := by
  obtain ⟨j, h1, h2, h3⟩ := h
  have e : lmA r N gg j = r j := if_neg (by omega)
  exact ⟨j, by omega, fun i hi => by rw [e]; exact h2 i hi, by rw [e]; exact h3⟩
theorem lm_259 (hF : fF F) (G : zGrp n T) (hn : n ≤ 48) (hk : k ≤ 4) {ra : Int → Int → Int → Int → Int → Int → Int64 → Int64 → Int → zS → Option (Int × zS)} {k394 : Int → Int → Int → Int → Int → Int → zS → Option (Int × zS)} (hC : lmC n T w k M N s r) (hp : p < M) (hx : x < n) (hxs : ¬ zGen T (zRow k (s p)) x) (h12 : ∀ i : Nat, i < k + 1 → zA w 12 i = zPut (s p) k x i) (h16 : zJ w 16 = 0) (h15 : ∀ z, jB (zJ w 15) z ↔ zGen T (zRow (k + 1) (zPut (s p) k x)) z) (K1 : ∀ j, j < N → (∀ z, zGen T (zRow (k + 1) (r j)) z ↔ zGen T (zRow (k + 1) (zPut (s p) k x)) z) → P (ra a1 M k a5 (M + N : Nat) p D D' ((x : Int) + 1) w)) (K2 : ∀ w', scF w w' → lmC n T w' k M (N + 1) s (lmA r N (zPut (s p) k x)) → P (ra a1 M k a5 (M + (N + 1) : Nat) p D D' ((x : Int) + 1) w')) : P (zX7_leastMakers_b259 F ra k394 a1 (M : Nat) (k : Nat) (M + N : Nat) (p : Nat) D D' (x : Nat) a5 w) := by
  have hE : M + N ≤ 6000 := by
    have := lvl_next G hn hk hC.1.1 hC.1.2.1 hC.2.2.1 (fun j hj => (hC.2.2.2 j hj).2)
    have := lvB_sum k
    have := hC.1.2.1
    omega
  unfold zX7_leastMakers_b259
  refine lm_267 (M := M) (E := M + N) hF (by omega) hE fun t ht => ?_
  try dsimp only
  unfold zX7_leastMakers_b388
  rcases ht with ⟨rfl, h⟩ | ⟨rfl, q, h1, h2, h3, h4⟩
  · have hnew : ∀ j, j < N → ¬ ∀ z, zGen T (zRow (k + 1) (r j)) z ↔ zGen T (zRow (k + 1) (zPut (s p) k x)) z := fun j hj e => by
      obtain ⟨-, l2, l3⟩ := (hC.2.2.2 j hj).1
      exact h (M + j) (by omega) (by omega) ⟨jB_ext fun z => (l2 z).trans ((e z).trans (h15 z).symm), by rw [l3, h16]⟩
    obtain ⟨L, par, hlt⟩ := lm_app G hn hk hC hp hx hxs hnew
    rw [zEq_t (by omega), zSJ_o (by omega), zSJ_o (by omega)]
    refine lm_352 (k := k) (E := M + N) hF (by omega) hlt fun f f1 f2 => ?_
    try dsimp only
    rw [show ((M + N : Nat) : Int) + 1 = ((M + (N + 1) : Nat) : Int) by omega]
    have a12 : zA (zuB (zuB w 17 ((M + N : Nat) : Int) (zJ w 15)) 18 ((M + N : Nat) : Int) (zJ w 16)) 12 = zA w 12 := rfl
    have a19 : zA (zuB (zuB w 17 ((M + N : Nat) : Int) (zJ w 15)) 18 ((M + N : Nat) : Int) (zJ w 16)) 19 = zA w 19 := rfl
    rw [a12] at f1
    rw [a19] at f2
    have b17 : ∀ q : Int, zB (zwA (zuB (zuB w 17 ((M + N : Nat) : Int) (zJ w 15)) 18 ((M + N : Nat) : Int) (zJ w 16)) 19 f) 17 q = if q = ((M + N : Nat) : Int) then zJ w 15 else zB w 17 q := fun q => rfl
    have b18 : ∀ q : Int, zB (zwA (zuB (zuB w 17 ((M + N : Nat) : Int) (zJ w 15)) 18 ((M + N : Nat) : Int) (zJ w 16)) 19 f) 18 q = if q = ((M + N : Nat) : Int) then zJ w 16 else zB w 18 q := fun q => rfl
    have c19 : zA (zwA (zuB (zuB w 17 ((M + N : Nat) : Int) (zJ w 15)) 18 ((M + N : Nat) : Int) (zJ w 16)) 19 f) 19 = f := rfl
    have oth : ∀ k' q (gg : Nat → Nat), q < M + N → k' ≤ 8 → lmE T w k' q gg → lmE T (zwA (zuB (zuB w 17 ((M + N : Nat) : Int) (zJ w 15)) 18 ((M + N : Nat) : Int) (zJ w 16)) 19 f) k' q gg := fun k' q gg hq hk' ⟨l1, l2, l3⟩ => by
      refine ⟨fun i hi => ?_, fun z => ?_, ?_⟩
      · rw [c19, f2 _ (by omega)]; exact l1 i hi
      · rw [b17, if_neg (by omega)]; exact l2 z
      · rw [b18, if_neg (by omega)]; exact l3
    refine K2 _ (((scF.rf.B 17 _ _).B 18 _ _).tr ⟨fun k hk => zwA_n (by omega), fun _ _ => rfl⟩) ⟨hC.1, fun j hj => ⟨oth _ _ _ (by omega) (by omega) (hC.2.1 j hj).1, (hC.2.1 j hj).2⟩, L, fun j hj => ⟨?_, par j hj⟩⟩
    by_cases c : j = N
    · have eN : lmA r N (zPut (s p) k x) j = zPut (s p) k x := if_pos c
      rw [eN, c]
      refine ⟨fun i hi => ?_, fun z => ?_, ?_⟩
      · rw [c19, f1 i hi]; exact h12 i hi
      · rw [b17, if_pos rfl]; exact h15 z
      · rw [b18, if_pos rfl]; exact h16
    · have eo : lmA r N (zPut (s p) k x) j = r j := if_neg c
      rw [eo]
      exact oth _ _ _ (by omega) (by omega) (hC.2.2.2 j (by omega)).1
  · rw [zEq_f (by omega)]
    obtain ⟨j, rfl⟩ : ∃ j, q = M + j := ⟨q - M, by omega⟩
    obtain ⟨-, l2, l3⟩ := (hC.2.2.2 j (by omega)).1
    refine K1 j (by omega) fun z => ?_
    rw [← l2 z, h3, h15 z]
theorem lm_99 (hF : fF F) (h : yG Z g n T) (hk : k ≤ 4) {k394 : Int → Int → Int → Int → Int → Int → zS → Option (Int × zS)} (hw : scF Z w) (hC : lmC n T w k M N s r) (hp : p < M) (hD : lmD n T k M N s r p 0) (b1 : ∀ z, jB D z ↔ zGen T (zRow k (s p)) z) (K : ∀ w' N' r' v5, scF Z w' → lmC n T w' k M N' s r' → lmD n T k M N' s r' (p + 1) v5 → P (k394 g M k v5 (M + N' : Nat) p w')) : P (zX7_leastMakers_l99 F k394 F (g : Nat) (M : Nat) (k : Nat) 0 (M + N : Nat) (p : Nat) D 0 0 w) := by
  have hb := h.b
  have G := h.G
  have hM5 := lvB_le k
  refine iX7_leastMakers_l99 (I := fun v1 v3 v4 v5 v6 v7 v8 v10 v12 w => (g : Int) = v1 ∧ (M : Int) = v3 ∧ (k : Int) = v4 ∧ (p : Int) = v7 ∧ (0 : Int64) = v10 ∧ scF Z w ∧ ∃ (N : Nat) (r : Nat → Nat → Nat) (x : Nat), ((M + N : Nat) : Int) = v6 ∧ (x : Int) = v12 ∧ x ≤ n ∧ lmC n T w k M N s r ∧ lmD n T k M N s r p v5 ∧ (v5 = 0 → (∀ z, zGen T (zRow k (s p)) z → jB v8 z) ∧ (∀ z, jB v8 z → zGen T (zRow k (s p)) z ∨ lmV n T k N s r p z) ∧ ∀ z, z < x → jB v8 z)) (μ := fun _ _ _ _ _ _ _ _ v12 _ => (n - v12).toNat) (P := P) ?_ F _ _ _ _ _ _ _ _ _ _ ⟨rfl, rfl, rfl, rfl, rfl, hw, N, r, 0, rfl, rfl, by omega, hC, hD, fun _ => ⟨fun z hz => (b1 z).mpr hz, fun z hz => Or.inl ((b1 z).mp hz), fun z hz => by omega⟩⟩ (by unfold fF at hF; omega)
  rintro ra _ _ _ v5 _ _ v8 _ _ w ⟨rfl, rfl, rfl, rfl, rfl, hw, N, r, x, rfl, rfl, hx, hC, hD, hB⟩ ih
  unfold zX7_leastMakers_h99
  rw [(hw.G h).sz]
  have one : v5 = 1 → lmD n T k M N s r (p + 1) v5 := fun e => by
    rcases hD with ⟨q, _⟩ | q
    · omega
    · exact Or.inr q
  by_cases c1 : x = n
  · rw [zLe_t (by omega)]
    refine K w N r v5 hw hC ?_
    rcases hD with ⟨q1, q2, q3⟩ | q
    · obtain ⟨d1, d2, d3⟩ := hB q1
      refine Or.inl ⟨q1, q2, fun p' hp' x' hx' => ?_⟩
      by_cases c2 : p' = p
      · rw [c2]
        rcases d2 x' (d3 x' (by omega)) with t | t
        · obtain ⟨z0, hz0⟩ := Classical.not_forall.mp (hC.2.1 p hp).2
          obtain ⟨hz0, hz1⟩ := Classical.not_imp.mp hz0
          rcases d2 z0 (d3 z0 (by omega)) with u | ⟨j, j1, j2, j3⟩
          · exact (hz1 u).elim
          · exact ⟨j, j1, j2, zGen.le G (zRow_lt (hC.2.2.1.1 j j1).1) (fun s' ⟨i, hi, e⟩ => by rw [e]; exact j2 i hi) t⟩
        · exact t
      · exact q3 p' (by omega) x' hx'
    · exact Or.inr q
  · have hxn : x < n := by omega
    rw [zLe_f (by omega)]
    rcases hD with ⟨rfl, q2, q3⟩ | q
    · obtain ⟨d1, d2, d3⟩ := hB rfl
      rw [zEq_t (by omega), zLe_f (by omega), iO_nat]
      unfold zX7_leastMakers_b162
      by_cases u : jB v8 x
      · rw [if_pos ((jB_test1 v8 (by omega)).mpr u), zEq_f (by omega)]
        unfold zX7_leastMakers_b388
        refine ih _ _ _ _ _ _ _ _ _ _ ⟨rfl, rfl, rfl, rfl, rfl, hw, N, r, x + 1, rfl, by omega, by omega, hC, Or.inl ⟨rfl, q2, q3⟩, fun _ => ⟨d1, d2, fun z hz => ?_⟩⟩ (by omega)
        by_cases t : z = x
        · rw [t]; exact u
        · exact d3 z (by omega)
      · rw [if_neg (fun t => u ((jB_test1 v8 (by omega)).mp t)), zEq_t (by omega)]
        have hxs : ¬ zGen T (zRow k (s p)) x := fun t => u (d1 x t)
        have hp6 : p < 6000 := by have := hC.1.2.1; omega
        refine lm_172 (k := k) (E := M + N) (p := p) (x := x) (s := s p) hF (by omega) hp6 (hC.2.1 p hp).1.1 fun f hf => ?_
        try dsimp only
        rw [zSt_o (by omega), zwA_u]
        have hw2 : scF Z (zwA w 12 (zup f (k : Nat) (x : Nat))) := hw.tr ⟨fun k hk => zwA_n (by omega), fun _ _ => rfl⟩
        have q12 : ∀ i : Nat, i < k + 1 → zA (zwA w 12 (zup f (k : Nat) (x : Nat))) 12 i = (zPut (s p) k x i : Nat) ∧ zPut (s p) k x i < n := fun i hi => by
          rw [zwA_s]
          by_cases t : i = k
          · rw [t, zPut_s, zup_s]; exact ⟨rfl, hxn⟩
          · rw [zPut_n t, zup_n (by omega)]; exact ⟨hf i (by omega), (hC.1.1.1 p hp).1 i (by omega)⟩
        obtain ⟨Z1, e, m1, m2, m3, m4⟩ := y_makes (m := k + 1) (q0 := zPut (s p) k x) hF (hw2.G h) (by omega) q12
        have e' : zX7_makes F (g : Nat) ((k : Nat) + 1) (zwA w 12 (zup f (k : Nat) (x : Nat))) = some Z1 := e
        have hw3 : scF Z Z1 := hw2.tr m1.scF
        have hC3 : lmC n T Z1 k M N s r := hC.of (by rw [m1.1 19 (by decide)]; exact zwA_n (by decide)) (by rw [m1.2.2]; rfl)
        have h12 : ∀ i : Nat, i < k + 1 → zA Z1 12 i = zPut (s p) k x i := fun i hi => by rw [m1.1 12 (by decide)]; exact (q12 i hi).1
        have hg' : ∀ i, i < k + 1 → zPut (s p) k x i < n := fun i hi => (q12 i hi).2
        rw [zC0_o e', (hw3.G h).sz, m4, m2]
        have z0 : (0 : Int64) ||| 0 = 0 := by decide
        rw [z0]
        -- what is so behind it, for either flag
        have key : ∀ b : Int, ((b = 0 ∧ ¬ zAll n T (k + 1) (zPut (s p) k x)) ∨ (b = 1 ∧ zAll n T (k + 1) (zPut (s p) k x))) → P (zX7_leastMakers_b259 F ra k394 (g : Nat) (M : Nat) (k : Nat) (M + N : Nat) (p : Nat) (v8 ||| zJ Z1 15) 0 (x : Nat) b Z1) := fun b hb2 => by
          have self : ∀ i, i < k → zGen T (zRow (k + 1) (zPut (s p) k x)) (s p i) := fun i hi => zGen.self G (zRow_lt hg') ⟨i, by omega, by rw [zPut_n (by omega)]⟩
          have selfx : zGen T (zRow (k + 1) (zPut (s p) k x)) x := zGen.self G (zRow_lt hg') ⟨k, by omega, by rw [zPut_s]⟩
          refine lm_259 (k := k) (M := M) (N := N) (p := p) (x := x) hF G hb.1 hk hC3 hp hxn hxs h12 m2 m3 (fun j hj hs => ?_) fun w' f1 f2 => ?_
          · have eb : b = 0 := by
              rcases hb2 with ⟨t, _⟩ | ⟨_, t⟩
              · exact t
              · exact (q2 j hj fun z hz => (hs z).mpr (t z hz)).elim
            refine ih _ _ _ _ _ _ _ _ _ _ ⟨rfl, rfl, rfl, rfl, rfl, hw3, N, r, x + 1, rfl, by omega, by omega, hC3, Or.inl ⟨eb, q2, q3⟩, fun _ => ⟨fun z hz => (jB_or _ _ z).mpr (Or.inl (d1 z hz)), fun z hz => ?_, fun z hz => (jB_or _ _ z).mpr ?_⟩⟩ (by omega)
            · rcases (jB_or _ _ z).mp hz with t | t
              · exact d2 z t
              · exact Or.inr ⟨j, hj, fun i hi => (hs _).mpr (self i hi), (hs z).mpr ((m3 z).mp t)⟩
            · by_cases t : z = x
              · rw [t]; exact Or.inr ((m3 x).mpr selfx)
              · exact Or.inl (d3 z (by omega))
          · have eN : lmA r N (zPut (s p) k x) N = zPut (s p) k x := if_pos rfl
            refine ih _ _ _ _ _ _ _ _ _ _ ⟨rfl, rfl, rfl, rfl, rfl, hw3.tr f1, N + 1, lmA r N (zPut (s p) k x), x + 1, rfl, by omega, by omega, f2, ?_, fun _ => ⟨fun z hz => (jB_or _ _ z).mpr (Or.inl (d1 z hz)), fun z hz => ?_, fun z hz => (jB_or _ _ z).mpr ?_⟩⟩ (by omega)
            · rcases hb2 with ⟨t1, t2⟩ | ⟨t1, t2⟩
              · refine Or.inl ⟨t1, fun j hj => ?_, fun p' hp' x' hx' => lmV_app (q3 p' hp' x' hx')⟩
                by_cases c : j = N
                · rw [c, eN]; exact t2
                · rw [show lmA r N (zPut (s p) k x) j = r j from if_neg c]
                  exact q2 j (by omega)
              · exact Or.inr ⟨t1, N, by omega, by rw [eN]; exact t2⟩
            · rcases (jB_or _ _ z).mp hz with t | t
              · rcases d2 z t with t | t
                · exact Or.inl t
                · exact Or.inr (lmV_app t)
              · exact Or.inr ⟨N, by omega, fun i hi => by rw [eN]; exact self i hi, by rw [eN]; exact (m3 z).mp t⟩
            · by_cases t : z = x
              · rw [t]; exact Or.inr ((m3 x).mpr selfx)
              · exact Or.inl (d3 z (by omega))
        have hcn : nC (zGen T (zRow (k + 1) (zPut (s p) k x))) n ≤ n := nC_le _ _
        by_cases c2 : nC (zGen T (zRow (k + 1) (zPut (s p) k x))) n = n
        · rw [zEq_t (by omega)]
          exact key 1 (Or.inr ⟨rfl, fun z hz => nC_fu c2 z hz⟩)
        · rw [zEq_f (by omega)]
          exact key 0 (Or.inl ⟨rfl, fun t => c2 (nC_all t)⟩)
    · rw [zEq_f (by omega)]
      exact K w N r v5 hw hC (one q.1)
end LMM
