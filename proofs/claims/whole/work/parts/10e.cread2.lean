/-! THE CLASS'S GROUPS: a table read of a sheet, all of it -/
abbrev zHas (n : Nat) (v : Int32) : Prop := ¬ v < 0 ∧ ¬ nI n ≤ v
theorem nI_toI {x : Nat} (h : x < 2147483648) : (nI x).toInt.toNat = x := by
  rw [← iO_nat, iO_toInt (by omega) (by omega)]; omega
theorem zHas_ex {n : Nat} {v : Int32} (hn : n < 2147483648) (h : zHas n v) : v.toInt.toNat < n ∧ v = nI v.toInt.toNat := by
  obtain ⟨h1, h2⟩ := h
  rw [Int32.lt_iff_toInt_lt, Int32.toInt_zero] at h1
  rw [Int32.le_iff_toInt_le, ← iO_nat, iO_toInt (by omega) (by omega)] at h2
  refine ⟨by omega, ?_⟩
  apply Int32.toInt_inj.mp
  rw [← iO_nat, iO_toInt (by omega) (by omega)]
  omega
theorem zHas_nI {n x : Nat} (hx : x < n) (hn : n < 2147483648) : zHas n (nI x) := ⟨nI_pos (by omega), nI_ge hx hn⟩
theorem c_has {F a n : Nat} {w : gW} (h : gFI 2 7 (some a) w = some (nI n)) (v : Int32) : mX2_has F a v w = some (if zHas n v then 1 else 0, w) := by
  unfold mX2_has
  by_cases h1 : v < 0
  · rw [if_pos h1, if_neg (fun q => q.1 h1)]; rfl
  · rw [if_neg h1, h, Option.bind_some]
    by_cases h2 : nI n ≤ v
    · rw [if_pos h2, if_neg (fun q => q.2 h2)]; rfl
    · rw [if_neg h2, if_pos ⟨h1, h2⟩]
def zBad (n : Nat) (c : Nat → Int32) (i : Nat) : Prop := ¬ zHas n (c i) ∨ (i / n = 0 ∧ c i ≠ nI (i % n)) ∨ (i % n = 0 ∧ c i ≠ nI (i / n))
def zRdT (n : Nat) (c : Nat → Int32) (x y : Nat) : Nat := (c (n * x + y)).toInt.toNat
noncomputable def zRdR (n : Nat) (c : Nat → Int32) : Int32 := @ite _ (∃ i, i < n * n ∧ zBad n c i) (Classical.propDecidable _) (nI (nF (zBad n c) (n * n))) (if zUlR n (zRdT n c) < 0 then (if zNoR n (zRdT n c) < 0 then -1 else 3000 + zNoR n (zRdT n c)) else 1000 + zUlR n (zRdT n c))
theorem z2_at {n x y : Nat} (hy : y < n) : (n * x + y) / n = x ∧ (n * x + y) % n = y := ⟨by rw [Nat.mul_add_div (by omega), Nat.div_eq_of_lt hy, Nat.add_zero], by rw [Nat.mul_add_mod, Nat.mod_eq_of_lt hy]⟩
theorem zUlR_neg {n : Nat} {T : Nat → Nat → Nat} (hn : n ≤ 48) (h : zUlR n T < 0) (x y z : Nat) (hx : x < n) (hy : y < n) (hz : z < n) : T (T x y) z = T x (T y z) := by
  unfold zUlR at h
  by_cases q : ∃ i, i < n * n * n ∧ zUl n T i
  · rw [if_pos q] at h
    have h1 := nF_le (zUl n T) (n * n * n)
    have h2 : n * n * n ≤ 48 * 48 * 48 := Nat.mul_le_mul (Nat.mul_le_mul hn hn) hn
    exact (nI_pos (by omega) h).elim
  · apply Classical.byContradiction
    intro e
    refine q ⟨n * n * x + n * y + z, ?_, ?_⟩
    · have h1 : n * n * (x + 1) ≤ n * n * n := Nat.mul_le_mul_left _ hx
      have h2 : n * (y + 1) ≤ n * n := Nat.mul_le_mul_left _ hy
      rw [Nat.mul_succ] at h1 h2
      omega
    · obtain ⟨d1, d2, d3⟩ := z3_at (n := n) (x := x) hy hz
      unfold zUl; rw [d1, d2, d3]; exact e
theorem zUlR_pos {n : Nat} {T : Nat → Nat → Nat} (h : ¬ zUlR n T < 0) : ∃ k, k ≤ n * n * n ∧ zUlR n T = nI k := by
  unfold zUlR at *
  by_cases q : ∃ i, i < n * n * n ∧ zUl n T i
  · rw [if_pos q]; exact ⟨_, nF_le _ _, rfl⟩
  · rw [if_neg q] at h; exact (h (by decide)).elim
theorem zNoR_pos {n : Nat} {T : Nat → Nat → Nat} (h : ¬ zNoR n T < 0) : ∃ k, k ≤ n ∧ zNoR n T = nI k := by
  unfold zNoR at *
  by_cases q : ∃ x, x < n ∧ ¬ ∃ y, y < n ∧ T x y = 0
  · rw [if_pos q]; exact ⟨_, nF_le _ _, rfl⟩
  · rw [if_neg q] at h; exact (h (by decide)).elim
theorem zNoR_neg {n : Nat} {T : Nat → Nat → Nat} (hn : n ≤ 48) (h : zNoR n T < 0) (x : Nat) (hx : x < n) : ∃ y, y < n ∧ T x y = 0 := by
  unfold zNoR at h
  by_cases q : ∃ x, x < n ∧ ¬ ∃ y, y < n ∧ T x y = 0
  · rw [if_pos q] at h
    have h1 := nF_le (fun x => ¬ ∃ y, y < n ∧ T x y = 0) n
    exact (nI_pos (by omega) h).elim
  · exact Classical.byContradiction fun e => q ⟨x, hx, e⟩
section CRE
variable {F a s n : Nat} {S SS : oSt} {w : gW}
theorem c_readFrom (hF : fF F) (h : oAt 2 lyG w a S) (hs : oAt 4 lyS w s SS) (hd : s + 2 ≤ a ∨ a + 7 ≤ s) (h0 : 0 < n) (h12 : n ≤ 12) : ∃ w1 S1, mX2_readFrom F a (some s) (nI n) w = some (zRdR n (oA SS 0), w1) ∧ wF a (a + 7) w w1 ∧ oAt 2 lyG w1 a S1 ∧ (zRdR n (oA SS 0) < 0 → zAt w1 a n (zRdT n (oA SS 0)) S1 ∧ zGrp n (zRdT n (oA SS 0))) := by
  generalize hc : oA SS 0 = c
  obtain ⟨w2, e1, e2⟩ := zFl.start h (nI n) (m := n) rfl
  have e2 := e2 (zRdT n c)
  let P : Option (Int32 × gW) → Prop := fun r => ∃ w1 S1, r = some (zRdR n c, w1) ∧ wF a (a + 7) w w1 ∧ oAt 2 lyG w1 a S1 ∧ (zRdR n c < 0 → zAt w1 a n (zRdT n c) S1 ∧ zGrp n (zRdT n c))
  have rw2 : ∀ {w'}, zFl w w' a n (zRdT n c) (fun _ _ => False) → ∃ S1, oAt 2 lyG w' a S1 := fun q => by obtain ⟨S1, u, -⟩ := q; exact ⟨S1, u⟩
  have L2 : ∀ (x : Nat), x < n → ∀ (k87 : Nat → Option Nat → Int32 → Int32 → gW → Option (Int32 × gW)) (k65 : Int32 → Int32 → Int32 → gW → Option (Int32 × gW)), (∀ w', zFl w w' a n (zRdT n c) (fun x' y' => x' < x + 1 ∧ y' < n) → (∀ y, y < n → ¬ zBad n c (n * x + y)) → P (k87 a (some s) (nI n) (nI x) w')) → (∀ y w', y < n → zBad n c (n * x + y) → (∀ y', y' < y → ¬ zBad n c (n * x + y')) → zFl w w' a n (zRdT n c) (fun _ _ => False) → P (k65 (nI n) (nI x) (nI y) w')) → ∀ (k y : Nat) (w' : gW), y ≤ n → n - y < k → (∀ y', y' < y → ¬ zBad n c (n * x + y')) → zFl w w' a n (zRdT n c) (fun x' y' => (x' < x ∧ y' < n) ∨ (x' = x ∧ y' < y)) → P (mX2_readFrom_l15 F k87 k65 k a (some s) (nI n) (nI x) (nI y) w') := by
    intro x hx k87 k65 hk1 hk2 k
    induction k with
    | zero => intro z _ _ q; omega
    | succ k ih =>
      intro y w' hy hk hl hz
      show P (mX2_readFrom_h15 F (mX2_readFrom_l15 F k87 k65 k) k87 k65 a (some s) (nI n) (nI x) (nI y) w')
      unfold mX2_readFrom_h15
      by_cases e : y = n
      · rw [e, if_pos (nI_le (Nat.le_refl _) (by omega))]
        refine hk1 w' (hz.weak fun x' y' _ _ hd => by omega) (by rw [e] at hl; exact hl)
      · have hy : y < n := by omega
        have hss := hs.keep lyS_ok hz.f hd (by omega)
        have hlt : n * x + y < 144 := by
          have h1 : n * (x + 1) ≤ n * n := Nat.mul_le_mul_left _ hx
          have h2 : n * n ≤ 12 * 12 := Nat.mul_le_mul h12 h12
          rw [Nat.mul_succ] at h1
          omega
        obtain ⟨d1, d2⟩ := z2_at (x := x) hy
        have bad : ∀ w', zBad n c (n * x + y) → zFl w w' a n (zRdT n c) (fun x' y' => (x' < x ∧ y' < n) ∨ (x' = x ∧ y' < y)) → P (k65 (nI n) (nI x) (nI y) w') := fun w' q hz => hk2 y w' hy q hl (hz.weak fun _ _ _ _ q => q.elim)
        rw [if_neg (nI_ge hy (by omega)), hss.rA 0 rfl, Option.bind_some, pk_mul, nI_add, hss.ld 0 rfl hlt (by omega), Option.bind_some, hz.o, Option.bind_some, c_has hz.sz, Option.bind_some, hc]
        by_cases q : zHas n (c (n * x + y))
        · rw [if_pos q, if_neg (show ¬ (1 : Int32) = 0 by decide)]
          obtain ⟨v1, v2⟩ := zHas_ex (by omega) q
          obtain ⟨w4, f1, f2⟩ := hz.set (F := F) (x := x) (y := y) (by omega) (by omega)
          have f1' : mX2_set F a (nI x) (nI y) (c (n * x + y)) w' = some w4 := by rw [v2]; exact f1
          have last : ¬ zBad n c (n * x + y) → P (mX2_readFrom_b72 F (mX2_readFrom_l15 F k87 k65 k) k87 k65 a (some s) (nI n) (nI x) (nI y) (c (n * x + y)) w') := by
            intro nb
            unfold mX2_readFrom_b72
            rw [hz.o, Option.bind_some, f1', Option.bind_some, nI_1]
            refine ih (y + 1) w4 (by omega) (by omega) (fun y' hy' => ?_) (f2.weak fun x' y' _ _ hd => by omega)
            rcases Nat.lt_or_ge y' y with u | u
            · exact hl y' u
            · rw [show y' = y by omega]; exact nb
          have mid : ¬ (x = 0 ∧ c (n * x + y) ≠ nI y) → P (mX2_readFrom_b54 F (mX2_readFrom_l15 F k87 k65 k) k87 k65 a (some s) (nI n) (nI x) (nI y) (c (n * x + y)) w') := by
            intro nb
            unfold mX2_readFrom_b54
            by_cases y0 : y = 0
            · rw [if_pos (show nI y = 0 by rw [y0]; rfl)]
              by_cases u : c (n * x + y) = nI x
              · rw [if_pos u]
                refine last ?_
                rintro (t | ⟨t1, t2⟩ | ⟨t1, t2⟩)
                · exact t q
                · rw [d1] at t1; rw [d2] at t2; exact nb ⟨t1, t2⟩
                · rw [d1] at t2; exact t2 u
              · rw [if_neg u]
                exact bad w' (Or.inr (Or.inr ⟨by rw [d2]; exact y0, by rw [d1]; exact u⟩)) hz
            · rw [if_neg (nI_ne0 (by omega) (by omega))]
              refine last ?_
              rintro (t | ⟨t1, t2⟩ | ⟨t1, t2⟩)
              · exact t q
              · rw [d1] at t1; rw [d2] at t2; exact nb ⟨t1, t2⟩
              · rw [d2] at t1; exact y0 t1
          by_cases x0 : x = 0
          · rw [if_pos (show nI x = 0 by rw [x0]; rfl)]
            by_cases u : c (n * x + y) = nI y
            · rw [if_pos u]; exact mid fun t => t.2 u
            · rw [if_neg u]
              exact bad w' (Or.inr (Or.inl ⟨by rw [d1]; exact x0, by rw [d2]; exact u⟩)) hz
          · rw [if_neg (nI_ne0 (by omega) (by omega))]; exact mid fun t => x0 t.1
        · rw [if_neg q, if_pos rfl]
          exact bad w' (Or.inl q) hz
  have L1 : ∀ (k93 : Nat → gW → Option (Int32 × gW)) (k65 : Int32 → Int32 → Int32 → gW → Option (Int32 × gW)), (∀ w', zFl w w' a n (zRdT n c) (fun x' y' => x' < n ∧ y' < n) → (∀ x y, x < n → y < n → ¬ zBad n c (n * x + y)) → P (k93 a w')) → (∀ x y w', x < n → y < n → zBad n c (n * x + y) → (∀ x' y', x' < x → y' < n → ¬ zBad n c (n * x' + y')) → (∀ y', y' < y → ¬ zBad n c (n * x + y')) → zFl w w' a n (zRdT n c) (fun _ _ => False) → P (k65 (nI n) (nI x) (nI y) w')) → ∀ (k x : Nat) (w' : gW), x ≤ n → n - x < k → (∀ x' y', x' < x → y' < n → ¬ zBad n c (n * x' + y')) → zFl w w' a n (zRdT n c) (fun x' y' => x' < x ∧ y' < n) → P (mX2_readFrom_l7 F k93 k65 k a (some s) (nI n) (nI x) w') := by
    intro k93 k65 hk1 hk2 k
    induction k with
    | zero => intro z _ _ q; omega
    | succ k ih =>
      intro x w' hx hk hl hz
      show P (mX2_readFrom_h7 F (mX2_readFrom_l7 F k93 k65 k) k93 k65 a (some s) (nI n) (nI x) w')
      unfold mX2_readFrom_h7
      by_cases e : x = n
      · rw [e, if_pos (nI_le (Nat.le_refl _) (by omega))]
        exact hk1 w' (by rw [e] at hz; exact hz) (by rw [e] at hl; exact fun x y hx hy => hl x y hx hy)
      · have hx : x < n := by omega
        rw [if_neg (nI_ge hx (by omega))]
        refine L2 x hx _ _ (fun w3 q1 q2 => ?_) (fun y w3 hy q1 q2 q3 => hk2 x y w3 hx hy q1 hl q2 q3) F 0 w' (by omega) (by unfold fF at hF; omega) (fun y' q => by omega) (hz.weak fun x' y' _ _ hd => by omega)
        show P (mX2_readFrom_l7 F k93 k65 k a (some s) (nI n) (nI x + 1) w3)
        rw [nI_1]
        refine ih (x + 1) w3 (by omega) (by omega) (fun x' y' hx' hy' => ?_) q1
        rcases Nat.lt_or_ge x' x with u | u
        · exact hl x' y' u hy'
        · rw [show x' = x by omega]; exact q2 y' hy'
  unfold mX2_readFrom
  rw [e1, Option.bind_some]
  refine L1 _ _ (fun w3 q1 q2 => ?_) (fun x y w3 hx hy q q1 q2 q3 => ?_) F 0 w2 (by omega) (by unfold fF at hF; omega) (fun _ _ q => by omega) (e2.weak fun x' y' _ _ hd => by omega)
  · have nob : ¬ ∃ i, i < n * n ∧ zBad n c i := by
      rintro ⟨i, hi, hb⟩
      have := q2 (i / n) (i % n) (by rw [Nat.div_lt_iff_lt_mul h0]; exact hi) (Nat.mod_lt _ h0)
      rw [Nat.div_add_mod] at this
      exact this hb
    have hV : ∀ x y, x < n → y < n → zRdT n c x y < n := fun x y hx hy => by
      have := q2 x y hx hy
      have : zHas n (c (n * x + y)) := Classical.byContradiction fun t => this (Or.inl t)
      exact (zHas_ex (by omega) this).1
    obtain ⟨S1, g1, g2⟩ := q1.done (by omega) h0 hV (fun x y hx hy => ⟨hx, hy⟩)
    have er : zRdR n c = (if zUlR n (zRdT n c) < 0 then (if zNoR n (zRdT n c) < 0 then -1 else 3000 + zNoR n (zRdT n c)) else 1000 + zUlR n (zRdT n c)) := by unfold zRdR; rw [if_neg nob]
    show ∃ w1 S1, ((gO 2 (some a) w3).bind fun a94 => (mX2_firstUnlike F a94 w3).bind fun q94 => _) = _ ∧ _
    rw [g1.o, Option.bind_some, c_firstUnlike hF g1, Option.bind_some]
    by_cases u : zUlR n (zRdT n c) < 0
    · rw [if_pos u] at er
      rw [if_pos u, g1.o, Option.bind_some, c_firstWithoutInverse hF g1, Option.bind_some]
      by_cases v : zNoR n (zRdT n c) < 0
      · rw [if_pos v] at er
        rw [if_pos v]
        have w1' : ∀ x y, x < n → y < n → x = 0 ∨ y = 0 → zRdT n c x y = x + y := by
          intro x y hx hy h
          obtain ⟨d1, d2⟩ := z2_at (x := x) hy
          have nb := q2 x y hx hy
          unfold zRdT
          unfold zBad at nb
          rw [d1, d2] at nb
          rcases h with h | h
          · have : c (n * x + y) = nI y := Classical.byContradiction fun t => nb (Or.inr (Or.inl ⟨h, t⟩))
            rw [this, nI_toI (by omega)]; omega
          · have : c (n * x + y) = nI x := Classical.byContradiction fun t => nb (Or.inr (Or.inr ⟨h, t⟩))
            rw [this, nI_toI (by omega)]; omega
        refine ⟨w3, S1, by rw [er], g2, g1.1, fun _ => ⟨g1, h0, hV, fun x hx => ⟨?_, ?_⟩, fun x y z hx hy hz => zUlR_neg (by omega) u x y z hx hy hz, fun x hx => zNoR_neg (by omega) v x hx⟩⟩
        · rw [w1' 0 x h0 hx (Or.inl rfl)]; omega
        · rw [w1' x 0 hx h0 (Or.inr rfl)]; omega
      · rw [if_neg v] at er
        rw [if_neg v]
        refine ⟨w3, S1, by rw [er], g2, g1.1, fun q => ?_⟩
        obtain ⟨k, k1, k2⟩ := zNoR_pos v
        rw [er, k2, show (3000 : Int32) = nI 3000 from rfl, nI_add] at q
        exact (nI_pos (by omega) q).elim
    · rw [if_neg u] at er
      rw [if_neg u]
      refine ⟨w3, S1, by rw [er], g2, g1.1, fun q => ?_⟩
      obtain ⟨k, k1, k2⟩ := zUlR_pos u
      have : n * n * n ≤ 12 * 12 * 12 := Nat.mul_le_mul (Nat.mul_le_mul h12 h12) h12
      rw [er, k2, show (1000 : Int32) = nI 1000 from rfl, nI_add] at q
      exact (nI_pos (by omega) q).elim
  · have hi : n * x + y < n * n := by
      have h1 : n * (x + 1) ≤ n * n := Nat.mul_le_mul_left _ hx
      rw [Nat.mul_succ] at h1
      omega
    have hf : nF (zBad n c) (n * n) = n * x + y := by
      refine nF_of hi q fun j hj => ?_
      have ex := Nat.div_add_mod j n
      have hy' := Nat.mod_lt j h0
      generalize j / n = x' at *
      generalize j % n = y' at *
      subst ex
      rcases Nat.lt_trichotomy x' x with u | u | u
      · exact q1 x' y' u hy'
      · subst u; exact q2 y' (by omega)
      · have g3 : n * (x + 1) ≤ n * x' := Nat.mul_le_mul_left _ u
        rw [Nat.mul_succ] at g3
        omega
    obtain ⟨S1, u⟩ := rw2 q3
    have er : zRdR n c = nI (n * x + y) := by unfold zRdR; rw [if_pos ⟨_, hi, q⟩, hf]
    refine ⟨w3, S1, ?_, q3.f, u, fun t => ?_⟩
    · show some (nI n * nI x + nI y, w3) = _
      rw [pk_mul, nI_add, er]
    · rw [er] at t
      have : n * n ≤ 12 * 12 := Nat.mul_le_mul h12 h12
      exact (nI_pos (by omega) t).elim
end CRE
