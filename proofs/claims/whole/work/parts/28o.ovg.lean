/-! THE GROUP OVER -/
def dgF (p : Nat) [NeZero p] (v i : Nat) : Fin p := fC ((v / p ^ i : Nat) : Int)
def ovU {p : Nat} [NeZero p] (n r : Nat) (M : Nat → Nat → Nat → Int) (f : fV p) (x v y w i : Nat) : Fin p := dgF p v i + fSum (fun j => mC M x i j * dgF p w j) r + pv n r f x y i
def ovT {p : Nat} [NeZero p] (n r : Nat) (T : Nat → Nat → Nat) (M : Nat → Nat → Nat → Int) (f : fV p) (a b : Nat) : Nat := p ^ r * T (a / p ^ r) (b / p ^ r) + nB p r (fun i => (ovU n r M f (a / p ^ r) (a % p ^ r) (b / p ^ r) (b % p ^ r) i).val)
section OVG
variable {n r : Nat} {T : Nat → Nat → Nat} {M : Nat → Nat → Nat → Int}
theorem ov_lt {p : Nat} [NeZero p] (hr : r = 1 ∨ r = 2) (u : Nat → Fin p) : nB p r (fun i => (u i).val) < p ^ r := by
  have h0 := (u 0).2
  have h1 := (u 1).2
  rcases hr with rfl | rfl
  · show (u 0).val + p * 0 < p ^ 1
    rw [Nat.pow_one]; omega
  · show (u 0).val + p * ((u 1).val + p * 0) < p ^ 2
    rw [Nat.pow_two, Nat.mul_zero, Nat.add_zero]
    have := Nat.mul_le_mul_left p (show (u 1).val + 1 ≤ p from h1)
    rw [Nat.mul_succ] at this
    omega
theorem fC_nat {p : Nat} [NeZero p] {a b : Nat} (h : a % p = b % p) : (fC (a : Int) : Fin p) = fC (b : Int) := fC_ext (by rw [← Int.natCast_emod, ← Int.natCast_emod, h])
theorem ov_dg {p : Nat} [NeZero p] (hr : r = 1 ∨ r = 2) (u : Nat → Fin p) {i : Nat} (hi : i < r) : dgF p (nB p r (fun i => (u i).val)) i = u i := by
  have hp := fP (p := p)
  have h0 := (u 0).2
  have key : ∀ (a : Nat) (c : Fin p), a % p = c.val → (fC (a : Int) : Fin p) = c := fun a c h => by
    rw [fC_nat (b := c.val) (by rw [h, Nat.mod_eq_of_lt c.2]), fC_v]
  have c2 : ∀ e : Nat, ((u 0).val + p * e) / p = e := fun e => by rw [Nat.add_mul_div_left _ _ hp, Nat.div_eq_of_lt h0, Nat.zero_add]
  have c3 : ∀ e : Nat, ((u 0).val + p * e) % p = (u 0).val := fun e => by rw [Nat.add_mul_mod_self_left, Nat.mod_eq_of_lt h0]
  unfold dgF
  rcases hr with rfl | rfl
  · rw [show i = 0 by omega, Nat.pow_zero, Nat.div_one]
    exact key _ _ (c3 0)
  · by_cases c : i = 0
    · rw [c, Nat.pow_zero, Nat.div_one]
      exact key _ _ (c3 _)
    · rw [show i = 1 by omega, Nat.pow_one]
      refine key _ _ ?_
      show ((u 0).val + p * ((u 1).val + p * 0)) / p % p = _
      rw [c2, Nat.mul_zero, Nat.add_zero, Nat.mod_eq_of_lt (u 1).2]
theorem ov_sum {p : Nat} [NeZero p] (hr : r = 1 ∨ r = 2) (A u : Nat → Fin p) : fSum (fun j => A j * dgF p (nB p r (fun i => (u i).val)) j) r = fSum (fun j => A j * u j) r := fSum_congr fun j hj => by rw [ov_dg hr u hj]
theorem dgF_val {p : Nat} [NeZero p] (v i : Nat) : (dgF p v i).val = v / p ^ i % p := by
  have := fC_val (p := p) ((v / p ^ i : Nat) : Int)
  rw [← Int.natCast_emod] at this
  exact Int.ofNat.inj this
theorem ov_nB {p : Nat} [NeZero p] (hr : r = 1 ∨ r = 2) {v : Nat} (hv : v < p ^ r) : nB p r (fun i => (dgF p v i).val) = v := by
  have hp := fP (p := p)
  have e : nB p r (fun i => (dgF p v i).val) = nB p r (fun i => v / p ^ i % p) := nB_congr fun i _ => dgF_val v i
  rw [e]
  rcases hr with rfl | rfl
  · rw [Nat.pow_one] at hv
    show v / p ^ 0 % p + p * 0 = v
    rw [Nat.pow_zero, Nat.div_one, Nat.mod_eq_of_lt hv]; rfl
  · rw [Nat.pow_two] at hv
    have : v / p < p := Nat.div_lt_of_lt_mul hv
    show v / p ^ 0 % p + p * (v / p ^ 1 % p + p * 0) = v
    rw [Nat.pow_zero, Nat.div_one, Nat.pow_one, Nat.mul_zero, Nat.add_zero, Nat.mod_eq_of_lt this]
    have := Nat.mod_add_div v p
    omega
theorem dgF_0 {p : Nat} [NeZero p] (i : Nat) : dgF p 0 i = 0 := by
  unfold dgF
  rw [Nat.zero_div]; exact fC_0
theorem ov_at {p : Nat} [NeZero p] (hr : r = 1 ∨ r = 2) {x v : Nat} (hv : v < p ^ r) : (p ^ r * x + v) / p ^ r = x ∧ (p ^ r * x + v) % p ^ r = v := z2_at hv
theorem ovT_div {p : Nat} [NeZero p] {f : fV p} (hr : r = 1 ∨ r = 2) (a b : Nat) : ovT n r T M f a b / p ^ r = T (a / p ^ r) (b / p ^ r) := (ov_at hr (ov_lt hr _)).1
theorem ovT_mod {p : Nat} [NeZero p] {f : fV p} (hr : r = 1 ∨ r = 2) (a b : Nat) : ovT n r T M f a b % p ^ r = nB p r (fun i => (ovU n r M f (a / p ^ r) (a % p ^ r) (b / p ^ r) (b % p ^ r) i).val) := (ov_at hr (ov_lt hr _)).2
theorem cL_all {p : Nat} [NeZero p] {f : fV p} (G : zGrp n T) (hM : sdM (p := p) n r T M) (hZ : Z2 n r T M f) {x y z i : Nat} (hx : x < n) (hy : y < n) (hz : z < n) (hi : i < r) : cL n r T M f x y z i = 0 := by
  by_cases c1 : x = 0
  · rw [c1]; exact cL_0x G hM f hy hz hi
  · by_cases c2 : y = 0
    · rw [c2]; exact cL_0y G f hx hz
    · by_cases c3 : z = 0
      · rw [c3]; exact cL_0z G f hx hy
      · exact ((Z2_iff G (fun _ => True) f).mp hZ).2 x y z i trivial (by omega) hx (by omega) hy (by omega) hz hi
theorem ovT_grp {p : Nat} [NeZero p] {f : fV p} (G : zGrp n T) (hM : sdM (p := p) n r T M) (hr : r = 1 ∨ r = 2) (hZ : Z2 n r T M f) : zGrp (p ^ r * n) (ovT n r T M f) := by
  have hp := fP (p := p)
  have hq : 0 < p ^ r := Nat.pow_pos hp
  have dl : ∀ a, a < p ^ r * n → a / p ^ r < n := fun a ha => Nat.div_lt_of_lt_mul ha
  have ml : ∀ a, a % p ^ r < p ^ r := fun a => Nat.mod_lt a hq
  have cmp : ∀ x v, x < n → v < p ^ r → p ^ r * x + v < p ^ r * n := fun x v hx hv => by
    have := Nat.mul_le_mul_left (p ^ r) (show x + 1 ≤ n from hx)
    rw [Nat.mul_succ] at this
    omega
  have ext : ∀ a b, a / p ^ r = b / p ^ r → a % p ^ r = b % p ^ r → a = b := fun a b h1 h2 => by
    rw [← Nat.div_add_mod a (p ^ r), ← Nat.div_add_mod b (p ^ r), h1, h2]
  have nBe : ∀ u u' : Nat → Fin p, (∀ i, i < r → u i = u' i) → nB p r (fun i => (u i).val) = nB p r (fun i => (u' i).val) := fun u u' h => nB_congr fun i hi => by rw [h i hi]
  have lt : ∀ a b, a < p ^ r * n → b < p ^ r * n → ovT n r T M f a b < p ^ r * n := fun a b ha hb => cmp _ _ (G.2.1 _ _ (dl a ha) (dl b hb)) (ov_lt hr _)
  have c0 : ∀ y i, pv n r f 0 y i = 0 := fun y i => if_pos (Or.inl rfl)
  have c0' : ∀ x i, pv n r f x 0 i = 0 := fun x i => if_pos (Or.inr rfl)
  have one : ∀ (u : Nat → Fin p) i, i < r → fSum (fun j => mC M 0 i j * u j) r = u i := fun u i hi => by
    rw [fSum_one hi fun j hj hne => by rw [hM.1 i j hi hj, if_neg (fun e => hne e.symm)]; grind]
    rw [hM.1 i i hi hi, if_pos rfl]; grind
  refine ⟨Nat.mul_pos hq G.1, lt, fun a ha => ⟨ext _ _ ?_ ?_, ext _ _ ?_ ?_⟩, fun a b c ha hb hc => ext _ _ ?_ ?_, fun a ha => ?_⟩
  · rw [ovT_div hr, Nat.zero_div, (G.2.2.1 _ (dl a ha)).1]
  · rw [ovT_mod hr, Nat.zero_div, Nat.zero_mod]
    conv => rhs; rw [← ov_nB hr (ml a)]
    refine nBe _ _ fun i hi => ?_
    unfold ovU
    rw [dgF_0, one _ i hi, c0]
    grind
  · rw [ovT_div hr, Nat.zero_div, (G.2.2.1 _ (dl a ha)).2]
  · rw [ovT_mod hr, Nat.zero_div, Nat.zero_mod]
    conv => rhs; rw [← ov_nB hr (ml a)]
    refine nBe _ _ fun i hi => ?_
    unfold ovU
    rw [fSum_z fun j hj => by rw [dgF_0]; grind, c0']
    grind
  · rw [ovT_div hr, ovT_div hr, ovT_div hr, ovT_div hr]
    exact G.2.2.2.1 _ _ _ (dl a ha) (dl b hb) (dl c hc)
  · rw [ovT_mod hr, ovT_mod hr a (ovT n r T M f b c), ovT_div hr, ovT_mod hr, ovT_div hr, ovT_mod hr]
    refine nBe _ _ fun i hi => ?_
    have hx := dl a ha
    have hy := dl b hb
    have hz := dl c hc
    have cz := cL_all G hM hZ hx hy hz hi
    have hm := fun k hk => hM.2 (a / p ^ r) (b / p ^ r) i k hx hy hi hk
    unfold cL at cz
    unfold ovU
    rw [ov_dg hr _ hi]
    rw [ov_sum hr]
    rcases hr with rfl | rfl
    · have hm0 := hm 0 (by omega)
      simp only [fSum] at *
      rw [hm0]
      grind
    · have hm0 := hm 0 (by omega)
      have hm1 := hm 1 (by omega)
      simp only [fSum] at *
      rw [hm0, hm1]
      grind
  · obtain ⟨y, hy, e1, e2⟩ := G.inv (dl a ha)
    refine ⟨p ^ r * y + nB p r (fun i => (fSum (fun j => mC M y i j * (-1 * (dgF p (a % p ^ r) j + pv n r f (a / p ^ r) y j))) r).val), cmp _ _ hy (ov_lt hr _), ext _ _ ?_ ?_⟩
    · rw [ovT_div hr, (ov_at hr (ov_lt hr _)).1, e1, Nat.zero_div]
    · rw [ovT_mod hr, (ov_at hr (ov_lt hr _)).1, (ov_at hr (ov_lt hr _)).2, Nat.zero_mod]
      conv => rhs; rw [← ov_nB (p := p) hr (show 0 < p ^ r from hq)]
      refine nBe _ _ fun i hi => ?_
      have hx := dl a ha
      have hm := fun k hk => hM.2 (a / p ^ r) y i k hx hy hi hk
      have h0 := fun k hk => hM.1 i k hi hk
      rw [e1] at hm
      unfold ovU
      rw [dgF_0]
      rw [ov_sum hr]
      rcases hr with rfl | rfl
      · have hm0 := hm 0 (by omega)
        have h00 := h0 0 (by omega)
        obtain rfl : i = 0 := by omega
        rw [if_pos rfl] at h00
        simp only [fSum] at *
        rw [h00] at hm0
        grind
      · have hm0 := hm 0 (by omega)
        have hm1 := hm 1 (by omega)
        have h00 := h0 0 (by omega)
        have h01 := h0 1 (by omega)
        rw [h00] at hm0
        rw [h01] at hm1
        simp only [fSum] at *
        rcases (show i = 0 ∨ i = 1 by omega) with rfl | rfl
        · rw [if_pos rfl] at hm0
          rw [if_neg (by decide)] at hm1
          grind
        · rw [if_neg (by decide)] at hm0
          rw [if_pos rfl] at hm1
          grind
theorem cmb_Z2 {p : Nat} [NeZero p] {k : Nat} {R : Nat → fV p} {l : Nat → Nat} (h : fRref (NS (p := p) n r T M) k R l) (v : Nat) : Z2 n r T M (cmb R v k) := by
  have hS : fSub ((n - 1) * (n - 1) * r) (NS (p := p) n r T M) := fAway_sub (fNul_sub _)
  have key : ∀ k', k' ≤ k → NS (p := p) n r T M (fun j => fSum (fun s => fC ((v / p ^ s : Nat) : Int) * R s j) k') := by
    intro k'
    induction k' with
    | zero => intro _; exact hS.2.1
    | succ k' ih =>
      intro hk
      exact hS.add (ih (by omega)) (hS.smul _ (h.1.1 k' (by omega)).1)
  exact (key k (Nat.le_refl k)).1
end OVG
