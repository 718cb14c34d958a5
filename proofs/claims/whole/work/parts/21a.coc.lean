/-! PAIRS THAT ARE COCYCLES: rows of equations; makers are enough -/
section COC
variable {n r : Nat} {T : Nat → Nat → Nat} {M : Nat → Nat → Nat → Int}
theorem fDot_unit {p : Nat} [NeZero p] {W q : Nat} (hq : q < W) (f : fV p) : fDot (fUnit q) f W = f q := by
  rw [fDot_one (fUnit q) f W q hq fun j hj hne => by
    show (if j = q then (1 : Fin p) else 0) * f j = 0
    rw [if_neg hne]; grind]
  show (if q = q then (1 : Fin p) else 0) * f q = f q
  rw [if_pos rfl]; grind
def cR0 {p : Nat} [NeZero p] (n r : Nat) (M : Nat → Nat → Nat → Int) (x y z i : Nat) : Nat → fV p
  | 0 => fZ
  | k + 1 => fAx (cR0 n r M x y z i k) (mC M x i k) (fUnit (pl n r y z k))
def cR1 {p : Nat} [NeZero p] (n r : Nat) (T : Nat → Nat → Nat) (M : Nat → Nat → Nat → Int) (x y z i : Nat) : fV p := if T y z = 0 then cR0 n r M x y z i r else fAx (cR0 n r M x y z i r) 1 (fUnit (pl n r x (T y z) i))
def cR2 {p : Nat} [NeZero p] (n r : Nat) (T : Nat → Nat → Nat) (M : Nat → Nat → Nat → Int) (x y z i : Nat) : fV p := if T x y = 0 then cR1 n r T M x y z i else fAx (cR1 n r T M x y z i) (-1) (fUnit (pl n r (T x y) z i))
/-- what a cocycle's numbers obey, as a row -/
def cR {p : Nat} [NeZero p] (n r : Nat) (T : Nat → Nat → Nat) (M : Nat → Nat → Nat → Int) (x y z i : Nat) : fV p := fAx (cR2 n r T M x y z i) (-1) (fUnit (pl n r x y i))
def cL {p : Nat} [NeZero p] (n r : Nat) (T : Nat → Nat → Nat) (M : Nat → Nat → Nat → Int) (f : fV p) (x y z i : Nat) : Fin p := fSum (fun j => mC M x i j * pv n r f y z j) r + pv n r f x (T y z) i + -1 * pv n r f (T x y) z i + -1 * pv n r f x y i
theorem cR0_dot {p : Nat} [NeZero p] (f : fV p) {x y z i : Nat} (hy : 1 ≤ y) (hyn : y < n) (hz : 1 ≤ z) (hzn : z < n) : ∀ k, k ≤ r → fDot (cR0 n r M x y z i k) f ((n - 1) * (n - 1) * r) = fSum (fun j => mC M x i j * pv n r f y z j) k := by
  intro k
  induction k with
  | zero => intro _; exact fDot_z _ _ _ fun j _ => by show (0 : Fin p) * _ = 0; grind
  | succ k ih =>
    intro hk
    show fDot (fAx (cR0 n r M x y z i k) (mC M x i k) (fUnit (pl n r y z k))) f _ = fSum _ k + mC M x i k * pv n r f y z k
    rw [fDot_ax, ih (by omega), fDot_unit (pl_lt hy hyn hz hzn (by omega))]
    unfold pv
    rw [if_neg (show ¬ (y = 0 ∨ z = 0) by omega)]
theorem cR_dot {p : Nat} [NeZero p] (G : zGrp n T) (f : fV p) {x y z i : Nat} (hx : 1 ≤ x) (hxn : x < n) (hy : 1 ≤ y) (hyn : y < n) (hz : 1 ≤ z) (hzn : z < n) (hi : i < r) : fDot (cR n r T M x y z i) f ((n - 1) * (n - 1) * r) = cL n r T M f x y z i := by
  have h1 := G.2.1 y z hyn hzn
  have h2 := G.2.1 x y hxn hyn
  have e1 : fDot (cR1 n r T M x y z i) f ((n - 1) * (n - 1) * r) = fSum (fun j => mC M x i j * pv n r f y z j) r + pv n r f x (T y z) i := by
    unfold cR1 pv
    by_cases q : T y z = 0
    · rw [if_pos q, if_pos (Or.inr q), cR0_dot f hy hyn hz hzn r (Nat.le_refl _)]
      unfold pv; grind
    · rw [if_neg q, if_neg (by omega), fDot_ax, cR0_dot f hy hyn hz hzn r (Nat.le_refl _), fDot_unit (pl_lt hx hxn (by omega) h1 hi)]
      unfold pv; grind
  have e2 : fDot (cR2 n r T M x y z i) f ((n - 1) * (n - 1) * r) = fSum (fun j => mC M x i j * pv n r f y z j) r + pv n r f x (T y z) i + -1 * pv n r f (T x y) z i := by
    unfold cR2
    by_cases q : T x y = 0
    · rw [if_pos q, e1]
      have : pv n r f (T x y) z i = 0 := if_pos (Or.inl q)
      rw [this]; grind
    · rw [if_neg q, fDot_ax, e1, fDot_unit (pl_lt (by omega) h2 hz hzn hi)]
      have : pv n r f (T x y) z i = f (pl n r (T x y) z i) := if_neg (by omega)
      rw [this]
  unfold cR cL
  rw [fDot_ax, e2, fDot_unit (pl_lt hx hxn hy hyn hi)]
  have : pv n r f x y i = f (pl n r x y i) := if_neg (by omega)
  rw [this]
def gC {p : Nat} [NeZero p] (n r : Nat) (T : Nat → Nat → Nat) (M : Nat → Nat → Nat → Int) (X : Nat → Prop) (g : fV p) : Prop := ∃ x y z i, X x ∧ 1 ≤ x ∧ x < n ∧ 1 ≤ y ∧ y < n ∧ 1 ≤ z ∧ z < n ∧ i < r ∧ g = cR n r T M x y z i
/-- the pairs that are cocycles -/
def Z2 {p : Nat} [NeZero p] (n r : Nat) (T : Nat → Nat → Nat) (M : Nat → Nat → Nat → Int) : fV p → Prop := fNul ((n - 1) * (n - 1) * r) (gC n r T M fun _ => True)
theorem Z2_iff {p : Nat} [NeZero p] (G : zGrp n T) (X : Nat → Prop) (f : fV p) : fNul ((n - 1) * (n - 1) * r) (gC n r T M X) f ↔ fOk ((n - 1) * (n - 1) * r) f ∧ ∀ x y z i, X x → 1 ≤ x → x < n → 1 ≤ y → y < n → 1 ≤ z → z < n → i < r → cL n r T M f x y z i = 0 := by
  constructor
  · rintro ⟨h1, h2⟩
    refine ⟨h1, fun x y z i hX hx hxn hy hyn hz hzn hi => ?_⟩
    rw [← cR_dot G f hx hxn hy hyn hz hzn hi]
    exact h2 _ ⟨x, y, z, i, hX, hx, hxn, hy, hyn, hz, hzn, hi, rfl⟩
  · rintro ⟨h1, h2⟩
    refine ⟨h1, ?_⟩
    rintro g ⟨x, y, z, i, hX, hx, hxn, hy, hyn, hz, hzn, hi, rfl⟩
    rw [cR_dot G f hx hxn hy hyn hz hzn hi]
    exact h2 x y z i hX hx hxn hy hyn hz hzn hi
/-- a sound module's matrices, modulo p -/
def sdM {p : Nat} [NeZero p] (n r : Nat) (T : Nat → Nat → Nat) (M : Nat → Nat → Nat → Int) : Prop := (∀ i j, i < r → j < r → (mC M 0 i j : Fin p) = if i = j then 1 else 0) ∧ ∀ x y i j, x < n → y < n → i < r → j < r → (mC M (T x y) i j : Fin p) = fSum (fun k => mC M x i k * mC M y k j) r
theorem fC_iSum {p : Nat} [NeZero p] (a b : Nat → Int) (k : Nat) : (fC (iSum (fun j => a j * b j) k) : Fin p) = fSum (fun j => fC (a j) * fC (b j)) k := by
  induction k with
  | zero => exact fC_0
  | succ k ih =>
    show fC (iSum _ k + a k * b k) = fSum _ k + fC (a k) * fC (b k)
    rw [fC_add, fC_mul, ih]
theorem sdM_of {p : Nat} [NeZero p] (G : zGrp n T) (h : sdV n p r T M = 0) : sdM (p := p) n r T M := by
  have hz : sdZero r M := Classical.byContradiction fun q => by rw [sdV_1 q] at h; omega
  have hb : ∀ q, q < n * n → ¬ sdBad n p r T M q := fun q hq hb => by
    obtain ⟨k, ⟨a1, a2⟩, a3⟩ := nLeast (P := fun q => q < n * n ∧ sdBad n p r T M q) ⟨q, hq, hb⟩
    rw [sdV_2 hz a1 a2 (fun j hj hbj => a3 j hj ⟨by omega, hbj⟩)] at h
    omega
  refine ⟨fun i j hi hj => ?_, fun x y i j hx hy hi hj => ?_⟩
  · unfold mC
    rw [hz i j hi hj]
    split
    · exact fC_1
    · exact fC_0
  · have hlt : n * x + y < n * n := by
      have : n * (x + 1) ≤ n * n := Nat.mul_le_mul_left _ hx
      rw [Nat.mul_succ] at this; omega
    have h1 := Classical.not_not.mp (hb _ hlt) i j hi hj
    rw [(z2_at hy).1, (z2_at hy).2] at h1
    unfold mC
    have h2 : iSum (fun k => M x i k * M y k j) r % p = M (T x y) i j := h1
    rw [← h2, fC_m, fC_iSum (fun k => M x i k) (fun k => M y k j)]
theorem cL_0y {p : Nat} [NeZero p] (G : zGrp n T) (f : fV p) {x z i : Nat} (hx : x < n) (hz : z < n) : cL n r T M f x 0 z i = 0 := by
  unfold cL
  have e1 : ∀ a i, pv n r f 0 a i = 0 := fun a i => if_pos (Or.inl rfl)
  have e2 : ∀ a i, pv n r f a 0 i = 0 := fun a i => if_pos (Or.inr rfl)
  rw [fSum_z fun j _ => by rw [e1]; grind, (G.2.2.1 z hz).1, (G.2.2.1 x hx).2, e2]
  grind
theorem cL_0z {p : Nat} [NeZero p] (G : zGrp n T) (f : fV p) {x y i : Nat} (hx : x < n) (hy : y < n) : cL n r T M f x y 0 i = 0 := by
  unfold cL
  have e2 : ∀ a i, pv n r f a 0 i = 0 := fun a i => if_pos (Or.inr rfl)
  rw [fSum_z fun j _ => by rw [e2]; grind, (G.2.2.1 y hy).2, e2]
  grind
theorem cL_0x {p : Nat} [NeZero p] (G : zGrp n T) (hM : sdM (p := p) n r T M) (f : fV p) {y z i : Nat} (hy : y < n) (hz : z < n) (hi : i < r) : cL n r T M f 0 y z i = 0 := by
  unfold cL
  have e1 : ∀ a i, pv n r f 0 a i = 0 := fun a i => if_pos (Or.inl rfl)
  rw [fSum_one hi fun j hj hne => by rw [hM.1 i j hi hj, if_neg (fun e => hne e.symm)]; grind]
  rw [hM.1 i i hi hi, if_pos rfl, e1, e1, (G.2.2.1 y hy).1]
  grind
theorem cL_mul {p : Nat} [NeZero p] (G : zGrp n T) (hM : sdM (p := p) n r T M) (hr : r = 1 ∨ r = 2) (f : fV p) {a b : Nat} (ha : a < n) (hb : b < n) (h1 : ∀ y z i, y < n → z < n → i < r → cL n r T M f a y z i = 0) (h2 : ∀ y z i, y < n → z < n → i < r → cL n r T M f b y z i = 0) : ∀ y z i, y < n → z < n → i < r → cL n r T M f (T a b) y z i = 0 := by
  intro y z i hy hz hi
  have hyz := G.2.1 y z hy hz
  have hby := G.2.1 b y hb hy
  have c1 := h1 b (T y z) i hb hyz hi
  have c2 := h1 (T b y) z i hby hz hi
  have c3 := h1 b y i hb hy hi
  have as1 : T (T a b) y = T a (T b y) := G.2.2.2.1 a b y ha hb hy
  have as2 : T (T b y) z = T b (T y z) := G.2.2.2.1 b y z hb hy hz
  have hm := fun k hk => hM.2 a b i k ha hb hi hk
  have c4 := fun j hj => h2 y z j hy hz hj
  unfold cL at *
  rw [as1]
  rw [as2] at c2
  rcases hr with e | e
  · subst e
    have hm0 := hm 0 (by omega)
    have c40 := c4 0 (by omega)
    simp only [fSum] at *
    rw [hm0]
    grind
  · subst e
    have hm0 := hm 0 (by omega)
    have hm1 := hm 1 (by omega)
    have c40 := c4 0 (by omega)
    have c41 := c4 1 (by omega)
    simp only [fSum] at *
    rw [hm0, hm1]
    grind
theorem Z2_makers {p : Nat} [NeZero p] (G : zGrp n T) (hM : sdM (p := p) n r T M) (hr : r = 1 ∨ r = 2) {m : Nat} {g : Nat → Nat} (hg : ∀ i, i < m → 1 ≤ g i ∧ g i < n) (hall : zAll n T m g) (f : fV p) : fNul ((n - 1) * (n - 1) * r) (gC n r T M fun x => ∃ i, i < m ∧ x = g i) f ↔ Z2 n r T M f := by
  unfold Z2
  rw [Z2_iff G, Z2_iff G]
  refine ⟨fun ⟨h1, h2⟩ => ⟨h1, fun x y z i _ hx hxn hy hyn hz hzn hi => ?_⟩, fun ⟨h1, h2⟩ => ⟨h1, fun x y z i _ => h2 x y z i trivial⟩⟩
  have hm : ∀ s, (∃ i, i < m ∧ s = g i) → ∀ y z i, y < n → z < n → i < r → cL n r T M f s y z i = 0 := by
    rintro s ⟨k, hk, rfl⟩ y z i hy hz hi
    have hgk := hg k hk
    rcases Nat.eq_zero_or_pos y with q | q
    · rw [q]; exact cL_0y G f hgk.2 hz
    · rcases Nat.eq_zero_or_pos z with q2 | q2
      · rw [q2]; exact cL_0z G f hgk.2 hy
      · exact h2 _ y z i ⟨k, hk, rfl⟩ hgk.1 hgk.2 q hy q2 hz hi
  have key := hall x hxn (fun x => x < n ∧ ∀ y z i, y < n → z < n → i < r → cL n r T M f x y z i = 0) ⟨G.1, fun y z i hy hz hi => cL_0x G hM f hy hz hi⟩ (by
    rintro a s ⟨ha, ha2⟩ hs
    obtain ⟨k, hk, rfl⟩ := hs
    exact ⟨G.2.1 _ _ ha (hg k hk).2, cL_mul G hM hr f ha (hg k hk).2 ha2 (hm _ ⟨k, hk, rfl⟩)⟩)
  exact key.2 y z i hyn hzn hi
end COC
