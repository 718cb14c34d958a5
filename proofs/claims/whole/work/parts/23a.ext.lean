/-! HOW MANY STANDARDS: the group over, and parts of it that go along with parts of the group -/
abbrev eP (p : Nat) : Type := (Nat → Fin p) × Nat
section EXT
variable {n r : Nat} {T : Nat → Nat → Nat} {M : Nat → Nat → Nat → Int}
def ac {p : Nat} [NeZero p] (r : Nat) (M : Nat → Nat → Nat → Int) (x : Nat) (v : Nat → Fin p) (i : Nat) : Fin p := fSum (fun j => mC M x i j * v j) r
def eM {p : Nat} [NeZero p] (n r : Nat) (T : Nat → Nat → Nat) (M : Nat → Nat → Nat → Int) (f : fV p) (a b : eP p) : eP p := (fun i => if i < r then a.1 i + ac r M a.2 b.1 i + pv n r f a.2 b.2 i else 0, T a.2 b.2)
def eOk {p : Nat} [NeZero p] (n r : Nat) (a : eP p) : Prop := a.2 < n ∧ ∀ i, r ≤ i → a.1 i = 0
/-- a cocycle, with zeros too -/
def eCo {p : Nat} [NeZero p] (n r : Nat) (T : Nat → Nat → Nat) (M : Nat → Nat → Nat → Int) (f : fV p) : Prop := ∀ x y z i, x < n → y < n → z < n → i < r → cL n r T M f x y z i = 0
theorem Z2_co {p : Nat} [NeZero p] (G : zGrp n T) (hM : sdM (p := p) n r T M) {f : fV p} (h : Z2 n r T M f) : eCo n r T M f := by
  intro x y z i hx hy hz hi
  rcases Nat.eq_zero_or_pos x with q | q
  · rw [q]; exact cL_0x G hM f hy hz hi
  · rcases Nat.eq_zero_or_pos y with q2 | q2
    · rw [q2]; exact cL_0y G f hx hz
    · rcases Nat.eq_zero_or_pos z with q3 | q3
      · rw [q3]; exact cL_0z G f hx hy
      · exact ((Z2_iff G _ f).mp h).2 x y z i trivial q hx q2 hy q3 hz hi
theorem ac_z {p : Nat} [NeZero p] (x i : Nat) : ac r M x (fun _ => (0 : Fin p)) i = 0 := fSum_z fun j _ => by grind
theorem ac_ax {p : Nat} [NeZero p] (x i : Nat) (u v : Nat → Fin p) (c : Fin p) : ac r M x (fun j => u j + c * v j) i = ac r M x u i + c * ac r M x v i := fSum_ax _ _ _ _ _
theorem ac_0 {p : Nat} [NeZero p] (hM : sdM (p := p) n r T M) (v : Nat → Fin p) {i : Nat} (hi : i < r) : ac r M 0 v i = v i := by
  unfold ac
  rw [fSum_one hi fun j hj hne => by rw [hM.1 i j hi hj, if_neg (fun e => hne e.symm)]; grind]
  rw [hM.1 i i hi hi, if_pos rfl]; grind
theorem ac_cg {p : Nat} [NeZero p] {x i : Nat} {u v : Nat → Fin p} (h : ∀ j, j < r → u j = v j) : ac r M x u i = ac r M x v i := fSum_congr fun j hj => by rw [h j hj]
theorem eM_ok {p : Nat} [NeZero p] (G : zGrp n T) {f : fV p} {a b : eP p} (ha : eOk n r a) (hb : eOk n r b) : eOk n r (eM n r T M f a b) := ⟨G.2.1 _ _ ha.1 hb.1, fun i hi => if_neg (by omega)⟩
theorem eM_as {p : Nat} [NeZero p] (G : zGrp n T) (hM : sdM (p := p) n r T M) (hr : r = 1 ∨ r = 2) {f : fV p} (hf : eCo n r T M f) {a b c : eP p} (ha : eOk n r a) (hb : eOk n r b) (hc : eOk n r c) : eM n r T M f (eM n r T M f a b) c = eM n r T M f a (eM n r T M f b c) := by
  obtain ⟨u, x⟩ := a
  obtain ⟨v, y⟩ := b
  obtain ⟨w, z⟩ := c
  have hx : x < n := ha.1
  have hy : y < n := hb.1
  have hz : z < n := hc.1
  unfold eM
  refine Prod.ext ?_ (G.2.2.2.1 x y z hx hy hz)
  funext i
  show (if i < r then (if i < r then u i + ac r M x v i + pv n r f x y i else 0) + ac r M (T x y) w i + pv n r f (T x y) z i else 0) = if i < r then u i + ac r M x (fun i => if i < r then v i + ac r M y w i + pv n r f y z i else 0) i + pv n r f x (T y z) i else 0
  by_cases hi : i < r
  · rw [if_pos hi, if_pos hi, if_pos hi]
    have h1 := hf x y z i hx hy hz hi
    have e1 : ac r M x (fun i => if i < r then v i + ac r M y w i + pv n r f y z i else 0) i = ac r M x v i + ac r M x (fun j => ac r M y w j) i + ac r M x (fun j => pv n r f y z j) i := by
      rw [ac_cg (v := fun j => (v j + 1 * ac r M y w j) + 1 * pv n r f y z j) fun j hj => by rw [if_pos hj]; grind]
      rw [ac_ax, ac_ax]; grind
    have e2 : ac r M x (fun j => ac r M y w j) i = ac r M (T x y) w i := by
      have hm := fun k hk => hM.2 x y i k hx hy hi hk
      unfold ac
      rcases hr with e | e
      · subst e
        have hm0 := hm 0 (by omega)
        simp only [fSum] at *
        rw [hm0]; grind
      · subst e
        have hm0 := hm 0 (by omega)
        have hm1 := hm 1 (by omega)
        simp only [fSum] at *
        rw [hm0, hm1]; grind
    have e3 : ac r M x (fun j => pv n r f y z j) i = fSum (fun j => mC M x i j * pv n r f y z j) r := rfl
    unfold cL at h1
    rw [e1, e2, e3]
    grind
  · rw [if_neg hi, if_neg hi]
theorem eM_1l {p : Nat} [NeZero p] (G : zGrp n T) (hM : sdM (p := p) n r T M) {f : fV p} {a : eP p} (ha : eOk n r a) : eM n r T M f (fun _ => 0, 0) a = a := by
  obtain ⟨u, x⟩ := a
  unfold eM
  refine Prod.ext ?_ (G.2.2.1 x ha.1).1
  funext i
  show (if i < r then (0 : Fin p) + ac r M 0 u i + pv n r f 0 x i else 0) = u i
  by_cases hi : i < r
  · rw [if_pos hi, ac_0 hM u hi, show pv n r f 0 x i = 0 from if_pos (Or.inl rfl)]; grind
  · rw [if_neg hi]; exact (ha.2 i (by omega)).symm
theorem eM_1r {p : Nat} [NeZero p] (G : zGrp n T) {f : fV p} {a : eP p} (ha : eOk n r a) : eM n r T M f a (fun _ => 0, 0) = a := by
  obtain ⟨u, x⟩ := a
  unfold eM
  refine Prod.ext ?_ (G.2.2.1 x ha.1).2
  funext i
  show (if i < r then u i + ac r M x (fun _ => 0) i + pv n r f x 0 i else 0) = u i
  by_cases hi : i < r
  · rw [if_pos hi, ac_z, show pv n r f x 0 i = 0 from if_pos (Or.inr rfl)]; grind
  · rw [if_neg hi]; exact (ha.2 i (by omega)).symm
theorem pv_ax {p : Nat} [NeZero p] (u v : fV p) (c : Fin p) (x y i : Nat) : pv n r (fAx u c v) x y i = pv n r u x y i + c * pv n r v x y i := by
  unfold pv
  by_cases q : x = 0 ∨ y = 0
  · rw [if_pos q, if_pos q, if_pos q]; grind
  · rw [if_neg q, if_neg q, if_neg q]; rfl
theorem eM_lin {p : Nat} [NeZero p] {a b : fV p → Nat → Fin p} {x y : Nat} (ha : ∀ (u v : fV p) (c : Fin p) (i : Nat), a (fAx u c v) i = a u i + c * a v i) (hb : ∀ (u v : fV p) (c : Fin p) (i : Nat), b (fAx u c v) i = b u i + c * b v i) (u v : fV p) (c : Fin p) (i : Nat) : (eM n r T M (fAx u c v) (a (fAx u c v), x) (b (fAx u c v), y)).1 i = (eM n r T M u (a u, x) (b u, y)).1 i + c * (eM n r T M v (a v, x) (b v, y)).1 i := by
  show (if i < r then a (fAx u c v) i + ac r M x (b (fAx u c v)) i + pv n r (fAx u c v) x y i else 0) = (if i < r then a u i + ac r M x (b u) i + pv n r u x y i else 0) + c * (if i < r then a v i + ac r M x (b v) i + pv n r v x y i else 0)
  by_cases hi : i < r
  · rw [if_pos hi, if_pos hi, if_pos hi, ha, pv_ax, ac_cg (v := fun j => b u j + c * b v j) (fun j _ => hb u v c j), ac_ax]; grind
  · rw [if_neg hi, if_neg hi, if_neg hi]; grind
/-- so many numbers of a cocycle decide whether it goes along with a part -/
def Ctl (p : Nat) [NeZero p] (n r : Nat) (T : Nat → Nat → Nat) (M : Nat → Nat → Nat → Int) (K : Nat → Prop) (m : Nat) : Prop := ∃ (s : fV p → Nat → Nat → Fin p) (φ : Nat → fV p → Fin p), (∀ u v c x i, s (fAx u c v) x i = s u x i + c * s v x i) ∧ (∀ f x i, r ≤ i → s f x i = 0) ∧ (∀ j u v c, φ j (fAx u c v) = φ j u + c * φ j v) ∧ ∀ f, eCo n r T M f → (∀ j, j < m → φ j f = 0) → ∀ x y, K x → K y → eM n r T M f (s f x, x) (s f y, y) = (s f (T x y), T x y)
/-- powers of an element, over -/
def ePw {p : Nat} [NeZero p] (n r : Nat) (T : Nat → Nat → Nat) (M : Nat → Nat → Nat → Int) (f : fV p) (a : Nat) : Nat → eP p
  | 0 => (fun _ => 0, 0)
  | k + 1 => eM n r T M f (ePw n r T M f a k) (fun _ => 0, a)
theorem ePw_ok {p : Nat} [NeZero p] (G : zGrp n T) (f : fV p) {a : Nat} (ha : a < n) (k : Nat) : eOk n r (ePw n r T M f a k) ∧ (ePw n r T M f a k).2 = zPow T a k := by
  induction k with
  | zero => exact ⟨⟨G.1, fun _ _ => rfl⟩, rfl⟩
  | succ k ih => exact ⟨eM_ok G ih.1 ⟨ha, fun _ _ => rfl⟩, by show T (ePw n r T M f a k).2 a = T (zPow T a k) a; rw [ih.2]⟩
theorem ePw_add {p : Nat} [NeZero p] (G : zGrp n T) (hM : sdM (p := p) n r T M) (hr : r = 1 ∨ r = 2) {f : fV p} (hf : eCo n r T M f) {a : Nat} (ha : a < n) (j k : Nat) : ePw n r T M f a (j + k) = eM n r T M f (ePw n r T M f a j) (ePw n r T M f a k) := by
  induction k with
  | zero => exact (eM_1r G (ePw_ok G f ha j).1).symm
  | succ k ih =>
    show eM n r T M f (ePw n r T M f a (j + k)) _ = eM n r T M f _ (eM n r T M f _ _)
    rw [ih, eM_as G hM hr hf (ePw_ok G f ha j).1 (ePw_ok G f ha k).1 ⟨ha, fun _ _ => rfl⟩]
theorem ePw_lin {p : Nat} [NeZero p] (G : zGrp n T) {a : Nat} (ha : a < n) (u v : fV p) (c : Fin p) (k i : Nat) : (ePw n r T M (fAx u c v) a k).1 i = (ePw n r T M u a k).1 i + c * (ePw n r T M v a k).1 i := by
  induction k generalizing i with
  | zero => show (0 : Fin p) = 0 + c * 0; grind
  | succ k ih =>
    show (if i < r then (ePw n r T M (fAx u c v) a k).1 i + ac r M (ePw n r T M (fAx u c v) a k).2 (fun _ => 0) i + pv n r (fAx u c v) (ePw n r T M (fAx u c v) a k).2 a i else 0) = (if i < r then (ePw n r T M u a k).1 i + ac r M (ePw n r T M u a k).2 (fun _ => 0) i + pv n r u (ePw n r T M u a k).2 a i else 0) + c * (if i < r then (ePw n r T M v a k).1 i + ac r M (ePw n r T M v a k).2 (fun _ => 0) i + pv n r v (ePw n r T M v a k).2 a i else 0)
    rw [(ePw_ok G _ ha k).2, (ePw_ok G _ ha k).2, (ePw_ok G _ ha k).2]
    by_cases hi : i < r
    · rw [if_pos hi, if_pos hi, if_pos hi, ih, ac_z, pv_ax]; grind
    · rw [if_neg hi, if_neg hi, if_neg hi]; grind
/-- an element's powers -/
theorem Ctl_cyc {p : Nat} [NeZero p] (G : zGrp n T) (hM : sdM (p := p) n r T M) (hr : r = 1 ∨ r = 2) {a q : Nat} (ha : a < n) (hq : zOrd T a q) : Ctl p n r T M (fun x => ∃ k, x = zPow T a k) r := by
  let ix : Nat → Nat := fun x => nF (fun k => zPow T a k = x) q
  have hix : ∀ k, ix (zPow T a k) = k % q := by
    intro k
    have hlt : k % q < q := Nat.mod_lt _ hq.1
    have e1 : zPow T a (k % q) = zPow T a k := by
      conv => rhs; rw [← Nat.div_add_mod k q, zPow_add G ha, zPow_mul G ha hq.2.1, (G.2.2.1 _ (zPow_lt G ha _)).1]
    refine nF_of hlt e1 fun j hj e2 => ?_
    have e3 : zPow T a (k % q) = T (zPow T a j) (zPow T a (k % q - j)) := by rw [← zPow_add G ha]; congr 1; omega
    refine hq.2.2 (k % q - j) (by omega) (by omega) (G.canL (zPow_lt G ha j) (zPow_lt G ha _) G.1 ?_)
    rw [← e3, (G.2.2.1 _ (zPow_lt G ha j)).2, e1, e2]
  refine ⟨fun f x i => (ePw n r T M f a (ix x)).1 i, fun j f => (ePw n r T M f a q).1 j, fun u v c x i => ePw_lin G ha u v c _ i, fun f x i hi => (ePw_ok G f ha _).1.2 i hi, fun j u v c => ePw_lin G ha u v c _ _, ?_⟩
  rintro f hf h0 x y ⟨k1, rfl⟩ ⟨k2, rfl⟩
  have hpq : ePw n r T M f a q = (fun _ => 0, 0) := Prod.ext (by
    funext i
    rcases Nat.lt_or_ge i r with c | c
    · exact h0 i c
    · exact (ePw_ok G f ha q).1.2 i c) (by rw [(ePw_ok G f ha q).2]; exact hq.2.1)
  have hper : ∀ c d, ePw n r T M f a (q * c + d) = ePw n r T M f a d := by
    intro c d
    induction c with
    | zero => rw [Nat.mul_zero, Nat.zero_add]
    | succ c ih =>
      rw [show q * (c + 1) + d = q + (q * c + d) by rw [Nat.mul_succ]; omega, ePw_add G hM hr hf ha, hpq, eM_1l G hM (ePw_ok G f ha _).1, ih]
  have hpair : ∀ k, ((ePw n r T M f a (ix (zPow T a k))).1, zPow T a k) = ePw n r T M f a k := fun k => by
    have e1 : ePw n r T M f a (ix (zPow T a k)) = ePw n r T M f a k := by
      rw [hix]
      conv => rhs; rw [← Nat.div_add_mod k q, hper]
    rw [e1]
    exact Prod.ext rfl (ePw_ok G f ha k).2.symm
  show eM n r T M f ((ePw n r T M f a (ix (zPow T a k1))).1, zPow T a k1) ((ePw n r T M f a (ix (zPow T a k2))).1, zPow T a k2) = ((ePw n r T M f a (ix (T (zPow T a k1) (zPow T a k2)))).1, T (zPow T a k1) (zPow T a k2))
  rw [← zPow_add G ha, hpair, hpair, hpair, ePw_add G hM hr hf ha]
end EXT
