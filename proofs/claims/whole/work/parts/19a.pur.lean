/-! PLACES; SINGLES, PAIRS AND THEIR BOUNDS -/
theorem pl_inv {n r x y i : Nat} (hx : 1 ≤ x) (hxn : x < n) (hy : 1 ≤ y) (hyn : y < n) (hi : i < r) : pl n r x y i / r / (n - 1) + 1 = x ∧ pl n r x y i / r % (n - 1) + 1 = y ∧ pl n r x y i % r = i := by
  unfold pl
  have e1 : (((x - 1) * (n - 1) + (y - 1)) * r + i) / r = (x - 1) * (n - 1) + (y - 1) := by
    rw [Nat.mul_comm _ r, Nat.mul_add_div (by omega), Nat.div_eq_of_lt hi, Nat.add_zero]
  have e2 : (((x - 1) * (n - 1) + (y - 1)) * r + i) % r = i := by
    rw [Nat.mul_comm _ r, Nat.mul_add_mod, Nat.mod_eq_of_lt hi]
  have e3 : ((x - 1) * (n - 1) + (y - 1)) / (n - 1) = x - 1 := by
    rw [Nat.mul_comm _ (n - 1), Nat.mul_add_div (by omega), Nat.div_eq_of_lt (show y - 1 < n - 1 by omega), Nat.add_zero]
  have e4 : ((x - 1) * (n - 1) + (y - 1)) % (n - 1) = y - 1 := by
    rw [Nat.mul_comm _ (n - 1), Nat.mul_add_mod, Nat.mod_eq_of_lt (show y - 1 < n - 1 by omega)]
  rw [e1, e2, e3, e4]
  omega
theorem pl_ex {n r q : Nat} (hq : q < (n - 1) * (n - 1) * r) : 1 ≤ q / r / (n - 1) + 1 ∧ q / r / (n - 1) + 1 < n ∧ 1 ≤ q / r % (n - 1) + 1 ∧ q / r % (n - 1) + 1 < n ∧ q % r < r ∧ pl n r (q / r / (n - 1) + 1) (q / r % (n - 1) + 1) (q % r) = q := by
  have hr : 0 < r := Nat.pos_of_ne_zero fun e => by rw [e] at hq; omega
  have hn : 0 < n - 1 := Nat.pos_of_ne_zero fun e => by rw [e] at hq; omega
  have h1 : q / r < (n - 1) * (n - 1) := by rw [Nat.div_lt_iff_lt_mul hr]; exact hq
  have h2 : q / r / (n - 1) < n - 1 := by rw [Nat.div_lt_iff_lt_mul hn]; exact h1
  have h3 := Nat.mod_lt (q / r) hn
  have h4 : q / r / (n - 1) + 1 < n := by generalize q / r / (n - 1) = z at h2; omega
  refine ⟨Nat.le_add_left _ _, h4, Nat.le_add_left _ _, by omega, Nat.mod_lt _ hr, ?_⟩
  unfold pl
  rw [Nat.add_sub_cancel, Nat.add_sub_cancel]
  have e1 : q / r / (n - 1) * (n - 1) + q / r % (n - 1) = q / r := by rw [Nat.mul_comm]; exact Nat.div_add_mod _ _
  rw [e1, Nat.mul_comm]
  exact Nat.div_add_mod _ _
theorem pl_eq {n r x y i x' y' i' : Nat} (hx : 1 ≤ x) (hxn : x < n) (hy : 1 ≤ y) (hyn : y < n) (hi : i < r) (hx' : 1 ≤ x') (hxn' : x' < n) (hy' : 1 ≤ y') (hyn' : y' < n) (hi' : i' < r) (e : pl n r x y i = pl n r x' y' i') : x = x' ∧ y = y' ∧ i = i' := by
  have a := pl_inv hx hxn hy hyn hi
  have b := pl_inv hx' hxn' hy' hyn' hi'
  rw [e] at a
  exact ⟨a.1.symm.trans b.1, a.2.1.symm.trans b.2.1, a.2.2.symm.trans b.2.2⟩
/-- places of singles -/
def p1 (r x i : Nat) : Nat := (x - 1) * r + i
theorem p1_inv {r x i : Nat} (hx : 1 ≤ x) (hi : i < r) : p1 r x i / r + 1 = x ∧ p1 r x i % r = i := by
  unfold p1
  rw [Nat.mul_comm _ r, Nat.mul_add_div (by omega), Nat.div_eq_of_lt hi, Nat.mul_add_mod, Nat.mod_eq_of_lt hi]
  omega
theorem p1_lt {n r x i : Nat} (hx : 1 ≤ x) (hxn : x < n) (hi : i < r) : p1 r x i < (n - 1) * r := by
  unfold p1
  have : (x - 1 + 1) * r ≤ (n - 1) * r := Nat.mul_le_mul_right _ (by omega)
  rw [Nat.add_mul, Nat.one_mul] at this
  omega
theorem p1_ex {n r q : Nat} (hq : q < (n - 1) * r) : 1 ≤ q / r + 1 ∧ q / r + 1 < n ∧ q % r < r ∧ p1 r (q / r + 1) (q % r) = q := by
  have hr : 0 < r := Nat.pos_of_ne_zero fun e => by rw [e] at hq; omega
  have h1 : q / r < n - 1 := by rw [Nat.div_lt_iff_lt_mul hr]; exact hq
  refine ⟨Nat.le_add_left _ _, by generalize q / r = z at h1; omega, Nat.mod_lt _ hr, ?_⟩
  unfold p1
  rw [Nat.add_sub_cancel, Nat.mul_comm]
  exact Nat.div_add_mod _ _
theorem p1_eq {r x i x' i' : Nat} (hx : 1 ≤ x) (hi : i < r) (hx' : 1 ≤ x') (hi' : i' < r) (e : p1 r x i = p1 r x' i') : x = x' ∧ i = i' := by
  have a := p1_inv hx hi
  have b := p1_inv hx' hi'
  rw [e] at a
  exact ⟨a.1.symm.trans b.1, a.2.symm.trans b.2⟩
def fSum {p : Nat} [NeZero p] (g : Nat → Fin p) : Nat → Fin p
  | 0 => 0
  | k + 1 => fSum g k + g k
theorem fSum_ax {p : Nat} [NeZero p] (a u v : Nat → Fin p) (c : Fin p) (k : Nat) : fSum (fun j => a j * (u j + c * v j)) k = fSum (fun j => a j * u j) k + c * fSum (fun j => a j * v j) k := by
  induction k with
  | zero => show (0 : Fin p) = 0 + c * 0; grind
  | succ k ih =>
    show fSum _ k + a k * (u k + c * v k) = (fSum _ k + a k * u k) + c * (fSum _ k + a k * v k)
    rw [ih]; grind
theorem fSum_congr {p : Nat} [NeZero p] {a b : Nat → Fin p} {k : Nat} (h : ∀ j, j < k → a j = b j) : fSum a k = fSum b k := by
  induction k with
  | zero => rfl
  | succ k ih =>
    show fSum a k + a k = fSum b k + b k
    rw [ih fun j hj => h j (by omega), h k (by omega)]
theorem fSum_z {p : Nat} [NeZero p] {a : Nat → Fin p} {k : Nat} (h : ∀ j, j < k → a j = 0) : fSum a k = 0 := by
  induction k with
  | zero => rfl
  | succ k ih =>
    show fSum a k + a k = 0
    rw [ih fun j hj => h j (by omega), h k (by omega)]; grind
theorem fSum_one {p : Nat} [NeZero p] {a : Nat → Fin p} {k i : Nat} (hi : i < k) (h : ∀ j, j < k → j ≠ i → a j = 0) : fSum a k = a i := by
  induction k with
  | zero => omega
  | succ k ih =>
    show fSum a k + a k = a i
    by_cases e : i = k
    · rw [e, fSum_z fun j hj => h j (by omega) (by omega)]; grind
    · rw [ih (by omega) (fun j hj hne => h j (by omega) hne), h k (by omega) (fun q => e q.symm)]; grind
section PUR
variable {n r : Nat} {T : Nat → Nat → Nat} {M : Nat → Nat → Nat → Int}
def mC {p : Nat} [NeZero p] (M : Nat → Nat → Nat → Int) (x i j : Nat) : Fin p := fC (M x i j)
def sv {p : Nat} [NeZero p] (r : Nat) (h : fV p) (x i : Nat) : Fin p := if x = 0 then 0 else h (p1 r x i)
def pv {p : Nat} [NeZero p] (n r : Nat) (f : fV p) (x y i : Nat) : Fin p := if x = 0 ∨ y = 0 then 0 else f (pl n r x y i)
/-- the bound pair of a single, by places -/
def cbv {p : Nat} [NeZero p] (r : Nat) (T : Nat → Nat → Nat) (M : Nat → Nat → Nat → Int) (h : fV p) (x y i : Nat) : Fin p := sv r h x i + fSum (fun j => mC M x i j * sv r h y j) r + -1 * sv r h (T x y) i
def cbD {p : Nat} [NeZero p] (n r : Nat) (T : Nat → Nat → Nat) (M : Nat → Nat → Nat → Int) (h : fV p) : fV p := fun q => if q < (n - 1) * (n - 1) * r then cbv r T M h (q / r / (n - 1) + 1) (q / r % (n - 1) + 1) (q % r) else 0
theorem sv_ax {p : Nat} [NeZero p] (u v : fV p) (c : Fin p) (x i : Nat) : sv r (fAx u c v) x i = sv r u x i + c * sv r v x i := by
  unfold sv
  by_cases q : x = 0
  · rw [if_pos q, if_pos q, if_pos q]; grind
  · rw [if_neg q, if_neg q, if_neg q]; rfl
theorem cbv_ax {p : Nat} [NeZero p] (u v : fV p) (c : Fin p) (x y i : Nat) : cbv r T M (fAx u c v) x y i = cbv r T M u x y i + c * cbv r T M v x y i := by
  unfold cbv
  rw [sv_ax, sv_ax, fSum_congr (b := fun j => mC M x i j * (sv r u y j + c * sv r v y j)) (fun j _ => by rw [sv_ax]), fSum_ax]
  grind
theorem cbD_at {p : Nat} [NeZero p] (h : fV p) {x y i : Nat} (hx : 1 ≤ x) (hxn : x < n) (hy : 1 ≤ y) (hyn : y < n) (hi : i < r) : cbD n r T M h (pl n r x y i) = cbv r T M h x y i := by
  have a := pl_inv hx hxn hy hyn hi
  unfold cbD
  rw [if_pos (pl_lt hx hxn hy hyn hi), a.1, a.2.1, a.2.2]
theorem cbD_lin {p : Nat} [NeZero p] : fLin (p := p) ((n - 1) * r) ((n - 1) * (n - 1) * r) (cbD n r T M) := by
  refine ⟨fun h _ i hi => if_neg (by omega), ?_, fun u v c => ?_⟩
  · funext q
    show cbD n r T M fZ q = 0
    unfold cbD
    split
    · have := cbv_ax (r := r) (T := T) (M := M) (fZ : fV p) fZ 0 (q / r / (n - 1) + 1) (q / r % (n - 1) + 1) (q % r)
      have e : fAx (fZ : fV p) 0 fZ = fZ := by funext i; show (0 : Fin p) + 0 * 0 = 0; grind
      have z : ∀ x i, sv r (fZ : fV p) x i = 0 := fun x i => by unfold sv; split <;> rfl
      unfold cbv
      rw [z, z, fSum_z fun j _ => by rw [z]; grind]
      grind
    · rfl
  · funext q
    show cbD n r T M (fAx u c v) q = cbD n r T M u q + c * cbD n r T M v q
    unfold cbD
    split
    · exact cbv_ax u v c _ _ _
    · grind
/-- one of the singles that are 1 at one place -/
def eU {p : Nat} [NeZero p] (r u j : Nat) : fV p := fUnit (p1 r u j)
theorem sv_eU {p : Nat} [NeZero p] {u j x i : Nat} (hu : 1 ≤ u) (hj : j < r) (hi : i < r) : sv r (eU (p := p) r u j) x i = if x = u ∧ i = j then 1 else 0 := by
  unfold sv
  by_cases q : x = 0
  · rw [if_pos q, if_neg (by omega)]
  · rw [if_neg q]
    show (if p1 r x i = p1 r u j then (1 : Fin p) else 0) = _
    by_cases e : x = u ∧ i = j
    · rw [e.1, e.2, if_pos rfl, if_pos ⟨rfl, rfl⟩]
    · rw [if_neg (fun z => e (p1_eq (by omega) hi hu hj z)), if_neg e]
/-- the number that the row of such a one has for a place -/
def bnV (T : Nat → Nat → Nat) (M : Nat → Nat → Nat → Int) (u j x y i : Nat) : Int := (if x = u ∧ i = j then 1 else 0) + (if T x y = u ∧ i = j then -1 else 0) + (if y = u then M x i j else 0)
theorem bnV_C {p : Nat} [NeZero p] {u j x y i : Nat} (hu : 1 ≤ u) (hj : j < r) (hi : i < r) : (fC (bnV T M u j x y i) : Fin p) = cbv r T M (eU r u j) x y i := by
  unfold cbv bnV
  rw [sv_eU hu hj hi, sv_eU hu hj hi, fC_add, fC_add]
  have e1 : fSum (fun j' => mC M x i j' * sv r (eU (p := p) r u j) y j') r = if y = u then mC M x i j else 0 := by
    by_cases q : y = u
    · rw [if_pos q, fSum_one hj fun j' hj' hne => by rw [sv_eU hu hj hj', if_neg (fun z => hne z.2)]; grind]
      rw [sv_eU hu hj hj, if_pos ⟨q, rfl⟩]; grind
    · rw [if_neg q]
      exact fSum_z fun j' hj' => by rw [sv_eU hu hj hj', if_neg (fun z => q z.1)]; grind
  rw [e1]
  have e2 : (fC (if x = u ∧ i = j then 1 else 0) : Fin p) = if x = u ∧ i = j then 1 else 0 := by split; exact fC_1; exact fC_0
  have e3 : (fC (if T x y = u ∧ i = j then -1 else 0) : Fin p) = -1 * (if T x y = u ∧ i = j then 1 else 0) := by
    split
    · rw [fC_neg, fC_1]; grind
    · rw [fC_0]; grind
  have e4 : (fC (if y = u then M x i j else 0) : Fin p) = if y = u then mC M x i j else 0 := by split; rfl; exact fC_0
  rw [e2, e3, e4]
  grind
def gB {p : Nat} [NeZero p] (n r : Nat) (T : Nat → Nat → Nat) (M : Nat → Nat → Nat → Int) (g : fV p) : Prop := ∃ u j, 1 ≤ u ∧ u < n ∧ j < r ∧ g = cbD n r T M (eU r u j)
theorem gB_ok {p : Nat} [NeZero p] {g : fV p} (h : gB n r T M g) : fOk ((n - 1) * (n - 1) * r) g := by
  obtain ⟨u, j, -, -, -, rfl⟩ := h
  exact fun i hi => if_neg (by omega)
theorem gB_im {p : Nat} [NeZero p] (x : fV p) : fSpn ((n - 1) * (n - 1) * r) (gB n r T M) x ↔ fIm ((n - 1) * r) (cbD n r T M) x := by
  constructor
  · intro h
    refine h _ (fIm_sub cbD_lin) ?_
    rintro g ⟨u, j, h1, h2, h3, rfl⟩
    exact ⟨eU r u j, fun i hi => if_neg (by have := p1_lt (r := r) h1 h2 h3; omega), rfl⟩
  · rintro ⟨h, ho, rfl⟩
    have hS := fSpn_sub (fun g (hg : gB (p := p) n r T M g) => gB_ok hg)
    refine fUnits (W := (n - 1) * r) (V := fun h => fOk ((n - 1) * r) h ∧ fSpn ((n - 1) * (n - 1) * r) (gB n r T M) (cbD n r T M h)) ⟨fun v hv => hv.1, ⟨fun _ _ => rfl, by rw [cbD_lin.2.1]; exact hS.2.1⟩, fun u v c hu hv => ⟨fun i hi => ?_, by rw [cbD_lin.2.2]; exact hS.2.2 _ _ c hu.2 hv.2⟩⟩ (fun q hq => ?_) ho |>.2
    · show u i + c * v i = 0
      rw [hu.1 i hi, hv.1 i hi]; grind
    · obtain ⟨a1, a2, a3, a4⟩ := p1_ex hq
      refine ⟨fun i hi => if_neg (by omega), fSpn_of ⟨q / r + 1, q % r, a1, a2, a3, ?_⟩⟩
      unfold eU; rw [a4]
theorem fSpn_congr {p W : Nat} [NeZero p] {G1 G2 : fV p → Prop} (h : ∀ g, G1 g ↔ G2 g) : fSpn W G1 = fSpn W G2 := by
  have : G1 = G2 := by funext g; exact propext (h g)
  rw [this]
end PUR
