/-! THE MODEL'S STATE IN WHOLE NUMBERS -/
abbrev zS : Type := (Nat → Int) × (Nat → Int64) × (Nat → Int → Int) × (Nat → Int → Int64)
def zI (Z : zS) : Nat → Int := Z.1
def zJ (Z : zS) : Nat → Int64 := Z.2.1
def zA (Z : zS) : Nat → Int → Int := Z.2.2.1
def zB (Z : zS) : Nat → Int → Int64 := Z.2.2.2
def zup {α : Type} (f : Int → α) (i : Int) (x : α) : Int → α := fun j => if j = i then x else f j
def zuI (Z : zS) (k : Nat) (x : Int) : zS := (fun l => if l = k then x else zI Z l, Z.2)
def zuJ (Z : zS) (k : Nat) (x : Int64) : zS := (Z.1, fun l => if l = k then x else zJ Z l, Z.2.2)
def zuA (Z : zS) (k : Nat) (i x : Int) : zS := (Z.1, Z.2.1, fun l => if l = k then zup (zA Z k) i x else zA Z l, Z.2.2.2)
def zuB (Z : zS) (k : Nat) (i : Int) (x : Int64) : zS := (Z.1, Z.2.1, Z.2.2.1, fun l => if l = k then zup (zB Z k) i x else zB Z l)
theorem zI_uI (Z : zS) (k l : Nat) (x : Int) : zI (zuI Z k x) l = if l = k then x else zI Z l := rfl
theorem zI_uJ (Z : zS) (k : Nat) (x : Int64) : zI (zuJ Z k x) = zI Z := rfl
theorem zI_uA (Z : zS) (k : Nat) (i x : Int) : zI (zuA Z k i x) = zI Z := rfl
theorem zI_uB (Z : zS) (k : Nat) (i : Int) (x : Int64) : zI (zuB Z k i x) = zI Z := rfl
theorem zJ_uI (Z : zS) (k : Nat) (x : Int) : zJ (zuI Z k x) = zJ Z := rfl
theorem zJ_uJ (Z : zS) (k l : Nat) (x : Int64) : zJ (zuJ Z k x) l = if l = k then x else zJ Z l := rfl
theorem zJ_uA (Z : zS) (k : Nat) (i x : Int) : zJ (zuA Z k i x) = zJ Z := rfl
theorem zJ_uB (Z : zS) (k : Nat) (i : Int) (x : Int64) : zJ (zuB Z k i x) = zJ Z := rfl
theorem zA_uI (Z : zS) (k : Nat) (x : Int) : zA (zuI Z k x) = zA Z := rfl
theorem zA_uJ (Z : zS) (k : Nat) (x : Int64) : zA (zuJ Z k x) = zA Z := rfl
theorem zA_uA (Z : zS) (k l : Nat) (i x : Int) : zA (zuA Z k i x) l = if l = k then zup (zA Z k) i x else zA Z l := rfl
theorem zA_uB (Z : zS) (k : Nat) (i : Int) (x : Int64) : zA (zuB Z k i x) = zA Z := rfl
theorem zB_uI (Z : zS) (k : Nat) (x : Int) : zB (zuI Z k x) = zB Z := rfl
theorem zB_uJ (Z : zS) (k : Nat) (x : Int64) : zB (zuJ Z k x) = zB Z := rfl
theorem zB_uA (Z : zS) (k : Nat) (i x : Int) : zB (zuA Z k i x) = zB Z := rfl
theorem zB_uB (Z : zS) (k l : Nat) (i : Int) (x : Int64) : zB (zuB Z k i x) l = if l = k then zup (zB Z k) i x else zB Z l := rfl
theorem zup_s {α : Type} (f : Int → α) (i : Int) (x : α) : zup f i x i = x := if_pos rfl
theorem zup_n {α : Type} {f : Int → α} {i j : Int} {x : α} (h : j ≠ i) : zup f i x j = f j := if_neg h
/-! ITS WORDS -/
section ZW
variable {α : Type}
def zLe (a b : Int) (A B : Option α) : Option α := if (-2147483648 ≤ a ∧ a < 2147483648) ∧ (-2147483648 ≤ b ∧ b < 2147483648) then (if a ≤ b then A else B) else none
def zLt (a b : Int) (A B : Option α) : Option α := if (-2147483648 ≤ a ∧ a < 2147483648) ∧ (-2147483648 ≤ b ∧ b < 2147483648) then (if a < b then A else B) else none
def zEq (a b : Int) (A B : Option α) : Option α := if (-2147483648 ≤ a ∧ a < 2147483648) ∧ (-2147483648 ≤ b ∧ b < 2147483648) then (if a = b then A else B) else none
def zLd (len : Nat) (f : Int → Int) (i : Int) (K : Int → Option α) : Option α := if 0 ≤ i ∧ i < len then K (f i) else none
def zLJ (len : Nat) (f : Int → Int64) (i : Int) (K : Int64 → Option α) : Option α := if 0 ≤ i ∧ i < len then K (f i) else none
def zSt (k len : Nat) (i x : Int) (Z : zS) (K : zS → Option α) : Option α := if 0 ≤ i ∧ i < len then K (zuA Z k i x) else none
def zSJ (k len : Nat) (i : Int) (x : Int64) (Z : zS) (K : zS → Option α) : Option α := if 0 ≤ i ∧ i < len then K (zuB Z k i x) else none
def zPI (k : Nat) (x : Int) (Z : zS) (K : zS → Option α) : Option α := K (zuI Z k x)
def zPJ (k : Nat) (x : Int64) (Z : zS) (K : zS → Option α) : Option α := K (zuJ Z k x)
def zRem (a b : Int) (K : Int → Option α) : Option α := if ((-2147483648 ≤ a ∧ a < 2147483648) ∧ (-2147483648 ≤ b ∧ b < 2147483648)) ∧ b ≠ 0 then K (a.tmod b) else none
def zDiv (a b : Int) (K : Int → Option α) : Option α := if ((-2147483648 ≤ a ∧ a < 2147483648) ∧ (-2147483648 ≤ b ∧ b < 2147483648)) ∧ b ≠ 0 then K (a.tdiv b) else none
def zBo (a : Int) (K : Int → Option α) : Option α := if a = 0 ∨ a = 1 then K a else none
def zC1 (x : Option (Int × zS)) (K : Int → zS → Option α) : Option α := x.bind fun q => K q.1 q.2
def zC0 (x : Option zS) (K : zS → Option α) : Option α := x.bind K
theorem zLe_t {a b : Int} {A B : Option α} (h : -2147483648 ≤ a ∧ a ≤ b ∧ b < 2147483648) : zLe a b A B = A := by
  unfold zLe; rw [if_pos (by omega), if_pos (by omega)]
theorem zLe_f {a b : Int} {A B : Option α} (h : -2147483648 ≤ b ∧ b < a ∧ a < 2147483648) : zLe a b A B = B := by
  unfold zLe; rw [if_pos (by omega), if_neg (by omega)]
theorem zLt_t {a b : Int} {A B : Option α} (h : -2147483648 ≤ a ∧ a < b ∧ b < 2147483648) : zLt a b A B = A := by
  unfold zLt; rw [if_pos (by omega), if_pos (by omega)]
theorem zLt_f {a b : Int} {A B : Option α} (h : -2147483648 ≤ b ∧ b ≤ a ∧ a < 2147483648) : zLt a b A B = B := by
  unfold zLt; rw [if_pos (by omega), if_neg (by omega)]
theorem zEq_t {a b : Int} {A B : Option α} (h : -2147483648 ≤ a ∧ a = b ∧ b < 2147483648) : zEq a b A B = A := by
  unfold zEq; rw [if_pos (by omega), if_pos (by omega)]
theorem zEq_f {a b : Int} {A B : Option α} (h : -2147483648 ≤ a ∧ a < 2147483648 ∧ -2147483648 ≤ b ∧ b < 2147483648 ∧ a ≠ b) : zEq a b A B = B := by
  unfold zEq; rw [if_pos (by omega), if_neg (by omega)]
theorem zLd_o {len : Nat} {f : Int → Int} {i : Int} {K : Int → Option α} (h : 0 ≤ i ∧ i < len) : zLd len f i K = K (f i) := if_pos h
theorem zLJ_o {len : Nat} {f : Int → Int64} {i : Int} {K : Int64 → Option α} (h : 0 ≤ i ∧ i < len) : zLJ len f i K = K (f i) := if_pos h
theorem zSt_o {k len : Nat} {i x : Int} {Z : zS} {K : zS → Option α} (h : 0 ≤ i ∧ i < len) : zSt k len i x Z K = K (zuA Z k i x) := if_pos h
theorem zSJ_o {k len : Nat} {i : Int} {x : Int64} {Z : zS} {K : zS → Option α} (h : 0 ≤ i ∧ i < len) : zSJ k len i x Z K = K (zuB Z k i x) := if_pos h
theorem zPI_o {k : Nat} {x : Int} {Z : zS} {K : zS → Option α} : zPI k x Z K = K (zuI Z k x) := rfl
theorem zPJ_o {k : Nat} {x : Int64} {Z : zS} {K : zS → Option α} : zPJ k x Z K = K (zuJ Z k x) := rfl
theorem zRem_o {a b : Int} {K : Int → Option α} (h : -2147483648 ≤ a ∧ a < 2147483648 ∧ 0 < b ∧ b < 2147483648) : zRem a b K = K (a.tmod b) := if_pos (by omega)
theorem zRem_p {a b : Int} {K : Int → Option α} (h : 0 ≤ a ∧ a < 2147483648 ∧ 0 < b ∧ b < 2147483648) : zRem a b K = K (a % b) := by
  rw [zRem_o (by omega), Int.tmod_eq_emod_of_nonneg (by omega)]
theorem zDiv_p {a b : Int} {K : Int → Option α} (h : 0 ≤ a ∧ a < 2147483648 ∧ 0 < b ∧ b < 2147483648) : zDiv a b K = K (a / b) := by
  unfold zDiv; rw [if_pos (by omega), Int.tdiv_eq_ediv_of_nonneg (by omega)]
theorem zBo_o {a : Int} {K : Int → Option α} (h : a = 0 ∨ a = 1) : zBo a K = K a := if_pos h
theorem zC1_o {x : Option (Int × zS)} {K : Int → zS → Option α} {a : Int} {Z : zS} (h : x = some (a, Z)) : zC1 x K = K a Z := by rw [h]; rfl
theorem zC0_o {x : Option zS} {K : zS → Option α} {Z : zS} (h : x = some Z) : zC0 x K = K Z := by rw [h]; rfl
end ZW
/-! WHAT IT SAYS OF THE WORLD -/
def lyZ : oLy := [(0, 0, 0), (1, 1, 8), (1, 2, 41472), (1, 3, 8), (1, 4, 4), (1, 5, 4), (1, 6, 576), (0, 0, 0), (1, 7, 6), (1, 8, 6), (1, 9, 6), (1, 10, 192), (1, 11, 80), (1, 12, 72), (0, 0, 0), (2, 0, 0), (2, 0, 0), (3, 13, 6000), (3, 14, 6000), (1, 15, 48000), (1, 16, 8), (1, 17, 8), (1, 18, 72), (0, 0, 0), (0, 0, 0), (1, 19, 98), (1, 20, 9604), (1, 21, 98), (0, 0, 0), (0, 0, 0), (1, 22, 5), (1, 23, 1372), (1, 24, 14), (1, 25, 9604), (1, 26, 9604), (0, 0, 0), (0, 0, 0), (0, 0, 0), (0, 0, 0), (0, 0, 0)]
theorem lyZ_ok : oLay lyZ 27 := oLay_of (by decide +kernel)
def cvZ (Z : zS) : oSt := (fun k => Int32.ofInt (zI Z k), zJ Z, fun k j => Int32.ofInt (zA Z k j), fun k j => zB Z k j, fun _ => none, fun _ _ => none)
def zR {α β : Type} (E : α → β → Prop) (x : Option α) (y : Option β) : Prop := ∀ r, x = some r → ∃ q, y = some q ∧ E r q
def E1 (m : Nat) (w : gW) (r : Int × zS) (q : Int32 × gW) : Prop := q.1 = Int32.ofInt r.1 ∧ oAt 7 lyZ q.2 m (cvZ r.2) ∧ wF m (m + 27) w q.2
def E0 (m : Nat) (w : gW) (r : zS) (q : gW) : Prop := oAt 7 lyZ q m (cvZ r) ∧ wF m (m + 27) w q
theorem eAdd {x y : Int32} {a b : Int} (h1 : x = Int32.ofInt a) (h2 : y = Int32.ofInt b) : x + y = Int32.ofInt (a + b) := by rw [h1, h2, Int32.ofInt_add]
theorem eSub {x y : Int32} {a b : Int} (h1 : x = Int32.ofInt a) (h2 : y = Int32.ofInt b) : x - y = Int32.ofInt (a - b) := by rw [h1, h2, Int32.ofInt_sub]
theorem eMul {x y : Int32} {a b : Int} (h1 : x = Int32.ofInt a) (h2 : y = Int32.ofInt b) : x * y = Int32.ofInt (a * b) := by rw [h1, h2, Int32.ofInt_mul]
theorem eNeg {x : Int32} {a : Int} (h1 : x = Int32.ofInt a) : -x = Int32.ofInt (-a) := by rw [h1, Int32.ofInt_neg]
theorem eL {x : Int32} {a : Int} (h : x = Int32.ofInt a) : x = Int32.ofInt a := h
theorem eBit (f : Int32 → Int32 → Int32) {x y : Int32} {a b : Int} (h1 : x = Int32.ofInt a) (h2 : y = Int32.ofInt b) : f x y = Int32.ofInt ((f (Int32.ofInt a) (Int32.ofInt b)).toInt) := by rw [h1, h2, Int32.ofInt_toInt]
theorem eBin {α β γ : Type} (f : α → β → γ) {x x' : α} {y y' : β} (h1 : x = x') (h2 : y = y') : f x y = f x' y' := by rw [h1, h2]
theorem iO_le {a b : Int} (h : (-2147483648 ≤ a ∧ a < 2147483648) ∧ (-2147483648 ≤ b ∧ b < 2147483648)) : Int32.ofInt a ≤ Int32.ofInt b ↔ a ≤ b := by
  rw [Int32.le_iff_toInt_le, iO_toInt (by omega) (by omega), iO_toInt (by omega) (by omega)]
theorem iO_lt {a b : Int} (h : (-2147483648 ≤ a ∧ a < 2147483648) ∧ (-2147483648 ≤ b ∧ b < 2147483648)) : Int32.ofInt a < Int32.ofInt b ↔ a < b := by
  rw [Int32.lt_iff_toInt_lt, iO_toInt (by omega) (by omega), iO_toInt (by omega) (by omega)]
theorem iO_eq {a b : Int} (h : (-2147483648 ≤ a ∧ a < 2147483648) ∧ (-2147483648 ≤ b ∧ b < 2147483648)) : Int32.ofInt a = Int32.ofInt b ↔ a = b := by
  rw [← Int32.toInt_inj, iO_toInt (by omega) (by omega), iO_toInt (by omega) (by omega)]
section ZR
variable {α β : Type} {E : α → β → Prop} {m k off len : Nat} {Z : zS} {w w0 : gW} {xs : Option α} {A B : Option α} {A' B' : Option β}
theorem R_none {x : Option β} : zR E none x := fun r h => by cases h
theorem R_ret1 {x : Int32} {a : Int} (hx : x = Int32.ofInt a) (h : oAt 7 lyZ w m (cvZ Z)) (f : wF m (m + 27) w0 w) : zR (E1 m w0) (some (a, Z)) (some (x, w)) := by
  intro r hr; cases hr; exact ⟨_, rfl, hx, h, f⟩
theorem R_ret0 (h : oAt 7 lyZ w m (cvZ Z)) (f : wF m (m + 27) w0 w) : zR (E0 m w0) (some Z) (some w) := by
  intro r hr; cases hr; exact ⟨_, rfl, h, f⟩
theorem R_O (h : oAt 7 lyZ w m (cvZ Z)) {f : Nat → Option β} (p : zR E xs (f m)) : zR E xs ((gO 7 (some m) w).bind f) := by
  rw [h.O]; exact p
theorem R_FR (h : oAt 7 lyZ w m (cvZ Z)) (he : lyZ[k]? = some (1, off, len)) {f : Option Nat → Option β} (p : zR E xs (f (some (m + off)))) : zR E xs ((gFR 7 k (some m) w).bind f) := by
  rw [h.rA k he]; exact p
theorem R_FRJ (h : oAt 7 lyZ w m (cvZ Z)) (he : lyZ[k]? = some (3, off, len)) {f : Option Nat → Option β} (p : zR E xs (f (some (m + off)))) : zR E xs ((gFR 7 k (some m) w).bind f) := by
  rw [h.rB k he]; exact p
theorem R_FI (h : oAt 7 lyZ w m (cvZ Z)) (he : lyZ[k]? = some (0, off, len)) {c : Int} (hc : zI Z k = c) {f : Int32 → Option β} (p : ∀ x, x = Int32.ofInt c → zR E xs (f x)) : zR E xs ((gFI 7 k (some m) w).bind f) := by
  rw [h.rI k he]; exact p _ (by rw [← hc]; rfl)
theorem R_FL (h : oAt 7 lyZ w m (cvZ Z)) (he : lyZ[k]? = some (2, off, len)) {c : Int64} (hc : zJ Z k = c) {f : Int64 → Option β} (p : ∀ x, x = c → zR E xs (f x)) : zR E xs ((gFL 7 k (some m) w).bind f) := by
  rw [h.rL k he]; exact p _ (by rw [← hc]; rfl)
theorem zNat {i : Int} {len : Nat} (h : 0 ≤ i ∧ i < len) : ∃ j : Nat, j < len ∧ i = j := ⟨i.toNat, by omega, by omega⟩
theorem R_Ld (h : oAt 7 lyZ w m (cvZ Z)) (he : lyZ[k]? = some (1, off, len)) (hl : len < 2 ^ 31) {i : Int32} {a : Int} (hi : i = Int32.ofInt a) {g : Int → Int} (hA : zA Z k = g) {K : Int → Option α} {f : Int32 → Option β} (p : ∀ c x, x = Int32.ofInt c → zR E (K c) (f x)) : zR E (zLd len g a K) ((gLI (some (m + off)) i w).bind f) := by
  by_cases q : 0 ≤ a ∧ a < len
  · obtain ⟨j, hj, rfl⟩ := zNat q
    rw [zLd_o q, hi, iO_nat, h.ld k he hj hl]
    exact p _ _ (by rw [← hA]; rfl)
  · unfold zLd; rw [if_neg q]; exact R_none
theorem R_LJ (h : oAt 7 lyZ w m (cvZ Z)) (he : lyZ[k]? = some (3, off, len)) (hl : len < 2 ^ 31) {i : Int32} {a : Int} (hi : i = Int32.ofInt a) {g : Int → Int64} (hA : zB Z k = g) {K : Int64 → Option α} {f : Int64 → Option β} (p : ∀ c x, x = c → zR E (K c) (f x)) : zR E (zLJ len g a K) ((gLL (some (m + off)) i w).bind f) := by
  by_cases q : 0 ≤ a ∧ a < len
  · obtain ⟨j, hj, rfl⟩ := zNat q
    rw [zLJ_o q, hi, iO_nat, h.ldL k he hj hl]
    exact p _ _ (by rw [← hA]; rfl)
  · unfold zLJ; rw [if_neg q]; exact R_none
theorem cvZ_uA (Z : zS) (k j : Nat) (c : Int) : uA (cvZ Z) k (upd (oA (cvZ Z) k) j (Int32.ofInt c)) = cvZ (zuA Z k j c) := by
  have e : va_up (oA (cvZ Z)) k (upd (oA (cvZ Z) k) j (Int32.ofInt c)) = oA (cvZ (zuA Z k j c)) := by
    funext l i
    show _ = Int32.ofInt (zA (zuA Z k j c) l i)
    rw [zA_uA]
    by_cases q : l = k
    · rw [q, va_upS, if_pos rfl]
      by_cases t : i = j
      · rw [t, pk_us, zup_s]
      · rw [pk_un t, zup_n (by omega)]; rfl
    · rw [va_upN q, if_neg q]; rfl
  show (oI (cvZ Z), oJ (cvZ Z), va_up (oA (cvZ Z)) k (upd (oA (cvZ Z) k) j (Int32.ofInt c)), oB (cvZ Z), oP (cvZ Z), oQ (cvZ Z)) = _
  rw [e]; rfl
theorem cvZ_uB (Z : zS) (k j : Nat) (c : Int64) : uB (cvZ Z) k (vp_updL (oB (cvZ Z) k) j c) = cvZ (zuB Z k j c) := by
  have e : va_up (oB (cvZ Z)) k (vp_updL (oB (cvZ Z) k) j c) = oB (cvZ (zuB Z k j c)) := by
    funext l i
    show _ = zB (zuB Z k j c) l i
    rw [zB_uB]
    by_cases q : l = k
    · rw [q, va_upS, if_pos rfl]
      by_cases t : i = j
      · rw [t, zup_s]; simp [vp_updL]
      · rw [zup_n (by omega)]; simp [vp_updL, t]; rfl
    · rw [va_upN q, if_neg q]; rfl
  show (oI (cvZ Z), oJ (cvZ Z), oA (cvZ Z), va_up (oB (cvZ Z)) k (vp_updL (oB (cvZ Z) k) j c), oP (cvZ Z), oQ (cvZ Z)) = _
  rw [e]; rfl
theorem cvZ_uI (Z : zS) (k : Nat) (c : Int) : uI (cvZ Z) k (Int32.ofInt c) = cvZ (zuI Z k c) := by
  have e : va_up (oI (cvZ Z)) k (Int32.ofInt c) = oI (cvZ (zuI Z k c)) := by
    funext l
    show _ = Int32.ofInt (zI (zuI Z k c) l)
    rw [zI_uI]
    by_cases q : l = k
    · rw [q, va_upS, if_pos rfl]
    · rw [va_upN q, if_neg q]; rfl
  show (va_up (oI (cvZ Z)) k (Int32.ofInt c), (cvZ Z).2) = _
  rw [e]; rfl
theorem cvZ_uJ (Z : zS) (k : Nat) (c : Int64) : uJ (cvZ Z) k c = cvZ (zuJ Z k c) := by
  have e : va_up (oJ (cvZ Z)) k c = oJ (cvZ (zuJ Z k c)) := by
    funext l
    show _ = zJ (zuJ Z k c) l
    rw [zJ_uJ]
    by_cases q : l = k
    · rw [q, va_upS, if_pos rfl]
    · rw [va_upN q, if_neg q]; rfl
  show (oI (cvZ Z), va_up (oJ (cvZ Z)) k c, (cvZ Z).2.2) = _
  rw [e]; rfl
theorem R_St (h : oAt 7 lyZ w m (cvZ Z)) (hw : wF m (m + 27) w0 w) (he : lyZ[k]? = some (1, off, len)) (hl : len < 2 ^ 31) {i x : Int32} {a c : Int} (hi : i = Int32.ofInt a) (hx : x = Int32.ofInt c) {K : zS → Option α} {f : gW → Option β} (p : ∀ w', oAt 7 lyZ w' m (cvZ (zuA Z k a c)) → wF m (m + 27) w0 w' → zR E (K (zuA Z k a c)) (f w')) : zR E (zSt k len a c Z K) ((gSI (some (m + off)) i x w).bind f) := by
  by_cases q : 0 ≤ a ∧ a < len
  · obtain ⟨j, hj, rfl⟩ := zNat q
    obtain ⟨w2, e1, e2, e3⟩ := h.st lyZ_ok k he hj hl x
    rw [zSt_o q, hi, iO_nat, e1]
    rw [hx, cvZ_uA] at e2
    exact p w2 e2 (hw.tr e3)
  · unfold zSt; rw [if_neg q]; exact R_none
theorem R_SJ (h : oAt 7 lyZ w m (cvZ Z)) (hw : wF m (m + 27) w0 w) (he : lyZ[k]? = some (3, off, len)) (hl : len < 2 ^ 31) {i : Int32} {x : Int64} {a : Int} {c : Int64} (hi : i = Int32.ofInt a) (hx : x = c) {K : zS → Option α} {f : gW → Option β} (p : ∀ w', oAt 7 lyZ w' m (cvZ (zuB Z k a c)) → wF m (m + 27) w0 w' → zR E (K (zuB Z k a c)) (f w')) : zR E (zSJ k len a c Z K) ((gSL (some (m + off)) i x w).bind f) := by
  by_cases q : 0 ≤ a ∧ a < len
  · obtain ⟨j, hj, rfl⟩ := zNat q
    obtain ⟨w2, e1, e2, e3⟩ := h.stL lyZ_ok k he hj hl x
    rw [zSJ_o q, hi, iO_nat, e1]
    rw [hx, cvZ_uB] at e2
    exact p w2 e2 (hw.tr e3)
  · unfold zSJ; rw [if_neg q]; exact R_none
theorem R_PI (h : oAt 7 lyZ w m (cvZ Z)) (hw : wF m (m + 27) w0 w) (he : lyZ[k]? = some (0, off, len)) {x : Int32} {c : Int} (hx : x = Int32.ofInt c) {K : zS → Option α} {f : gW → Option β} (p : ∀ w', oAt 7 lyZ w' m (cvZ (zuI Z k c)) → wF m (m + 27) w0 w' → zR E (K (zuI Z k c)) (f w')) : zR E (zPI k c Z K) ((gP 7 k (some m) (.inl x) w).bind f) := by
  obtain ⟨w2, e1, e2, e3⟩ := h.pI lyZ_ok (by omega) k he x
  rw [e1]
  rw [hx, cvZ_uI] at e2
  exact p w2 e2 (hw.tr e3)
theorem R_PJ (h : oAt 7 lyZ w m (cvZ Z)) (hw : wF m (m + 27) w0 w) (he : lyZ[k]? = some (2, off, len)) {x : Int64} {c : Int64} (hx : x = c) {K : zS → Option α} {f : gW → Option β} (p : ∀ w', oAt 7 lyZ w' m (cvZ (zuJ Z k c)) → wF m (m + 27) w0 w' → zR E (K (zuJ Z k c)) (f w')) : zR E (zPJ k c Z K) ((gP 7 k (some m) (.inr (.inl x)) w).bind f) := by
  obtain ⟨w2, e1, e2, e3⟩ := h.pL lyZ_ok (by omega) k he x
  rw [e1]
  rw [hx, cvZ_uJ] at e2
  exact p w2 e2 (hw.tr e3)
theorem R_Le {x y : Int32} {a b : Int} (hx : x = Int32.ofInt a) (hy : y = Int32.ofInt b) (p1 : zR E A A') (p2 : zR E B B') : zR E (zLe a b A B) (if x ≤ y then A' else B') := by
  unfold zLe
  by_cases q : (-2147483648 ≤ a ∧ a < 2147483648) ∧ (-2147483648 ≤ b ∧ b < 2147483648)
  · rw [if_pos q, hx, hy]
    by_cases t : a ≤ b
    · rw [if_pos t, if_pos ((iO_le q).mpr t)]; exact p1
    · rw [if_neg t, if_neg (fun u => t ((iO_le q).mp u))]; exact p2
  · rw [if_neg q]; exact R_none
theorem R_Lt {x y : Int32} {a b : Int} (hx : x = Int32.ofInt a) (hy : y = Int32.ofInt b) (p1 : zR E A A') (p2 : zR E B B') : zR E (zLt a b A B) (if x < y then A' else B') := by
  unfold zLt
  by_cases q : (-2147483648 ≤ a ∧ a < 2147483648) ∧ (-2147483648 ≤ b ∧ b < 2147483648)
  · rw [if_pos q, hx, hy]
    by_cases t : a < b
    · rw [if_pos t, if_pos ((iO_lt q).mpr t)]; exact p1
    · rw [if_neg t, if_neg (fun u => t ((iO_lt q).mp u))]; exact p2
  · rw [if_neg q]; exact R_none
theorem R_Eq {x y : Int32} {a b : Int} (hx : x = Int32.ofInt a) (hy : y = Int32.ofInt b) (p1 : zR E A A') (p2 : zR E B B') : zR E (zEq a b A B) (if x = y then A' else B') := by
  unfold zEq
  by_cases q : (-2147483648 ≤ a ∧ a < 2147483648) ∧ (-2147483648 ≤ b ∧ b < 2147483648)
  · rw [if_pos q, hx, hy]
    by_cases t : a = b
    · rw [if_pos t, if_pos ((iO_eq q).mpr t)]; exact p1
    · rw [if_neg t, if_neg (fun u => t ((iO_eq q).mp u))]; exact p2
  · rw [if_neg q]; exact R_none
theorem R_if {c d : Prop} {i1 : Decidable c} {i2 : Decidable d} (hc : d = c) (p1 : zR E A A') (p2 : zR E B B') : zR E (@ite _ c i1 A B) (@ite _ d i2 A' B') := by
  subst hc
  by_cases q : d
  · rw [if_pos q, if_pos q]; exact p1
  · rw [if_neg q, if_neg q]; exact p2
theorem R_Rem {x y : Int32} {a b : Int} (hx : x = Int32.ofInt a) (hy : y = Int32.ofInt b) {K : Int → Option α} {f : Int32 → Option β} (p : ∀ c x, x = Int32.ofInt c → zR E (K c) (f x)) : zR E (zRem a b K) ((gRem x y).bind f) := by
  unfold zRem
  by_cases q : ((-2147483648 ≤ a ∧ a < 2147483648) ∧ (-2147483648 ≤ b ∧ b < 2147483648)) ∧ b ≠ 0
  · rw [if_pos q, hx, hy]
    unfold gRem
    rw [if_neg (show ¬ Int32.ofInt b = 0 from fun u => q.2 ((iO_eq (b := 0) ⟨q.1.2, by omega⟩).mp (u.trans (by decide))))]
    refine p _ _ ?_
    have e : Int32.ofInt a / Int32.ofInt b = Int32.ofInt (a.tdiv b) := by
      apply Int32.toInt_inj.mp
      rw [Int32.toInt_div, iO_toInt q.1.1.1 q.1.1.2, iO_toInt q.1.2.1 q.1.2.2, Int32.toInt_ofInt]
    rw [e, ← Int32.ofInt_mul, ← Int32.ofInt_sub]
    congr 1
    have := Int.tmod_add_tdiv_mul a b
    omega
  · rw [if_neg q]; exact R_none
theorem R_Div {x y : Int32} {a b : Int} (hx : x = Int32.ofInt a) (hy : y = Int32.ofInt b) {K : Int → Option α} {f : Int32 → Option β} (p : ∀ c x, x = Int32.ofInt c → zR E (K c) (f x)) : zR E (zDiv a b K) ((gDiv x y).bind f) := by
  unfold zDiv
  by_cases q : ((-2147483648 ≤ a ∧ a < 2147483648) ∧ (-2147483648 ≤ b ∧ b < 2147483648)) ∧ b ≠ 0
  · rw [if_pos q, hx, hy]
    unfold gDiv
    rw [if_neg (show ¬ Int32.ofInt b = 0 from fun u => q.2 ((iO_eq (b := 0) ⟨q.1.2, by omega⟩).mp (u.trans (by decide))))]
    refine p _ _ ?_
    apply Int32.toInt_inj.mp
    rw [Int32.toInt_div, iO_toInt q.1.1.1 q.1.1.2, iO_toInt q.1.2.1 q.1.2.2, Int32.toInt_ofInt]
  · rw [if_neg q]; exact R_none
theorem R_Bo {x : Int32} {a : Int} (hx : x = Int32.ofInt a) {K : Int → Option α} {f : Int32 → Option β} (p : ∀ c x, x = Int32.ofInt c → zR E (K c) (f x)) : zR E (zBo a K) ((gBo x).bind f) := by
  unfold zBo
  by_cases q : a = 0 ∨ a = 1
  · rw [if_pos q, hx]
    have e : gBo (Int32.ofInt a) = some (Int32.ofInt a) := by
      unfold gBo
      rcases q with q | q <;> rw [q] <;> exact if_pos (by decide)
    rw [e]; exact p _ _ rfl
  · rw [if_neg q]; exact R_none
theorem R_C1 {x : Option (Int × zS)} {y : Option (Int32 × gW)} (h : zR (E1 m w) x y) (hw : wF m (m + 27) w0 w) {K : Int → zS → Option α} {f : Int32 × gW → Option β} (p : ∀ c Z' v w', v = Int32.ofInt c → oAt 7 lyZ w' m (cvZ Z') → wF m (m + 27) w0 w' → zR E (K c Z') (f (v, w'))) : zR E (zC1 x K) (y.bind f) := by
  rcases x with _ | ⟨c, Z'⟩
  · exact R_none
  · obtain ⟨⟨v, w'⟩, e, e1, e2, e3⟩ := h _ rfl
    rw [e]
    exact p c Z' v w' e1 e2 (hw.tr e3)
theorem R_C0 {x : Option zS} {y : Option gW} (h : zR (E0 m w) x y) (hw : wF m (m + 27) w0 w) {K : zS → Option α} {f : gW → Option β} (p : ∀ Z' w', oAt 7 lyZ w' m (cvZ Z') → wF m (m + 27) w0 w' → zR E (K Z') (f w')) : zR E (zC0 x K) (y.bind f) := by
  rcases x with _ | Z'
  · exact R_none
  · obtain ⟨w', e, e2, e3⟩ := h _ rfl
    rw [e]
    exact p Z' w' e2 (hw.tr e3)
end ZR
