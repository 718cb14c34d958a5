/-! OBJECTS OF THE WORLD, with the rows that they own, as functions of their slots -/
abbrev oSt : Type := (Nat → Int32) × (Nat → Int64) × (Nat → Nat → Int32) × (Nat → Nat → Int64) × (Nat → Option Nat) × (Nat → Nat → Option Nat)
/-- kind (0 int, 1 row of ints, 2 long, 3 row of longs, 4 reference, 5 + c row of references of class c), where the row lies behind the object, its length -/
abbrev oLy : Type := List (Nat × Nat × Nat)
def oI (S : oSt) : Nat → Int32 := S.1
def oJ (S : oSt) : Nat → Int64 := S.2.1
def oA (S : oSt) : Nat → Nat → Int32 := S.2.2.1
def oB (S : oSt) : Nat → Nat → Int64 := S.2.2.2.1
def oP (S : oSt) : Nat → Option Nat := S.2.2.2.2.1
def oQ (S : oSt) : Nat → Nat → Option Nat := S.2.2.2.2.2
def uI (S : oSt) (k : Nat) (v : Int32) : oSt := (va_up (oI S) k v, S.2)
def uJ (S : oSt) (k : Nat) (v : Int64) : oSt := (S.1, va_up (oJ S) k v, S.2.2)
def uA (S : oSt) (k : Nat) (f : Nat → Int32) : oSt := (S.1, S.2.1, va_up (oA S) k f, S.2.2.2)
def uB (S : oSt) (k : Nat) (f : Nat → Int64) : oSt := (S.1, S.2.1, S.2.2.1, va_up (oB S) k f, S.2.2.2.2)
def uP (S : oSt) (k : Nat) (v : Option Nat) : oSt := (S.1, S.2.1, S.2.2.1, S.2.2.2.1, va_up (oP S) k v, S.2.2.2.2.2)
def uQ (S : oSt) (k : Nat) (f : Nat → Option Nat) : oSt := (S.1, S.2.1, S.2.2.1, S.2.2.2.1, S.2.2.2.2.1, va_up (oQ S) k f)
def oF (a : Nat) (S : oSt) (k : Nat) (e : Nat × Nat × Nat) : Value := match e.1 with
  | 0 => .int (oI S k)
  | 2 => .long (oJ S k)
  | 4 => va_rf (oP S k)
  | _ => .ref (a + e.2.1)
def oFs (a : Nat) (S : oSt) : Nat → oLy → List Value
  | _, [] => []
  | k, e :: t => oF a S k e :: oFs a S (k + 1) t
def oE (S : oSt) (k : Nat) (e : Nat × Nat × Nat) : Option gE := match e.1 with
  | 0 => none
  | 1 => some (.inl (e.2.2, oA S k))
  | 2 => none
  | 3 => some (.inr (.inl (e.2.2, oB S k)))
  | 4 => none
  | c + 5 => some (.inr (.inr (.inl (c, e.2.2, oQ S k))))
/-- the rows lie apart, behind the object, within its room -/
def oLay (lay : oLy) (size : Nat) : Prop := (∀ k, k < lay.length → ∀ l, l < lay.length → (lay.getD k (0, 0, 0)).1 ≠ 0 → (lay.getD k (0, 0, 0)).1 ≠ 2 → (lay.getD k (0, 0, 0)).1 ≠ 4 → (lay.getD l (0, 0, 0)).1 ≠ 0 → (lay.getD l (0, 0, 0)).1 ≠ 2 → (lay.getD l (0, 0, 0)).1 ≠ 4 → (lay.getD k (0, 0, 0)).2.1 = (lay.getD l (0, 0, 0)).2.1 → k = l) ∧ ∀ k, k < lay.length → (lay.getD k (0, 0, 0)).1 ≠ 0 → (lay.getD k (0, 0, 0)).1 ≠ 2 → (lay.getD k (0, 0, 0)).1 ≠ 4 → 0 < (lay.getD k (0, 0, 0)).2.1 ∧ (lay.getD k (0, 0, 0)).2.1 < size
def oAt (ci : Nat) (lay : oLy) (w : gW) (a : Nat) (S : oSt) : Prop := w.1 a = some (.inr (.inr (.inr (ci, oFs a S 0 lay)))) ∧ ∀ (k : Nat) (e : Nat × Nat × Nat) (g : gE), lay[k]? = some e → oE S k e = some g → w.1 (a + e.2.1) = some g
/-- all but the cells from lo to hi stay -/
def wF (lo hi : Nat) (w w' : gW) : Prop := w'.2 = w.2 ∧ ∀ b, (b < lo ∨ hi ≤ b) → w'.1 b = w.1 b
theorem wF.rf {lo hi : Nat} {w : gW} : wF lo hi w w := ⟨rfl, fun _ _ => rfl⟩
theorem wF.tr {lo hi : Nat} {w w1 w2 : gW} (h1 : wF lo hi w w1) (h2 : wF lo hi w1 w2) : wF lo hi w w2 := ⟨h2.1.trans h1.1, fun b hb => (h2.2 b hb).trans (h1.2 b hb)⟩
theorem wF.wide {lo hi lo' hi' : Nat} {w w1 : gW} (h : wF lo hi w w1) (h1 : lo' ≤ lo) (h2 : hi ≤ hi') : wF lo' hi' w w1 := ⟨h.1, fun b hb => h.2 b (by omega)⟩
theorem wF_up {lo hi : Nat} {w : gW} {b : Nat} {e : gE} (h1 : lo ≤ b) (h2 : b < hi) : wF lo hi w (gUp w b e) := ⟨rfl, fun c hc => if_neg (by omega)⟩
theorem oLy_at {lay : oLy} {k : Nat} {e : Nat × Nat × Nat} (h : lay[k]? = some e) : k < lay.length ∧ lay.getD k (0, 0, 0) = e := ⟨(List.getElem?_eq_some_iff.mp h).1, by rw [List.getD_eq_getElem?_getD, h]; rfl⟩
theorem oFs_at (a : Nat) (S : oSt) : ∀ (lay : oLy) (i k : Nat), (oFs a S i lay)[k]? = (lay[k]?).map (oF a S (i + k))
  | [], i, k => by simp [oFs]
  | e :: t, i, 0 => by simp [oFs]
  | e :: t, i, k + 1 => by
    simp only [oFs, List.getElem?_cons_succ]
    rw [oFs_at a S t (i + 1) k, show i + 1 + k = i + (k + 1) by omega]
theorem oFs_len (a : Nat) (S : oSt) : ∀ (lay : oLy) (i : Nat), (oFs a S i lay).length = lay.length
  | [], i => rfl
  | e :: t, i => by simp [oFs, oFs_len a S t (i + 1)]
theorem oFs_eq {a : Nat} {S S' : oSt} {lay : oLy} (h : ∀ k e, lay[k]? = some e → oF a S k e = oF a S' k e) : oFs a S 0 lay = oFs a S' 0 lay := by
  apply List.ext_getElem?
  intro k
  rw [oFs_at, oFs_at]
  cases hk : lay[k]? with
  | none => rfl
  | some e =>
    show some _ = some _
    rw [Nat.zero_add, h k e hk]
theorem oFs_set {a : Nat} {S S' : oSt} {lay : oLy} {k : Nat} {v : Value} {e : Nat × Nat × Nat} (he : lay[k]? = some e) (hv : oF a S' k e = v) (h : ∀ l e, l ≠ k → lay[l]? = some e → oF a S l e = oF a S' l e) : (oFs a S 0 lay).set k v = oFs a S' 0 lay := by
  apply List.ext_getElem?
  intro l
  have hk := (oLy_at he).1
  by_cases hl : l = k
  · subst hl
    rw [List.getElem?_set_self (by rw [oFs_len]; exact hk), oFs_at, he]
    show some v = some _
    rw [Nat.zero_add, hv]
  · rw [List.getElem?_set_ne (Ne.symm hl), oFs_at, oFs_at]
    cases hk : lay[l]? with
    | none => rfl
    | some e =>
      show some _ = some _
      rw [Nat.zero_add, h l e hl hk]
section OB
variable {ci : Nat} {lay : oLy} {w : gW} {a size : Nat} {S : oSt} {k off len : Nat}
theorem oAt.rF (h : oAt ci lay w a S) {e : Nat × Nat × Nat} (he : lay[k]? = some e) : gF ci k (some a) w = some (oF a S k e) := by
  show (match w.1 a with
    | some (.inr (.inr (.inr (c, fs)))) => bif c == ci then fs[k]? else none
    | _ => none) = _
  rw [h.1]
  show (bif ci == ci then (oFs a S 0 lay)[k]? else none) = _
  rw [oFs_at, he, Nat.zero_add]
  simp
theorem oAt.O (h : oAt ci lay w a S) : gO ci (some a) w = some a := by
  show (match w.1 a with
    | some (.inr (.inr (.inr (c, _)))) => bif c == ci then some a else none
    | _ => none) = _
  rw [h.1]
  simp
theorem oAt.rI (h : oAt ci lay w a S) (k : Nat) (he : lay[k]? = some (0, off, len)) : gFI ci k (some a) w = some (oI S k) := by
  unfold gFI; rw [h.rF he]; rfl
theorem oAt.rL (h : oAt ci lay w a S) (k : Nat) (he : lay[k]? = some (2, off, len)) : gFL ci k (some a) w = some (oJ S k) := by
  unfold gFL; rw [h.rF he]; rfl
theorem oAt.rA (h : oAt ci lay w a S) (k : Nat) (he : lay[k]? = some (1, off, len)) : gFR ci k (some a) w = some (some (a + off)) := by
  unfold gFR; rw [h.rF he]; rfl
theorem oAt.rB (h : oAt ci lay w a S) (k : Nat) (he : lay[k]? = some (3, off, len)) : gFR ci k (some a) w = some (some (a + off)) := by
  unfold gFR; rw [h.rF he]; rfl
theorem oAt.rQ (h : oAt ci lay w a S) (k : Nat) {c : Nat} (he : lay[k]? = some (c + 5, off, len)) : gFR ci k (some a) w = some (some (a + off)) := by
  unfold gFR; rw [h.rF he]; rfl
theorem oAt.rP (h : oAt ci lay w a S) (k : Nat) (he : lay[k]? = some (4, off, len)) : gFR ci k (some a) w = some (oP S k) := by
  unfold gFR; rw [h.rF he]
  show (match some (va_rf (oP S k)) with
    | some .null => some none
    | some (.ref a) => some (some a)
    | _ => none) = _
  cases oP S k <;> rfl
theorem nI_bad {j len : Nat} (hj : j < len) (hl : len < 2 ^ 31) : ¬ (nI j < 0 ∨ len ≤ (nI j).toNatClampNeg) := by
  rw [nI_clamp (by omega)]
  rintro (q | q)
  · exact nI_pos (by omega) q
  · omega
theorem oAt.ld (h : oAt ci lay w a S) (k : Nat) (he : lay[k]? = some (1, off, len)) {j : Nat} (hj : j < len) (hl : len < 2 ^ 31) : gLI (some (a + off)) (nI j) w = some (oA S k j) := by
  show (match w.1 (a + off) with
    | some (.inl (n, f)) => if nI j < 0 ∨ n ≤ (nI j).toNatClampNeg then none else some (f (nI j).toNatClampNeg)
    | _ => none) = _
  rw [h.2 k _ _ he rfl]
  show (if nI j < 0 ∨ len ≤ (nI j).toNatClampNeg then none else some (oA S k (nI j).toNatClampNeg)) = _
  rw [if_neg (nI_bad hj hl), nI_clamp (by omega)]
theorem oAt.ldL (h : oAt ci lay w a S) (k : Nat) (he : lay[k]? = some (3, off, len)) {j : Nat} (hj : j < len) (hl : len < 2 ^ 31) : gLL (some (a + off)) (nI j) w = some (oB S k j) := by
  show (match w.1 (a + off) with
    | some (.inr (.inl (n, f))) => if nI j < 0 ∨ n ≤ (nI j).toNatClampNeg then none else some (f (nI j).toNatClampNeg)
    | _ => none) = _
  rw [h.2 k _ _ he rfl]
  show (if nI j < 0 ∨ len ≤ (nI j).toNatClampNeg then none else some (oB S k (nI j).toNatClampNeg)) = _
  rw [if_neg (nI_bad hj hl), nI_clamp (by omega)]
theorem oAt.ldR (h : oAt ci lay w a S) (k : Nat) {c : Nat} (he : lay[k]? = some (c + 5, off, len)) {j : Nat} (hj : j < len) (hl : len < 2 ^ 31) : gLR c (some (a + off)) (nI j) w = some (oQ S k j) := by
  show (match w.1 (a + off) with
    | some (.inr (.inr (.inl (c', n, f)))) => bif c' == c then (if nI j < 0 ∨ n ≤ (nI j).toNatClampNeg then none else some (f (nI j).toNatClampNeg)) else none
    | _ => none) = _
  rw [h.2 k _ _ he rfl]
  show (bif c == c then (if nI j < 0 ∨ len ≤ (nI j).toNatClampNeg then none else some (oQ S k (nI j).toNatClampNeg)) else none) = _
  rw [if_neg (nI_bad hj hl), nI_clamp (by omega)]
  simp
theorem oAt.ln (h : oAt ci lay w a S) (k : Nat) (he : lay[k]? = some (1, off, len)) : gLen (some (a + off)) w = some (nI len) := by
  show (match w.1 (a + off) with
    | some (.inl (n, f)) => some (Int32.ofNat n)
    | _ => none) = _
  rw [h.2 k _ _ he rfl]; rfl
/-- a row is written -/
theorem oAt.row (hL : oLay lay size) (h : oAt ci lay w a S) {e : Nat × Nat × Nat} (he : lay[k]? = some e) (h0 : e.1 ≠ 0) (h2 : e.1 ≠ 2) (h4 : e.1 ≠ 4) {S' : oSt} {g : gE} (hg : oE S' k e = some g) (hI : oI S' = oI S) (hJ : oJ S' = oJ S) (hP : oP S' = oP S) (ho : ∀ l e', l ≠ k → oE S' l e' = oE S l e') : oAt ci lay (gUp w (a + e.2.1) g) a S' ∧ wF a (a + size) w (gUp w (a + e.2.1) g) := by
  obtain ⟨hk, hke⟩ := oLy_at he
  have hb := hL.2 k hk (by rw [hke]; exact h0) (by rw [hke]; exact h2) (by rw [hke]; exact h4)
  rw [hke] at hb
  refine ⟨⟨?_, fun l e' g' hl hg' => ?_⟩, wF_up (by omega) (by omega)⟩
  · show (if a = a + e.2.1 then _ else w.1 a) = _
    rw [if_neg (by omega), h.1, oFs_eq (fun k e _ => ?_)]
    unfold oF
    rw [hI, hJ, hP]
  · show (if a + e'.2.1 = a + e.2.1 then _ else w.1 (a + e'.2.1)) = _
    by_cases hlk : l = k
    · subst hlk
      have : e' = e := Option.some.inj (hl.symm.trans he)
      subst this
      rw [if_pos rfl, ← hg, hg']
    · obtain ⟨hl1, hl2⟩ := oLy_at hl
      have hn : e'.1 ≠ 0 ∧ e'.1 ≠ 2 ∧ e'.1 ≠ 4 := by
        refine ⟨fun q => ?_, fun q => ?_, fun q => ?_⟩ <;> (unfold oE at hg'; rw [q] at hg'; cases hg')
      rw [if_neg (fun q => hlk (hL.1 l hl1 k hk (by rw [hl2]; exact hn.1) (by rw [hl2]; exact hn.2.1) (by rw [hl2]; exact hn.2.2) (by rw [hke]; exact h0) (by rw [hke]; exact h2) (by rw [hke]; exact h4) (by rw [hl2, hke]; omega)))]
      exact h.2 l e' g' hl (by rw [← ho l e' hlk]; exact hg')
theorem va_upS {α : Type} (f : Nat → α) (k : Nat) (v : α) : va_up f k v k = v := by simp [va_up]
theorem va_upN {α : Type} {f : Nat → α} {k j : Nat} {v : α} (h : j ≠ k) : va_up f k v j = f j := by simp [va_up, h]
theorem oAt.st (h : oAt ci lay w a S) (hL : oLay lay size) (k : Nat) (he : lay[k]? = some (1, off, len)) {j : Nat} (hj : j < len) (hl : len < 2 ^ 31) (x : Int32) : ∃ w1, gSI (some (a + off)) (nI j) x w = some w1 ∧ oAt ci lay w1 a (uA S k (upd (oA S k) j x)) ∧ wF a (a + size) w w1 := by
  refine ⟨_, ?_, oAt.row hL h he (by simp) (by simp) (by simp) (S' := uA S k (upd (oA S k) j x)) (g := .inl (len, upd (oA S k) j x)) ?_ rfl rfl rfl ?_⟩
  · show (match w.1 (a + off) with
      | some (.inl (n, f)) => if nI j < 0 ∨ n ≤ (nI j).toNatClampNeg then none else some (gUp w (a + off) (.inl (n, upd f (nI j).toNatClampNeg x)))
      | _ => none) = _
    rw [h.2 k _ _ he rfl]
    show (if nI j < 0 ∨ len ≤ (nI j).toNatClampNeg then none else some (gUp w (a + off) (.inl (len, upd (oA S k) (nI j).toNatClampNeg x)))) = _
    rw [if_neg (nI_bad hj hl), nI_clamp (by omega)]
  · show some _ = some _
    show some (Sum.inl (len, va_up (oA S) k _ k)) = _
    rw [va_upS]
  · intro l e' hlk
    unfold oE
    show _ = _
    have : oA (uA S k (upd (oA S k) j x)) l = oA S l := va_upN hlk
    rw [this]; rfl
theorem oAt.stL (h : oAt ci lay w a S) (hL : oLay lay size) (k : Nat) (he : lay[k]? = some (3, off, len)) {j : Nat} (hj : j < len) (hl : len < 2 ^ 31) (x : Int64) : ∃ w1, gSL (some (a + off)) (nI j) x w = some w1 ∧ oAt ci lay w1 a (uB S k (vp_updL (oB S k) j x)) ∧ wF a (a + size) w w1 := by
  refine ⟨_, ?_, oAt.row hL h he (by simp) (by simp) (by simp) (S' := uB S k (vp_updL (oB S k) j x)) (g := .inr (.inl (len, vp_updL (oB S k) j x))) ?_ rfl rfl rfl ?_⟩
  · show (match w.1 (a + off) with
      | some (.inr (.inl (n, f))) => if nI j < 0 ∨ n ≤ (nI j).toNatClampNeg then none else some (gUp w (a + off) (.inr (.inl (n, vp_updL f (nI j).toNatClampNeg x))))
      | _ => none) = _
    rw [h.2 k _ _ he rfl]
    show (if nI j < 0 ∨ len ≤ (nI j).toNatClampNeg then none else some (gUp w (a + off) (.inr (.inl (len, vp_updL (oB S k) (nI j).toNatClampNeg x))))) = _
    rw [if_neg (nI_bad hj hl), nI_clamp (by omega)]
  · show some (Sum.inr (Sum.inl (len, va_up (oB S) k _ k))) = _
    rw [va_upS]
  · intro l e' hlk
    unfold oE
    have : oB (uB S k (vp_updL (oB S k) j x)) l = oB S l := va_upN hlk
    rw [this]; rfl
theorem oAt.stR (h : oAt ci lay w a S) (hL : oLay lay size) (k : Nat) {c : Nat} (he : lay[k]? = some (c + 5, off, len)) {j : Nat} (hj : j < len) (hl : len < 2 ^ 31) {b : Nat} (hb : gO c (some b) w = some b) : ∃ w1, gSR c (some (a + off)) (nI j) (some b) w = some w1 ∧ oAt ci lay w1 a (uQ S k (va_up (oQ S k) j (some b))) ∧ wF a (a + size) w w1 := by
  refine ⟨_, ?_, oAt.row hL h he (by simp) (by simp) (by simp) (S' := uQ S k (va_up (oQ S k) j (some b))) (g := .inr (.inr (.inl (c, len, va_up (oQ S k) j (some b))))) ?_ rfl rfl rfl ?_⟩
  · unfold gSR
    rw [hb]
    show (match w.1 (a + off) with
      | some (.inr (.inr (.inl (c', n, f)))) => bif c' == c then (if nI j < 0 ∨ n ≤ (nI j).toNatClampNeg then none else some (gUp w (a + off) (.inr (.inr (.inl (c, n, va_up f (nI j).toNatClampNeg (some b))))))) else none
      | _ => none) = _
    rw [h.2 k _ _ he rfl]
    show (bif c == c then (if nI j < 0 ∨ len ≤ (nI j).toNatClampNeg then none else some (gUp w (a + off) (.inr (.inr (.inl (c, len, va_up (oQ S k) (nI j).toNatClampNeg (some b))))))) else none) = _
    rw [if_neg (nI_bad hj hl), nI_clamp (by omega)]
    simp
  · show some (Sum.inr (Sum.inr (Sum.inl (c, len, va_up (oQ S) k _ k)))) = _
    rw [va_upS]
  · intro l e' hlk
    unfold oE
    have : oQ (uQ S k (va_up (oQ S k) j (some b))) l = oQ S l := va_upN hlk
    rw [this]; rfl
/-- a slot is written -/
theorem oAt.slot (hL : oLay lay size) (h : oAt ci lay w a S) {e : Nat × Nat × Nat} (he : lay[k]? = some e) {v : gV} {S' : oSt} (hv : oF a S' k e = gTo v) (ho : ∀ l e', l ≠ k → lay[l]? = some e' → oF a S l e' = oF a S' l e') (hE : ∀ l e', oE S' l e' = oE S l e') (hs : 0 < size) : ∃ w1, gP ci k (some a) v w = some w1 ∧ oAt ci lay w1 a S' ∧ wF a (a + size) w w1 := by
  obtain ⟨hk, hke⟩ := oLy_at he
  refine ⟨gUp w a (.inr (.inr (.inr (ci, oFs a S' 0 lay)))), ?_, ⟨?_, fun l e' g' hl hg' => ?_⟩, wF_up (Nat.le_refl _) (by omega)⟩
  · show (match w.1 a with
      | some (.inr (.inr (.inr (c, fs)))) => bif c == ci && Nat.blt k fs.length then some (gUp w a (.inr (.inr (.inr (ci, fs.set k (gTo v)))))) else none
      | _ => none) = _
    rw [h.1]
    show (bif ci == ci && Nat.blt k (oFs a S 0 lay).length then some (gUp w a (.inr (.inr (.inr (ci, (oFs a S 0 lay).set k (gTo v)))))) else none) = _
    rw [oFs_len, oFs_set he hv ho]
    have : Nat.blt k lay.length = true := Nat.ble_eq.mpr hk
    rw [this]
    simp
  · show (if a = a then _ else w.1 a) = _
    rw [if_pos rfl]
  · rw [hE] at hg'
    have hl2 := oLy_at hl
    have hn : e'.1 ≠ 0 ∧ e'.1 ≠ 2 ∧ e'.1 ≠ 4 := by
      refine ⟨fun q => ?_, fun q => ?_, fun q => ?_⟩ <;> (unfold oE at hg'; rw [q] at hg'; cases hg')
    have hb := hL.2 l hl2.1 (by rw [hl2.2]; exact hn.1) (by rw [hl2.2]; exact hn.2.1) (by rw [hl2.2]; exact hn.2.2)
    rw [hl2.2] at hb
    show (if a + e'.2.1 = a then _ else w.1 (a + e'.2.1)) = _
    rw [if_neg (by omega)]
    exact h.2 l e' g' hl hg'
theorem oAt.pI (h : oAt ci lay w a S) (hL : oLay lay size) (hs : 0 < size) (k : Nat) (he : lay[k]? = some (0, off, len)) (x : Int32) : ∃ w1, gP ci k (some a) (.inl x) w = some w1 ∧ oAt ci lay w1 a (uI S k x) ∧ wF a (a + size) w w1 := by
  refine oAt.slot hL h he (v := .inl x) (S' := uI S k x) ?_ (fun l e' hl _ => ?_) (fun _ _ => rfl) hs
  · show Value.int (va_up (oI S) k x k) = _
    rw [va_upS]; rfl
  · unfold oF
    have : oI (uI S k x) l = oI S l := va_upN hl
    rw [this]; rfl
theorem oAt.pL (h : oAt ci lay w a S) (hL : oLay lay size) (hs : 0 < size) (k : Nat) (he : lay[k]? = some (2, off, len)) (x : Int64) : ∃ w1, gP ci k (some a) (.inr (.inl x)) w = some w1 ∧ oAt ci lay w1 a (uJ S k x) ∧ wF a (a + size) w w1 := by
  refine oAt.slot hL h he (v := .inr (.inl x)) (S' := uJ S k x) ?_ (fun l e' hl _ => ?_) (fun _ _ => rfl) hs
  · show Value.long (va_up (oJ S) k x k) = _
    rw [va_upS]; rfl
  · unfold oF
    have : oJ (uJ S k x) l = oJ S l := va_upN hl
    rw [this]; rfl
theorem oAt.pP (h : oAt ci lay w a S) (hL : oLay lay size) (hs : 0 < size) (k : Nat) (he : lay[k]? = some (4, off, len)) (x : Option Nat) : ∃ w1, gP ci k (some a) (.inr (.inr x)) w = some w1 ∧ oAt ci lay w1 a (uP S k x) ∧ wF a (a + size) w w1 := by
  refine oAt.slot hL h he (v := .inr (.inr x)) (S' := uP S k x) ?_ (fun l e' hl _ => ?_) (fun _ _ => rfl) hs
  · show va_rf (va_up (oP S) k x k) = _
    rw [va_upS]; rfl
  · unfold oF
    have : oP (uP S k x) l = oP S l := va_upN hl
    rw [this]; rfl
/-- what is apart stays -/
theorem oAt.keep (h : oAt ci lay w a S) (hL : oLay lay size) {lo hi : Nat} {w1 : gW} (hF : wF lo hi w w1) (hd : a + size ≤ lo ∨ hi ≤ a) (hs : 0 < size) : oAt ci lay w1 a S := by
  refine ⟨by rw [hF.2 a (by omega)]; exact h.1, fun l e g hl hg => ?_⟩
  have hl2 := oLy_at hl
  have hn : e.1 ≠ 0 ∧ e.1 ≠ 2 ∧ e.1 ≠ 4 := by
    refine ⟨fun q => ?_, fun q => ?_, fun q => ?_⟩ <;> (unfold oE at hg; rw [q] at hg; cases hg)
  have hb := hL.2 l hl2.1 (by rw [hl2.2]; exact hn.1) (by rw [hl2.2]; exact hn.2.1) (by rw [hl2.2]; exact hn.2.2)
  rw [hl2.2] at hb
  rw [hF.2 _ (by omega)]
  exact h.2 l e g hl hg
end OB
