/-! THE CLASS'S OBJECTS IN WHOLE NUMBERS: C says what lies where (class, its own number) and where it refers; O what they hold -/
abbrev yC : Type := (Nat → Option (Nat × Nat)) × (Nat → Nat → Option Nat)
abbrev zO : Type := Nat → zS
def lyA : oLy := [(1, 1, 32), (4, 0, 0), (4, 0, 0), (0, 0, 0), (0, 0, 0), (0, 0, 0), (0, 0, 0)]
def lyE (l : Nat) : oLy := [(1, 2, l * 98), (1, 3, l), (1, 1, 98), (0, 0, 0), (0, 0, 0), (0, 0, 0)]
def lyW : oLy := [(1, 1, 98), (4, 0, 0), (4, 0, 0), (0, 0, 0), (0, 0, 0), (0, 0, 0), (0, 0, 0)]
theorem lyA_ok : oLay lyA 2 := oLay_of (by decide +kernel)
theorem lyE_ok (l : Nat) : oLay (lyE l) 4 := oLay_of rfl
theorem lyW_ok : oLay lyW 2 := oLay_of (by decide +kernel)
def LY (q : Nat × Nat) : oLy := match q.1 with
  | 0 => lyA
  | 1 => lyE q.2
  | 2 => lyG
  | 3 => lyM
  | 4 => lyS
  | _ => lyW
def SZ (q : Nat × Nat) : Nat := match q.1 with
  | 0 => 2
  | 1 => 4
  | 2 => 7
  | 3 => 8
  | 4 => 2
  | _ => 2
theorem SZ_pos (q : Nat × Nat) : 0 < SZ q := by
  unfold SZ; split <;> omega
theorem LY_ok (q : Nat × Nat) : oLay (LY q) (SZ q) := by
  unfold LY SZ
  split
  · exact lyA_ok
  · exact lyE_ok _
  · exact lyG_ok
  · exact lyM_ok
  · exact lyS_ok
  · exact lyW_ok
theorem dy0_0 (l : Nat) : (LY (0, l))[0]? = some (1, 1, 32) := rfl
theorem dy1_2 (l : Nat) : (LY (1, l))[2]? = some (1, 1, 98) := rfl
theorem dy2_0 (l : Nat) : (LY (2, l))[0]? = some (1, 1, 2304) := rfl
theorem dy2_1 (l : Nat) : (LY (2, l))[1]? = some (1, 2, 48) := rfl
theorem dy2_2 (l : Nat) : (LY (2, l))[2]? = some (1, 3, 48) := rfl
theorem dy2_3 (l : Nat) : (LY (2, l))[3]? = some (1, 4, 48) := rfl
theorem dy2_4 (l : Nat) : (LY (2, l))[4]? = some (1, 5, 48) := rfl
theorem dy2_5 (l : Nat) : (LY (2, l))[5]? = some (1, 6, 5) := rfl
theorem dy3_0 (l : Nat) : (LY (3, l))[0]? = some (1, 1, 48) := rfl
theorem dy3_1 (l : Nat) : (LY (3, l))[1]? = some (1, 2, 48) := rfl
theorem dy3_2 (l : Nat) : (LY (3, l))[2]? = some (1, 3, 48) := rfl
theorem dy3_3 (l : Nat) : (LY (3, l))[3]? = some (1, 4, 48) := rfl
theorem dy3_4 (l : Nat) : (LY (3, l))[4]? = some (1, 5, 48) := rfl
theorem dy3_5 (l : Nat) : (LY (3, l))[5]? = some (1, 6, 5) := rfl
theorem dy3_6 (l : Nat) : (LY (3, l))[6]? = some (1, 7, 49) := rfl
theorem dy4_0 (l : Nat) : (LY (4, l))[0]? = some (1, 1, 144) := rfl
theorem dy5_0 (l : Nat) : (LY (5, l))[0]? = some (1, 1, 98) := rfl
theorem ey1_0 (l : Nat) : (LY (1, l))[0]? = some (1, 2, l * 98) := rfl
theorem ey1_1 (l : Nat) : (LY (1, l))[1]? = some (1, 3, l * 1) := by rw [Nat.mul_one]; rfl
theorem ay0_0 (l : Nat) : ∃ n, (LY (0, l))[0]? = some (1, 1, n) := ⟨_, dy0_0 l⟩
theorem ay1_0 (l : Nat) : ∃ n, (LY (1, l))[0]? = some (1, 2, n) := ⟨_, ey1_0 l⟩
theorem ay1_1 (l : Nat) : ∃ n, (LY (1, l))[1]? = some (1, 3, n) := ⟨_, ey1_1 l⟩
theorem ay1_2 (l : Nat) : ∃ n, (LY (1, l))[2]? = some (1, 1, n) := ⟨_, dy1_2 l⟩
theorem ay2_0 (l : Nat) : ∃ n, (LY (2, l))[0]? = some (1, 1, n) := ⟨_, dy2_0 l⟩
theorem ay2_1 (l : Nat) : ∃ n, (LY (2, l))[1]? = some (1, 2, n) := ⟨_, dy2_1 l⟩
theorem ay2_2 (l : Nat) : ∃ n, (LY (2, l))[2]? = some (1, 3, n) := ⟨_, dy2_2 l⟩
theorem ay2_3 (l : Nat) : ∃ n, (LY (2, l))[3]? = some (1, 4, n) := ⟨_, dy2_3 l⟩
theorem ay2_4 (l : Nat) : ∃ n, (LY (2, l))[4]? = some (1, 5, n) := ⟨_, dy2_4 l⟩
theorem ay2_5 (l : Nat) : ∃ n, (LY (2, l))[5]? = some (1, 6, n) := ⟨_, dy2_5 l⟩
theorem ay3_0 (l : Nat) : ∃ n, (LY (3, l))[0]? = some (1, 1, n) := ⟨_, dy3_0 l⟩
theorem ay3_1 (l : Nat) : ∃ n, (LY (3, l))[1]? = some (1, 2, n) := ⟨_, dy3_1 l⟩
theorem ay3_2 (l : Nat) : ∃ n, (LY (3, l))[2]? = some (1, 3, n) := ⟨_, dy3_2 l⟩
theorem ay3_3 (l : Nat) : ∃ n, (LY (3, l))[3]? = some (1, 4, n) := ⟨_, dy3_3 l⟩
theorem ay3_4 (l : Nat) : ∃ n, (LY (3, l))[4]? = some (1, 5, n) := ⟨_, dy3_4 l⟩
theorem ay3_5 (l : Nat) : ∃ n, (LY (3, l))[5]? = some (1, 6, n) := ⟨_, dy3_5 l⟩
theorem ay3_6 (l : Nat) : ∃ n, (LY (3, l))[6]? = some (1, 7, n) := ⟨_, dy3_6 l⟩
theorem ay4_0 (l : Nat) : ∃ n, (LY (4, l))[0]? = some (1, 1, n) := ⟨_, dy4_0 l⟩
theorem ay5_0 (l : Nat) : ∃ n, (LY (5, l))[0]? = some (1, 1, n) := ⟨_, dy5_0 l⟩
theorem iy0_3 (l : Nat) : (LY (0, l))[3]? = some (0, 0, 0) := rfl
theorem iy0_4 (l : Nat) : (LY (0, l))[4]? = some (0, 0, 0) := rfl
theorem iy0_5 (l : Nat) : (LY (0, l))[5]? = some (0, 0, 0) := rfl
theorem iy0_6 (l : Nat) : (LY (0, l))[6]? = some (0, 0, 0) := rfl
theorem iy1_3 (l : Nat) : (LY (1, l))[3]? = some (0, 0, 0) := rfl
theorem iy1_4 (l : Nat) : (LY (1, l))[4]? = some (0, 0, 0) := rfl
theorem iy1_5 (l : Nat) : (LY (1, l))[5]? = some (0, 0, 0) := rfl
theorem iy2_6 (l : Nat) : (LY (2, l))[6]? = some (0, 0, 0) := rfl
theorem iy2_7 (l : Nat) : (LY (2, l))[7]? = some (0, 0, 0) := rfl
theorem iy3_7 (l : Nat) : (LY (3, l))[7]? = some (0, 0, 0) := rfl
theorem iy4_1 (l : Nat) : (LY (4, l))[1]? = some (0, 0, 0) := rfl
theorem iy4_2 (l : Nat) : (LY (4, l))[2]? = some (0, 0, 0) := rfl
theorem iy5_3 (l : Nat) : (LY (5, l))[3]? = some (0, 0, 0) := rfl
theorem iy5_4 (l : Nat) : (LY (5, l))[4]? = some (0, 0, 0) := rfl
theorem iy5_5 (l : Nat) : (LY (5, l))[5]? = some (0, 0, 0) := rfl
theorem iy5_6 (l : Nat) : (LY (5, l))[6]? = some (0, 0, 0) := rfl
theorem ry0_1 (l : Nat) : (LY (0, l))[1]? = some (4, 0, 0) := rfl
theorem ry0_2 (l : Nat) : (LY (0, l))[2]? = some (4, 0, 0) := rfl
theorem ry5_1 (l : Nat) : (LY (5, l))[1]? = some (4, 0, 0) := rfl
theorem ry5_2 (l : Nat) : (LY (5, l))[2]? = some (4, 0, 0) := rfl
def oup (O : zO) (a : Nat) (S : zS) : zO := fun b => if b = a then S else O b
theorem oup_s (O : zO) (a : Nat) (S : zS) : oup O a S a = S := if_pos rfl
theorem oup_n {O : zO} {a b : Nat} {S : zS} (h : b ≠ a) : oup O a S b = O b := if_neg h
def zfl (S : zS) (k len : Nat) (x : Int) : zS := (S.1, S.2.1, fun l => if l = k then (fun i => if 0 ≤ i ∧ i < len then x else zA S k i) else zA S l, S.2.2.2)
section YW
variable {α : Type}
def yO (C : yC) (c : Nat) (t : Option Nat) (K : Nat → Option α) : Option α := match t with
  | some a => match C.1 a with
    | some (d, _) => if d = c then K a else none
    | none => none
  | none => none
def yAR (C : yC) (c : Nat) (t : Option Nat) (x : Option α) : Option α := yO C c t fun _ => x
def yFR (C : yC) (c k : Nat) (t : Option Nat) (K : Option Nat → Option α) : Option α := yO C c t fun a => K (C.2 a k)
def yFI (C : yC) (c k : Nat) (t : Option Nat) (O : zO) (K : Int → Option α) : Option α := yO C c t fun a => K (zI (O a) k)
def yLd (C : yC) (c k len : Nat) (t : Option Nat) (i : Int) (O : zO) (K : Int → Option α) : Option α := yO C c t fun a => if 0 ≤ i ∧ i < len then K (zA (O a) k i) else none
def ySt (C : yC) (c k len : Nat) (t : Option Nat) (i x : Int) (O : zO) (K : zO → Option α) : Option α := yO C c t fun a => if 0 ≤ i ∧ i < len then K (oup O a (zuA (O a) k i x)) else none
def yPI (C : yC) (c k : Nat) (t : Option Nat) (x : Int) (O : zO) (K : zO → Option α) : Option α := yO C c t fun a => K (oup O a (zuI (O a) k x))
def yFill (C : yC) (c k len : Nat) (t : Option Nat) (x : Int) (O : zO) (K : zO → Option α) : Option α := yO C c t fun a => K (oup O a (zfl (O a) k len x))
def yLn (C : yC) (c len : Nat) (t : Option Nat) (K : Int → Option α) : Option α := yO C c t fun _ => K len
def yE (C : yC) (c : Nat) (t : Option Nat) (K : Nat → Nat → Option α) : Option α := match t with
  | some a => match C.1 a with
    | some (d, l) => if d = c then K a l else none
    | none => none
  | none => none
def yLE (C : yC) (c k mul : Nat) (t : Option Nat) (i : Int) (O : zO) (K : Int → Option α) : Option α := yE C c t fun a l => if 0 ≤ i ∧ i < ((l * mul : Nat) : Int) then K (zA (O a) k i) else none
def ySE (C : yC) (c k mul : Nat) (t : Option Nat) (i x : Int) (O : zO) (K : zO → Option α) : Option α := yE C c t fun a l => if 0 ≤ i ∧ i < ((l * mul : Nat) : Int) then K (oup O a (zuA (O a) k i x)) else none
def yLnE (C : yC) (c mul : Nat) (t : Option Nat) (K : Int → Option α) : Option α := yE C c t fun _ l => K ((l * mul : Nat) : Int)
def yC1 (x : Option (Int × zO)) (K : Int → zO → Option α) : Option α := x.bind fun q => K q.1 q.2
def yC0 (x : Option zO) (K : zO → Option α) : Option α := x.bind K
variable {C : yC} {c k len mul l a : Nat} {O : zO}
theorem yO_o (h : C.1 a = some (c, l)) {K : Nat → Option α} : yO C c (some a) K = K a := by
  unfold yO; simp only [h]; exact if_pos trivial
theorem yE_o (h : C.1 a = some (c, l)) {K : Nat → Nat → Option α} : yE C c (some a) K = K a l := by
  unfold yE; simp only [h]; exact if_pos trivial
theorem yAR_o (h : C.1 a = some (c, l)) {x : Option α} : yAR C c (some a) x = x := yO_o h
theorem yFR_o (h : C.1 a = some (c, l)) {b : Option Nat} (hb : C.2 a k = b) {K : Option Nat → Option α} : yFR C c k (some a) K = K b := by rw [← hb]; exact yO_o h
theorem yFI_o (h : C.1 a = some (c, l)) {K : Int → Option α} : yFI C c k (some a) O K = K (zI (O a) k) := yO_o h
theorem yLd_o (h : C.1 a = some (c, l)) {i : Int} {K : Int → Option α} (hi : 0 ≤ i ∧ i < len) : yLd C c k len (some a) i O K = K (zA (O a) k i) := (yO_o h).trans (if_pos hi)
theorem ySt_o (h : C.1 a = some (c, l)) {i x : Int} {K : zO → Option α} (hi : 0 ≤ i ∧ i < len) : ySt C c k len (some a) i x O K = K (oup O a (zuA (O a) k i x)) := (yO_o h).trans (if_pos hi)
theorem yPI_o (h : C.1 a = some (c, l)) {x : Int} {K : zO → Option α} : yPI C c k (some a) x O K = K (oup O a (zuI (O a) k x)) := yO_o h
theorem yFill_o (h : C.1 a = some (c, l)) {x : Int} {K : zO → Option α} : yFill C c k len (some a) x O K = K (oup O a (zfl (O a) k len x)) := yO_o h
theorem yLn_o (h : C.1 a = some (c, l)) {K : Int → Option α} : yLn C c len (some a) K = K len := yO_o h
theorem yLE_o (h : C.1 a = some (c, l)) {i : Int} {K : Int → Option α} (hi : 0 ≤ i ∧ i < ((l * mul : Nat) : Int)) : yLE C c k mul (some a) i O K = K (zA (O a) k i) := (yE_o h).trans (if_pos hi)
theorem ySE_o (h : C.1 a = some (c, l)) {i x : Int} {K : zO → Option α} (hi : 0 ≤ i ∧ i < ((l * mul : Nat) : Int)) : ySE C c k mul (some a) i x O K = K (oup O a (zuA (O a) k i x)) := (yE_o h).trans (if_pos hi)
theorem yLnE_o (h : C.1 a = some (c, l)) {K : Int → Option α} : yLnE C c mul (some a) K = K ((l * mul : Nat) : Int) := yE_o h
theorem yC1_o {x : Option (Int × zO)} {K : Int → zO → Option α} {v : Int} (h : x = some (v, O)) : yC1 x K = K v O := by rw [h]; rfl
theorem yC0_o {x : Option zO} {K : zO → Option α} (h : x = some O) : yC0 x K = K O := by rw [h]; rfl
end YW
/-! what they say of the world -/
def cvO (C : yC) (O : zO) (a : Nat) : oSt := (fun k => Int32.ofInt (zI (O a) k), zJ (O a), fun k j => Int32.ofInt (zA (O a) k j), fun k j => zB (O a) k j, C.2 a, fun _ _ => none)
def oRep (C : yC) (O : zO) (w : gW) : Prop := ∀ a q, C.1 a = some q → oAt q.1 (LY q) w a (cvO C O a)
def oSep (C : yC) : Prop := (∀ a q, C.1 a = some q → q.2 ≤ 98) ∧ ∀ a b q q', C.1 a = some q → C.1 b = some q' → a ≠ b → a + SZ q ≤ b ∨ b + SZ q' ≤ a
def oFr (C : yC) (w w' : gW) : Prop := w'.2 = w.2 ∧ ∀ b, (∀ a q, C.1 a = some q → b < a ∨ a + SZ q ≤ b) → w'.1 b = w.1 b
def oar (off : Nat) (t : Option Nat) : Option Nat := t.map fun a => a + off
theorem oFr.rf {C : yC} {w : gW} : oFr C w w := ⟨rfl, fun _ _ => rfl⟩
theorem oFr.tr {C : yC} {w w1 w2 : gW} (h1 : oFr C w w1) (h2 : oFr C w1 w2) : oFr C w w2 := ⟨h2.1.trans h1.1, fun b hb => (h2.2 b hb).trans (h1.2 b hb)⟩
theorem wF.o {C : yC} {a : Nat} {q : Nat × Nat} {w w' : gW} (hq : C.1 a = some q) (h : wF a (a + SZ q) w w') : oFr C w w' := ⟨h.1, fun b hb => h.2 b (hb a q hq)⟩
def Y1 (C : yC) (w : gW) (r : Int × zO) (q : Int32 × gW) : Prop := q.1 = Int32.ofInt r.1 ∧ oRep C r.2 q.2 ∧ oFr C w q.2
def Y0 (C : yC) (w : gW) (r : zO) (q : gW) : Prop := oRep C r q ∧ oFr C w q
theorem eCv (f : Int32 → Int32) {x : Int32} {a : Int} (h1 : x = Int32.ofInt a) : f x = Int32.ofInt ((f (Int32.ofInt a)).toInt) := by rw [h1, Int32.ofInt_toInt]
/-- one object is written -/
theorem oRep.wr {C : yC} {O : zO} {w w' : gW} {a : Nat} {q : Nat × Nat} {S : zS} (h : oRep C O w) (hC : oSep C) (hq : C.1 a = some q) (h1 : oAt q.1 (LY q) w' a (cvO C (oup O a S) a)) (h2 : wF a (a + SZ q) w w') : oRep C (oup O a S) w' := by
  intro b p hb
  by_cases e : b = a
  · subst e
    have : p = q := Option.some.inj (hb.symm.trans hq)
    subst this
    exact h1
  · have := (h b p hb).keep (LY_ok p) h2 (hC.2 b a p q hb hq e) (SZ_pos p)
    have e2 : cvO C (oup O a S) b = cvO C O b := by
      unfold cvO; rw [oup_n e]
    rw [e2]; exact this
theorem cvO_uA (C : yC) (O : zO) (a k j : Nat) (c : Int) : uA (cvO C O a) k (upd (oA (cvO C O a) k) j (Int32.ofInt c)) = cvO C (oup O a (zuA (O a) k j c)) a := by
  have e : va_up (oA (cvO C O a)) k (upd (oA (cvO C O a) k) j (Int32.ofInt c)) = oA (cvO C (oup O a (zuA (O a) k j c)) a) := by
    funext l i
    show _ = Int32.ofInt (zA (oup O a (zuA (O a) k j c) a) l i)
    rw [oup_s, zA_uA]
    by_cases q : l = k
    · rw [q, va_upS, if_pos rfl]
      by_cases t : i = j
      · rw [t, pk_us, zup_s]
      · rw [pk_un t, zup_n (by omega)]; rfl
    · rw [va_upN q, if_neg q]; rfl
  show (oI (cvO C O a), oJ (cvO C O a), va_up (oA (cvO C O a)) k (upd (oA (cvO C O a) k) j (Int32.ofInt c)), oB (cvO C O a), oP (cvO C O a), oQ (cvO C O a)) = _
  rw [e]
  unfold cvO
  rw [oup_s]; rfl
theorem cvO_uI (C : yC) (O : zO) (a k : Nat) (c : Int) : uI (cvO C O a) k (Int32.ofInt c) = cvO C (oup O a (zuI (O a) k c)) a := by
  have e : va_up (oI (cvO C O a)) k (Int32.ofInt c) = oI (cvO C (oup O a (zuI (O a) k c)) a) := by
    funext l
    show _ = Int32.ofInt (zI (oup O a (zuI (O a) k c) a) l)
    rw [oup_s, zI_uI]
    by_cases q : l = k
    · rw [q, va_upS, if_pos rfl]
    · rw [va_upN q, if_neg q]; rfl
  show (va_up (oI (cvO C O a)) k (Int32.ofInt c), (cvO C O a).2) = _
  rw [e]
  unfold cvO
  rw [oup_s]; rfl
section SR
variable {α β : Type} {E : α → β → Prop} {C : yC} {O : zO} {w w0 : gW} {c k off len mul : Nat} {t t' : Option Nat} {xs : Option α}
theorem S_ret1 {x : Int32} {v : Int} (hx : x = Int32.ofInt v) (h : oRep C O w) (f : oFr C w0 w) : zR (Y1 C w0) (some (v, O)) (some (x, w)) := by
  intro r hr; cases hr; exact ⟨_, rfl, hx, h, f⟩
theorem S_ret0 (h : oRep C O w) (f : oFr C w0 w) : zR (Y0 C w0) (some O) (some w) := by
  intro r hr; cases hr; exact ⟨_, rfl, h, f⟩
theorem yO_sp {K : Nat → Option α} {r : α} (h : yO C c t K = some r) : ∃ a l, t = some a ∧ C.1 a = some (c, l) ∧ K a = some r := by
  unfold yO at h
  cases ht : t with
  | none => rw [ht] at h; cases h
  | some a =>
    rw [ht] at h
    cases hq : C.1 a with
    | none => simp only [hq] at h; cases h
    | some q =>
      obtain ⟨d, l⟩ := q
      simp only [hq] at h
      by_cases e : d = c
      · subst e; rw [if_pos rfl] at h; exact ⟨a, l, rfl, hq, h⟩
      · rw [if_neg e] at h; cases h
theorem yE_sp {K : Nat → Nat → Option α} {r : α} (h : yE C c t K = some r) : ∃ a l, t = some a ∧ C.1 a = some (c, l) ∧ K a l = some r := by
  unfold yE at h
  cases ht : t with
  | none => rw [ht] at h; cases h
  | some a =>
    rw [ht] at h
    cases hq : C.1 a with
    | none => simp only [hq] at h; cases h
    | some q =>
      obtain ⟨d, l⟩ := q
      simp only [hq] at h
      by_cases e : d = c
      · subst e; rw [if_pos rfl] at h; exact ⟨a, l, rfl, hq, h⟩
      · rw [if_neg e] at h; cases h
theorem S_O (h : oRep C O w) (ht : t' = t) {K : Nat → Option α} {f : Nat → Option β} (p : ∀ a, t = some a → zR E (K a) (f a)) : zR E (yO C c t K) ((gO c t' w).bind f) := by
  intro r hr
  obtain ⟨a, l, h1, h2, h3⟩ := yO_sp hr
  rw [ht, h1, (h a _ h2).O]
  exact p a h1 r h3
theorem S_AR (h : oRep C O w) (ht : t' = t) (he : ∀ l, ∃ n, (LY (c, l))[k]? = some (1, off, n)) {x : Option α} {f : Option Nat → Option β} (p : ∀ u, u = oar off t → zR E x (f u)) : zR E (yAR C c t x) ((gFR c k t' w).bind f) := by
  intro r hr
  obtain ⟨a, l, h1, h2, h3⟩ := yO_sp hr
  obtain ⟨n, hn⟩ := he l
  rw [ht, h1, (h a _ h2).rA k hn]
  exact p _ (by rw [h1]; rfl) r h3
theorem S_FR (h : oRep C O w) (ht : t' = t) (he : ∀ l, (LY (c, l))[k]? = some (4, 0, 0)) {K : Option Nat → Option α} {f : Option Nat → Option β} (p : ∀ u u', u' = u → zR E (K u) (f u')) : zR E (yFR C c k t K) ((gFR c k t' w).bind f) := by
  intro r hr
  obtain ⟨a, l, h1, h2, h3⟩ := yO_sp hr
  rw [ht, h1, (h a _ h2).rP k (he l)]
  exact p _ _ rfl r h3
theorem S_FI (h : oRep C O w) (ht : t' = t) (he : ∀ l, (LY (c, l))[k]? = some (0, 0, 0)) {K : Int → Option α} {f : Int32 → Option β} (p : ∀ v x, x = Int32.ofInt v → zR E (K v) (f x)) : zR E (yFI C c k t O K) ((gFI c k t' w).bind f) := by
  intro r hr
  obtain ⟨a, l, h1, h2, h3⟩ := yO_sp hr
  rw [ht, h1, (h a _ h2).rI k (he l)]
  exact p _ _ rfl r h3
theorem S_Ln (h : oRep C O w) (ht : t' = oar off t) (he : ∀ l, (LY (c, l))[k]? = some (1, off, len)) {K : Int → Option α} {f : Int32 → Option β} (p : ∀ v x, x = Int32.ofInt v → zR E (K v) (f x)) : zR E (yLn C c len t K) ((gLen t' w).bind f) := by
  intro r hr
  obtain ⟨a, l, h1, h2, h3⟩ := yO_sp hr
  rw [ht, h1, show oar off (some a) = some (a + off) from rfl, (h a _ h2).ln k (he l)]
  exact p _ _ (iO_nat _).symm r h3
theorem S_LnE (h : oRep C O w) (ht : t' = oar off t) (he : ∀ l, (LY (c, l))[k]? = some (1, off, l * mul)) {K : Int → Option α} {f : Int32 → Option β} (p : ∀ v x, x = Int32.ofInt v → zR E (K v) (f x)) : zR E (yLnE C c mul t K) ((gLen t' w).bind f) := by
  intro r hr
  obtain ⟨a, l, h1, h2, h3⟩ := yE_sp hr
  rw [ht, h1, show oar off (some a) = some (a + off) from rfl, (h a _ h2).ln k (he l)]
  exact p _ _ (iO_nat _).symm r h3
theorem S_Ld (h : oRep C O w) (ht : t' = oar off t) (he : ∀ l, (LY (c, l))[k]? = some (1, off, len)) (hl : len < 2 ^ 31) {i : Int32} {j : Int} (hi : i = Int32.ofInt j) {K : Int → Option α} {f : Int32 → Option β} (p : ∀ v x, x = Int32.ofInt v → zR E (K v) (f x)) : zR E (yLd C c k len t j O K) ((gLI t' i w).bind f) := by
  intro r hr
  obtain ⟨a, l, h1, h2, h3⟩ := yO_sp hr
  by_cases q : 0 ≤ j ∧ j < len
  · rw [if_pos q] at h3
    obtain ⟨j, hj, rfl⟩ := zNat q
    rw [ht, h1, show oar off (some a) = some (a + off) from rfl, hi, iO_nat, (h a _ h2).ld k (he l) hj hl]
    exact p _ _ rfl r h3
  · rw [if_neg q] at h3; cases h3
theorem yl31 {l mul : Nat} (hl : l ≤ 98) (hm : mul ≤ 98) : l * mul < 2 ^ 31 := Nat.lt_of_le_of_lt (Nat.mul_le_mul hl hm) (by decide)
theorem S_LE (h : oRep C O w) (hC : oSep C) (ht : t' = oar off t) (he : ∀ l, (LY (c, l))[k]? = some (1, off, l * mul)) {i : Int32} {j : Int} (hi : i = Int32.ofInt j) {K : Int → Option α} {f : Int32 → Option β} (p : ∀ v x, x = Int32.ofInt v → zR E (K v) (f x)) (hm : mul ≤ 98 := by decide) : zR E (yLE C c k mul t j O K) ((gLI t' i w).bind f) := by
  intro r hr
  obtain ⟨a, l, h1, h2, h3⟩ := yE_sp hr
  by_cases q : 0 ≤ j ∧ j < ((l * mul : Nat) : Int)
  · rw [if_pos q] at h3
    obtain ⟨j, hj, rfl⟩ := zNat q
    rw [ht, h1, show oar off (some a) = some (a + off) from rfl, hi, iO_nat, (h a _ h2).ld k (he l) hj (yl31 (hC.1 a _ h2) hm)]
    exact p _ _ rfl r h3
  · rw [if_neg q] at h3; cases h3
theorem S_St (h : oRep C O w) (hw : oFr C w0 w) (hC : oSep C) (ht : t' = oar off t) (he : ∀ l, (LY (c, l))[k]? = some (1, off, len)) (hl : len < 2 ^ 31) {i x : Int32} {j v : Int} (hi : i = Int32.ofInt j) (hx : x = Int32.ofInt v) {K : zO → Option α} {f : gW → Option β} (p : ∀ O' w', oRep C O' w' → oFr C w0 w' → zR E (K O') (f w')) : zR E (ySt C c k len t j v O K) ((gSI t' i x w).bind f) := by
  intro r hr
  obtain ⟨a, l, h1, h2, h3⟩ := yO_sp hr
  by_cases q : 0 ≤ j ∧ j < len
  · rw [if_pos q] at h3
    obtain ⟨j, hj, rfl⟩ := zNat q
    obtain ⟨w2, e1, e2, e3⟩ := (h a _ h2).st (LY_ok _) k (he l) hj hl x
    rw [ht, h1, show oar off (some a) = some (a + off) from rfl, hi, iO_nat, e1]
    rw [hx, cvO_uA] at e2
    exact p _ w2 (h.wr hC h2 e2 e3) (hw.tr (wF.o h2 e3)) r h3
  · rw [if_neg q] at h3; cases h3
theorem S_SE (h : oRep C O w) (hw : oFr C w0 w) (hC : oSep C) (ht : t' = oar off t) (he : ∀ l, (LY (c, l))[k]? = some (1, off, l * mul)) {i x : Int32} {j v : Int} (hi : i = Int32.ofInt j) (hx : x = Int32.ofInt v) {K : zO → Option α} {f : gW → Option β} (p : ∀ O' w', oRep C O' w' → oFr C w0 w' → zR E (K O') (f w')) (hm : mul ≤ 98 := by decide) : zR E (ySE C c k mul t j v O K) ((gSI t' i x w).bind f) := by
  intro r hr
  obtain ⟨a, l, h1, h2, h3⟩ := yE_sp hr
  by_cases q : 0 ≤ j ∧ j < ((l * mul : Nat) : Int)
  · rw [if_pos q] at h3
    obtain ⟨j, hj, rfl⟩ := zNat q
    obtain ⟨w2, e1, e2, e3⟩ := (h a _ h2).st (LY_ok _) k (he l) hj (yl31 (hC.1 a _ h2) hm) x
    rw [ht, h1, show oar off (some a) = some (a + off) from rfl, hi, iO_nat, e1]
    rw [hx, cvO_uA] at e2
    exact p _ w2 (h.wr hC h2 e2 e3) (hw.tr (wF.o h2 e3)) r h3
  · rw [if_neg q] at h3; cases h3
theorem S_PI (h : oRep C O w) (hw : oFr C w0 w) (hC : oSep C) (ht : t' = t) (he : ∀ l, (LY (c, l))[k]? = some (0, 0, 0)) {x : Int32} {v : Int} (hx : x = Int32.ofInt v) {K : zO → Option α} {f : gW → Option β} (p : ∀ O' w', oRep C O' w' → oFr C w0 w' → zR E (K O') (f w')) : zR E (yPI C c k t v O K) ((gP c k t' (.inl x) w).bind f) := by
  intro r hr
  obtain ⟨a, l, h1, h2, h3⟩ := yO_sp hr
  obtain ⟨w2, e1, e2, e3⟩ := (h a _ h2).pI (LY_ok _) (SZ_pos _) k (he l) x
  rw [ht, h1]
  have e1' : gP c k (some a) (.inl x) w = some w2 := e1
  rw [e1']
  rw [hx, cvO_uI] at e2
  exact p _ w2 (h.wr hC h2 e2 e3) (hw.tr (wF.o h2 e3)) r h3
theorem S_C1 {x : Option (Int × zO)} {y : Option (Int32 × gW)} (h : zR (Y1 C w) x y) (hw : oFr C w0 w) {K : Int → zO → Option α} {f : Int32 × gW → Option β} (p : ∀ v O' u w', u = Int32.ofInt v → oRep C O' w' → oFr C w0 w' → zR E (K v O') (f (u, w'))) : zR E (yC1 x K) (y.bind f) := by
  rcases x with _ | ⟨v, O'⟩
  · exact R_none
  · obtain ⟨⟨u, w'⟩, e, e1, e2, e3⟩ := h _ rfl
    rw [e]
    exact p v O' u w' e1 e2 (hw.tr e3)
theorem S_C0 {x : Option zO} {y : Option gW} (h : zR (Y0 C w) x y) (hw : oFr C w0 w) {K : zO → Option α} {f : gW → Option β} (p : ∀ O' w', oRep C O' w' → oFr C w0 w' → zR E (K O') (f w')) : zR E (yC0 x K) (y.bind f) := by
  rcases x with _ | O'
  · exact R_none
  · obtain ⟨w', e, e2, e3⟩ := h _ rfl
    rw [e]
    exact p O' w' e2 (hw.tr e3)
/-- a row filled, exactly -/
theorem c_fillX {F ci a size k off len : Nat} {lay : oLy} {S : oSt} {w : gW} (hF : fF F) (hL : oLay lay size) (h : oAt ci lay w a S) (he : lay[k]? = some (1, off, len)) (hl : len < 100000) (x : Int32) : ∃ w1, mJ7_fill_53178 F (some (a + off)) x w = some w1 ∧ oAt ci lay w1 a (uA S k (fun i => if i < len then x else oA S k i)) ∧ wF a (a + size) w w1 := by
  have key : ∀ (q i : Nat) (w1 : gW), i ≤ len → len - i < q → oAt ci lay w1 a (uA S k (fun j => if j < i then x else oA S k j)) → wF a (a + size) w w1 → ∃ w2, mJ7_fill_53178_l5 F q (some (a + off)) x (nI i) (nI len) w1 = some w2 ∧ oAt ci lay w2 a (uA S k (fun i => if i < len then x else oA S k i)) ∧ wF a (a + size) w w2 := by
    intro q
    induction q with
    | zero => intro i w1 _ z; omega
    | succ q ih =>
      intro i w1 hi hq h1 hw
      show ∃ w2, mJ7_fill_53178_h5 F (mJ7_fill_53178_l5 F q) (some (a + off)) x (nI i) (nI len) w1 = _ ∧ _
      unfold mJ7_fill_53178_h5
      by_cases e : i = len
      · subst e
        rw [if_pos (nI_le (Nat.le_refl _) (by omega))]
        exact ⟨w1, rfl, h1, hw⟩
      · have hi : i < len := by omega
        obtain ⟨w2, s1, s2, s3⟩ := h1.st hL k he hi (by omega) x
        rw [if_neg (nI_ge hi (by omega)), s1, Option.bind_some, nI_1]
        rw [uA_uA, oA_uA] at s2
        refine ih (i + 1) w2 (by omega) (by omega) ?_ (hw.tr s3)
        have e2 : upd (fun j => if j < i then x else oA S k j) i x = fun j => if j < i + 1 then x else oA S k j := by
          funext j
          by_cases t : j = i
          · rw [t, pk_us, if_pos (by omega)]
          · rw [pk_un t]
            by_cases u : j < i
            · rw [if_pos u, if_pos (by omega)]
            · rw [if_neg u, if_neg (by omega)]
        rw [e2] at s2; exact s2
  unfold mJ7_fill_53178
  rw [h.ln k he, Option.bind_some]
  have e0 : uA S k (fun j => if j < 0 then x else oA S k j) = S := by
    show (oI S, oJ S, va_up (oA S) k _, _) = _
    have : va_up (oA S) k (fun j => if j < 0 then x else oA S k j) = oA S := by
      funext j
      by_cases t : j = k
      · subst t
        rw [va_upS]
        funext i
        rw [if_neg (by omega)]
      · rw [va_upN t]
    rw [this]; rfl
  exact key F 0 w (by omega) (by unfold fF at hF; omega) (by rw [e0]; exact h) wF.rf
theorem S_Fill {F : Nat} (h : oRep C O w) (hw : oFr C w0 w) (hC : oSep C) (ht : t' = oar off t) (he : ∀ l, (LY (c, l))[k]? = some (1, off, len)) (hl : len < 100000) {x : Int32} {v : Int} (hx : x = Int32.ofInt v) {K : zO → Option α} {f : gW → Option β} (p : ∀ O' w', oRep C O' w' → oFr C w0 w' → zR E (K O') (f w')) (hF : fF F) : zR E (yFill C c k len t v O K) ((mJ7_fill_53178 F t' x w).bind f) := by
  intro r hr
  obtain ⟨a, l, h1, h2, h3⟩ := yO_sp hr
  obtain ⟨w2, e1, e2, e3⟩ := c_fillX hF (LY_ok _) (h a _ h2) (he l) hl x
  rw [ht, h1, show oar off (some a) = some (a + off) from rfl, e1]
  have e4 : uA (cvO C O a) k (fun i => if i < len then x else oA (cvO C O a) k i) = cvO C (oup O a (zfl (O a) k len v)) a := by
    have e : va_up (oA (cvO C O a)) k (fun i => if i < len then x else oA (cvO C O a) k i) = oA (cvO C (oup O a (zfl (O a) k len v)) a) := by
      funext l i
      show _ = Int32.ofInt (zA (oup O a (zfl (O a) k len v) a) l i)
      rw [oup_s]
      show _ = Int32.ofInt ((if l = k then (fun i => if 0 ≤ i ∧ i < (len : Int) then v else zA (O a) k i) else zA (O a) l) i)
      by_cases q : l = k
      · rw [q, va_upS, if_pos rfl]
        by_cases t : i < len
        · rw [if_pos t, hx, if_pos (by omega)]
        · rw [if_neg t, if_neg (by omega)]; rfl
      · rw [va_upN q, if_neg q]; rfl
    show (oI (cvO C O a), oJ (cvO C O a), va_up (oA (cvO C O a)) k _, oB (cvO C O a), oP (cvO C O a), oQ (cvO C O a)) = _
    rw [e]
    unfold cvO
    rw [oup_s]; rfl
  rw [e4] at e2
  exact p _ w2 (h.wr hC h2 e2 e3) (hw.tr (wF.o h2 e3)) r h3
end SR
