/-! THE WORLD: a heap of my own words (a map from addresses to entries), what it says of the machine's heap, and a walk over it (Wx) -/
abbrev gV : Type := Int32 ⊕ Int64 ⊕ Option Nat
def gTo (v : gV) : Value := match v with
  | .inl x => .int x
  | .inr (.inl y) => .long y
  | .inr (.inr r) => va_rf r
def gC2 (v : gV) : Bool := match v with
  | .inr (.inl _) => true
  | _ => false
def gTl (lv : List (Nat × gV)) : List (Nat × Value) := lv.map fun q => (q.1, gTo q.2)
def gTs (st : List gV) : List Value := st.map gTo
def gGet : List (Nat × gV) → Nat → Option gV
  | [], _ => none
  | (j, v) :: t, i => bif j == i then some v else gGet t i
def gPut1 (lv : List (Nat × gV)) (i : Nat) (v : gV) : List (Nat × gV) := (i, v) :: lv.filter (fun q => !(q.1 == i) && !(q.1 + 1 == i && gC2 q.2))
def gPut2 (lv : List (Nat × gV)) (i : Nat) (v : gV) : List (Nat × gV) := (i, v) :: lv.filter (fun q => !(q.1 == i) && (!(q.1 == i + 1) && !(q.1 + 1 == i && gC2 q.2)))
theorem gTo_cat (v : gV) : ((gTo v).category == 2) = gC2 v := by
  rcases v with x | y | r
  · rfl
  · rfl
  · cases r <;> rfl
theorem gGet_at : ∀ {lv : List (Nat × gV)} {i : Nat} {v : gV}, gGet lv i = some v → (i, gTo v) ∈ gTl lv
  | [], i, v, h => by cases h
  | (j, u) :: t, i, v, h => by
    unfold gGet at h
    by_cases hj : j = i
    · subst hj
      simp at h
      subst h
      exact List.mem_cons_self
    · rw [show (j == i) = false by simpa using hj] at h
      exact List.mem_cons_of_mem _ (gGet_at (by simpa using h))
theorem gTl_put1 (lv : List (Nat × gV)) (i : Nat) (v : gV) : (i, gTo v) :: (gTl lv).filter (fun q => !(q.1 == i) && !(q.1 + 1 == i && q.2.category == 2)) = gTl (gPut1 lv i v) := by
  unfold gTl gPut1
  rw [List.map_cons, List.filter_map]
  congr 2
  apply List.filter_congr
  intro q _
  simp [Function.comp, gTo_cat]
theorem gTl_put2 (lv : List (Nat × gV)) (i : Nat) (v : gV) : (i, gTo v) :: (gTl lv).filter (fun q => !(q.1 == i) && (!(q.1 == i + 1) && !(q.1 + 1 == i && q.2.category == 2))) = gTl (gPut2 lv i v) := by
  unfold gTl gPut2
  rw [List.map_cons, List.filter_map]
  congr 2
  apply List.filter_congr
  intro q _
  simp [Function.comp, gTo_cat]
/-- entries: an int row, a long row, a row of references of a class, an object of a class -/
abbrev gE : Type := (Nat × (Nat → Int32)) ⊕ (Nat × (Nat → Int64)) ⊕ (Nat × Nat × (Nat → Option Nat)) ⊕ (Nat × List Value)
abbrev gW : Type := (Nat → Option gE) × Nat
/-- what the tables give: classes, array classes, the first address of ours, the address of UNITS -/
abbrev gG : Type := va_G × (FieldType → ClassId) × Nat × Nat
def gName (ci : Nat) : String := (vwCl.getD ci (RX0, TX0, 7)).1
def gConv (A : FieldType → ClassId) (e : gE) : va_E := match e with
  | .inl (n, f) => .inl (A .int, n, .inl f)
  | .inr (.inl (n, f)) => .inl (A .long, n, .inr (.inl f))
  | .inr (.inr (.inl (ci, n, f))) => .inl (A (.object (gName ci)), n, .inr (.inr (.inr (.inr f))))
  | .inr (.inr (.inr (ci, fs))) => .inr (ci, fs)
def gRep (G : gG) (w : gW) (H : Heap) : Prop := H.size = w.2 ∧ ∀ (a : Nat) (e : gE), w.1 a = some e → G.2.2.1 ≤ a ∧ va_at G.1 vwCl (a, gConv G.2.1 e) H
def gA (G : gG) : Nat → Prop := fun q => G.2.2.1 ≤ q
def gTys (A : FieldType → ClassId) : List (ClassId × FieldType) := [(A .int, .int), (A .long, .long), (A (.object (gName 2)), .object (gName 2)), (A (.object (gName 0)), .object (gName 0)), (A (.object (gName 4)), .object (gName 4))]
def gUnit (i : Nat) : Int32 := [0, 1, 2, 3, 1, 4, 3, 6, 2, 7, 4, 1, 3, 2, 5, 4].getD i 0
/-- the words that a warmer state keeps -/
def gTb : List Cond := lw_tbl.filter goodWord
theorem gT {w : Cond} (h : w ∈ lw_tbl) (g : goodWord w = true) : w ∈ gTb := List.mem_filter.mpr ⟨h, g⟩
/-- the other words, which it keeps too -/
def gN (U : State) : Prop := (∀ (a : String) (i : Nat) (x : MethodName) (h : String), Cond.methodLinkNest a i x h ∈ lw_tbl → va_Nw (.methodLinkNest a i x h) U) ∧ (∀ (a : String) (i : Nat) (b n d h : String), Cond.fieldLinkNest a i b n d h ∈ lw_tbl → va_Nw (.fieldLinkNest a i b n d h) U) ∧ ∀ C : String, Cond.arrayOver (.object C) ∈ lw_tbl → va_AO C U
theorem gN.moved {s U : State} (hW : s.WarmedH U.vm) (h : gN s) : gN U := ⟨fun a i x h' k => va_Nw.warmM hW (h.1 a i x h' k), fun a i b n d h' k => va_Nw.warmF hW (h.2.1 a i b n d h' k), fun C k => va_AO.moved hW.alike (h.2.2 C k)⟩
theorem gN.same {s U : State} (hv : s.vm = U.vm) (h : gN s) : gN U := ⟨fun a i x h' k => va_Nw.same rfl hv (h.1 a i x h' k), fun a i b n d h' k => va_Nw.same rfl hv (h.2.1 a i b n d h' k), fun C k => va_AO.moved (by rw [hv]; exact Vm.Alike.refl _) (h.2.2 C k)⟩
def gK (G : gG) (U : State) : Prop := gN U ∧ va_K G.1 vwCl (gTys G.2.1) U ∧ va_Z "GroupTowers" "UNITS" "[I" (.ref G.2.2.2) (gA G) U U.heap ∧ va_T .int G.2.2.2 16 (fun i => .int (gUnit i)) (gA G) U U.heap ∧ G.2.2.1 ≤ U.heap.size
abbrev gM0 : Type := Program × Launch × Env × Room × State × MethodId × Array Value × List Frame × Method × Code
abbrev gX : Type := gM0 × gG × Nat × (State → Prop)
def Wx (X : gX) (w : gW) (cl sl pc : Nat) (lv : List (Nat × gV)) (st : List gV) : Prop := match X with
  | ((p, l, e, R, s, m, args, below, meth, c), G, nL, Q) => ∀ (H : Heap) (locs : List Loc) (ls : Array Slot), gRep G w H → va_S (gA G) s.heap H locs → lv_has ls nL (gTl lv) → W p l e R s m args below meth c H locs cl sl Q (F0 m pc ls (gTs st))
def gOk (X : gX) (cc : ByteArray) (own : String) (nL : Nat) (rt : Option FieldType) (rm : Room) : Prop := match X with
  | ((p, l, e, R, s, m, args, below, meth, c), G, n, Q) => p.tables.exec = Jvm.exec ∧ c.code = cc ∧ c.maxLocals = nL ∧ n = nL ∧ s.vm.findClass own = some m.cls ∧ (∀ w ∈ gTb, w.before args s = true) ∧ gK G s ∧ meth.locks = false ∧ R = rm ∧ meth.sig.returnType = rt
/-- how a method of ours ends: with this answer, in this world -/
def gQc (G : gG) (rv : Option Value) (w : gW) : Array Value → State → Outcome → State → Prop := fun _ st o t => o = .returned rv ∧ gRep G w t.heap ∧ va_F (gA G) st t
def gRs (X : gX) (rv : Option Value) (w : gW) : Prop := match X with
  | ((p, l, e, R, s, m, args, below, meth, c), G, n, Q) => Q = MQ below (gQc G rv w) args s R.cells R.slots (gA G)
theorem gRep.lt {G : gG} {w : gW} {H : Heap} (h : gRep G w H) {a : Nat} {e : gE} (ha : w.1 a = some e) : a < w.2 := by
  rw [← h.1]; exact (h.2 a e ha).2.lt
def gUp (w : gW) (a : Nat) (e : gE) : gW := (fun b => if b = a then some e else w.1 b, w.2)
def gAdd (w : gW) (e : gE) : gW := (fun b => if b = w.2 then some e else w.1 b, w.2 + 1)
theorem gRep.up {G : gG} {w : gW} {H H1 : Heap} {a : Nat} {e0 e : gE} (h : gRep G w H) (ha : w.1 a = some e0) (z : H1.size = H.size) (he : va_at G.1 vwCl (a, gConv G.2.1 e) H1) (oq : ∀ q : Nat, q ≠ a → H1[q]? = H[q]?) : gRep G (gUp w a e) H1 := by
  refine ⟨z.trans h.1, fun b e' hb => ?_⟩
  by_cases hba : b = a
  · subst hba
    simp [gUp] at hb
    subst hb
    exact ⟨(h.2 _ _ ha).1, he⟩
  · simp [gUp, hba] at hb
    exact ⟨(h.2 _ _ hb).1, (h.2 _ _ hb).2.kept (oq b hba)⟩
theorem gRep.add {G : gG} {w : gW} {H H1 : Heap} {e : gE} (h : gRep G w H) (hB : G.2.2.1 ≤ H.size) (z : H1.size = H.size + 1) (he : va_at G.1 vwCl (H.size, gConv G.2.1 e) H1) (oq : ∀ q : Nat, q < H.size → H1[q]? = H[q]?) : gRep G (gAdd w e) H1 := by
  refine ⟨by rw [z, h.1]; rfl, fun b e' hb => ?_⟩
  by_cases hba : b = w.2
  · subst hba
    simp [gAdd] at hb
    subst hb
    rw [h.1] at he hB
    exact ⟨hB, he⟩
  · simp [gAdd, hba] at hb
    exact ⟨(h.2 _ _ hb).1, (h.2 _ _ hb).2.kept (oq b (h.2 _ _ hb).2.lt)⟩
theorem gob {α β : Type} {x : Option α} {f : α → Option β} {r : β} (h : x.bind f = some r) : ∃ a, x = some a ∧ f a = some r := Option.bind_eq_some_iff.mp h
/-! THE READING AND WRITING WORDS -/
def gO (ci : Nat) (r : Option Nat) (w : gW) : Option Nat := match r with
  | none => none
  | some a => match w.1 a with
    | some (.inr (.inr (.inr (c, _)))) => bif c == ci then some a else none
    | _ => none
def gF (ci k : Nat) (r : Option Nat) (w : gW) : Option Value := match r with
  | none => none
  | some a => match w.1 a with
    | some (.inr (.inr (.inr (c, fs)))) => bif c == ci then fs[k]? else none
    | _ => none
def gFI (ci k : Nat) (r : Option Nat) (w : gW) : Option Int32 := match gF ci k r w with
  | some (.int x) => some x
  | _ => none
def gFL (ci k : Nat) (r : Option Nat) (w : gW) : Option Int64 := match gF ci k r w with
  | some (.long x) => some x
  | _ => none
def gFR (ci k : Nat) (r : Option Nat) (w : gW) : Option (Option Nat) := match gF ci k r w with
  | some .null => some none
  | some (.ref a) => some (some a)
  | _ => none
def gP (ci k : Nat) (r : Option Nat) (v : gV) (w : gW) : Option gW := match r with
  | none => none
  | some a => match w.1 a with
    | some (.inr (.inr (.inr (c, fs)))) => bif c == ci && Nat.blt k fs.length then some (gUp w a (.inr (.inr (.inr (ci, fs.set k (gTo v)))))) else none
    | _ => none
def gLI (r : Option Nat) (i : Int32) (w : gW) : Option Int32 := match r with
  | none => none
  | some a => match w.1 a with
    | some (.inl (n, f)) => if i < 0 ∨ n ≤ i.toNatClampNeg then none else some (f i.toNatClampNeg)
    | _ => none
def gLL (r : Option Nat) (i : Int32) (w : gW) : Option Int64 := match r with
  | none => none
  | some a => match w.1 a with
    | some (.inr (.inl (n, f))) => if i < 0 ∨ n ≤ i.toNatClampNeg then none else some (f i.toNatClampNeg)
    | _ => none
def gLR (ci : Nat) (r : Option Nat) (i : Int32) (w : gW) : Option (Option Nat) := match r with
  | none => none
  | some a => match w.1 a with
    | some (.inr (.inr (.inl (c, n, f)))) => bif c == ci then (if i < 0 ∨ n ≤ i.toNatClampNeg then none else some (f i.toNatClampNeg)) else none
    | _ => none
def gSI (r : Option Nat) (i x : Int32) (w : gW) : Option gW := match r with
  | none => none
  | some a => match w.1 a with
    | some (.inl (n, f)) => if i < 0 ∨ n ≤ i.toNatClampNeg then none else some (gUp w a (.inl (n, upd f i.toNatClampNeg x)))
    | _ => none
def gSL (r : Option Nat) (i : Int32) (x : Int64) (w : gW) : Option gW := match r with
  | none => none
  | some a => match w.1 a with
    | some (.inr (.inl (n, f))) => if i < 0 ∨ n ≤ i.toNatClampNeg then none else some (gUp w a (.inr (.inl (n, vp_updL f i.toNatClampNeg x))))
    | _ => none
/-- an object of the row's class is laid into it -/
def gSR (ci : Nat) (r : Option Nat) (i : Int32) (v : Option Nat) (w : gW) : Option gW := match r, gO ci v w with
  | some a, some b => match w.1 a with
    | some (.inr (.inr (.inl (c, n, f)))) => bif c == ci then (if i < 0 ∨ n ≤ i.toNatClampNeg then none else some (gUp w a (.inr (.inr (.inl (ci, n, va_up f i.toNatClampNeg (some b))))))) else none
    | _ => none
  | _, _ => none
def gLen (r : Option Nat) (w : gW) : Option Int32 := match r with
  | none => none
  | some a => match w.1 a with
    | some (.inl (n, f)) => some (Int32.ofNat n)
    | _ => none
def gNI (lim : Nat) (n : Int32) (w : gW) : Option gW := if n < 0 ∨ lim < n.toNatClampNeg then none else some (gAdd w (.inl (n.toNatClampNeg, fun _ => 0)))
def gNL (lim : Nat) (n : Int32) (w : gW) : Option gW := if n < 0 ∨ lim < n.toNatClampNeg then none else some (gAdd w (.inr (.inl (n.toNatClampNeg, fun _ => 0))))
def gNR (ci lim : Nat) (n : Int32) (w : gW) : Option gW := if n < 0 ∨ lim < n.toNatClampNeg then none else some (gAdd w (.inr (.inr (.inl (ci, n.toNatClampNeg, fun _ => none)))))
def gNO (ci : Nat) (fs : List Value) (w : gW) : gW := gAdd w (.inr (.inr (.inr (ci, fs))))
def gDiv (x y : Int32) : Option Int32 := if y = 0 then none else some (x / y)
def gRem (x y : Int32) : Option Int32 := if y = 0 then none else some (x - x / y * y)
def gUn (i : Int32) : Option Int32 := if i < 0 ∨ 16 ≤ i.toNatClampNeg then none else some (gUnit i.toNatClampNeg)
def gBo (x : Int32) : Option Int32 := if x = 0 ∨ x = 1 then some x else none
/-- the script, which isn't of my world -/
def gSc (L : Nat) (xs : Nat → Int32) (i : Int32) : Option Int32 := if i < 0 ∨ L ≤ i.toNatClampNeg then none else some (xs i.toNatClampNeg)
