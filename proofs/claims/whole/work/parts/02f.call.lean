/-! ROWS: new cells, returns, calls, a whole method -/
def gNw (own : String) (idx ci N : Nat) (fs : List Value) : Prop := ∃ (C : String) (T : u_T) (ty : Nat → FieldType), gCl ci C T N ty ∧ Cond.classLink own idx C ∈ lw_tbl ∧ Cond.instantiable C N ∈ lw_tbl ∧ Cond.initialized C ∈ lw_tbl ∧ ∀ j, j < N → defaultValue (ty j) = vp_V fs j
def gNwA (own : String) (idx ci : Nat) : Prop := Cond.classLink own idx (gName ci) ∈ lw_tbl ∧ Cond.arrayOver (.object (gName ci)) ∈ lw_tbl
theorem gK.moved {G : gG} {s U : State} {H : Heap} {locs : List Loc} (h : gK G s) (hW : s.WarmedH U.vm) (hS : va_S (gA G) s.heap H locs) (hU : U.heap = H) : gK G U := by
  have hal := hW.alike
  obtain ⟨h0, h1, h2, h3, h4⟩ := h
  refine ⟨h0.moved hW, va_K.moved hal h1, ?_, ?_, ?_⟩
  · rw [hU]; exact (h2.moved hal).kept hS.2.1
  · rw [hU]; exact (h3.moved hal).kept hS.2.1
  · rw [hU]; exact Nat.le_trans h4 hS.1
abbrev gPc (G : gG) (w : gW) (as : List Value) : Array Value → State → Prop := va_Pc as (fun U => gRep G w U.heap ∧ gK G U)
theorem gBlind (G : gG) (w : gW) (as : List Value) : FrameBlind (gPc G w as) := fun a U g mk q => by
  obtain ⟨q1, q2, q0, q3, q4, q5, q6⟩ := q
  exact ⟨q1, q2, gN.same (s := U) (U := U.calling g mk a) rfl q0, va_K.moved (u := U) (U := U.calling g mk a) (Vm.Alike.refl U.vm) q3, va_Z.moved (u := U) (U := U.calling g mk a) (Vm.Alike.refl U.vm) q4, va_T.moved (u := U) (U := U.calling g mk a) (Vm.Alike.refl U.vm) q5, q6⟩
/-- what a method of ours does at these arguments in this world: it returns with this answer in that world -/
def gM (l : Launch) (y : MethodName) (b : ByteArray) (nL : Nat) (rt : Option FieldType) (rm : Room) (G : gG) (w : gW) (as : List Value) (rv : Option Value) (w1 : gW) : Prop := Met l y (Cond.code y b nL rt :: gTb) rm (gPc G w as) (gQc G rv w1) rm.cells rm.slots (gA G)
def gArgs : Nat → List gV → List (Nat × gV)
  | _, [] => []
  | i, v :: vs => (i, v) :: gArgs (bif gC2 v then i + 2 else i + 1) vs
theorem gArgs_eq : ∀ (vs : List gV) (i : Nat), gTl (gArgs i vs) = lv_args i (gTs vs)
  | [], i => rfl
  | v :: vs, i => by
    show (i, gTo v) :: gTl (gArgs _ vs) = (i, gTo v) :: lv_args _ (gTs vs)
    rw [gArgs_eq vs, ← gTo_cat]
    congr 2
    by_cases h : (gTo v).category = 2
    · rw [if_pos h, h]; rfl
    · rw [if_neg h]
      have : ((gTo v).category == 2) = false := by simpa using h
      rw [this]; rfl
theorem gGood : ∀ w ∈ gTb, (w.onTables && w.keeps) = true ∨ ∃ ty, w = .arrayClass ty := fun w hw => good_of_word (List.mem_filter.mp hw).2
def gCats : List gV → Nat
  | [] => 0
  | v :: vs => (bif gC2 v then 2 else 1) + gCats vs
theorem gSl_len : ∀ vs : List gV, (lg_sl (gTs vs)).length = gCats vs
  | [] => rfl
  | v :: vs => by
    show ((if (gTo v).category = 2 then [Slot.val (gTo v), .second] else [.val (gTo v)]) ++ lg_sl (gTs vs)).length = _ + gCats vs
    rw [List.length_append, gSl_len vs, ← gTo_cat]
    congr 1
    rcases lv_cat (gTo v) with h | h <;> rw [h] <;> rfl
theorem gMetF {l : Launch} {y : MethodName} {ws ws' : List Cond} {rm : Room} {Pc : Array Value → State → Prop} {Qc : Array Value → State → Outcome → State → Prop} {mc ms : Nat} {free : Addr → Prop} {cc : ByteArray} {maxL : Nat} {ret : Option FieldType}
    (hy : plainFor y = true) (hw : ws = Cond.code y cc maxL ret :: ws')
    (body : ∀ p e s m args below meth c s₁, BodyLoose p l y (headSpec ws rm) cc maxL ret e s m args below meth c s₁ → c.maxLocals = maxL → Pc args s →
      W p l e (headSpec ws rm).room s m args below meth c s.heap [] 0 0 (MQ below Qc args s mc ms free) (entryFrame m args maxL)) : Met l y ws rm Pc Qc mc ms free := by
  refine MetFree.of_bodySF (code := cc) (maxLocals := maxL) (ret := ret) hy ?_ ?_
  · intro args s m h hn
    obtain ⟨meth, c, h1, h2, h3, h4, h5, h6, -, -⟩ := Cond.code_spec hn (atoms_spec (ws := ws) h _ (by rw [hw]; exact List.mem_cons_self))
    exact ⟨meth, c, h1, h2, h3, h4, h5, h6⟩
  · intro p e s m args below meth c s₁ B hml hP _
    have hh0 : s₁.heap = s.heap := by rw [B.state]; rfl
    obtain ⟨t, a1, o, b1, b2, b3⟩ := body p e s m args below meth c s₁ B hml hP s₁ hh0 (Stand.of_body B)
    exact ⟨t, o, a1, b1, b2, ⟨b3.1, b3.2⟩⟩
theorem gM_of {l : Launch} {y : MethodName} {b : ByteArray} {nL : Nat} {rt : Option FieldType} {rm : Room} {G : gG} {w w1 : gW} {avs : List gV} {rv : Option Value} (hy : plainFor y = true) (hn : gCats avs ≤ nL)
    (body : ∀ X : gX, gOk X b y.cls nL rt rm → X.1.2.1 = l → X.2.1 = G → gRs X rv w1 → X.1.2.2.2.2.2.2.2.2.1.name = y.name → Wx X w 0 0 0 (gArgs 0 avs) []) : gM l y b nL rt rm G w (gTs avs) rv w1 := by
  refine gMetF (cc := b) (maxL := nL) (ret := rt) hy rfl ?_
  intro p e s m args below meth c s₁ B hml hv
  obtain ⟨rfl, hRp, hK⟩ := hv
  have hts := atoms_spec (ws := Cond.code y b nL rt :: gTb) B.pre
  have hown : s.vm.findClass y.cls = some m.cls := findClass_of_methodNamed B.named
  have hnm : meth.name = y.name := (name_of_methodNamed B.named B.method).1
  have hl := lv_entry (gTs avs) (by rw [gSl_len]; exact hn)
  rw [lg_entry_eq]
  rw [← gArgs_eq] at hl
  exact body ((p, l, e, rm, s, m, (gTs avs).toArray, below, meth, c), G, nL, MQ below (gQc G rv w1) (gTs avs).toArray s rm.cells rm.slots (gA G)) ⟨B.exec, B.bytes, hml, rfl, hown, fun w hw => hts w (List.mem_cons_of_mem _ hw), hK, B.notSynchronized, rfl, B.returns⟩ rfl rfl rfl hnm s.heap [] _ hRp va_S.rf hl
theorem gCats_eq : ∀ st : List gV, ((gTs st).map fun v => v.category).sum = gCats st
  | [] => rfl
  | v :: vs => by
    show (gTo v).category + ((gTs vs).map fun v => v.category).sum = _ + gCats vs
    rw [gCats_eq vs, ← gTo_cat]
    congr 1
    rcases lv_cat (gTo v) with h | h <;> rw [h] <;> rfl
/-- a method that is called by a link -/
def gLkV (own : String) (idx ci : Nat) (y : MethodName) (n : Nat) : Prop := Cond.methodLink own idx y ∈ lw_tbl ∧ Cond.instanceMethod y ∈ lw_tbl ∧ Cond.selects y.cls y y ∈ lw_tbl ∧ Cond.initialized y.cls ∈ lw_tbl ∧ (∃ T N, vwCl[ci]? = some (y.cls, T, N)) ∧ (y.cls ≠ "java/lang/invoke/MethodHandle" ∧ y.cls ≠ "java/lang/invoke/VarHandle") ∧ (parseMethodDescriptor y.desc).map (fun d => d.parameters.length) = some n
def gLkS (own : String) (idx : Nat) (y : MethodName) (n : Nat) : Prop := Cond.methodLink own idx y ∈ lw_tbl ∧ Cond.static y ∈ lw_tbl ∧ Cond.initialized y.cls ∈ lw_tbl ∧ (y.cls ≠ "java/lang/invoke/MethodHandle" ∧ y.cls ≠ "java/lang/invoke/VarHandle") ∧ (parseMethodDescriptor y.desc).map (fun d => d.parameters.length) = some n
def gLkN (own : String) (idx : Nat) (y : MethodName) (host : String) (n : Nat) : Prop := Cond.methodLinkNest own idx y host ∈ lw_tbl ∧ Cond.initialized y.cls ∈ lw_tbl ∧ (y.cls ≠ "java/lang/invoke/MethodHandle" ∧ y.cls ≠ "java/lang/invoke/VarHandle") ∧ (parseMethodDescriptor y.desc).map (fun d => d.parameters.length) = some n
def gLkI (own : String) (idx : Nat) (y : MethodName) (n : Nat) : Prop := Cond.methodLink own idx y ∈ lw_tbl ∧ Cond.instanceMethod y ∈ lw_tbl ∧ Cond.initialized y.cls ∈ lw_tbl ∧ y.name = "<init>" ∧ (y.cls ≠ "java/lang/invoke/MethodHandle" ∧ y.cls ≠ "java/lang/invoke/VarHandle") ∧ (parseMethodDescriptor y.desc).map (fun d => d.parameters.length) = some n
section WC
variable {p : Program} {l : Launch} {e : Env} {R : Room} {s : State} {m : MethodId} {args : Array Value} {below : List Frame} {meth : Method} {c : Code} {H : Heap} {locs : List Loc} {cells slots : Nat} {Q : State → Prop}
theorem gPay {y : MethodName} {b : ByteArray} {nL : Nat} {rt : Option FieldType} (hts : ∀ w ∈ gTb, w.before args s = true) (hc : Cond.code y b nL rt ∈ lw_tbl) : ∀ w ∈ Cond.code y b nL rt :: gTb, ∀ (a' : Array Value) (U : State), s.WarmedH U.vm → w.before a' U = true :=
  pay_in hts (fun w hw => by
    rcases List.mem_cons.mp hw with rfl | h
    · exact ⟨gT hc rfl, gGood _ (gT hc rfl)⟩
    · exact ⟨h, gGood _ h⟩)
/-- behind a call -/
theorem gAfter {G : gG} {nL mc ms pc : Nat} {ls : Array Slot} {st0 rest : List Value} {rv : Option Value} {w1 : gW} {a : Array Value} {lv : List (Nat × gV)} (hS : va_S (gA G) s.heap H locs) (hl : lv_has ls nL (gTl lv))
    (hr : va_Run p l e R s m args below meth c H locs cells slots mc ms (F0 m pc ls st0) rest (gQc G rv w1 a) (gA G))
    (kk : ∀ (H : Heap) (locs : List Loc) (ls : Array Slot), gRep G w1 H → va_S (gA G) s.heap H locs → lv_has ls nL (gTl lv) → W p l e R s m args below meth c H locs (cells + mc) (slots + ms) Q (F0 m (pc + 3) ls (rv.toList ++ rest))) : W p l e R s m args below meth c H locs cells slots Q (F0 m pc ls st0) := by
  intro T hT X
  obtain ⟨v, st₀, t, T', L, h0, X', hL, e1, e2, ⟨hv, hrp, hz, hk⟩, st⟩ := hr T hT X
  cases hv
  rw [h0] at hz hk
  obtain ⟨t2, a1, b1⟩ := kk T'.heap (locs ++ L) ls (by rw [e1]; exact hrp)
    ⟨Nat.le_trans hS.1 (by rw [e1]; exact hz), fun q h1 h2 => by rw [e1, hk q (Nat.lt_of_lt_of_le h1 hS.1) h2]; exact hS.2.1 q h1 h2, fun q hq => by
      rcases List.mem_append.mp hq with h | h
      · exact hS.2.2 q h
      · exact hL q h⟩ hl T' rfl X'
  exact ⟨t2, st t2 a1, b1⟩
end WC
section WD
variable {X : gX} {cc : ByteArray} {own : String} {nL : Nat} {rt : Option FieldType} {rm : Room} {w : gW} {cl sl pc : Nat} {lv : List (Nat × gV)} {st : List gV} {tab : gTab}
abbrev gRoom (rm rm' : Room) (nL' cl sl : Nat) : Prop := rm'.frames + 1 ≤ rm.frames ∧ 8 + (nL' + 11) + rm'.locals ≤ rm.locals ∧ cl + rm'.cells ≤ rm.cells ∧ sl + rm'.slots ≤ rm.slots
theorem gTs_rv (rv : Option gV) (st : List gV) : (rv.map gTo).toList ++ gTs st = gTs (rv.toList ++ st) := by cases rv <;> rfl
theorem gTs_stk (avs : List gV) (v : gV) (st : List gV) : gTs (avs.reverse ++ v :: st) = (gTs avs).reverse ++ gTo v :: gTs st := by simp [gTs]
theorem gTs_stk0 (avs : List gV) (st : List gV) : gTs (avs.reverse ++ st) = (gTs avs).reverse ++ gTs st := by simp [gTs]
theorem gTs_len (avs : List gV) : (gTs avs).length = avs.length := by simp [gTs]
set_option maxHeartbeats 1000000 in
theorem Wx.callV (ok : gOk X cc own nL rt rm) (hd : gDec tab cc) (i : Nat) {idx ci n : Nat} {y : MethodName} {b : ByteArray} {nL' : Nat} {rt' : Option FieldType} {rm' : Room} (hi : tab[i]? = some (pc, .invokevirtual idx, 3)) (lk : gLkV own idx ci y n) (hcd : Cond.code y b nL' rt' ∈ lw_tbl) {r : Option Nat} {a : Nat} (ha : gO ci r w = some a) (avs : List gV) (rv : Option gV) {w1 : gW}
    (hM : gM X.1.2.1 y b nL' rt' rm' X.2.1 w (gTs (.inr (.inr (some a)) :: avs)) (rv.map gTo) w1) (hr : gRoom rm rm' nL' cl sl) (hn : avs.length = n) (hc8 : gCats st ≤ 8) {st0 st2 : List gV} (hs0 : avs.reverse ++ .inr (.inr r) :: st = st0) (hs2 : rv.toList ++ st = st2) (kk : Wx X w1 (cl + rm'.cells) (sl + rm'.slots) (pc + 3) lv st2) : Wx X w cl sl pc lv st0 := by
  obtain ⟨⟨p, l, e, R, s, m, args, below, meth, c⟩, G, n', Q⟩ := X
  obtain ⟨hx, hb, hml, hn', hown, hts, hK, hlk, hR, hrt⟩ := ok
  obtain ⟨k1, k2, k3, k4, ⟨T, N, k5⟩, k6, k7⟩ := lk
  obtain ⟨rfl, fs, hw⟩ := gO_some ha
  obtain ⟨r1, r2, r3, r4⟩ := hr
  subst hs0; subst hs2; subst hR; subst hn'
  intro H locs ls hRp hS hl
  rw [gTs_stk]
  have hcw : CallW R s args own y.cls idx y b nL' rt' (Cond.code y b nL' rt' :: gTb) rm' rm'.cells rm'.slots n := ⟨⟨rfl, rfl, r1, r2, gPay hts hcd, List.mem_cons_self, hts _ (gT hcd rfl), hts _ (gT k4 rfl), k6, fun sig h => by rw [h] at k7; exact (Option.some.inj k7).symm, hts _ (gT k1 rfl)⟩, hts _ (gT k2 rfl), hts _ (gT k3 rfl)⟩
  refine gAfter (w1 := w1) (rv := rv.map gTo) (rest := gTs st) (mc := rm'.cells) (ms := rm'.slots) (a := (Value.ref a :: gTs avs).toArray) hS hl (va_runV (As := gTs avs) (rest := gTs st) (b := a) (n := n) ⟨hx, hb, hml, hown, hts⟩ hM hcw ⟨gBlind _ _ _, va_recv hK.va (gOne hRp hw) (ci := ci) (q0 := 0) k5 rfl, fun U hU hW => ⟨rfl, by rw [hU]; exact hRp, hK.moved hW hS hU⟩⟩ rfl ((gTs_len avs).trans hn) hl.1 rfl (lv_room (by rw [gCats_eq]; exact hc8)) (hd.at hi) ⟨r3, r4⟩) ?_
  rw [gTs_rv]
  exact kk
set_option maxHeartbeats 1000000 in
theorem Wx.callS (ok : gOk X cc own nL rt rm) (hd : gDec tab cc) (i : Nat) {idx n : Nat} {y : MethodName} {b : ByteArray} {nL' : Nat} {rt' : Option FieldType} {rm' : Room} (hi : tab[i]? = some (pc, .invokestatic idx, 3)) (lk : gLkS own idx y n) (hcd : Cond.code y b nL' rt' ∈ lw_tbl) (avs : List gV) (rv : Option gV) {w1 : gW}
    (hM : gM X.1.2.1 y b nL' rt' rm' X.2.1 w (gTs avs) (rv.map gTo) w1) (hr : gRoom rm rm' nL' cl sl) (hn : avs.length = n) (hc8 : gCats st ≤ 8) {st0 st2 : List gV} (hs0 : avs.reverse ++ st = st0) (hs2 : rv.toList ++ st = st2) (kk : Wx X w1 (cl + rm'.cells) (sl + rm'.slots) (pc + 3) lv st2) : Wx X w cl sl pc lv st0 := by
  obtain ⟨⟨p, l, e, R, s, m, args, below, meth, c⟩, G, n', Q⟩ := X
  obtain ⟨hx, hb, hml, hn', hown, hts, hK, hlk, hR, hrt⟩ := ok
  obtain ⟨k1, k2, k4, k6, k7⟩ := lk
  obtain ⟨r1, r2, r3, r4⟩ := hr
  subst hs0; subst hs2; subst hR; subst hn'
  intro H locs ls hRp hS hl
  rw [gTs_stk0]
  have hcw : CallB R s args own idx y b nL' rt' (Cond.code y b nL' rt' :: gTb) rm' rm'.cells rm'.slots n := ⟨rfl, rfl, r1, r2, gPay hts hcd, List.mem_cons_self, hts _ (gT hcd rfl), hts _ (gT k4 rfl), k6, fun sig h => by rw [h] at k7; exact (Option.some.inj k7).symm, hts _ (gT k1 rfl)⟩
  refine gAfter (w1 := w1) (rv := rv.map gTo) (rest := gTs st) (mc := rm'.cells) (ms := rm'.slots) (a := (gTs avs).toArray) hS hl (va_runS (As := gTs avs) (rest := gTs st) (n := n) ⟨hx, hb, hml, hown, hts⟩ hM ⟨hcw, hts _ (gT k2 rfl)⟩ ⟨gBlind _ _ _, fun U hU hW => ⟨rfl, by rw [hU]; exact hRp, hK.moved hW hS hU⟩⟩ rfl ((gTs_len avs).trans hn) hl.1 rfl (lv_room (by rw [gCats_eq]; exact hc8)) (hd.at hi) ⟨r3, r4⟩) ?_
  rw [gTs_rv]
  exact kk
set_option maxHeartbeats 1000000 in
theorem Wx.callSN (ok : gOk X cc own nL rt rm) (hd : gDec tab cc) (i : Nat) {idx n : Nat} {y : MethodName} {host : String} {b : ByteArray} {nL' : Nat} {rt' : Option FieldType} {rm' : Room} (hi : tab[i]? = some (pc, .invokestatic idx, 3)) (lk : gLkN own idx y host n ∧ Cond.static y ∈ lw_tbl) (hcd : Cond.code y b nL' rt' ∈ lw_tbl) (avs : List gV) (rv : Option gV) {w1 : gW}
    (hM : gM X.1.2.1 y b nL' rt' rm' X.2.1 w (gTs avs) (rv.map gTo) w1) (hr : gRoom rm rm' nL' cl sl) (hn : avs.length = n) (hc8 : gCats st ≤ 8) {st0 st2 : List gV} (hs0 : avs.reverse ++ st = st0) (hs2 : rv.toList ++ st = st2) (kk : Wx X w1 (cl + rm'.cells) (sl + rm'.slots) (pc + 3) lv st2) : Wx X w cl sl pc lv st0 := by
  obtain ⟨⟨p, l, e, R, s, m, args, below, meth, c⟩, G, n', Q⟩ := X
  obtain ⟨hx, hb, hml, hn', hown, hts, hK, hlk, hR, hrt⟩ := ok
  obtain ⟨⟨k1, k4, k6, k7⟩, k2⟩ := lk
  obtain ⟨r1, r2, r3, r4⟩ := hr
  subst hs0; subst hs2; subst hR; subst hn'
  intro H locs ls hRp hS hl
  rw [gTs_stk0]
  have hcw : va_CN R s args own idx y host b nL' rt' (Cond.code y b nL' rt' :: gTb) rm' rm'.cells rm'.slots n := ⟨⟨rfl, rfl, r1, r2, gPay hts hcd, List.mem_cons_self⟩, hts _ (gT hcd rfl), hts _ (gT k4 rfl), k6, fun sig h => by rw [h] at k7; exact (Option.some.inj k7).symm, va_Nw.use rfl (hK.1.1 _ _ _ _ k1)⟩
  refine gAfter (w1 := w1) (rv := rv.map gTo) (rest := gTs st) (mc := rm'.cells) (ms := rm'.slots) (a := (gTs avs).toArray) hS hl (va_runSN (As := gTs avs) (rest := gTs st) (n := n) ⟨hx, hb, hml, hown, hts⟩ hM ⟨hcw, hts _ (gT k2 rfl), trivial⟩ ⟨gBlind _ _ _, fun U hU hW => ⟨rfl, by rw [hU]; exact hRp, hK.moved hW hS hU⟩⟩ rfl ((gTs_len avs).trans hn) hl.1 rfl (lv_room (by rw [gCats_eq]; exact hc8)) (hd.at hi) ⟨r3, r4⟩) ?_
  rw [gTs_rv]
  exact kk
set_option maxHeartbeats 1000000 in
theorem Wx.callIN (ok : gOk X cc own nL rt rm) (hd : gDec tab cc) (i : Nat) {idx n : Nat} {y : MethodName} {host : String} {b : ByteArray} {nL' : Nat} {rm' : Room} (hi : tab[i]? = some (pc, .invokespecial idx, 3)) (lk : gLkN own idx y host n ∧ y.name = "<init>" ∧ Cond.instanceMethod y ∈ lw_tbl) (hcd : Cond.code y b nL' none ∈ lw_tbl) {a : Nat} (avs : List gV) {w1 : gW}
    (hM : gM X.1.2.1 y b nL' none rm' X.2.1 w (gTs (.inr (.inr (some a)) :: avs)) none w1) (hr : gRoom rm rm' nL' cl sl) (hn : avs.length = n) (hc8 : gCats st ≤ 8) {st0 : List gV} (hs0 : avs.reverse ++ .inr (.inr (some a)) :: st = st0) (kk : Wx X w1 (cl + rm'.cells) (sl + rm'.slots) (pc + 3) lv st) : Wx X w cl sl pc lv st0 := by
  obtain ⟨⟨p, l, e, R, s, m, args, below, meth, c⟩, G, n', Q⟩ := X
  obtain ⟨hx, hb, hml, hn', hown, hts, hK, hlk, hR, hrt⟩ := ok
  obtain ⟨⟨k1, k4, k6, k7⟩, k8, k2⟩ := lk
  obtain ⟨r1, r2, r3, r4⟩ := hr
  subst hs0; subst hR; subst hn'
  intro H locs ls hRp hS hl
  rw [gTs_stk]
  have hcw : va_CN R s args own idx y host b nL' none (Cond.code y b nL' none :: gTb) rm' rm'.cells rm'.slots n := ⟨⟨rfl, rfl, r1, r2, gPay hts hcd, List.mem_cons_self⟩, hts _ (gT hcd rfl), hts _ (gT k4 rfl), k6, fun sig h => by rw [h] at k7; exact (Option.some.inj k7).symm, va_Nw.use rfl (hK.1.1 _ _ _ _ k1)⟩
  exact gAfter (w1 := w1) (rv := none) (rest := gTs st) (mc := rm'.cells) (ms := rm'.slots) (a := (Value.ref a :: gTs avs).toArray) hS hl (va_runIN (As := gTs avs) (rest := gTs st) (b := a) (n := n) ⟨hx, hb, hml, hown, hts⟩ hM ⟨hcw, k8, hts _ (gT k2 rfl)⟩ ⟨gBlind _ _ _, fun U hU hW => ⟨rfl, by rw [hU]; exact hRp, hK.moved hW hS hU⟩⟩ rfl ((gTs_len avs).trans hn) hl.1 rfl (lv_room (by rw [gCats_eq]; exact hc8)) (hd.at hi) ⟨r3, r4⟩) kk
set_option maxHeartbeats 1000000 in
theorem Wx.callI (ok : gOk X cc own nL rt rm) (hd : gDec tab cc) (i : Nat) {idx n : Nat} {y : MethodName} {b : ByteArray} {nL' : Nat} {rm' : Room} (hi : tab[i]? = some (pc, .invokespecial idx, 3)) (lk : gLkI own idx y n) (hcd : Cond.code y b nL' none ∈ lw_tbl) {a : Nat} (avs : List gV) {w1 : gW}
    (hM : gM X.1.2.1 y b nL' none rm' X.2.1 w (gTs (.inr (.inr (some a)) :: avs)) none w1) (hr : gRoom rm rm' nL' cl sl) (hn : avs.length = n) (hc8 : gCats st ≤ 8) {st0 : List gV} (hs0 : avs.reverse ++ .inr (.inr (some a)) :: st = st0) (kk : Wx X w1 (cl + rm'.cells) (sl + rm'.slots) (pc + 3) lv st) : Wx X w cl sl pc lv st0 := by
  obtain ⟨⟨p, l, e, R, s, m, args, below, meth, c⟩, G, n', Q⟩ := X
  obtain ⟨hx, hb, hml, hn', hown, hts, hK, hlk, hR, hrt⟩ := ok
  obtain ⟨k1, k2, k4, k8, k6, k7⟩ := lk
  obtain ⟨r1, r2, r3, r4⟩ := hr
  subst hs0; subst hR; subst hn'
  intro H locs ls hRp hS hl
  rw [gTs_stk]
  have hcw : CallB R s args own idx y b nL' none (Cond.code y b nL' none :: gTb) rm' rm'.cells rm'.slots n := ⟨rfl, rfl, r1, r2, gPay hts hcd, List.mem_cons_self, hts _ (gT hcd rfl), hts _ (gT k4 rfl), k6, fun sig h => by rw [h] at k7; exact (Option.some.inj k7).symm, hts _ (gT k1 rfl)⟩
  exact gAfter (w1 := w1) (rv := none) (rest := gTs st) (mc := rm'.cells) (ms := rm'.slots) (a := (Value.ref a :: gTs avs).toArray) hS hl (va_runI (As := gTs avs) (rest := gTs st) (b := a) (n := n) ⟨hx, hb, hml, hown, hts⟩ hM ⟨hcw, k8, hts _ (gT k2 rfl)⟩ ⟨gBlind _ _ _, fun U hU hW => ⟨rfl, by rw [hU]; exact hRp, hK.moved hW hS hU⟩⟩ rfl ((gTs_len avs).trans hn) hl.1 rfl (lv_room (by rw [gCats_eq]; exact hc8)) (hd.at hi) ⟨r3, r4⟩) kk
theorem Wx.objInit (ok : gOk X cc own nL rt rm) (hd : gDec tab cc) (i : Nat) {idx : Nat} (hi : tab[i]? = some (pc, .invokespecial idx, 3)) (lk : Cond.methodLink own idx Lib.objectInit ∈ lw_tbl ∧ Cond.instanceMethod Lib.objectInit ∈ lw_tbl ∧ Cond.code Lib.objectInit ⟨#[0xb1]⟩ 1 none ∈ lw_tbl) {a : Nat} (hc8 : 1 ≤ rm.frames ∧ gCats st + 12 ≤ rm.locals) (kk : Wx X w cl sl (pc + 3) lv st) : Wx X w cl sl pc lv (.inr (.inr (some a)) :: st) := by
  obtain ⟨⟨p, l, e, R, s, m, args, below, meth, c⟩, G, n', Q⟩ := X
  obtain ⟨hx, hb, hml, hn', hown, hts, hK, hlk, hR, hrt⟩ := ok
  subst hR; subst hn'
  intro H locs ls hRp hS hl
  refine W.objInit hx hb hown (hts _ (gT lk.1 rfl)) (hts _ (gT lk.2.1 rfl)) (hts _ (gT lk.2.2 rfl)) rfl (hl.1.trans hml.symm) rfl (hd.at hi) hc8.1 ?_ (kk H locs ls hRp hS hl)
  show 2 * 0 + ((gTs st).map fun v => v.category).sum + 12 ≤ _
  rw [gCats_eq]
  have := hc8.2
  omega
end WD
