/-! THE CLAIM OUT OF ONE WALK OF THE LAW'S BODY. Your part is whole_start (and what it stands on); all else here is the same for every law, but numbers. -/
def R_law : String := "GroupTowersLaw"
def lw_P (b : Addr) (xs : List Int32) (args : Array Value) (s : State) : Prop := args = #[.ref b] ∧ s.IntsAt b xs ∧ xs.length ≤ 3584 ∧ (Jvm.Cond.and given_1 narrow_1).before args s = true
def lw_Q (_ : Array Value) (s : State) (o : Outcome) (t : State) : Prop := o = .returned (some (.int 1)) ∧ Framed s o t [] 600000 7302249
def lw_Z (below : List Frame) (a : Array Value) (s : State) : State → Prop := fun t => ∃ o, t.status = .running ∧ Ended t below o ∧ lw_Q a s o t
/-- the law's own end, with 1 on the stack, nothing written that was there before, its room as the claim has it -/
theorem lw_ret {p : Program} {l : Launch} {e : Env} {s : State} {m : MethodId} {below : List Frame} {meth : Method} {c : Code} {b : Nat} (hx : p.tables.exec = Jvm.exec) (hb : c.code = code) (hr : meth.sig.returnType = ret) (hlocks : meth.locks = false) {pc : Nat} {H : Heap} {ls : Array Slot} (hdg : decode code pc = .ok (.ireturn, 1)) : W p l e room_1 s m #[Value.ref b] below meth c H [] 600000 7302249 (lw_Z below #[Value.ref b] s) (F0 m pc ls [.int 1]) := by
  intro T hT X
  obtain ⟨fs, hret, hrun, hended, hW, hframe⟩ := X.leave (v := some (.int 1)) (hlocks := hlocks) (fun h => by rw [hr] at h; cases h)
  have hmeth' : T.vm.method? m = some meth := X.method'
  refine ⟨T.setFrames fs, ?_, .returned (some (.int 1)), hrun, hended, rfl, ⟨_, rfl⟩, hW, hframe⟩
  jvm_step X.here [X.here.top, hx, hb, hdg, hmeth', hr, ret, narrow_b1]
  (try refine ⟨rfl, ?_⟩); (try refine ⟨rfl, ?_⟩)
  first | (intro acts; rw [hret _ acts rfl rfl rfl]) | rw [hret _ _ rfl rfl rfl]
  exact Steps.refl _
/-- what holds at the law's entry: the machine, the code, the tables' words (any of lw_tbl by 'hts w (by decide +kernel)'), the script of L ints xs at the cell b, what the Statement gives of the start (any of its parts by flat_of_before) -/
def lw_At (p : Program) (s : State) (m : MethodId) (meth : Method) (c : Code) (b L : Nat) (xs : Nat → Int32) : Prop :=
  p.tables.exec = Jvm.exec ∧ c.code = code ∧ meth.sig.returnType = ret ∧ c.maxLocals = 4 ∧ s.vm.findClass R_law = some m.cls ∧ (∀ w ∈ lw_tbl, w.before #[Value.ref b] s = true) ∧ va_X b L xs s s.heap ∧ b < s.heap.size ∧ meth.locks = false ∧ (Jvm.Cond.and given_1 narrow_1).before #[Value.ref b] s = true
def gLw (X : gX) : Prop := match X with
  | ((p, l, e, R, s, m, args, below, meth, c), G, n, Q) => ∃ b : Nat, args = #[.ref b] ∧ Q = lw_Z below #[.ref b] s ∧ ∀ q : Nat, gA G q → s.heap.size ≤ q
def gScr (X : gX) (L : Nat) (xs : Nat → Int32) (sb : Nat) : Prop := match X with
  | ((p, l, e, R, s, m, args, below, meth, c), G, n, Q) => va_X sb L xs s s.heap ∧ sb < s.heap.size ∧ ¬ gA G sb
section WL
variable {X : gX} {cc : ByteArray} {own : String} {nL : Nat} {rt : Option FieldType} {rm : Room} {w : gW} {cl sl pc : Nat} {lv : List (Nat × gV)} {st : List gV} {tab : gTab}
theorem Wx.scr (ok : gOk X cc own nL rt rm) (hd : gDec tab cc) (i : Nat) (hi : tab[i]? = some (pc, .iaload, 1)) {L sb : Nat} {xs : Nat → Int32} (hsc : gScr X L xs sb) {j : Int32} {ρ : Type} {f : Int32 → Option ρ} {q : ρ} (h : (gSc L xs j).bind f = some q) (kk : ∀ v, f v = some q → Wx X w cl sl (pc + 1) lv (.inl v :: st)) : Wx X w cl sl pc lv (.inl j :: .inr (.inr (some sb)) :: st) := by
  obtain ⟨v, h1, h2⟩ := gob h
  have kk := kk v h2
  obtain ⟨⟨p, l, e, R, s, m, args, below, meth, c⟩, G, n', Q⟩ := X
  obtain ⟨hx, hb, hml, hn, hown, hts, hK, hlk, hR, hrt⟩ := ok
  unfold gSc at h1
  by_cases hc : j < 0 ∨ L ≤ j.toNatClampNeg
  · rw [if_pos hc] at h1; cases h1
  · rw [if_neg hc] at h1; cases h1
    intro H locs ls hRp hS hl
    exact va_sld hx hb hsc.1 hsc.2.1 hsc.2.2 hS hc (hd.at hi) (kk H locs ls hRp hS hl)
theorem Wx.scrLen (ok : gOk X cc own nL rt rm) (hd : gDec tab cc) (i : Nat) (hi : tab[i]? = some (pc, .arraylength, 1)) {L sb : Nat} {xs : Nat → Int32} (hsc : gScr X L xs sb) (kk : Wx X w cl sl (pc + 1) lv (.inl (Int32.ofNat L) :: st)) : Wx X w cl sl pc lv (.inr (.inr (some sb)) :: st) := by
  obtain ⟨⟨p, l, e, R, s, m, args, below, meth, c⟩, G, n', Q⟩ := X
  obtain ⟨hx, hb, hml, hn, hown, hts, hK, hlk, hR, hrt⟩ := ok
  intro H locs ls hRp hS hl
  exact va_slen hx hb hsc.1 hsc.2.1 hsc.2.2 hS (hd.at hi) (kk H locs ls hRp hS hl)
theorem Wx.lawret (ok : gOk X code own nL (some .boolean) room_1) (hd : gDec tab code) (i : Nat) (hi : tab[i]? = some (pc, .ireturn, 1)) (hres : gLw X) (hc : cl ≤ 600000 ∧ sl ≤ 7302249) : Wx X w cl sl pc lv [.inl 1] := by
  obtain ⟨⟨p, l, e, R, s, m, args, below, meth, c⟩, G, n', Q⟩ := X
  obtain ⟨hx, hb, hml, hn, hown, hts, hK, hlk, hR, hrt⟩ := ok
  obtain ⟨b, rfl, rfl, hA⟩ := hres
  subst hR
  intro H locs ls hRp hS hl
  exact va_forget (fun q hq => hA _ (hS.2.2 q hq)) (W.widen hc.1 hc.2 (lw_ret hx hb hrt hlk (hd.at hi)))
end WL
