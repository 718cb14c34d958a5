/-! ROWS: new cells, returns -/
section WR
variable {X : gX} {cc : ByteArray} {own : String} {nL : Nat} {rt : Option FieldType} {rm : Room} {w : gW} {cl sl pc : Nat} {lv : List (Nat × gV)} {st : List gV} {tab : gTab}
theorem Wx.ireturn (ok : gOk X cc own nL (some .int) rm) (hd : gDec tab cc) (i : Nat) (hi : tab[i]? = some (pc, .ireturn, 1)) {x : Int32} {q : Int32 × gW} (hres : gRs X (some (.int q.1)) q.2) (h : some (x, w) = some q) (hc : cl ≤ rm.cells ∧ sl ≤ rm.slots) : Wx X w cl sl pc lv [.inl x] := by
  obtain ⟨⟨p, l, e, R, s, m, args, below, meth, c⟩, G, n', Q⟩ := X
  obtain ⟨hx, hb, hml, hn', hown, hts, hK, hlk, hR, hrt⟩ := ok
  cases h
  subst hR
  unfold gRs at hres
  dsimp only at hres
  subst hres
  intro H locs ls hRp hS hl
  exact W.widen hc.1 hc.2 (W.iret hx hb hrt (fun t ht hW => ⟨rfl, by rw [ht]; exact hRp, hS.F ht⟩) hS.2.2 (hd.at hi))
theorem Wx.zreturn (ok : gOk X cc own nL (some .boolean) rm) (hd : gDec tab cc) (i : Nat) (hi : tab[i]? = some (pc, .ireturn, 1)) {x : Int32} (hz : narrow .boolean (.int x) = .int x) {q : Int32 × gW} (hres : gRs X (some (.int q.1)) q.2) (h : some (x, w) = some q) (hc : cl ≤ rm.cells ∧ sl ≤ rm.slots) : Wx X w cl sl pc lv [.inl x] := by
  obtain ⟨⟨p, l, e, R, s, m, args, below, meth, c⟩, G, n', Q⟩ := X
  obtain ⟨hx, hb, hml, hn', hown, hts, hK, hlk, hR, hrt⟩ := ok
  cases h
  subst hR
  unfold gRs at hres
  dsimp only at hres
  subst hres
  intro H locs ls hRp hS hl
  exact W.widen hc.1 hc.2 (W.zret hx hb hrt hz (fun t ht hW => ⟨rfl, by rw [ht]; exact hRp, hS.F ht⟩) hS.2.2 (hd.at hi))
theorem gNz0 : narrow .boolean (.int 0) = .int 0 := by decide +kernel
theorem gNz1 : narrow .boolean (.int 1) = .int 1 := by decide +kernel
theorem Wx.zreturnB (ok : gOk X cc own nL (some .boolean) rm) (hd : gDec tab cc) (i : Nat) (hi : tab[i]? = some (pc, .ireturn, 1)) {x : Int32} {q : Int32 × gW} (hres : gRs X (some (.int q.1)) q.2) (h : ((gBo x).bind fun v => some (v, w)) = some q) (hc : cl ≤ rm.cells ∧ sl ≤ rm.slots) : Wx X w cl sl pc lv [.inl x] := by
  obtain ⟨v, h1, h2⟩ := gob h
  unfold gBo at h1
  obtain ⟨h3, rfl⟩ := gIf h1
  have hz : narrow .boolean (.int x) = .int x := by
    rcases h3 with h | h
    · rw [h]; exact gNz0
    · rw [h]; exact gNz1
  exact Wx.zreturn ok hd i hi hz hres h2 hc
theorem Wx.lreturn (ok : gOk X cc own nL (some .long) rm) (hd : gDec tab cc) (i : Nat) (hi : tab[i]? = some (pc, .lreturn, 1)) {x : Int64} {q : Int64 × gW} (hres : gRs X (some (.long q.1)) q.2) (h : some (x, w) = some q) (hc : cl ≤ rm.cells ∧ sl ≤ rm.slots) : Wx X w cl sl pc lv [.inr (.inl x)] := by
  obtain ⟨⟨p, l, e, R, s, m, args, below, meth, c⟩, G, n', Q⟩ := X
  obtain ⟨hx, hb, hml, hn', hown, hts, hK, hlk, hR, hrt⟩ := ok
  cases h
  subst hR
  unfold gRs at hres
  dsimp only at hres
  subst hres
  intro H locs ls hRp hS hl
  exact W.widen hc.1 hc.2 (W.lret hx hb hrt (fun t ht hW => ⟨rfl, by rw [ht]; exact hRp, hS.F ht⟩) hS.2.2 (hd.at hi))
theorem Wx.vreturn (ok : gOk X cc own nL none rm) (hd : gDec tab cc) (i : Nat) (hi : tab[i]? = some (pc, .return_, 1)) {q : gW} (hres : gRs X none q) (h : some w = some q) (hc : cl ≤ rm.cells ∧ sl ≤ rm.slots) : Wx X w cl sl pc lv [] := by
  obtain ⟨⟨p, l, e, R, s, m, args, below, meth, c⟩, G, n', Q⟩ := X
  obtain ⟨hx, hb, hml, hn', hown, hts, hK, hlk, hR, hrt⟩ := ok
  cases h
  subst hR
  unfold gRs at hres
  dsimp only at hres
  subst hres
  intro H locs ls hRp hS hl
  exact W.widen hc.1 hc.2 (W.vret hx hb hrt (fun t ht hW => ⟨rfl, by rw [ht]; exact hRp, hS.F ht⟩) hS.2.2 (hd.at hi))
theorem Wx.areturn {C : String} (ok : gOk X cc own nL (some (.object C)) rm) (hd : gDec tab cc) (i : Nat) (hi : tab[i]? = some (pc, .areturn, 1)) {x : Option Nat} {q : Option Nat × gW} (hres : gRs X (some (va_rf q.1)) q.2) (h : some (x, w) = some q) (hc : cl ≤ rm.cells ∧ sl ≤ rm.slots) : Wx X w cl sl pc lv [.inr (.inr x)] := by
  obtain ⟨⟨p, l, e, R, s, m, args, below, meth, c⟩, G, n', Q⟩ := X
  obtain ⟨hx, hb, hml, hn', hown, hts, hK, hlk, hR, hrt⟩ := ok
  cases h
  subst hR
  unfold gRs at hres
  dsimp only at hres
  subst hres
  intro H locs ls hRp hS hl
  exact W.widen hc.1 hc.2 (W.aret hx hb hrt (Or.inl ⟨_, rfl⟩) (by cases x with
    | none => exact Or.inl rfl
    | some x => exact Or.inr ⟨_, rfl⟩) (fun t ht hW => ⟨rfl, by rw [ht]; exact hRp, hS.F ht⟩) hS.2.2 (hd.at hi))
set_option maxHeartbeats 1000000 in
theorem Wx.new (ok : gOk X cc own nL rt rm) (hd : gDec tab cc) (i : Nat) {idx ci N : Nat} {fs : List Value} (hi : tab[i]? = some (pc, .new idx, 3)) (lk : gNw own idx ci N fs) (hc : cl + 1 ≤ rm.cells ∧ sl + N ≤ rm.slots) (kk : Wx X (gNO ci fs w) (cl + 1) (sl + N) (pc + 3) lv (.inr (.inr (some w.2)) :: st)) : Wx X w cl sl pc lv st := by
  obtain ⟨⟨p, l, e, R, s, m, args, below, meth, c⟩, G, n', Q⟩ := X
  obtain ⟨hx, hb, hml, hn', hown, hts, hK, hlk, hR, hrt⟩ := ok
  obtain ⟨C, T, ty, ⟨k1, k2, k3, k4⟩, k5, k6, k7, k8⟩ := lk
  subst hR
  intro H locs ls hRp hS hl
  have hKn := hK.va.1 ci _ k1
  refine W.newcK hx hb hown (hts _ (gT k5 rfl)) (hts _ (gT k6 rfl)) (hts _ (gT k7 rfl)) rfl (hd.at hi) hc.1 hc.2 hKn.2.1 rfl fun H1 kC hkC e1 z1 o1 => ?_
  have hz : w.2 = H.size := hRp.1.symm
  have := kk H1 locs ls (hRp.add (Nat.le_trans hK.2.2.2.2 hS.1) z1 ⟨_, k1, (u_born ty hts k2 hKn hkC e1 k3).to k8⟩ o1) ⟨Nat.le_trans hS.1 (by omega), fun x h1 h2 => (o1 x (Nat.lt_of_lt_of_le h1 hS.1)).trans (hS.2.1 x h1 h2), hS.2.2⟩ hl
  rw [hz] at this
  exact this
theorem gNI_some {lim : Nat} {n : Int32} {w w1 : gW} (h : gNI lim n w = some w1) : ¬ n < 0 ∧ n.toNatClampNeg ≤ lim ∧ w1 = gAdd w (.inl (n.toNatClampNeg, fun _ => 0)) := by
  unfold gNI at h
  by_cases hc : n < 0 ∨ lim < n.toNatClampNeg
  · rw [if_pos hc] at h; cases h
  · rw [if_neg hc] at h; cases h; exact ⟨fun q => hc (Or.inl q), Nat.not_lt.mp fun q => hc (Or.inr q), rfl⟩
theorem gNL_some {lim : Nat} {n : Int32} {w w1 : gW} (h : gNL lim n w = some w1) : ¬ n < 0 ∧ n.toNatClampNeg ≤ lim ∧ w1 = gAdd w (.inr (.inl (n.toNatClampNeg, fun _ => 0))) := by
  unfold gNL at h
  by_cases hc : n < 0 ∨ lim < n.toNatClampNeg
  · rw [if_pos hc] at h; cases h
  · rw [if_neg hc] at h; cases h; exact ⟨fun q => hc (Or.inl q), Nat.not_lt.mp fun q => hc (Or.inr q), rfl⟩
theorem gNR_some {ci lim : Nat} {n : Int32} {w w1 : gW} (h : gNR ci lim n w = some w1) : ¬ n < 0 ∧ n.toNatClampNeg ≤ lim ∧ w1 = gAdd w (.inr (.inr (.inl (ci, n.toNatClampNeg, fun _ => none)))) := by
  unfold gNR at h
  by_cases hc : n < 0 ∨ lim < n.toNatClampNeg
  · rw [if_pos hc] at h; cases h
  · rw [if_neg hc] at h; cases h; exact ⟨fun q => hc (Or.inl q), Nat.not_lt.mp fun q => hc (Or.inr q), rfl⟩
set_option maxHeartbeats 1000000 in
theorem Wx.newI (ok : gOk X cc own nL rt rm) (hd : gDec tab cc) (i : Nat) (hi : tab[i]? = some (pc, .newarray .int, 2)) (hw : Cond.arrayClass .int ∈ lw_tbl) {lim : Nat} {n : Int32} {ρ : Type} {f : gW → Option ρ} {q : ρ} (h : (gNI lim n w).bind f = some q) (hlim : lim ≤ 100000) (hc : cl + 1 ≤ rm.cells ∧ sl + lim ≤ rm.slots) (kk : ∀ w1, f w1 = some q → Wx X w1 (cl + 1) (sl + lim) (pc + 2) lv (.inr (.inr (some w.2)) :: st)) : Wx X w cl sl pc lv (.inl n :: st) := by
  obtain ⟨w1, h1, h2⟩ := gob h
  have kk := kk w1 h2
  obtain ⟨⟨p, l, e, R, s, m, args, below, meth, c⟩, G, n', Q⟩ := X
  obtain ⟨hx, hb, hml, hn', hown, hts, hK, hlk, hR, hrt⟩ := ok
  obtain ⟨g1, g2, rfl⟩ := gNI_some h1
  subst hR
  intro H locs ls hRp hS hl
  have hz : w.2 = H.size := hRp.1.symm
  have hca : 1 ≤ R.cells - cl := by omega
  refine va_newaK (N := n.toNatClampNeg) hx hb (atype := .int) (hts _ (gT hw rfl)) rfl (hd.at hi) rfl g1 rfl (Nat.le_trans (Nat.mul_le_mul_right _ (Nat.le_trans g2 hlim)) (by decide)) hc.1 (Nat.le_trans (Nat.add_le_add_left g2 sl) hc.2) rfl fun H1 cA e1 z1 o1 hAr hNm => ?_
  have hcA : cA = G.2.1 .int := Option.some.inj (hNm.symm.trans (hK.va.2 0 _ rfl).2)
  subst hcA
  have := kk H1 locs ls (hRp.add (Nat.le_trans hK.2.2.2.2 hS.1) z1 e1 o1) ⟨Nat.le_trans hS.1 (by omega), fun x h1 h2 => (o1 x (Nat.lt_of_lt_of_le h1 hS.1)).trans (hS.2.1 x h1 h2), hS.2.2⟩ hl
  rw [hz] at this
  exact W.widen (Nat.le_refl _) (Nat.add_le_add_left g2 sl) this
set_option maxHeartbeats 1000000 in
theorem Wx.newL (ok : gOk X cc own nL rt rm) (hd : gDec tab cc) (i : Nat) (hi : tab[i]? = some (pc, .newarray .long, 2)) (hw : Cond.arrayClass .long ∈ lw_tbl) {lim : Nat} {n : Int32} {ρ : Type} {f : gW → Option ρ} {q : ρ} (h : (gNL lim n w).bind f = some q) (hlim : lim ≤ 100000) (hc : cl + 1 ≤ rm.cells ∧ sl + lim ≤ rm.slots) (kk : ∀ w1, f w1 = some q → Wx X w1 (cl + 1) (sl + lim) (pc + 2) lv (.inr (.inr (some w.2)) :: st)) : Wx X w cl sl pc lv (.inl n :: st) := by
  obtain ⟨w1, h1, h2⟩ := gob h
  have kk := kk w1 h2
  obtain ⟨⟨p, l, e, R, s, m, args, below, meth, c⟩, G, n', Q⟩ := X
  obtain ⟨hx, hb, hml, hn', hown, hts, hK, hlk, hR, hrt⟩ := ok
  obtain ⟨g1, g2, rfl⟩ := gNL_some h1
  subst hR
  intro H locs ls hRp hS hl
  have hz : w.2 = H.size := hRp.1.symm
  refine va_newaK (N := n.toNatClampNeg) hx hb (atype := .long) (hts _ (gT hw rfl)) rfl (hd.at hi) rfl g1 rfl (Nat.le_trans (Nat.mul_le_mul_right _ (Nat.le_trans g2 hlim)) (by decide)) hc.1 (Nat.le_trans (Nat.add_le_add_left g2 sl) hc.2) rfl fun H1 cA e1 z1 o1 hAr hNm => ?_
  have hcA : cA = G.2.1 .long := Option.some.inj (hNm.symm.trans (hK.va.2 1 _ rfl).2)
  subst hcA
  have := kk H1 locs ls (hRp.add (Nat.le_trans hK.2.2.2.2 hS.1) z1 e1 o1) ⟨Nat.le_trans hS.1 (by omega), fun x h1 h2 => (o1 x (Nat.lt_of_lt_of_le h1 hS.1)).trans (hS.2.1 x h1 h2), hS.2.2⟩ hl
  rw [hz] at this
  exact W.widen (Nat.le_refl _) (Nat.add_le_add_left g2 sl) this
set_option maxHeartbeats 1000000 in
theorem Wx.newR (ok : gOk X cc own nL rt rm) (hd : gDec tab cc) (i : Nat) {idx ci : Nat} (hi : tab[i]? = some (pc, .anewarray idx, 3)) (hci : ci = 2 ∨ ci = 0 ∨ ci = 4) (lk : gNwA own idx ci) {lim : Nat} {n : Int32} {ρ : Type} {f : gW → Option ρ} {q : ρ} (h : (gNR ci lim n w).bind f = some q) (hlim : lim ≤ 100000) (hc : cl + 1 ≤ rm.cells ∧ sl + lim ≤ rm.slots) (kk : ∀ w1, f w1 = some q → Wx X w1 (cl + 1) (sl + lim) (pc + 3) lv (.inr (.inr (some w.2)) :: st)) : Wx X w cl sl pc lv (.inl n :: st) := by
  obtain ⟨w1, h1, h2⟩ := gob h
  have kk := kk w1 h2
  obtain ⟨⟨p, l, e, R, s, m, args, below, meth, c⟩, G, n', Q⟩ := X
  obtain ⟨hx, hb, hml, hn', hown, hts, hK, hlk, hR, hrt⟩ := ok
  obtain ⟨g1, g2, rfl⟩ := gNR_some h1
  subst hR
  intro H locs ls hRp hS hl
  have hz : w.2 = H.size := hRp.1.symm
  refine W.anew hx hb hown (hts _ (gT lk.1 rfl)) (va_AO.use (hK.1.2.2 _ lk.2)) rfl (hd.at hi) rfl g1 (Nat.le_trans (Nat.mul_le_mul_right _ (Nat.le_trans g2 hlim)) (by decide)) hc.1 (Nat.le_trans (Nat.add_le_add_left g2 sl) hc.2) fun cA kA comp f1 f2 f3 f4 => ?_
  obtain ⟨t0, ht0⟩ := gTy_at G.2.1 hci
  obtain ⟨_, _, -, -, -, k4⟩ := (hK.va.2 t0 _ ht0).2
  have hcA : cA = G.2.1 (.object (gName ci)) := Option.some.inj (f1.symm.trans k4)
  subst hcA
  generalize hH1 : H.push ({ cls := G.2.1 (.object (gName ci)), slots := Array.replicate n.toNatClampNeg .null, vm := .none } : Cell) = H1
  have z1 : H1.size = H.size + 1 := by rw [← hH1, Array.size_push]
  have e1 : H1[H.size]? = some (arrV (G.2.1 (.object (gName ci))) n.toNatClampNeg (fun _ => .null)) := by rw [← hH1, Array.getElem?_push_size, ← arrV_new]
  have o1 : ∀ q : Nat, q < H.size → H1[q]? = H[q]? := fun q hq => by rw [← hH1, Array.getElem?_push, if_neg (Nat.ne_of_lt hq)]
  have := kk H1 locs ls (hRp.add (Nat.le_trans hK.2.2.2.2 hS.1) z1 e1 o1) ⟨Nat.le_trans hS.1 (by omega), fun x h1 h2 => (o1 x (Nat.lt_of_lt_of_le h1 hS.1)).trans (hS.2.1 x h1 h2), hS.2.2⟩ hl
  rw [hz] at this
  exact W.widen (Nat.le_refl _) (Nat.add_le_add_left g2 sl) this
end WR
/-! THE CLASSES -/
theorem gC0 : gCl 0 RX0 TX0 7 tyX0 := ⟨rfl, by decide +kernel, tyX0_ok, nmX0⟩
theorem gC1 : gCl 1 RX1 TX1 6 tyX1 := ⟨rfl, by decide +kernel, tyX1_ok, nmX1⟩
theorem gC2' : gCl 2 RX2 TX2 8 tyX2 := ⟨rfl, by decide +kernel, tyX2_ok, nmX2⟩
theorem gC3 : gCl 3 RX3 TX3 8 tyX3 := ⟨rfl, by decide +kernel, tyX3_ok, nmX3⟩
theorem gC4 : gCl 4 RX4 TX4 3 tyX4 := ⟨rfl, by decide +kernel, tyX4_ok, nmX4⟩
theorem gC5 : gCl 5 RX5 TX5 7 tyX5 := ⟨rfl, by decide +kernel, tyX5_ok, nmX5⟩
theorem gC6 : gCl 6 RX6 TX6 7 tyX6 := ⟨rfl, by decide +kernel, tyX6_ok, nmX6⟩
theorem gC7 : gCl 7 RX7 TX7 40 tyX7 := ⟨rfl, by decide +kernel, tyX7_ok, nmX7⟩
