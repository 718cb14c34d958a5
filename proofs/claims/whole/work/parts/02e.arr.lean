/-! ROWS: arrays -/
theorem gLI_some {r : Option Nat} {i x : Int32} {w : gW} (h : gLI r i w = some x) : ∃ (a n : Nat) (f : Nat → Int32), r = some a ∧ w.1 a = some (.inl (n, f)) ∧ vp_in i n ∧ x = f i.toNatClampNeg := by
  unfold gLI at h
  split at h
  · cases h
  · split at h
    · rename_i a _ n f hw
      by_cases hc : i < 0 ∨ n ≤ i.toNatClampNeg
      · rw [if_pos hc] at h; cases h
      · rw [if_neg hc] at h; cases h; exact ⟨a, n, f, rfl, hw, hc, rfl⟩
    · cases h
theorem gLL_some {r : Option Nat} {i : Int32} {x : Int64} {w : gW} (h : gLL r i w = some x) : ∃ (a n : Nat) (f : Nat → Int64), r = some a ∧ w.1 a = some (.inr (.inl (n, f))) ∧ vp_in i n ∧ x = f i.toNatClampNeg := by
  unfold gLL at h
  split at h
  · cases h
  · split at h
    · rename_i a _ n f hw
      by_cases hc : i < 0 ∨ n ≤ i.toNatClampNeg
      · rw [if_pos hc] at h; cases h
      · rw [if_neg hc] at h; cases h; exact ⟨a, n, f, rfl, hw, hc, rfl⟩
    · cases h
theorem gLR_some {ci : Nat} {r : Option Nat} {i : Int32} {x : Option Nat} {w : gW} (h : gLR ci r i w = some x) : ∃ (a n : Nat) (f : Nat → Option Nat), r = some a ∧ w.1 a = some (.inr (.inr (.inl (ci, n, f)))) ∧ vp_in i n ∧ x = f i.toNatClampNeg := by
  unfold gLR at h
  split at h
  · cases h
  · split at h
    · rename_i a _ c n f hw
      cases hc : (c == ci) with
      | false => rw [hc] at h; cases h
      | true =>
        rw [hc] at h
        have e1 : c = ci := by simpa using hc
        subst e1
        simp only [cond_true] at h
        by_cases hc : i < 0 ∨ n ≤ i.toNatClampNeg
        · rw [if_pos hc] at h; cases h
        · rw [if_neg hc] at h; cases h; exact ⟨a, n, f, rfl, hw, hc, rfl⟩
    · cases h
theorem gSI_some {r : Option Nat} {i x : Int32} {w w1 : gW} (h : gSI r i x w = some w1) : ∃ (a n : Nat) (f : Nat → Int32), r = some a ∧ w.1 a = some (.inl (n, f)) ∧ vp_in i n ∧ w1 = gUp w a (.inl (n, upd f i.toNatClampNeg x)) := by
  unfold gSI at h
  split at h
  · cases h
  · split at h
    · rename_i a _ n f hw
      by_cases hc : i < 0 ∨ n ≤ i.toNatClampNeg
      · rw [if_pos hc] at h; cases h
      · rw [if_neg hc] at h; cases h; exact ⟨a, n, f, rfl, hw, hc, rfl⟩
    · cases h
theorem gSL_some {r : Option Nat} {i : Int32} {x : Int64} {w w1 : gW} (h : gSL r i x w = some w1) : ∃ (a n : Nat) (f : Nat → Int64), r = some a ∧ w.1 a = some (.inr (.inl (n, f))) ∧ vp_in i n ∧ w1 = gUp w a (.inr (.inl (n, vp_updL f i.toNatClampNeg x))) := by
  unfold gSL at h
  split at h
  · cases h
  · split at h
    · rename_i a _ n f hw
      by_cases hc : i < 0 ∨ n ≤ i.toNatClampNeg
      · rw [if_pos hc] at h; cases h
      · rw [if_neg hc] at h; cases h; exact ⟨a, n, f, rfl, hw, hc, rfl⟩
    · cases h
theorem gSR_some {ci : Nat} {r v : Option Nat} {i : Int32} {w w1 : gW} (h : gSR ci r i v w = some w1) : ∃ (a n b : Nat) (f : Nat → Option Nat) (fs : List Value), r = some a ∧ w.1 a = some (.inr (.inr (.inl (ci, n, f)))) ∧ vp_in i n ∧ v = some b ∧ w.1 b = some (.inr (.inr (.inr (ci, fs)))) ∧ w1 = gUp w a (.inr (.inr (.inl (ci, n, va_up f i.toNatClampNeg (some b))))) := by
  unfold gSR at h
  split at h
  · rename_i a b hv
    obtain ⟨hv1, fs, hv2⟩ := gO_some hv
    split at h
    · rename_i c n f hw
      cases hc : (c == ci) with
      | false => rw [hc] at h; cases h
      | true =>
        rw [hc] at h
        have e1 : c = ci := by simpa using hc
        subst e1
        simp only [cond_true] at h
        by_cases hc : i < 0 ∨ n ≤ i.toNatClampNeg
        · rw [if_pos hc] at h; cases h
        · rw [if_neg hc] at h; cases h; exact ⟨a, n, b, f, fs, rfl, hw, hc, hv1, hv2, rfl⟩
    · cases h
  · cases h
theorem gLen_some {r : Option Nat} {x : Int32} {w : gW} (h : gLen r w = some x) : ∃ (a n : Nat) (f : Nat → Int32), r = some a ∧ w.1 a = some (.inl (n, f)) ∧ x = Int32.ofNat n := by
  unfold gLen at h
  split at h
  · cases h
  · split at h
    · rename_i a _ n f hw
      cases h; exact ⟨a, n, f, rfl, hw, rfl⟩
    · cases h
/-- the class of a row of objects, by its place in gTys -/
theorem gTy_at (A : FieldType → ClassId) {ci : Nat} (h : ci = 2 ∨ ci = 0 ∨ ci = 4) : ∃ t : Nat, (gTys A)[t]? = some (A (.object (gName ci)), .object (gName ci)) := by
  rcases h with rfl | rfl | rfl
  · exact ⟨2, rfl⟩
  · exact ⟨3, rfl⟩
  · exact ⟨4, rfl⟩
section WA
variable {X : gX} {cc : ByteArray} {own : String} {nL : Nat} {rt : Option FieldType} {rm : Room} {w : gW} {cl sl pc : Nat} {lv : List (Nat × gV)} {st : List gV} {tab : gTab}
theorem gOne {G : gG} {w : gW} {H : Heap} (hRp : gRep G w H) {a : Nat} {e : gE} (hw : w.1 a = some e) : va_P G.1 vwCl [(a, gConv G.2.1 e)] H := fun j q hq => by
  cases j with
  | zero => cases hq; exact (hRp.2 a _ hw).2
  | succ j => cases hq
theorem Wx.iald (ok : gOk X cc own nL rt rm) (hd : gDec tab cc) (i : Nat) (hi : tab[i]? = some (pc, .iaload, 1)) {r : Option Nat} {j : Int32} {ρ : Type} {f : Int32 → Option ρ} {q : ρ} (h : (gLI r j w).bind f = some q) (kk : ∀ v, f v = some q → Wx X w cl sl (pc + 1) lv (.inl v :: st)) : Wx X w cl sl pc lv (.inl j :: .inr (.inr r) :: st) := by
  obtain ⟨v, h1, h2⟩ := gob h
  have kk := kk v h2
  obtain ⟨⟨p, l, e, R, s, m, args, below, meth, c⟩, G, n', Q⟩ := X
  obtain ⟨hx, hb, hml, hn, hown, hts, hK, hlk, hR, hrt⟩ := ok
  obtain ⟨a, n, g, rfl, hw, hin, rfl⟩ := gLI_some h1
  intro H locs ls hRp hS hl
  exact va_iald (D := G.1) (cA := G.2.1 .int) hx hb hK.va (gOne hRp hw) 0 0 rfl rfl hin (hd.at hi) (kk H locs ls hRp hS hl)
theorem Wx.lald (ok : gOk X cc own nL rt rm) (hd : gDec tab cc) (i : Nat) (hi : tab[i]? = some (pc, .laload, 1)) {r : Option Nat} {j : Int32} {ρ : Type} {f : Int64 → Option ρ} {q : ρ} (h : (gLL r j w).bind f = some q) (kk : ∀ v, f v = some q → Wx X w cl sl (pc + 1) lv (.inr (.inl v) :: st)) : Wx X w cl sl pc lv (.inl j :: .inr (.inr r) :: st) := by
  obtain ⟨v, h1, h2⟩ := gob h
  have kk := kk v h2
  obtain ⟨⟨p, l, e, R, s, m, args, below, meth, c⟩, G, n', Q⟩ := X
  obtain ⟨hx, hb, hml, hn, hown, hts, hK, hlk, hR, hrt⟩ := ok
  obtain ⟨a, n, g, rfl, hw, hin, rfl⟩ := gLL_some h1
  intro H locs ls hRp hS hl
  exact va_lald (D := G.1) (cA := G.2.1 .long) hx hb hK.va (gOne hRp hw) 0 1 rfl rfl hin (hd.at hi) (kk H locs ls hRp hS hl)
theorem Wx.aald (ok : gOk X cc own nL rt rm) (hd : gDec tab cc) (i : Nat) (hi : tab[i]? = some (pc, .aaload, 1)) {ci : Nat} (hci : ci = 2 ∨ ci = 0 ∨ ci = 4) {r : Option Nat} {j : Int32} {ρ : Type} {f : Option Nat → Option ρ} {q : ρ} (h : (gLR ci r j w).bind f = some q) (kk : ∀ v, f v = some q → Wx X w cl sl (pc + 1) lv (.inr (.inr v) :: st)) : Wx X w cl sl pc lv (.inl j :: .inr (.inr r) :: st) := by
  obtain ⟨v, h1, h2⟩ := gob h
  have kk := kk v h2
  obtain ⟨⟨p, l, e, R, s, m, args, below, meth, c⟩, G, n', Q⟩ := X
  obtain ⟨hx, hb, hml, hn, hown, hts, hK, hlk, hR, hrt⟩ := ok
  obtain ⟨a, n, g, rfl, hw, hin, rfl⟩ := gLR_some h1
  obtain ⟨t0, ht0⟩ := gTy_at G.2.1 hci
  intro H locs ls hRp hS hl
  exact va_aldq (D := G.1) hx hb hK.va (gOne hRp hw) 0 t0 rfl ht0 hin (hd.at hi) (kk H locs ls hRp hS hl)
theorem Wx.alen (ok : gOk X cc own nL rt rm) (hd : gDec tab cc) (i : Nat) (hi : tab[i]? = some (pc, .arraylength, 1)) {r : Option Nat} {ρ : Type} {f : Int32 → Option ρ} {q : ρ} (h : (gLen r w).bind f = some q) (kk : ∀ v, f v = some q → Wx X w cl sl (pc + 1) lv (.inl v :: st)) : Wx X w cl sl pc lv (.inr (.inr r) :: st) := by
  obtain ⟨v, h1, h2⟩ := gob h
  have kk := kk v h2
  obtain ⟨⟨p, l, e, R, s, m, args, below, meth, c⟩, G, n', Q⟩ := X
  obtain ⟨hx, hb, hml, hn, hown, hts, hK, hlk, hR, hrt⟩ := ok
  obtain ⟨a, n, g, rfl, hw, rfl⟩ := gLen_some h1
  intro H locs ls hRp hS hl
  exact va_alen (D := G.1) (cA := G.2.1 .int) hx hb hK.va (gOne hRp hw) 0 0 rfl rfl rfl (hd.at hi) (kk H locs ls hRp hS hl)
theorem Wx.iast (ok : gOk X cc own nL rt rm) (hd : gDec tab cc) (i : Nat) (hi : tab[i]? = some (pc, .iastore, 1)) {r : Option Nat} {j x : Int32} {ρ : Type} {f : gW → Option ρ} {q : ρ} (h : (gSI r j x w).bind f = some q) (kk : ∀ w1, f w1 = some q → Wx X w1 cl sl (pc + 1) lv st) : Wx X w cl sl pc lv (.inl x :: .inl j :: .inr (.inr r) :: st) := by
  obtain ⟨v, h1, h2⟩ := gob h
  have kk := kk v h2
  obtain ⟨⟨p, l, e, R, s, m, args, below, meth, c⟩, G, n', Q⟩ := X
  obtain ⟨hx, hb, hml, hn, hown, hts, hK, hlk, hR, hrt⟩ := ok
  obtain ⟨a, n, g, rfl, hw, hin, rfl⟩ := gSI_some h1
  intro H locs ls hRp hS hl
  refine W.iast hx hb (hRp.2 a _ hw).2 ((hK.va.2 0 _ rfl).1 n (fun j => .int (g j))) (fun q => by cases q) (by show ¬ (j < 0 ∨ (arrV _ _ _).slots.size ≤ _); rw [arrV_size]; exact hin) rfl rfl (hd.at hi) fun H1 e z oq => ?_
  refine kk H1 _ ls (hRp.up hw z ?_ oq) (hS.put z oq (hRp.2 a _ hw).1) hl
  show H1[a]? = some (vp_cell _ _)
  rw [e]
  rw [vp_cell_i, arrV_store]
  congr 1
  show arrV (G.2.1 .int) n (updV (fun j => Value.int (g j)) j.toNatClampNeg (Value.int x)) = arrV (G.2.1 .int) n (fun j' => Value.int (upd g j.toNatClampNeg x j'))
  congr 1
  funext q
  by_cases hq : q = j.toNatClampNeg
  · subst hq
    simp [updV, upd]
  · simp [updV, upd, hq]
theorem Wx.last (ok : gOk X cc own nL rt rm) (hd : gDec tab cc) (i : Nat) (hi : tab[i]? = some (pc, .lastore, 1)) {r : Option Nat} {j : Int32} {x : Int64} {ρ : Type} {f : gW → Option ρ} {q : ρ} (h : (gSL r j x w).bind f = some q) (kk : ∀ w1, f w1 = some q → Wx X w1 cl sl (pc + 1) lv st) : Wx X w cl sl pc lv (.inr (.inl x) :: .inl j :: .inr (.inr r) :: st) := by
  obtain ⟨v, h1, h2⟩ := gob h
  have kk := kk v h2
  obtain ⟨⟨p, l, e, R, s, m, args, below, meth, c⟩, G, n', Q⟩ := X
  obtain ⟨hx, hb, hml, hn, hown, hts, hK, hlk, hR, hrt⟩ := ok
  obtain ⟨a, n, g, rfl, hw, hin, rfl⟩ := gSL_some h1
  intro H locs ls hRp hS hl
  refine W.last hx hb (hRp.2 a _ hw).2 ((hK.va.2 1 _ rfl).1 n (fun j => .long (g j))) (fun q => by cases q) (by show ¬ (j < 0 ∨ (arrV _ _ _).slots.size ≤ _); rw [arrV_size]; exact hin) rfl rfl (hd.at hi) fun H1 e z oq => ?_
  refine kk H1 _ ls (hRp.up hw z ?_ oq) (hS.put z oq (hRp.2 a _ hw).1) hl
  show H1[a]? = some (vp_cell _ _)
  rw [e]
  rw [vp_cell_l, arrV_store]
  congr 1
  show arrV (G.2.1 .long) n (updV (fun j => Value.long (g j)) j.toNatClampNeg (Value.long x)) = arrV (G.2.1 .long) n (fun j' => Value.long (vp_updL g j.toNatClampNeg x j'))
  congr 1
  funext q
  by_cases hq : q = j.toNatClampNeg
  · subst hq
    simp [updV, vp_updL]
  · simp [updV, vp_updL, hq]
theorem Wx.aast (ok : gOk X cc own nL rt rm) (hd : gDec tab cc) (i : Nat) (hi : tab[i]? = some (pc, .aastore, 1)) {ci : Nat} (hci : ci = 2 ∨ ci = 0 ∨ ci = 4) {r v : Option Nat} {j : Int32} {ρ : Type} {f : gW → Option ρ} {q : ρ} (h : (gSR ci r j v w).bind f = some q) (kk : ∀ w1, f w1 = some q → Wx X w1 cl sl (pc + 1) lv st) : Wx X w cl sl pc lv (.inr (.inr v) :: .inl j :: .inr (.inr r) :: st) := by
  obtain ⟨v', h1, h2⟩ := gob h
  have kk := kk v' h2
  obtain ⟨⟨p, l, e, R, s, m, args, below, meth, c⟩, G, n', Q⟩ := X
  obtain ⟨hx, hb, hml, hn, hown, hts, hK, hlk, hR, hrt⟩ := ok
  obtain ⟨a, n, b, g, fs, rfl, hw, hin, rfl, hwb, rfl⟩ := gSR_some h1
  obtain ⟨t0, ht0⟩ := gTy_at G.2.1 hci
  intro H locs ls hRp hS hl
  have hlt : j.toNatClampNeg < n := Nat.not_le.mp fun q => hin (Or.inr q)
  have h0 : ¬ j < 0 := fun q => hin (Or.inl q)
  obtain ⟨r', hr', cellV, g1, g2, g3, -⟩ := (hRp.2 b _ hwb).2
  have hcls := (hK.va.1 ci r' hr').2
  have hnm : r'.1 = gName ci := by
    unfold gName
    rw [List.getD_eq_getElem?_getD, show vwCl[ci]? = some r' from hr']
    rfl
  obtain ⟨kA, comp, k1, k2, k3, -⟩ := (hK.va.2 t0 _ ht0).2
  rw [← hnm] at k3
  have hcomp : comp = G.1.1 ci := Option.some.inj (k3.symm.trans hcls.1)
  subst hcomp
  obtain ⟨kC, hkC, -⟩ := hcls.2
  refine W.aast hx hb (hRp.2 a _ hw).2 (fun q h => by cases h) (fun h => by cases h) k1 k2 rfl hkC ⟨h0, by show _ < (arrV _ _ _).slots.size; rw [arrV_size]; exact hlt⟩ g1 (fun q h => by rw [g3] at h; cases h) (by rw [g2]; exact hkC) (by rw [g2]; exact va_assign hcls) rfl rfl (hd.at hi) fun H1 e z oq => ?_
  refine kk H1 _ ls (hRp.up hw z ?_ oq) (hS.put z oq (hRp.2 a _ hw).1) hl
  show H1[a]? = some (vp_cell _ _)
  rw [e]
  rw [vp_cell_q, arrV_store]
  congr 1
  show arrV (G.2.1 (.object (gName ci))) n (updV (fun j => va_rf (g j)) j.toNatClampNeg (Value.ref b)) = arrV (G.2.1 (.object (gName ci))) n (fun j' => va_rf (va_up g j.toNatClampNeg (some b) j'))
  congr 1
  funext q
  by_cases hq : q = j.toNatClampNeg
  · subst hq
    simp [updV, va_up, va_rf]
  · simp [updV, va_up, hq]
/-- the static row of units: its reference, then a place of it -/
theorem Wx.units (ok : gOk X cc own nL rt rm) (hd : gDec tab cc) (i : Nat) {idx : Nat} {host : String} (hi : tab[i]? = some (pc, .getstatic idx, 3)) (hlk : Cond.fieldLinkNest own idx "GroupTowers" "UNITS" "[I" host ∈ lw_tbl) (kk : ∀ t : Nat, X.2.1.2.2.2 = t → Wx X w cl sl (pc + 3) lv (.inr (.inr (some t)) :: st)) : Wx X w cl sl pc lv st := by
  have kk := kk _ rfl
  obtain ⟨⟨p, l, e, R, s, m, args, below, meth, c⟩, G, n', Q⟩ := X
  obtain ⟨hx, hb, hml, hn, hown, hts, hK, -, hR, hrt⟩ := ok
  intro H locs ls hRp hS hl
  exact va_getsN (C := "GroupTowers") (ref := "GroupTowers") (host := host) hx hb hK.2.2.1 hS hown (va_Nw.use rfl (hK.1.2.1 _ _ _ _ _ _ hlk)) (fun _ h => h) (hd.at hi) (kk H locs ls hRp hS hl)
theorem Wx.unit (ok : gOk X cc own nL rt rm) (hd : gDec tab cc) (i : Nat) (hi : tab[i]? = some (pc, .iaload, 1)) {t : Nat} (ht : X.2.1.2.2.2 = t) {j : Int32} {ρ : Type} {f : Int32 → Option ρ} {q : ρ} (h : (gUn j).bind f = some q) (kk : ∀ v, f v = some q → Wx X w cl sl (pc + 1) lv (.inl v :: st)) : Wx X w cl sl pc lv (.inl j :: .inr (.inr (some t)) :: st) := by
  obtain ⟨v, h1, h2⟩ := gob h
  have kk := kk v h2
  obtain ⟨⟨p, l, e, R, s, m, args, below, meth, c⟩, G, n', Q⟩ := X
  obtain ⟨hx, hb, hml, hn, hown, hts, hK, hlk, hR, hrt⟩ := ok
  subst ht
  unfold gUn at h1
  by_cases hc : j < 0 ∨ 16 ≤ j.toNatClampNeg
  · rw [if_pos hc] at h1; cases h1
  · rw [if_neg hc] at h1; cases h1
    intro H locs ls hRp hS hl
    exact va_ti hx hb hK.2.2.2.1 hS hc rfl (hd.at hi) (kk H locs ls hRp hS hl)
end WA
