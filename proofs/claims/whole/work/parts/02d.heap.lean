/-! THE ROWS OF MY WALK THAT READ AND WRITE THE WORLD -/
theorem gK.va {G : gG} {s : State} (h : gK G s) : va_K G.1 vwCl (gTys G.2.1) s := h.2.1
theorem gF_some {ci k : Nat} {r : Option Nat} {w : gW} {v : Value} (h : gF ci k r w = some v) : ∃ (a : Nat) (fs : List Value), r = some a ∧ w.1 a = some (.inr (.inr (.inr (ci, fs)))) ∧ fs[k]? = some v := by
  unfold gF at h
  split at h
  · cases h
  · split at h
    · rename_i a _ c fs hw
      cases hc : (c == ci) with
      | false => rw [hc] at h; cases h
      | true =>
        rw [hc] at h
        have e1 : c = ci := by simpa using hc
        subst e1
        exact ⟨a, fs, rfl, hw, h⟩
    · cases h
theorem gFI_some {ci k : Nat} {r : Option Nat} {w : gW} {x : Int32} (h : gFI ci k r w = some x) : gF ci k r w = some (.int x) := by
  unfold gFI at h
  split at h
  · rename_i y hy; cases h; exact hy
  · cases h
theorem gFL_some {ci k : Nat} {r : Option Nat} {w : gW} {x : Int64} (h : gFL ci k r w = some x) : gF ci k r w = some (.long x) := by
  unfold gFL at h
  split at h
  · rename_i y hy; cases h; exact hy
  · cases h
theorem gFR_some {ci k : Nat} {r : Option Nat} {w : gW} {x : Option Nat} (h : gFR ci k r w = some x) : gF ci k r w = some (va_rf x) := by
  unfold gFR at h
  split at h
  · rename_i hy; cases h; exact hy
  · rename_i a hy; cases h; exact hy
  · cases h
theorem gO_some {ci : Nat} {r : Option Nat} {w : gW} {a : Nat} (h : gO ci r w = some a) : r = some a ∧ ∃ fs, w.1 a = some (.inr (.inr (.inr (ci, fs)))) := by
  unfold gO at h
  split at h
  · cases h
  · split at h
    · rename_i b c fs hw
      obtain ⟨h1, h2⟩ := gBif h
      have e1 : c = ci := by simpa using h1
      subst e1; subst h2
      exact ⟨rfl, fs, hw⟩
    · cases h
section WY
variable {X : gX} {cc : ByteArray} {own : String} {nL : Nat} {rt : Option FieldType} {rm : Room} {w : gW} {cl sl pc : Nat} {lv : List (Nat × gV)} {st : List gV} {tab : gTab}
set_option maxHeartbeats 1000000 in
theorem Wx.get (ok : gOk X cc own nL rt rm) (hd : gDec tab cc) (i : Nat) {idx ci k : Nat} {ft : FieldType} {pf : Nat} (hi : tab[i]? = some (pc, .getfield idx, 3)) (lk : gLk own idx ci k ft pf) {r : Option Nat} {v : gV} (h : gF ci k r w = some (gTo v)) (kk : Wx X w cl sl (pc + 3) lv (v :: st)) : Wx X w cl sl pc lv (.inr (.inr r) :: st) := by
  obtain ⟨⟨p, l, e, R, s, m, args, below, meth, c⟩, G, n', Q⟩ := X
  obtain ⟨hx, hb, hml, hn, hown, hts, hK, hlk, hR, hrt⟩ := ok
  obtain ⟨a, fs, rfl, hw, hv⟩ := gF_some h
  obtain ⟨C, T, N, ty, ⟨hc, hin, hty, hnm⟩, hk, -, -, -, hlink⟩ := lk
  intro H locs ls hRp hS hl
  have hP : va_P G.1 vwCl [(a, .inr (ci, fs))] H := fun j q hq => by
    cases j with
    | zero => cases hq; exact (hRp.2 a _ hw).2
    | succ j => cases hq
  exact va_get (D := G.1) (ci := ci) (C := C) (T := T) (N := N) (ref := (T k).1) (v := gTo v) hx hb hts hin hown hK.va hP 0 rfl hc k hk (hts _ (gT hlink rfl)) (fun _ h9 => h9) hv (hd.at hi) (kk H locs ls hRp hS hl)
theorem Wx.getI (ok : gOk X cc own nL rt rm) (hd : gDec tab cc) (i : Nat) {idx ci k : Nat} {ft : FieldType} {pf : Nat} (hi : tab[i]? = some (pc, .getfield idx, 3)) (lk : gLk own idx ci k ft pf) {r : Option Nat} {ρ : Type} {f : Int32 → Option ρ} {q : ρ} (h : (gFI ci k r w).bind f = some q) (kk : ∀ v, f v = some q → Wx X w cl sl (pc + 3) lv (.inl v :: st)) : Wx X w cl sl pc lv (.inr (.inr r) :: st) := by
  obtain ⟨v, h1, h2⟩ := gob h
  exact Wx.get (v := .inl v) ok hd i hi lk (gFI_some h1) (kk v h2)
theorem Wx.getL (ok : gOk X cc own nL rt rm) (hd : gDec tab cc) (i : Nat) {idx ci k : Nat} {ft : FieldType} {pf : Nat} (hi : tab[i]? = some (pc, .getfield idx, 3)) (lk : gLk own idx ci k ft pf) {r : Option Nat} {ρ : Type} {f : Int64 → Option ρ} {q : ρ} (h : (gFL ci k r w).bind f = some q) (kk : ∀ v, f v = some q → Wx X w cl sl (pc + 3) lv (.inr (.inl v) :: st)) : Wx X w cl sl pc lv (.inr (.inr r) :: st) := by
  obtain ⟨v, h1, h2⟩ := gob h
  exact Wx.get (v := .inr (.inl v)) ok hd i hi lk (gFL_some h1) (kk v h2)
theorem Wx.getR (ok : gOk X cc own nL rt rm) (hd : gDec tab cc) (i : Nat) {idx ci k : Nat} {ft : FieldType} {pf : Nat} (hi : tab[i]? = some (pc, .getfield idx, 3)) (lk : gLk own idx ci k ft pf) {r : Option Nat} {ρ : Type} {f : Option Nat → Option ρ} {q : ρ} (h : (gFR ci k r w).bind f = some q) (kk : ∀ v, f v = some q → Wx X w cl sl (pc + 3) lv (.inr (.inr v) :: st)) : Wx X w cl sl pc lv (.inr (.inr r) :: st) := by
  obtain ⟨v, h1, h2⟩ := gob h
  exact Wx.get (v := .inr (.inr v)) ok hd i hi lk (gFR_some h1) (kk v h2)
theorem gP_some {ci k : Nat} {r : Option Nat} {v : gV} {w w1 : gW} (h : gP ci k r v w = some w1) : ∃ (a : Nat) (fs : List Value), r = some a ∧ w.1 a = some (.inr (.inr (.inr (ci, fs)))) ∧ k < fs.length ∧ w1 = gUp w a (.inr (.inr (.inr (ci, fs.set k (gTo v))))) := by
  unfold gP at h
  split at h
  · cases h
  · split at h
    · rename_i a _ c fs hw
      obtain ⟨h1, h2⟩ := gBif h
      have h3 := (Bool.and_eq_true _ _).mp h1
      have e1 : c = ci := by simpa using h3.1
      subst e1
      exact ⟨a, fs, rfl, hw, gNlt h3.2, h2.symm⟩
    · cases h
set_option maxHeartbeats 2000000 in
theorem Wx.put (ok : gOk X cc own nL rt rm) (hd : gDec tab cc) (i : Nat) {idx ci k : Nat} {ft : FieldType} (hi : tab[i]? = some (pc, .putfield idx, 3)) (lk : gLk own idx ci k ft 1) {r : Option Nat} {v : gV} (hf : gFit ft v) {ρ : Type} {f : gW → Option ρ} {q : ρ} (h : (gP ci k r v w).bind f = some q) (kk : ∀ w1, f w1 = some q → Wx X w1 cl sl (pc + 3) lv st) : Wx X w cl sl pc lv (v :: .inr (.inr r) :: st) := by
  obtain ⟨w1, h1, h2⟩ := gob h
  have kk := kk w1 h2
  obtain ⟨⟨p, l, e, R, s, m, args, below, meth, c⟩, G, n', Q⟩ := X
  obtain ⟨hx, hb, hml, hn, hown, hts, hK, hlk, hR, hrt⟩ := ok
  obtain ⟨a, fs, rfl, hw, hkl, rfl⟩ := gP_some h1
  obtain ⟨C, T, N, ty, ⟨hc, hin, hty, hnm⟩, hk, hft, hfin, -, hlink⟩ := lk
  have hfin := hfin rfl
  intro H locs ls hRp hS hl
  have hap := va_apart (own := own) hts hin ty hty hnm hK.va hc
  obtain ⟨r', h1', cell, q1, q2, q3, q4⟩ := (hRp.2 a _ hw).2
  have hr : r' = (C, T, N) := Option.some.inj (h1'.symm.trans hc)
  subst hr
  obtain ⟨hSl, hfc, kC, hkC, hkind⟩ := hK.va.1 ci _ hc
  obtain ⟨cf, kf, fi, f', hi', hsl⟩ := hSl k hk
  have hlay := hts _ (hin _ (u_in_lay hk))
  unfold u_lay at hlay
  rw [if_neg (by rw [hfin]; decide)] at hlay
  have hst := (u_facts hfc hkC (u_lays hts hin hk) hi').1
  have h6 := u_store (v := gTo v) hfc hkC hkind hlay hi' ((hty k hk).trans (congrArg some hft)) hf.1 hf.2
  refine W.putK hx hb (f := f') (ref := (T k).1) ⟨hown, hts _ (gT hlink rfl), ⟨_, _, _, hi'⟩, hst⟩ (by rw [q2]; exact h6) q1 q3 (by rw [hsl]; exact k2_hasslot (q4 k hk)) rfl rfl (hd.at hi) fun H' e1 e2 e3 => ?_
  rw [hsl] at e1 ⊢
  exact kk H' _ ls (hRp.up hw e2 ⟨_, hc, t_OB.to (V := updV (vp_V fs) k (gTo v)) ⟨_, e1, q2, q3, t_set q4 hap hk _⟩ (fun j _ => vp_updV_set hkl _ j)⟩ e3) (hS.put e2 e3 (hRp.2 a _ hw).1) hl
set_option maxHeartbeats 2000000 in
theorem Wx.putF (ok : gOk X cc own nL rt rm) (hd : gDec tab cc) (i : Nat) {idx ci k : Nat} {ft : FieldType} (hi : tab[i]? = some (pc, .putfield idx, 3)) (lk : gLk own idx ci k ft 2) (hnm0 : X.1.2.2.2.2.2.2.2.2.1.name = "<init>") {r : Option Nat} {v : gV} (hf : gFit ft v) {ρ : Type} {f : gW → Option ρ} {q : ρ} (h : (gP ci k r v w).bind f = some q) (kk : ∀ w1, f w1 = some q → Wx X w1 cl sl (pc + 3) lv st) : Wx X w cl sl pc lv (v :: .inr (.inr r) :: st) := by
  obtain ⟨w1, h1, h2⟩ := gob h
  have kk := kk w1 h2
  obtain ⟨⟨p, l, e, R, s, m, args, below, meth, c⟩, G, n', Q⟩ := X
  obtain ⟨hx, hb, hml, hn, hown, hts, hK, hlk, hR, hrt⟩ := ok
  obtain ⟨a, fs, rfl, hw, hkl, rfl⟩ := gP_some h1
  obtain ⟨C, T, N, ty, ⟨hc, hin, hty, hnm⟩, hk, hft, -, hdecl, hlink⟩ := lk
  obtain ⟨hfin, hdecl⟩ := hdecl rfl
  intro H locs ls hRp hS hl
  have hap := va_apart (own := own) hts hin ty hty hnm hK.va hc
  obtain ⟨r', h1', cell, q1, q2, q3, q4⟩ := (hRp.2 a _ hw).2
  have hr : r' = (C, T, N) := Option.some.inj (h1'.symm.trans hc)
  subst hr
  obtain ⟨hSl, hfc, kC, hkC, hkind⟩ := hK.va.1 ci _ hc
  obtain ⟨cf, kf, fi, f', hi', hsl⟩ := hSl k hk
  have hlay := hts _ (hin _ (u_in_lay hk))
  unfold u_lay at hlay
  rw [if_pos hfin] at hlay
  have hst := (u_facts hfc hkC (u_lays hts hin hk) hi').1
  have hcf : m.cls = cf := by
    obtain ⟨_, _, c', _, _, _, -, -, hf', -, -, -, hown2, -⟩ := Cond.laysFinal_spec hlay
    have e1 : c' = cf := by have := hi'.symm.trans hf'; simp at this; exact this.1.symm
    rw [hdecl] at hown2
    rw [← e1]; exact Option.some.inj (hown.symm.trans hown2)
  have h6 := u_fits (v := gTo v) hfc hkC hkind (Or.inr hlay) hi' ((hty k hk).trans (congrArg some hft)) hf.1 hf.2
  refine W.putFinK hx hb hown (ref := (T k).1) (hts _ (gT hlink rfl)) hi' hst hcf hnm0 (by rw [q2]; exact h6) q1 q3 (by rw [hsl]; exact k2_hasslot (q4 k hk)) rfl rfl (hd.at hi) fun H' e1 e2 e3 => ?_
  rw [hsl] at e1 ⊢
  exact kk H' _ ls (hRp.up hw e2 ⟨_, hc, t_OB.to (V := updV (vp_V fs) k (gTo v)) ⟨_, e1, q2, q3, t_set q4 hap hk _⟩ (fun j _ => vp_updV_set hkl _ j)⟩ e3) (hS.put e2 e3 (hRp.2 a _ hw).1) hl
end WY
