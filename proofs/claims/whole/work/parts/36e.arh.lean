section ARH
variable {F x m n a j : Nat} {C C' : yC} {w w1 w2 : gW} {O O' O2 : zO} {S S' S1 : oSt} {X : zS} {Z Z' : zS} {f : Int → Int} {gn gn' : Nat → Nat} {gT gT' : Nat → Nat → Nat → Nat} {gc gc' ac : Nat} {z y u : Int}
theorem cRef_n {A a k : Nat} {v : Option Nat} (h : a ≠ A ∨ k ≠ 2) : (cRef C A 2 v).2 a k = C.2 a k := if_neg (by omega)
theorem aSl_ref {A a t b s : Nat} {v : Option Nat} (hA : C.1 A = some (0, 0)) : aSl (cRef C A 2 v) a t b s ↔ aSl C a t b s := by
  refine ⟨fun ⟨h1, h2, h3, h4, h5, h6, h7⟩ => ?_, fun ⟨h1, h2, h3, h4, h5, h6, h7⟩ => ?_⟩
  · have nt : t ≠ A := kd_ne (C := C) h3 hA (by decide)
    rw [cRef_n (Or.inr (by decide))] at h2
    rw [cRef_n (Or.inl nt)] at h5 h7
    exact ⟨h1, h2, h3, h4, h5, h6, h7⟩
  · have nt : t ≠ A := kd_ne (C := C) h3 hA (by decide)
    refine ⟨h1, ?_, h3, h4, ?_, h6, ?_⟩
    · rw [cRef_n (Or.inr (by decide))]; exact h2
    · rw [cRef_n (Or.inl nt)]; exact h5
    · rw [cRef_n (Or.inl nt)]; exact h7
theorem LI.ref {A : Nat} {v : Option Nat} (hl : LI C O S Z gn gT gc ac) (h6 : ac < 6) (hq : oQ S 1 ac = some A) : LI (cRef C A 2 v) O S Z gn gT gc ac := by
  obtain ⟨cc, g, ⟨a1, a2⟩, a3, s, l⟩ := hl
  obtain ⟨t0, b0, s0, sl0⟩ := a1 ac A h6 hq
  have hA := sl0.1
  refine ⟨cc, g, ⟨fun k a hk ha => ?_, fun k k' a a' t b s t' b' s' hk hk' hne ha ha' hs hs' => ?_⟩, fun j hj => ?_, s, l⟩
  · obtain ⟨t, b, s, e⟩ := a1 k a hk ha
    exact ⟨t, b, s, (aSl_ref hA).mpr e⟩
  · exact a2 k k' a a' t b s t' b' s' hk hk' hne ha ha' ((aSl_ref hA).mp hs) ((aSl_ref hA).mp hs')
  · obtain ⟨A', g', t, b, s', p, r, gi, M, hp, h1, h2, h3, h4, h5, h6', h7, h8, h9⟩ := a3 j hj
    have slj : aSl C A' t b s' := ⟨h5.1.1, h5.1.2.2.2.1, h5.1.2.2.1, h6'⟩
    have nA : A' ≠ A := (a2 j ac A' A t b s' t0 b0 s0 (by omega) h6 (by omega) h2 hq slj sl0).1
    obtain ⟨-, -, -, k6⟩ := (aSl_ref (v := v) hA).mpr slj
    obtain ⟨⟨y1, y2, y3, y4, y5⟩, y6⟩ := h5
    refine ⟨A', g', t, b, s', p, r, gi, M, hp, h1, h2, h3, h4, ⟨⟨y1, y2, y3, ?_, ?_⟩, y6⟩, k6, h7, h8, h9⟩
    · rw [cRef_n (Or.inl nA)]; exact y4
    · rw [cRef_n (Or.inl nA)]; exact y5
theorem LI.mkMod {A g t b s p r gi : Nat} (hl : LI C O S Z gn gT gc ac) (h6 : ac < 6) (hq : oQ S 1 ac = some A) (sl : aSl C A t b s) (hg : gi < gc) (h4 : oQ S 0 gi = some g) (rg : C.2 A 2 = some g) (hn : gn gi ≤ 8) (hp : p = 2 ∨ p = 3 ∨ p = 5) (hr : 1 ≤ r ∧ r ≤ 2) (hO : ∀ b, b ≠ A → O2 b = O b) (hI : zI (O2 A) 3 = p ∧ zI (O2 A) 4 = r ∧ zI (O2 A) 5 = (p ^ r : Nat) ∧ zI (O2 A) 6 = 0) (hM : ∀ x i j : Nat, x < gn gi → i < 2 → j < 2 → zA (O2 A) 0 ((((x : Int) * 2 + i) * 2) + j) = unM r x i j) (f1 : ∀ x i j : Nat, x < 8 → i < 2 → j < 2 → f (32 * (ac : Int) + 4 * x + 2 * i + j) = unM r x i j) (f2 : ∀ j : Int, j < 32 * (ac : Int) → f j = zA Z 11 j) : LI C O2 (uI S 4 (nI (ac + 1))) (mNew Z f ac gi p r) gn gT gc (ac + 1) := by
  obtain ⟨⟨c1, ⟨c2, c3⟩, ⟨c4, c5⟩, c6⟩, ⟨g1, g2, g3⟩, a1, a2, s0, l⟩ := hl
  have kA := sl.1
  have G : ∀ k a, k < gc → oQ S 0 k = some a → a ≠ A := fun k a hk ha => kd_ne (g1 k a (Nat.lt_of_lt_of_le hk c1.1) ha) kA (by decide)
  have hA : ∀ k, k < 8 ∨ 11 < k → zA (mNew Z f ac gi p r) k = zA Z k := fun k hk => (if_neg (by omega)).trans ((if_neg (by omega)).trans ((if_neg (by omega)).trans (if_neg (by omega))))
  have h29 : zI (mNew Z f ac gi p r) 29 = -4 := rfl
  have h7 : zI (mNew Z f ac gi p r) 7 = (ac : Int) + 1 := rfl
  have h0 : zI (mNew Z f ac gi p r) 0 = zI Z 0 := rfl
  obtain ⟨⟨ag, e1, e2⟩, e3, -⟩ := g3 gi hg
  have eg : ag = g := Option.some.inj (e1.symm.trans h4)
  subst eg
  have kg := g1 gi ag (Nat.lt_of_lt_of_le hg c1.1) h4
  have hinv : ∃ _ : NeZero p, fInv p := by
    rcases hp with rfl | rfl | rfl
    · exact ⟨inferInstance, fInv2⟩
    · exact ⟨inferInstance, fInv3⟩
    · exact ⟨inferInstance, fInv5⟩
  obtain ⟨ip, hinv⟩ := hinv
  refine ⟨⟨⟨c1.1, by omega⟩, ⟨(oI_n S _ (by decide)).trans c2, oI_s _ _ _⟩, ⟨by rw [h0]; exact c4, by rw [h7]; omega⟩, by rw [h29]; omega⟩, ⟨g1, g2, fun k hk => ?_⟩, a1, fun j hj => ?_, s0.mono cEx.rf rfl (fun b hb => hO b (kd_ne hb kA (by decide))) (hA 4 (by omega)) (hA 5 (by omega)) (hA 6 (by omega)), l⟩
  · obtain ⟨⟨b, e1, e2⟩, e3, e4⟩ := g3 k hk
    refine ⟨⟨b, e1, by rw [hO b (G k b hk e1)]; exact e2⟩, e3.of (hA 1 (by omega)) (hA 2 (by omega)), ?_⟩
    rw [hA 3 (by omega)]; exact e4
  · by_cases c : j = ac
    · subst c
      refine ⟨A, ag, t, b, s, p, r, gi, unM r, ip, hinv, hq, hg, h4, ⟨⟨kA, kg, sl.2.2.1, sl.2.1, rg⟩, by rw [hO ag (G gi ag hg h4)]; exact e2.1, hn, ⟨hI.1, hI.2.1⟩, by omega, hr, fun x i j hx hi hj => ⟨hM x i j hx hi hj, ?_⟩⟩, sl.2.2.2, hI.2.2.1, Or.inl hI.2.2.2, mMd_new e3 hn hp hr h6 f1, by rw [h7]; omega, by rw [h29]; omega, fun t => by rw [h29] at t; omega⟩
      unfold unM
      split <;> omega
    · have hj' : j < ac := by omega
      have j6 : j < 6 := by omega
      refine (a2 j hj').mono2 (D := fun b => b = A) cEx.rf rfl (fun _ _ => rfl) (fun b q hb hD => hO b hD) (fun a' t' b' s' q sl' => ⟨(a1.2 j ac a' A t' b' s' t b s j6 h6 c q hq sl' sl).1, kd_ne sl'.2.2.1 kA (by decide), kd_ne sl'.2.2.2.1 kA (by decide), kd_ne sl'.2.2.2.2.2.1 kA (by decide)⟩) (Nat.le_refl _) (fun _ _ => ⟨rfl, rfl⟩) (fun k b hk hb => ?_) fun p' gi' r' M hp' hg' o => ⟨mMd_kept o.1 hj' f2, by rw [h7]; omega, by rw [h29]; omega, fun t => by rw [h29] at t; omega⟩
      rw [hO b (G k b hk hb)]
      obtain ⟨⟨b', e1, e2⟩, -⟩ := g3 k hk
      have : b' = b := Option.some.inj (e1.symm.trans hb)
      rw [← this]; exact e2.1
theorem w_begL {A g r : Nat} (hF : fF F) (kA : C.1 A = some (0, 0)) (kg : C.1 g = some (2, 0)) (rg : C.2 A 2 = some g) (h7 : zI (O g) 7 = n) (hn : 0 < n ∧ n ≤ 8) (hr : r = 1 ∨ r = 2) : ∀ (d e fu : Nat) (w : gW) (O1 : zO), e + d = n → d < fu → hW C x m w O1 S Z → (∀ b, b ≠ A → O1 b = O b) → (∀ k, k ≠ 6 → zI (O1 A) k = zI (O A) k) → (∀ e' i j : Nat, e' < e → i < 2 → j < 2 → zA (O1 A) 0 ((((e' : Int) * 2 + i) * 2) + j) = unM r e' i j) → (e = 0 ∨ zI (O1 A) 6 = 0) → ∃ (w' : gW) (O2 : zO), mX0_begin_l27 F fu A (Int32.ofInt (r : Nat)) (Int32.ofInt (e : Nat)) w = some w' ∧ hW C x m w' O2 S Z ∧ (∀ b, b ≠ A → O2 b = O b) ∧ (∀ k, k ≠ 6 → zI (O2 A) k = zI (O A) k) ∧ (∀ e' i j : Nat, e' < n → i < 2 → j < 2 → zA (O2 A) 0 ((((e' : Int) * 2 + i) * 2) + j) = unM r e' i j) ∧ zI (O2 A) 6 = 0 := by
  have nga : g ≠ A := kd_ne kg kA (by decide)
  intro d
  induction d with
  | zero =>
    intro e fu w O1 hed hfu hw hO hI hM h6
    obtain ⟨fu, rfl⟩ : ∃ k, fu = k + 1 := ⟨fu - 1, by omega⟩
    have ee : e = n := by omega
    subst ee
    refine ⟨w, O1, ?_, hw, hO, hI, hM, by omega⟩
    show mX0_begin_h27 F (mX0_begin_l27 F fu) A _ _ w = _
    unfold mX0_begin_h27
    have f2 : gFR 0 2 (some A) w = some (some g) := by rw [hw.cFR kA (k := 2) rfl, rg]
    have i7 : gFI 2 7 (some g) w = some (Int32.ofInt (e : Nat)) := by rw [hw.cFI kg (k := 7) rfl, hO g nga, h7]
    rw [f2, Option.bind_some, i7, Option.bind_some, if_pos ((iO_le (by omega)).mpr (Int.le_refl _))]
  | succ d ih =>
    intro e fu w O1 hed hfu hw hO hI hM h6
    obtain ⟨fu, rfl⟩ : ∃ k, fu = k + 1 := ⟨fu - 1, by omega⟩
    have f2 : gFR 0 2 (some A) w = some (some g) := by rw [hw.cFR kA (k := 2) rfl, rg]
    have i7 : gFI 2 7 (some g) w = some (Int32.ofInt (n : Nat)) := by rw [hw.cFI kg (k := 7) rfl, hO g nga, h7]
    obtain ⟨w1, p1, hw1⟩ := w_put (b1 := 1) (b2 := 0) (b3 := 0) (b4 := if r = 1 then 0 else 1) (e := e) (v := Int32.ofInt (e : Nat)) hF hw kA (by omega) rfl
    obtain ⟨w', O2, q1, q2, q3, q4, q5, q6⟩ := ih (e + 1) fu w1 _ (by omega) (by omega) hw1 (fun b hb => by rw [oup_n hb]; exact hO b hb) (fun k hk => by rw [oup_s, ptX_I _ _ _ hk]; exact hI k hk) (fun e' i j h1 h2 h3 => by
      rw [oup_s, ptX_at _ _ _ _ _ h2 h3]
      by_cases c : e' = e
      · rw [if_pos c]
        unfold unM
        rcases (show i = 0 ∨ i = 1 by omega) with rfl | rfl
        · rcases (show j = 0 ∨ j = 1 by omega) with rfl | rfl
          · rfl
          · rfl
        · rcases (show j = 0 ∨ j = 1 by omega) with rfl | rfl
          · rfl
          · rcases hr with rfl | rfl <;> rfl
      · rw [if_neg c]; exact hM e' i j (by omega) h2 h3) (Or.inr (by rw [oup_s, ptX_6]))
    refine ⟨w', O2, ?_, q2, q3, q4, q5, q6⟩
    show mX0_begin_h27 F (mX0_begin_l27 F fu) A _ _ w = _
    unfold mX0_begin_h27 mX0_begin_b55
    rw [f2, Option.bind_some, i7, Option.bind_some, if_neg (fun t => by have := (iO_le (by omega)).mp t; omega), hw.gO kA, Option.bind_some, iO_p1]
    rcases hr with rfl | rfl
    · have p1' : mX0_put F A (Int32.ofInt (e : Nat)) (1 : Int32) (0 : Int32) (0 : Int32) (0 : Int32) w = some w1 := p1
      rw [if_pos (show Int32.ofInt ((1 : Nat) : Int) = 1 from rfl), p1', Option.bind_some]
      exact q1
    · have p1' : mX0_put F A (Int32.ofInt (e : Nat)) (1 : Int32) (0 : Int32) (0 : Int32) (1 : Int32) w = some w1 := p1
      rw [if_neg (show ¬ Int32.ofInt ((2 : Nat) : Int) = 1 by decide), Option.bind_some, p1', Option.bind_some]
      exact q1
end ARH
