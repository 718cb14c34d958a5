/-! HOW MANY STANDARDS: a part twice as large -/
section EXT2
variable {n r : Nat} {T : Nat → Nat → Nat} {M : Nat → Nat → Nat → Int}
theorem Ctl_step {p m d t : Nat} [NeZero p] (G : zGrp n T) (hM : sdM (p := p) n r T M) (hr : r = 1 ∨ r = 2) {K : Nat → Prop} (hK : zSbg n T K) (ht : t < n) (hKt : ¬ K t) {gk : Nat → Nat} (hg : ∀ e, e < d → K (gk e)) (hgen : ∀ x, K x → zGen T (zRow d gk) x) (hK' : ∀ x y, (K x ∨ ∃ k, K k ∧ x = T k t) → (K y ∨ ∃ k, K k ∧ y = T k t) → (K (T x y) ∨ ∃ k, K k ∧ T x y = T k t)) (hC : Ctl p n r T M K m) : Ctl p n r T M (fun x => K x ∨ ∃ k, K k ∧ x = T k t) (m + (d + 1) * r) := by
  classical
  have hr0 : 0 < r := by omega
  obtain ⟨s, φ, s1, s2, φ1, hom⟩ := hC
  have lt : ∀ k, K k → k < n := hK.2.1
  have div : ∀ k a, K k → K (T a k) → a < n → K a := fun k a hk hak ha => by
    obtain ⟨b, hb, e1, -⟩ := hK.inv G hk
    have := hK.2.2 _ b hak hb
    rw [G.2.2.2.1 a k b ha (lt k hk) (lt b hb), e1, (G.2.2.1 a ha).2] at this
    exact this
  have tK : ∀ k, K k → ∃ c, K c ∧ T t k = T c t := fun k hk => by
    rcases hK' t k (Or.inr ⟨0, hK.1, (G.2.2.1 t ht).1.symm⟩) (Or.inl hk) with h | h
    · exact (hKt (div k t hk h ht)).elim
    · exact h
  have ttK : K (T t t) := by
    rcases hK' t t (Or.inr ⟨0, hK.1, (G.2.2.1 t ht).1.symm⟩) (Or.inr ⟨0, hK.1, (G.2.2.1 t ht).1.symm⟩) with h | ⟨k, hk, e⟩
    · exact h
    · exact (hKt (by rw [G.canR ht ht (lt k hk) e]; exact hk)).elim
  let cj : Nat → Nat := fun k => if h : ∃ c, K c ∧ T t k = T c t then Classical.choose h else 0
  have hcj : ∀ k, K k → K (cj k) ∧ T t k = T (cj k) t := fun k hk => by
    have := tK k hk
    have e : cj k = Classical.choose this := dif_pos this
    rw [e]; exact Classical.choose_spec this
  let kO : Nat → Nat := fun x => if h : ∃ k, K k ∧ x = T k t then Classical.choose h else 0
  have hkO : ∀ k, K k → kO (T k t) = k := fun k hk => by
    have : ∃ k', K k' ∧ T k t = T k' t := ⟨k, hk, rfl⟩
    have e : kO (T k t) = Classical.choose this := dif_pos this
    rw [e]
    have h2 := Classical.choose_spec this
    exact G.canR ht (lt _ h2.1) (lt k hk) h2.2.symm
  have nK : ∀ k, K k → ¬ K (T k t) := fun k hk h => by
    obtain ⟨b, hb, -, e2⟩ := hK.inv G hk
    have := hK.2.2 b _ hb h
    rw [← G.2.2.2.1 b k t (lt b hb) (lt k hk) ht, e2, (G.2.2.1 t ht).1] at this
    exact hKt this
  let s' : fV p → Nat → Nat → Fin p := fun f x => if K x then s f x else (eM n r T M f (s f (kO x), kO x) (fun _ => 0, t)).1
  have s'K : ∀ f x, K x → s' f x = s f x := fun f x hx => if_pos hx
  have s't : ∀ f k, K k → s' f (T k t) = (eM n r T M f (s f k, k) (fun _ => 0, t)).1 := fun f k hk => by
    have e : s' f (T k t) = (eM n r T M f (s f (kO (T k t)), kO (T k t)) (fun _ => 0, t)).1 := if_neg (nK k hk)
    rw [e, hkO k hk]
  let ψ : Nat → Nat → fV p → Fin p := fun g i f => (eM n r T M f (fun _ => 0, t) (s f g, g)).1 i - (eM n r T M f (s f (cj g), cj g) (fun _ => 0, t)).1 i
  let χ : Nat → fV p → Fin p := fun i f => (eM n r T M f (fun _ => 0, t) (fun _ => 0, t)).1 i - s f (T t t) i
  have zl : ∀ (u v : fV p) (c : Fin p) (i : Nat), (fun (_ : fV p) (_ : Nat) => (0 : Fin p)) (fAx u c v) i = (fun (_ : fV p) (_ : Nat) => (0 : Fin p)) u i + c * (fun (_ : fV p) (_ : Nat) => (0 : Fin p)) v i := fun u v c i => by show (0 : Fin p) = 0 + c * 0; grind
  refine ⟨s', fun j f => if j < m then φ j f else if j < m + d * r then ψ (gk ((j - m) / r)) ((j - m) % r) f else χ (j - m - d * r) f, fun u v c x i => ?_, fun f x i hi => ?_, fun j u v c => ?_, ?_⟩
  · by_cases q : K x
    · rw [s'K _ x q, s'K _ x q, s'K _ x q]; exact s1 u v c x i
    · have e : ∀ f, s' f x = (eM n r T M f (s f (kO x), kO x) (fun _ => 0, t)).1 := fun f => if_neg q
      rw [e, e, e]
      exact eM_lin (a := fun f => s f (kO x)) (b := fun _ _ => 0) (fun u v c i => s1 u v c _ i) zl u v c i
  · by_cases q : K x
    · rw [s'K f x q]; exact s2 f x i hi
    · have e : s' f x = (eM n r T M f (s f (kO x), kO x) (fun _ => 0, t)).1 := if_neg q
      rw [e]; exact if_neg (by omega)
  · show (if j < m then φ j (fAx u c v) else if j < m + d * r then ψ _ _ (fAx u c v) else χ _ (fAx u c v)) = (if j < m then φ j u else if j < m + d * r then ψ _ _ u else χ _ u) + c * (if j < m then φ j v else if j < m + d * r then ψ _ _ v else χ _ v)
    by_cases q : j < m
    · rw [if_pos q, if_pos q, if_pos q]; exact φ1 j u v c
    · rw [if_neg q, if_neg q, if_neg q]
      by_cases q2 : j < m + d * r
      · rw [if_pos q2, if_pos q2, if_pos q2]
        have e1 := eM_lin (n := n) (r := r) (T := T) (M := M) (x := t) (y := gk ((j - m) / r)) (a := fun (_ : fV p) (_ : Nat) => (0 : Fin p)) (b := fun f => s f (gk ((j - m) / r))) zl (fun u v c i => s1 u v c _ i) u v c ((j - m) % r)
        have e2 := eM_lin (n := n) (r := r) (T := T) (M := M) (x := cj (gk ((j - m) / r))) (y := t) (a := fun f => s f (cj (gk ((j - m) / r)))) (b := fun (_ : fV p) (_ : Nat) => (0 : Fin p)) (fun u v c i => s1 u v c _ i) zl u v c ((j - m) % r)
        show (eM n r T M (fAx u c v) _ _).1 _ - (eM n r T M (fAx u c v) _ _).1 _ = ((eM n r T M u _ _).1 _ - (eM n r T M u _ _).1 _) + c * ((eM n r T M v _ _).1 _ - (eM n r T M v _ _).1 _)
        rw [e1, e2]; grind
      · rw [if_neg q2, if_neg q2, if_neg q2]
        have e1 := eM_lin (n := n) (r := r) (T := T) (M := M) (x := t) (y := t) (a := fun (_ : fV p) (_ : Nat) => (0 : Fin p)) (b := fun (_ : fV p) (_ : Nat) => (0 : Fin p)) zl zl u v c (j - m - d * r)
        show (eM n r T M (fAx u c v) _ _).1 _ - s (fAx u c v) _ _ = ((eM n r T M u _ _).1 _ - s u _ _) + c * ((eM n r T M v _ _).1 _ - s v _ _)
        rw [e1, s1]; grind
  · intro f hf h0
    dsimp only at h0
    have hφ : ∀ j, j < m → φ j f = 0 := fun j hj => by
      have := h0 j (by omega)
      rw [if_pos hj] at this; exact this
    have hm := hom f hf hφ
    let τ : eP p := (fun _ => 0, t)
    let σ : Nat → eP p := fun x => (s f x, x)
    have τok : eOk n r τ := ⟨ht, fun _ _ => rfl⟩
    have σok : ∀ x, x < n → eOk n r (σ x) := fun x hx => ⟨hx, fun i hi => s2 f x i hi⟩
    have as : ∀ {a b c : eP p}, eOk n r a → eOk n r b → eOk n r c → eM n r T M f (eM n r T M f a b) c = eM n r T M f a (eM n r T M f b c) := fun ha hb hc => eM_as G hM hr hf ha hb hc
    have σσ : ∀ x y, K x → K y → eM n r T M f (σ x) (σ y) = σ (T x y) := fun x y hx hy => hm x y hx hy
    have σ0 : σ 0 = (fun _ => 0, 0) := by
      have h1 := σσ 0 0 hK.1 hK.1
      rw [(G.2.2.1 0 G.1).1] at h1
      refine Prod.ext ?_ rfl
      funext i
      rcases Nat.lt_or_ge i r with c | c
      · have h2 := congrFun (congrArg Prod.fst h1) i
        have h3 : (if i < r then s f 0 i + ac r M 0 (s f 0) i + pv n r f 0 0 i else 0) = s f 0 i := h2
        rw [if_pos c, ac_0 hM _ c, show pv n r f 0 0 i = 0 from if_pos (Or.inl rfl)] at h3
        show s f 0 i = 0
        grind
      · exact s2 f 0 i c
    have hq : eM n r T M f τ τ = σ (T t t) := by
      refine Prod.ext ?_ rfl
      funext i
      rcases Nat.lt_or_ge i r with c | c
      · have h1 := h0 (m + d * r + i) (by rw [Nat.add_mul, Nat.one_mul]; omega)
        rw [if_neg (by omega), if_neg (by omega), show m + d * r + i - m - d * r = i by omega] at h1
        have h2 : (eM n r T M f (fun _ => 0, t) (fun _ => 0, t)).1 i - s f (T t t) i = 0 := h1
        show (eM n r T M f (fun _ => 0, t) (fun _ => 0, t)).1 i = s f (T t t) i
        grind
      · rw [(eM_ok G τok τok).2 i c]; exact (s2 f _ i c).symm
    have hg1 : ∀ e, e < d → eM n r T M f τ (σ (gk e)) = eM n r T M f (σ (cj (gk e))) τ := fun e he => by
      have hke := hg e he
      refine Prod.ext ?_ (hcj _ hke).2
      funext i
      rcases Nat.lt_or_ge i r with c | c
      · have hlt : e * r + i < d * r := by
          have : (e + 1) * r ≤ d * r := Nat.mul_le_mul_right _ he
          rw [Nat.add_mul, Nat.one_mul] at this; omega
        have h1 := h0 (m + (e * r + i)) (by rw [Nat.add_mul, Nat.one_mul]; omega)
        have e1 : (m + (e * r + i) - m) / r = e := by
          rw [show m + (e * r + i) - m = r * e + i by rw [Nat.mul_comm r e]; omega, Nat.mul_add_div hr0, Nat.div_eq_of_lt c, Nat.add_zero]
        have e2 : (m + (e * r + i) - m) % r = i := by
          rw [show m + (e * r + i) - m = r * e + i by rw [Nat.mul_comm r e]; omega, Nat.mul_add_mod, Nat.mod_eq_of_lt c]
        rw [if_neg (by omega), if_pos (by omega), e1, e2] at h1
        have h2 : (eM n r T M f (fun _ => 0, t) (s f (gk e), gk e)).1 i - (eM n r T M f (s f (cj (gk e)), cj (gk e)) (fun _ => 0, t)).1 i = 0 := h1
        show (eM n r T M f (fun _ => 0, t) (s f (gk e), gk e)).1 i = (eM n r T M f (s f (cj (gk e)), cj (gk e)) (fun _ => 0, t)).1 i
        grind
      · rw [(eM_ok G τok (σok _ (lt _ hke))).2 i c, (eM_ok G (σok _ (lt _ (hcj _ hke).1)) τok).2 i c]
    have cjm : ∀ a b, K a → K b → cj (T a b) = T (cj a) (cj b) := fun a b ha hb => by
      obtain ⟨a1, a2⟩ := hcj a ha
      obtain ⟨b1, b2⟩ := hcj b hb
      obtain ⟨c1, c2⟩ := hcj _ (hK.2.2 a b ha hb)
      refine G.canR ht (lt _ c1) (lt _ (hK.2.2 _ _ a1 b1)) ?_
      rw [← c2, G.2.2.2.1 _ _ t (lt _ a1) (lt _ b1) ht, ← b2, ← G.2.2.2.1 _ t b (lt _ a1) ht (lt b hb), ← a2, G.2.2.2.1 t a b ht (lt a ha) (lt b hb)]
    have hc : ∀ k, K k → eM n r T M f τ (σ k) = eM n r T M f (σ (cj k)) τ := fun k hk => by
      have := hgen k hk (fun k => K k ∧ eM n r T M f τ (σ k) = eM n r T M f (σ (cj k)) τ) ⟨hK.1, by
        have c0 : cj 0 = 0 := by
          obtain ⟨a1, a2⟩ := hcj 0 hK.1
          refine G.canR ht (lt _ a1) G.1 ?_
          rw [← a2, (G.2.2.1 t ht).2, (G.2.2.1 t ht).1]
        rw [c0, σ0, eM_1l G hM τok, eM_1r G τok]⟩ (by
        rintro a g ⟨ha, ha2⟩ ⟨e, he, rfl⟩
        have hge := hg e he
        obtain ⟨a1, -⟩ := hcj a ha
        obtain ⟨b1, -⟩ := hcj _ hge
        refine ⟨hK.2.2 _ _ ha hge, ?_⟩
        rw [← σσ a (gk e) ha hge, ← as τok (σok _ (lt _ ha)) (σok _ (lt _ hge)), ha2, as (σok _ (lt _ a1)) τok (σok _ (lt _ hge)), hg1 e he, ← as (σok _ (lt _ a1)) (σok _ (lt _ b1)) τok, σσ _ _ a1 b1, cjm a _ ha hge])
      exact this.2
    have σ't : ∀ k, K k → (s' f (T k t), T k t) = eM n r T M f (σ k) τ := fun k hk => by rw [s't f k hk]; rfl
    have σ'K : ∀ k, K k → (s' f k, k) = σ k := fun k hk => by rw [s'K f k hk]
    rintro x y (hx | ⟨k, hk, rfl⟩) (hy | ⟨k', hk', rfl⟩)
    · rw [σ'K x hx, σ'K y hy, σσ x y hx hy, σ'K _ (hK.2.2 x y hx hy)]
    · rw [σ'K x hx, σ't k' hk', ← as (σok _ (lt _ hx)) (σok _ (lt _ hk')) τok, σσ x k' hx hk', ← G.2.2.2.1 x k' t (lt _ hx) (lt _ hk') ht, σ't _ (hK.2.2 x k' hx hk')]
    · obtain ⟨a1, a2⟩ := hcj y hy
      rw [σ't k hk, σ'K y hy, as (σok _ (lt _ hk)) τok (σok _ (lt _ hy)), hc y hy, ← as (σok _ (lt _ hk)) (σok _ (lt _ a1)) τok, σσ k _ hk a1, G.2.2.2.1 k t y (lt _ hk) ht (lt _ hy), a2, ← G.2.2.2.1 k _ t (lt _ hk) (lt _ a1) ht, σ't _ (hK.2.2 k _ hk a1)]
    · obtain ⟨a1, a2⟩ := hcj k' hk'
      have hkc := hK.2.2 k _ hk a1
      have e1 : T (T k t) (T k' t) = T (T k (cj k')) (T t t) := by
        rw [G.2.2.2.1 k t _ (lt _ hk) ht (G.2.1 _ _ (lt _ hk') ht), ← G.2.2.2.1 t k' t ht (lt _ hk') ht, a2, G.2.2.2.1 _ t t (lt _ a1) ht ht, ← G.2.2.2.1 k _ _ (lt _ hk) (lt _ a1) (lt _ ttK)]
      rw [σ't k hk, σ't k' hk', as (σok _ (lt _ hk)) τok (eM_ok G (σok _ (lt _ hk')) τok), ← as τok (σok _ (lt _ hk')) τok, hc k' hk', as (σok _ (lt _ a1)) τok τok, hq, σσ _ _ a1 ttK, σσ k _ hk (hK.2.2 _ _ a1 ttK), e1, σ'K _ (hK.2.2 _ _ hkc ttK), G.2.2.2.1 k _ _ (lt _ hk) (lt _ a1) (lt _ ttK)]
end EXT2
