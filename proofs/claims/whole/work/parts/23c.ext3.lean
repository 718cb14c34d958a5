/-! HOW MANY STANDARDS: at most six times the rank -/
section EXT3
variable {n r : Nat} {T : Nat → Nat → Nat} {M : Nat → Nat → Nat → Int}
theorem Ctl_bound {p m : Nat} [NeZero p] (G : zGrp n T) (hM : sdM (p := p) n r T M) {s : fV p → Nat → Nat → Fin p} {f : fV p} (hfo : fOk ((n - 1) * (n - 1) * r) f) (hom : ∀ x y, x < n → y < n → eM n r T M f (s f x, x) (s f y, y) = (s f (T x y), T x y)) : fSpn ((n - 1) * (n - 1) * r) (gB n r T M) f := by
  have hv : ∀ x y i, x < n → y < n → i < r → s f x i + ac r M x (s f y) i + pv n r f x y i = s f (T x y) i := fun x y i hx hy hi => by
    have h2 := congrFun (congrArg Prod.fst (hom x y hx hy)) i
    have h3 : (if i < r then s f x i + ac r M x (s f y) i + pv n r f x y i else 0) = s f (T x y) i := h2
    rw [if_pos hi] at h3; exact h3
  have s0 : ∀ i, i < r → s f 0 i = 0 := fun i hi => by
    have h1 := hv 0 0 i G.1 G.1 hi
    rw [(G.2.2.1 0 G.1).1, ac_0 hM _ hi, show pv n r f 0 0 i = 0 from if_pos (Or.inl rfl)] at h1
    grind
  rw [gB_im]
  let h : fV p := fun q => if q < (n - 1) * r then -1 * s f (q / r + 1) (q % r) else 0
  have hsv : ∀ x i, x < n → i < r → sv r h x i = -1 * s f x i := fun x i hx hi => by
    unfold sv
    by_cases q : x = 0
    · rw [if_pos q, q, s0 i hi]; grind
    · rw [if_neg q]
      show (if p1 r x i < (n - 1) * r then -1 * s f (p1 r x i / r + 1) (p1 r x i % r) else 0) = _
      rw [if_pos (p1_lt (by omega) hx hi), (p1_inv (by omega) hi).1, (p1_inv (by omega) hi).2]
  refine ⟨h, fun i hi => if_neg (by omega), ?_⟩
  funext q
  by_cases hq : q < (n - 1) * (n - 1) * r
  · obtain ⟨a1, a2, a3, a4, a5, a6⟩ := pl_ex hq
    generalize q / r / (n - 1) + 1 = x at a1 a2 a6
    generalize q / r % (n - 1) + 1 = y at a3 a4 a6
    generalize q % r = i at a5 a6
    subst a6
    rw [cbD_at h a1 a2 a3 a4 a5]
    unfold cbv
    rw [hsv x i a2 a5, hsv _ i (G.2.1 x y a2 a4) a5]
    have e1 : fSum (fun j => mC M x i j * sv r h y j) r = -1 * ac r M x (s f y) i := by
      have e2 : ac r M x (fun j => 0 + -1 * s f y j) i = 0 + -1 * ac r M x (s f y) i := by
        have := ac_ax (M := M) (r := r) x i (fun _ => (0 : Fin p)) (s f y) (-1)
        rw [ac_z] at this; exact this
      have e3 : fSum (fun j => mC M x i j * sv r h y j) r = ac r M x (fun j => 0 + -1 * s f y j) i := fSum_congr fun j hj => by
        rw [hsv y j a4 hj]; grind
      rw [e3, e2]; grind
    have e4 := hv x y i a2 a4 a5
    have e5 : pv n r f x y i = f (pl n r x y i) := if_neg (by omega)
    rw [e1, ← e4, e5]
    grind
  · rw [hfo q (by omega)]
    exact (if_neg hq).symm
theorem Ctl_few {p m H : Nat} [NeZero p] (hI : fInv p) (G : zGrp n T) (hM : sdM (p := p) n r T M) (hC : Ctl p n r T M (fun x => x < n) m) {Rs : Nat → fV p} {ls : Nat → Nat} (hN : fRref (NS (p := p) n r T M) H Rs ls) {kb : Nat} {Rb : Nat → fV p} {lb : Nat → Nat} (hE : fEch (fSpn ((n - 1) * (n - 1) * r) (gB (p := p) n r T M)) kb Rb lb) : H ≤ m := by
  obtain ⟨s, φ, s1, s2, φ1, hom⟩ := hC
  have hS := fSpn_sub (fun g (hg : gB (p := p) n r T M g) => gB_ok hg)
  have hZ : fSub ((n - 1) * (n - 1) * r) (Z2 (p := p) n r T M) := fNul_sub _
  have hNS : fSub ((n - 1) * (n - 1) * r) (NS (p := p) n r T M) := fAway_sub hZ
  have hl := fEch_lead hI hS hE
  let wk : Nat → fV p → fV p := fun k h q => fSum (fun i => h i * Rs i q) k
  have wN : ∀ h k, k ≤ H → NS n r T M (wk k h) := by
    intro h k
    induction k with
    | zero => intro _; exact hNS.2.1
    | succ k ih =>
      intro hk
      have := hNS.2.2 _ (Rs k) (h k) (ih (by omega)) (hN.1.1 k (by omega)).1
      exact this
  have wlin : ∀ (u v : fV p) (c : Fin p) k, wk k (fAx u c v) = fAx (wk k u) c (wk k v) := fun u v c k => by
    funext q
    show fSum (fun i => (u i + c * v i) * Rs i q) k = fSum (fun i => u i * Rs i q) k + c * fSum (fun i => v i * Rs i q) k
    induction k with
    | zero => show (0 : Fin p) = 0 + c * 0; grind
    | succ k ih =>
      show fSum _ k + (u k + c * v k) * Rs k q = (fSum _ k + u k * Rs k q) + c * (fSum _ k + v k * Rs k q)
      rw [ih]; grind
  have φ0 : ∀ j, φ j fZ = 0 := fun j => by
    have := φ1 j fZ fZ (-1)
    have e : fAx (fZ : fV p) (-1) fZ = fZ := by funext i; show (0 : Fin p) + -1 * 0 = 0; grind
    rw [e] at this; grind
  have w0 : wk H fZ = fZ := by
    funext q
    exact fSum_z fun j _ => by show (0 : Fin p) * _ = 0; grind
  let Lf : fV p → fV p := fun h j => if j < m then φ j (wk H h) else 0
  have hL : fLin H m Lf := by
    refine ⟨fun h _ i hi => if_neg (by omega), ?_, fun u v c => ?_⟩
    · funext j
      show (if j < m then φ j (wk H fZ) else 0) = 0
      rw [w0]
      split
      · exact φ0 j
      · rfl
    · funext j
      show (if j < m then φ j (wk H (fAx u c v)) else 0) = (if j < m then φ j (wk H u) else 0) + c * (if j < m then φ j (wk H v) else 0)
      split
      · rw [wlin, φ1]
      · grind
  have hker : ∀ h, fKer H Lf h → h = fZ := by
    rintro h ⟨ho, h1⟩
    have hφ : ∀ j, j < m → φ j (wk H h) = 0 := fun j hj => by
      have h2 : (if j < m then φ j (wk H h) else 0) = 0 := congrFun h1 j
      rw [if_pos hj] at h2; exact h2
    have hw := wN h H (Nat.le_refl _)
    have hb := Ctl_bound (m := m) G hM (s := s) (hZ.1 _ hw.1) (fun x y hx hy => hom _ (Z2_co G hM hw.1) hφ x y hx hy)
    have hz := hE.2.2 _ hb (fun t ht => hw.2 _ ((hl _).mpr ⟨t, ht, rfl⟩))
    funext i
    rcases Nat.lt_or_ge i H with c | c
    · have h2 : wk H h (ls i) = 0 := congrFun hz (ls i)
      have h3 : wk H h (ls i) = h i * Rs i (ls i) := fSum_one c fun j hj hne => by rw [hN.2.1 j i hj c, if_neg hne]; grind
      rw [h3, hN.2.1 i i c c, if_pos rfl] at h2
      show h i = 0
      grind
    · exact ho i c
  have hr := fRank hI hL
  have hk0 : nC (fLead (fKer H Lf)) H = 0 := nC_none fun i hi => by
    rintro ⟨v, h1, h2, -⟩
    rw [hker v h1] at h2
    exact h2 rfl
  have := nC_le (fLead (fIm H Lf)) m
  omega
theorem nC_pow (G : zGrp n T) {a q : Nat} (ha : a < n) (h : zOrd T a q) : nC (fun z => ∃ j, z = zPow T a j) n = q := by
  refine Nat.le_antisymm ?_ ?_
  · have key : ∀ z, ∃ j, (∃ j, z = zPow T a j) → j < q ∧ z = zPow T a j := fun z => by
      by_cases c : ∃ j, z = zPow T a j
      · obtain ⟨j, e⟩ := c
        refine ⟨j % q, fun _ => ⟨Nat.mod_lt _ h.1, ?_⟩⟩
        rw [e]
        conv => lhs; rw [← Nat.div_add_mod j q]
        rw [zPow_add G ha, zPow_mul G ha h.2.1, (G.2.2.1 _ (zPow_lt G ha _)).1]
      · exact ⟨0, fun z => absurd z c⟩
    refine Nat.le_trans (nC_inj (Q := fun _ => True) (m := q) (fun z => Classical.choose (key z)) (fun z _ hz => ⟨(Classical.choose_spec (key z) hz).1, trivial⟩) (fun x y _ _ hx hy e => ?_)) (nC_le _ _)
    rw [(Classical.choose_spec (key x) hx).2, (Classical.choose_spec (key y) hy).2]
    show zPow T a (Classical.choose (key x)) = zPow T a (Classical.choose (key y))
    rw [e]
  · have := nC_inj (P := fun _ => True) (Q := fun z => ∃ j, z = zPow T a j) (n := q) (m := n) (zPow T a) (fun j _ _ => ⟨zPow_lt G ha j, j, rfl⟩) (fun i j hi hj _ _ e => by
      have aux : ∀ i j, i < j → j < q → zPow T a i = zPow T a j → False := fun i j hij hj e => by
        have e2 : zPow T a j = T (zPow T a i) (zPow T a (j - i)) := by rw [← zPow_add G ha]; congr 1; omega
        refine h.2.2 (j - i) (by omega) (by omega) (G.canL (zPow_lt G ha i) (zPow_lt G ha _) G.1 ?_)
        rw [← e2, ← e, (G.2.2.1 _ (zPow_lt G ha i)).2]
      rcases Nat.lt_trichotomy i j with c | c | c
      · exact (aux i j c hj e).elim
      · exact c
      · exact (aux j i c hi e.symm).elim)
    rw [nC_all (fun _ _ => trivial)] at this
    exact this
theorem zSbg_pow (G : zGrp n T) {a : Nat} (ha : a < n) : zSbg n T (fun z => ∃ j, z = zPow T a j) := ⟨⟨0, rfl⟩, fun x ⟨j, e⟩ => by rw [e]; exact zPow_lt G ha j, fun x y ⟨i, e⟩ ⟨j, e2⟩ => ⟨i + j, by rw [e, e2, zPow_add G ha]⟩⟩
/-- a part and what a further element makes of it -/
theorem nC_two (G : zGrp n T) {K : Nat → Prop} (hK : zSbg n T K) {t : Nat} (ht : t < n) (hKt : ¬ K t) : nC (fun x => K x ∨ ∃ k, K k ∧ x = T k t) n = 2 * nC K n := by
  rw [nC_or (Q := fun x => ∃ k, K k ∧ x = T k t) (fun x hx => by
    rintro ⟨k, hk, rfl⟩
    obtain ⟨b, hb, -, e2⟩ := hK.inv G hk
    have := hK.2.2 b _ hb hx
    rw [← G.2.2.2.1 b k t (hK.2.1 b hb) (hK.2.1 k hk) ht, e2, (G.2.2.1 t ht).1] at this
    exact hKt this)]
  have h1 : nC (fun x => ∃ k, K k ∧ x = T k t) n = nC K n := by
    refine Nat.le_antisymm ?_ ?_
    · obtain ⟨u, hu, e1, e2⟩ := G.inv ht
      refine nC_inj (fun x => T x u) (fun x hx ⟨k, hk, e⟩ => ?_) (fun i j hi hj _ _ e => G.canR hu hi hj e)
      have : T x u = k := by rw [e, G.2.2.2.1 k t u (hK.2.1 k hk) ht hu, e1, (G.2.2.1 k (hK.2.1 k hk)).2]
      exact ⟨G.2.1 _ _ hx hu, by rw [this]; exact hk⟩
    · exact nC_inj (fun k => T k t) (fun k hk hKk => ⟨G.2.1 _ _ hk ht, k, hKk, rfl⟩) (fun i j hi hj _ _ e => G.canR ht hi hj e)
  omega
theorem Ctl_cg {p m : Nat} [NeZero p] {K K' : Nat → Prop} (h : Ctl p n r T M K m) (hK : ∀ x, K' x → K x) : Ctl p n r T M K' m := by
  obtain ⟨s, φ, s1, s2, φ1, hom⟩ := h
  exact ⟨s, φ, s1, s2, φ1, fun f hf h0 x y hx hy => hom f hf h0 x y (hK x hx) (hK y hy)⟩
/-- half of the group is enough -/
theorem Ctl_half {p m d : Nat} [NeZero p] (G : zGrp n T) (hM : sdM (p := p) n r T M) (hr : r = 1 ∨ r = 2) {K : Nat → Prop} (hK : zSbg n T K) (h2 : 2 * nC K n = n) {gk : Nat → Nat} (hg : ∀ e, e < d → K (gk e)) (hgen : ∀ x, K x → zGen T (zRow d gk) x) (hC : Ctl p n r T M K m) : Ctl p n r T M (fun x => x < n) (m + (d + 1) * r) := by
  have hn := G.1
  obtain ⟨t, ht, hKt⟩ : ∃ t, t < n ∧ ¬ K t := Classical.byContradiction fun q => by
    have := nC_all (P := K) (n := n) fun i hi => Classical.byContradiction fun z => q ⟨i, hi, z⟩
    omega
  have hall : ∀ x, x < n → (K x ∨ ∃ k, K k ∧ x = T k t) := by
    have := nC_two G hK ht hKt
    rw [h2] at this
    exact nC_full.mp this
  refine Ctl_cg (Ctl_step G hM hr hK ht hKt hg hgen (fun x y hx hy => hall _ (G.2.1 x y ?_ ?_)) hC) hall
  · rcases hx with h | ⟨k, hk, rfl⟩
    · exact hK.2.1 x h
    · exact G.2.1 _ _ (hK.2.1 k hk) ht
  · rcases hy with h | ⟨k, hk, rfl⟩
    · exact hK.2.1 y h
    · exact G.2.1 _ _ (hK.2.1 k hk) ht
theorem Ctl_all {p : Nat} [NeZero p] (G : zGrp n T) (hn : n ≤ 8) (hM : sdM (p := p) n r T M) (hr : r = 1 ∨ r = 2) : ∃ m, m ≤ 6 * r ∧ Ctl p n r T M (fun x => x < n) m := by
  have hn0 := G.1
  have hr0 : 0 < r := by omega
  -- an element of the whole order
  by_cases c1 : ∃ a, a < n ∧ zOrd T a n
  · obtain ⟨a, ha, ho⟩ := c1
    refine ⟨r, by omega, Ctl_cg (Ctl_cyc G hM hr ha ho) ?_⟩
    have := nC_pow G ha ho
    exact nC_full.mp this
  have ho : ∀ a, a < n → ∃ q, zOrd T a q ∧ q ∣ n ∧ q ≠ n ∧ (a ≠ 0 → q ≠ 1) := fun a ha => by
    obtain ⟨q, -, hq⟩ := zOrd_ex G ha
    refine ⟨q, hq, zOrd_lag G ha hq, fun e => c1 ⟨a, ha, e ▸ hq⟩, fun hne e => hne ?_⟩
    have := hq.2.1
    rw [e, zPow_one G ha] at this; exact this
  have gen1 : ∀ a, a < n → ∀ x, (∃ j, x = zPow T a j) → zGen T (zRow 1 (fun _ => a)) x := fun a ha x ⟨j, e⟩ => by
    rw [e]
    have hS : ∀ s, zRow 1 (fun _ => a) s → s < n := fun s ⟨_, _, e⟩ => by rw [e]; exact ha
    exact (zGen.self G hS (s := a) ⟨0, by omega, rfl⟩).pow G hS j
  -- half of it: the powers of one
  have half : ∀ a q, a < n → zOrd T a q → 2 * q = n → ∃ m, m ≤ 6 * r ∧ Ctl p n r T M (fun x => x < n) m := fun a q ha hq h2 => by
    refine ⟨r + (1 + 1) * r, by omega, Ctl_half G hM hr (zSbg_pow G ha) (by rw [nC_pow G ha hq]; exact h2) (gk := fun _ => a) (fun _ _ => ⟨1, (zPow_one G ha).symm⟩) (gen1 a ha) (Ctl_cyc G hM hr ha hq)⟩
  by_cases c2 : ∃ a q, a < n ∧ zOrd T a q ∧ 2 * q = n
  · obtain ⟨a, q, ha, hq, h2⟩ := c2
    exact half a q ha hq h2
  have hnot : ∀ a q, a < n → zOrd T a q → 2 * q ≠ n := fun a q ha hq h2 => c2 ⟨a, q, ha, hq, h2⟩
  -- all but 0 are of order 2 (or there is none)
  have h1 : 1 < n := by
    refine Nat.lt_of_not_le fun q => c1 ⟨0, hn0, ?_⟩
    have : n = 1 := by omega
    rw [this]
    exact ⟨Nat.le_refl _, (G.2.2.1 0 hn0).1, fun j a b => by omega⟩
  have ord2 : ∀ a, a < n → a ≠ 0 → zOrd T a 2 := fun a ha hne => by
    obtain ⟨q, hq, ⟨c, hc⟩, hq2, hq1⟩ := ho a ha
    have hq1 := hq1 hne
    have hh := hnot a q ha hq
    have hql := hq.1
    have e : q = 2 := by
      have hc0 : c ≠ 0 := fun e => by rw [e] at hc; omega
      have hc1 : c ≠ 1 := fun e => by rw [e] at hc; omega
      have hc2 : c ≠ 2 := fun e => by rw [e] at hc; omega
      have hc3 : 3 ≤ c := by omega
      have h3 : q * 3 ≤ q * c := Nat.mul_le_mul_left _ hc3
      omega
    rw [e] at hq; exact hq
  have sq : ∀ a, a < n → T a a = 0 := fun a ha => by
    by_cases c : a = 0
    · rw [c]; exact (G.2.2.1 0 hn0).1
    · have := (ord2 a ha c).2.1
      have e : zPow T a 2 = T (zPow T a 1) a := rfl
      rw [e, zPow_one G ha] at this; exact this
  have com : ∀ a b, a < n → b < n → T a b = T b a := fun a b ha hb => by
    have hab := G.2.1 a b ha hb
    refine (G.canL hab (G.2.1 b a hb ha) hab ?_).symm
    rw [sq _ hab, G.2.2.2.1 a b _ ha hb (G.2.1 b a hb ha), ← G.2.2.2.1 b b a hb hb ha, sq b hb, (G.2.2.1 a ha).1, sq a ha]
  obtain ⟨a, ha, hane⟩ : ∃ a, a < n ∧ a ≠ 0 := ⟨1, h1, by omega⟩
  have hoa := ord2 a ha hane
  have hKa := zSbg_pow G ha
  have cKa := nC_pow G ha hoa
  have hn2 := hnot a 2 ha hoa
  obtain ⟨b, hb, hKb⟩ : ∃ b, b < n ∧ ¬ ∃ j, b = zPow T a j := Classical.byContradiction fun q => by
    have := nC_all (P := fun z => ∃ j, z = zPow T a j) (n := n) fun i hi => Classical.byContradiction fun z => q ⟨i, hi, z⟩
    rw [cKa] at this
    exact c1 ⟨a, ha, by rw [← this]; exact hoa⟩
  have c4 := nC_two G hKa hb hKb
  rw [cKa] at c4
  have ap : ∀ x y, (∃ j, x = zPow T a j) → (∃ j, y = zPow T a j) → ∃ j, T x y = zPow T a j := fun x y hx hy => hKa.2.2 x y hx hy
  have hcl : ∀ x y, ((∃ j, x = zPow T a j) ∨ ∃ k, (∃ j, k = zPow T a j) ∧ x = T k b) → ((∃ j, y = zPow T a j) ∨ ∃ k, (∃ j, k = zPow T a j) ∧ y = T k b) → ((∃ j, T x y = zPow T a j) ∨ ∃ k, (∃ j, k = zPow T a j) ∧ T x y = T k b) := by
    rintro x y (hx | ⟨k, hk, rfl⟩) (hy | ⟨k', hk', rfl⟩)
    · exact Or.inl (ap x y hx hy)
    · exact Or.inr ⟨T x k', ap x k' hx hk', (G.2.2.2.1 x k' b (hKa.2.1 x hx) (hKa.2.1 k' hk') hb).symm⟩
    · refine Or.inr ⟨T k y, ap k y hk hy, ?_⟩
      rw [G.2.2.2.1 k b y (hKa.2.1 k hk) hb (hKa.2.1 y hy), com b y hb (hKa.2.1 y hy), ← G.2.2.2.1 k y b (hKa.2.1 k hk) (hKa.2.1 y hy) hb]
    · refine Or.inl ?_
      have e : T (T k b) (T k' b) = T k k' := by
        rw [G.2.2.2.1 k b _ (hKa.2.1 k hk) hb (G.2.1 _ _ (hKa.2.1 k' hk') hb), com k' b (hKa.2.1 k' hk') hb, ← G.2.2.2.1 b b k' hb hb (hKa.2.1 k' hk'), sq b hb, (G.2.2.1 k' (hKa.2.1 k' hk')).1]
      rw [e]; exact ap k k' hk hk'
  have hK2 : zSbg n T (fun x => (∃ j, x = zPow T a j) ∨ ∃ k, (∃ j, k = zPow T a j) ∧ x = T k b) := ⟨Or.inl ⟨0, rfl⟩, fun x hx => by
    rcases hx with h | ⟨k, hk, rfl⟩
    · exact hKa.2.1 x h
    · exact G.2.1 _ _ (hKa.2.1 k hk) hb, hcl⟩
  have h8 : n = 8 := by
    obtain ⟨c, hc⟩ := zLag G hK2
    rw [c4] at hc
    have := nC_le (fun x => (∃ j, x = zPow T a j) ∨ ∃ k, (∃ j, k = zPow T a j) ∧ x = T k b) n
    omega
  have hgS : ∀ s, zRow 2 (fun e => if e = 0 then a else b) s → s < n := fun s ⟨e, _, es⟩ => by
    rw [es]
    show (if e = 0 then a else b) < n
    split
    · exact ha
    · exact hb
  have C2 := Ctl_step G hM hr hKa hb hKb (gk := fun _ => a) (d := 1) (fun _ _ => ⟨1, (zPow_one G ha).symm⟩) (gen1 a ha) hcl (Ctl_cyc G hM hr ha hoa)
  refine ⟨r + (1 + 1) * r + (2 + 1) * r, by omega, Ctl_half G hM hr hK2 (by rw [c4]; omega) (gk := fun e => if e = 0 then a else b) (fun e he => ?_) (fun x hx => ?_) C2⟩
  · show (∃ j, (if e = 0 then a else b) = zPow T a j) ∨ ∃ k, (∃ j, k = zPow T a j) ∧ (if e = 0 then a else b) = T k b
    by_cases c : e = 0
    · rw [if_pos c]; exact Or.inl ⟨1, (zPow_one G ha).symm⟩
    · rw [if_neg c]; exact Or.inr ⟨0, ⟨0, rfl⟩, (G.2.2.1 b hb).1.symm⟩
  · have gp : ∀ k, (∃ j, k = zPow T a j) → zGen T (zRow 2 (fun e => if e = 0 then a else b)) k := fun k ⟨j, e⟩ => by
      rw [e]
      exact (zGen.self G hgS (s := a) ⟨0, by omega, rfl⟩).pow G hgS j
    rcases hx with h | ⟨k, hk, rfl⟩
    · exact gp x h
    · exact (gp k hk).step ⟨1, by omega, rfl⟩
end EXT3
