/-! WHAT IS ORTHOGONAL; THE RANK OF A MAP -/
def fDot {p : Nat} [NeZero p] (g v : fV p) : Nat → Fin p
  | 0 => 0
  | n + 1 => fDot g v n + g n * v n
theorem fDot_ax {p : Nat} [NeZero p] (u v x : fV p) (c : Fin p) (n : Nat) : fDot (fAx u c v) x n = fDot u x n + c * fDot v x n := by
  induction n with
  | zero => show (0 : Fin p) = 0 + c * 0; grind
  | succ n ih =>
    show fDot (fAx u c v) x n + (u n + c * v n) * x n = (fDot u x n + u n * x n) + c * (fDot v x n + v n * x n)
    rw [ih]; grind
theorem fDot_axR {p : Nat} [NeZero p] (u v x : fV p) (c : Fin p) (n : Nat) : fDot x (fAx u c v) n = fDot x u n + c * fDot x v n := by
  induction n with
  | zero => show (0 : Fin p) = 0 + c * 0; grind
  | succ n ih =>
    show fDot x (fAx u c v) n + x n * (u n + c * v n) = (fDot x u n + x n * u n) + c * (fDot x v n + x n * v n)
    rw [ih]; grind
theorem fDot_z {p : Nat} [NeZero p] (u v : fV p) (n : Nat) (h : ∀ j, j < n → u j * v j = 0) : fDot u v n = 0 := by
  induction n with
  | zero => rfl
  | succ n ih =>
    show fDot u v n + u n * v n = 0
    rw [ih fun j hj => h j (by omega), h n (by omega)]; grind
theorem fDot_one {p : Nat} [NeZero p] (u v : fV p) (n i : Nat) (hi : i < n) (h : ∀ j, j < n → j ≠ i → u j * v j = 0) : fDot u v n = u i * v i := by
  induction n with
  | zero => omega
  | succ n ih =>
    show fDot u v n + u n * v n = u i * v i
    by_cases e : i = n
    · subst e
      rw [fDot_z u v i fun j hj => h j (by omega) (by omega)]; grind
    · rw [ih (by omega) fun j hj hji => h j (by omega) hji, h n (by omega) (fun q => e q.symm)]; grind
theorem fDot_congr {p : Nat} [NeZero p] {u v u' v' : fV p} (n : Nat) (h : ∀ j, j < n → u j * v j = u' j * v' j) : fDot u v n = fDot u' v' n := by
  induction n with
  | zero => rfl
  | succ n ih =>
    show fDot u v n + u n * v n = fDot u' v' n + u' n * v' n
    rw [ih fun j hj => h j (by omega), h n (by omega)]
def fNul {p : Nat} [NeZero p] (W : Nat) (Gn : fV p → Prop) (v : fV p) : Prop := fOk W v ∧ ∀ g, Gn g → fDot g v W = 0
theorem fNul_sub {p W : Nat} [NeZero p] (Gn : fV p → Prop) : fSub W (fNul W Gn) := by
  refine ⟨fun v h => h.1, ⟨fun _ _ => rfl, fun g _ => fDot_z g fZ W fun j _ => by show g j * 0 = 0; grind⟩, fun u v c hu hv => ⟨fun i hi => ?_, fun g hg => ?_⟩⟩
  · show u i + c * v i = 0
    rw [hu.1 i hi, hv.1 i hi]; grind
  · rw [fDot_axR, hu.2 g hg, hv.2 g hg]; grind
/-- orthogonal to the rows, so to all that they span -/
theorem fNul_spn {p W : Nat} [NeZero p] {Gn : fV p → Prop} (hg : ∀ g, Gn g → fOk W g) {v u : fV p} (hv : fNul W Gn v) (hu : fSpn W Gn u) : fDot u v W = 0 := by
  have := hu (fun u => fOk W u ∧ fDot u v W = 0) ⟨fun _ h => h.1, ⟨fun _ _ => rfl, fDot_z fZ v W fun j _ => by show (0 : Fin p) * _ = 0; grind⟩, fun a b c ha hb => ⟨fun i hi => ?_, ?_⟩⟩ (fun g h => ⟨hg g h, hv.2 g h⟩)
  · exact this.2
  · show a i + c * b i = 0
    rw [ha.1 i hi, hb.1 i hi]; grind
  · show fDot (fAx a c b) v W = 0
    rw [fDot_ax, ha.2, hb.2]; grind
theorem fOrthLT {p W : Nat} [NeZero p] (hI : fInv p) {Gn : fV p → Prop} (hg : ∀ g, Gn g → fOk W g) {i : Nat} (h1 : fLead (fSpn W Gn) i) (h2 : fTail (fNul W Gn) i) : False := by
  have hi := fTail_lt (fNul_sub Gn) h2
  obtain ⟨u, a1, a2, a3⟩ := h1
  obtain ⟨v, b1, b2, b3⟩ := h2
  have h := fNul_spn hg b1 a1
  rw [fDot_one u v W i hi] at h
  · exact fMul hI a2 b2 h
  · intro j hj hji
    rcases Nat.lt_or_ge j i with q | q
    · rw [a3 j q]; grind
    · rw [b3 j (by omega)]; grind
theorem fOrthTL {p W : Nat} [NeZero p] (hI : fInv p) {Gn : fV p → Prop} (hg : ∀ g, Gn g → fOk W g) {i : Nat} (h1 : fTail (fSpn W Gn) i) (h2 : fLead (fNul W Gn) i) : False := by
  have hi := fLead_lt (fNul_sub Gn) h2
  obtain ⟨u, a1, a2, a3⟩ := h1
  obtain ⟨v, b1, b2, b3⟩ := h2
  have h := fNul_spn hg b1 a1
  rw [fDot_one u v W i hi] at h
  · exact fMul hI a2 b2 h
  · intro j hj hji
    rcases Nat.lt_or_ge j i with q | q
    · rw [b3 j q]; grind
    · rw [a3 j (by omega)]; grind
/-- where each place that is no lead of the rows is a tail of what is orthogonal: the numbers add up -/
theorem fNul_count {p W : Nat} [NeZero p] (hI : fInv p) {Gn : fV p → Prop} (hg : ∀ g, Gn g → fOk W g) (h : ∀ i, i < W → ¬ fLead (fSpn W Gn) i → fTail (fNul W Gn) i) : nC (fLead (fNul W Gn)) W + nC (fLead (fSpn W Gn)) W = W := by
  rw [fLT hI (fNul_sub Gn)]
  have e : nC (fTail (fNul W Gn)) W = nC (fun i => ¬ fLead (fSpn W Gn) i) W := nC_congr fun i hi => ⟨fun a b => fOrthLT hI hg b a, h i hi⟩
  rw [e, Nat.add_comm]
  exact nC_not _ W
def fUnit {p : Nat} [NeZero p] (j : Nat) : fV p := fun i => if i = j then 1 else 0
/-- a space with all units has all -/
theorem fUnits {p W : Nat} [NeZero p] {V : fV p → Prop} (hV : fSub W V) (h : ∀ j, j < W → V (fUnit j)) {v : fV p} (hv : fOk W v) : V v := by
  have key : ∀ n, n ≤ W → V (fun i => if i < n then v i else 0) := by
    intro n
    induction n with
    | zero =>
      intro _
      have e : (fun i => if i < 0 then v i else 0) = (fZ : fV p) := by funext i; simp [fZ]
      rw [e]; exact hV.2.1
    | succ n ih =>
      intro hn
      have := hV.2.2 _ (fUnit n) (v n) (ih (by omega)) (h n (by omega))
      have e : fAx (fun i => if i < n then v i else 0) (v n) (fUnit n) = fun i => if i < n + 1 then v i else 0 := by
        funext i
        show (if i < n then v i else 0) + v n * (if i = n then 1 else 0) = _
        rcases Nat.lt_trichotomy i n with q | q | q
        · rw [if_pos q, if_neg (by omega), if_pos (by omega)]; grind
        · subst q
          rw [if_neg (by omega), if_pos rfl, if_pos (by omega)]; grind
        · rw [if_neg (by omega), if_neg (by omega), if_neg (by omega)]; grind
      rw [e] at this; exact this
  have := key W (Nat.le_refl _)
  have e : (fun i => if i < W then v i else 0) = v := by
    funext i
    by_cases q : i < W
    · rw [if_pos q]
    · rw [if_neg q, hv i (by omega)]
  rw [e] at this; exact this
/-- a linear map, its image and its kernel: the numbers add up -/
def fLin {p : Nat} [NeZero p] (W M : Nat) (f : fV p → fV p) : Prop := (∀ h, fOk W h → fOk M (f h)) ∧ f fZ = fZ ∧ ∀ (u v : fV p) (c : Fin p), f (fAx u c v) = fAx (f u) c (f v)
def fIm {p : Nat} [NeZero p] (W : Nat) (f : fV p → fV p) (x : fV p) : Prop := ∃ h, fOk W h ∧ x = f h
def fKer {p : Nat} [NeZero p] (W : Nat) (f : fV p → fV p) (h : fV p) : Prop := fOk W h ∧ f h = fZ
theorem fIm_sub {p W M : Nat} [NeZero p] {f : fV p → fV p} (hf : fLin W M f) : fSub M (fIm W f) := by
  refine ⟨?_, ⟨fZ, fun _ _ => rfl, hf.2.1.symm⟩, ?_⟩
  · rintro v ⟨h, h1, rfl⟩; exact hf.1 h h1
  · rintro u v c ⟨a, a1, rfl⟩ ⟨b, b1, rfl⟩
    refine ⟨fAx a c b, fun i hi => ?_, (hf.2.2 a b c).symm⟩
    show a i + c * b i = 0
    rw [a1 i hi, b1 i hi]; grind
theorem fKer_sub {p W M : Nat} [NeZero p] {f : fV p → fV p} (hf : fLin W M f) : fSub W (fKer W f) := by
  refine ⟨fun v h => h.1, ⟨fun _ _ => rfl, hf.2.1⟩, fun u v c hu hv => ⟨fun i hi => ?_, ?_⟩⟩
  · show u i + c * v i = 0
    rw [hu.1 i hi, hv.1 i hi]; grind
  · rw [hf.2.2, hu.2, hv.2]
    funext i; show (0 : Fin p) + c * 0 = 0; grind
theorem fRank {p W M : Nat} [NeZero p] (hI : fInv p) {f : fV p → fV p} (hf : fLin W M f) : nC (fLead (fIm W f)) M + nC (fLead (fKer W f)) W = W := by
  let Gm : fV p → Prop := fun x => ∃ h, fOk W h ∧ x = fun i => if i < M then f h i else h (i - M)
  have hG : fSub (M + W) Gm := by
    refine ⟨?_, ⟨fZ, fun _ _ => rfl, ?_⟩, ?_⟩
    · rintro v ⟨h, h1, rfl⟩ i hi
      show (if i < M then f h i else h (i - M)) = 0
      rw [if_neg (by omega)]; exact h1 _ (by omega)
    · funext i
      show (0 : Fin p) = _
      by_cases q : i < M
      · rw [if_pos q, hf.2.1]; rfl
      · rw [if_neg q]; rfl
    · rintro u v c ⟨a, a1, rfl⟩ ⟨b, b1, rfl⟩
      refine ⟨fAx a c b, fun i hi => ?_, ?_⟩
      · show a i + c * b i = 0
        rw [a1 i hi, b1 i hi]; grind
      · funext i
        show (if i < M then f a i else a (i - M)) + c * (if i < M then f b i else b (i - M)) = if i < M then f (fAx a c b) i else a (i - M) + c * b (i - M)
        by_cases q : i < M
        · rw [if_pos q, if_pos q, if_pos q, hf.2.2]; rfl
        · rw [if_neg q, if_neg q, if_neg q]
  have h1 := fLT hI hG
  rw [nC_split, nC_split] at h1
  have e1 : nC (fLead Gm) M = nC (fLead (fIm W f)) M := nC_congr fun i hi => by
    constructor
    · rintro ⟨v, ⟨h, a1, rfl⟩, a2, a3⟩
      refine ⟨f h, ⟨h, a1, rfl⟩, ?_, fun j hj => ?_⟩
      · have : (if i < M then f h i else h (i - M)) ≠ 0 := a2
        rw [if_pos hi] at this; exact this
      · have : (if j < M then f h j else h (j - M)) = 0 := a3 j hj
        rw [if_pos (by omega)] at this; exact this
    · rintro ⟨v, ⟨h, a1, rfl⟩, a2, a3⟩
      refine ⟨_, ⟨h, a1, rfl⟩, ?_, fun j hj => ?_⟩
      · show (if i < M then f h i else h (i - M)) ≠ 0
        rw [if_pos hi]; exact a2
      · show (if j < M then f h j else h (j - M)) = 0
        rw [if_pos (by omega)]; exact a3 j hj
  have e2 : nC (fun i => fLead Gm (M + i)) W = nC (fLead (fKer W f)) W := nC_congr fun i hi => by
    constructor
    · rintro ⟨v, ⟨h, a1, rfl⟩, a2, a3⟩
      refine ⟨h, ⟨a1, ?_⟩, ?_, fun j hj => ?_⟩
      · funext j
        show f h j = 0
        rcases Nat.lt_or_ge j M with q | q
        · have : (if j < M then f h j else h (j - M)) = 0 := a3 j (by omega)
          rw [if_pos q] at this; exact this
        · exact hf.1 h a1 j q
      · have : (if M + i < M then f h (M + i) else h (M + i - M)) ≠ 0 := a2
        rw [if_neg (by omega), Nat.add_sub_cancel_left] at this; exact this
      · have : (if M + j < M then f h (M + j) else h (M + j - M)) = 0 := a3 (M + j) (by omega)
        rw [if_neg (by omega), Nat.add_sub_cancel_left] at this; exact this
    · rintro ⟨h, ⟨a1, a0⟩, a2, a3⟩
      refine ⟨_, ⟨h, a1, rfl⟩, ?_, fun j hj => ?_⟩
      · show (if M + i < M then f h (M + i) else h (M + i - M)) ≠ 0
        rw [if_neg (by omega), Nat.add_sub_cancel_left]; exact a2
      · show (if j < M then f h j else h (j - M)) = 0
        by_cases q : j < M
        · rw [if_pos q, a0]; rfl
        · rw [if_neg q]; exact a3 _ (by omega)
  have e3 : nC (fTail Gm) M = 0 := nC_none fun i hi => by
    rintro ⟨v, ⟨h, a1, rfl⟩, a2, a3⟩
    have hz : h = fZ := by
      funext j
      have : (if M + j < M then f h (M + j) else h (M + j - M)) = 0 := a3 (M + j) (by omega)
      rw [if_neg (by omega), Nat.add_sub_cancel_left] at this; exact this
    have : (if i < M then f h i else h (i - M)) ≠ 0 := a2
    rw [if_pos hi, hz, hf.2.1] at this
    exact this rfl
  have e4 : nC (fun i => fTail Gm (M + i)) W = W := nC_all fun i hi => by
    refine ⟨_, ⟨fUnit i, fun j hj => ?_, rfl⟩, ?_, fun j hj => ?_⟩
    · show (if j = i then (1 : Fin p) else 0) = 0
      rw [if_neg (by omega)]
    · show (if M + i < M then f (fUnit i) (M + i) else (if M + i - M = i then (1 : Fin p) else 0)) ≠ 0
      rw [if_neg (by omega), if_pos (by omega)]; exact hI.1
    · show (if j < M then f (fUnit i) j else (if j - M = i then (1 : Fin p) else 0)) = 0
      rw [if_neg (by omega), if_neg (by omega)]
  omega
