/-! THE ROWS OF MY WALK: a stretch, an instruction, a call -/
def gRun (nL : Nat) : List (Nat × Instr × Nat) → Nat → List (Nat × gV) → List gV → Option (Nat × List (Nat × gV) × List gV)
  | [], pc, lv, st => some (pc, lv, st)
  | (a, ins, len) :: t, pc, lv, st => bif (a == pc) && (len == gLn ins) then (match gPs nL ins lv st with
    | some (lv', st') => gRun nL t (pc + len) lv' st'
    | none => none) else none
abbrev gTab : Type := List (Nat × Instr × Nat)
abbrev gDec (tab : gTab) (cc : ByteArray) : Prop := ∀ q ∈ tab, decode cc q.1 = .ok q.2
theorem gDec.at {tab : gTab} {cc : ByteArray} (h : gDec tab cc) {i pc len : Nat} {ins : Instr} (hi : tab[i]? = some (pc, ins, len)) : decode cc pc = .ok (ins, len) := h (pc, ins, len) (List.mem_of_getElem? hi)
/-- a class of ours, as the tables have it -/
def gCl (ci : Nat) (C : String) (T : u_T) (N : Nat) (ty : Nat → FieldType) : Prop := vwCl[ci]? = some (C, T, N) ∧ (∀ w ∈ u_ws C T N, w ∈ gTb) ∧ (∀ k, k < N → parseFieldDescriptor (T k).2.2.1 = some (ty k)) ∧ ∀ a, a < N → ∀ b, b < N → a ≠ b → (T a).2.1 ≠ (T b).2.1
/-- a field, as an instruction names it -/
def gLk (own : String) (idx ci k : Nat) (ft : FieldType) (pf : Nat) : Prop := ∃ (C : String) (T : u_T) (N : Nat) (ty : Nat → FieldType), gCl ci C T N ty ∧ k < N ∧ ty k = ft ∧ (pf = 1 → (T k).2.2.2 = false) ∧ (pf = 2 → (T k).2.2.2 = true ∧ (T k).1 = own) ∧ Cond.fieldLink own idx (T k).1 (T k).2.1 (T k).2.2.1 ∈ lw_tbl
def gFit (ft : FieldType) (v : gV) : Prop := narrow ft (gTo v) = gTo v ∧ fits ft (gTo v) = true
theorem gFit_i (x : Int32) : gFit .int (.inl x) := ⟨rfl, rfl⟩
theorem gFit_l (x : Int64) : gFit .long (.inr (.inl x)) := ⟨rfl, rfl⟩
theorem gFit_o (C : String) (r : Option Nat) : gFit (.object C) (.inr (.inr r)) := by cases r <;> exact ⟨rfl, rfl⟩
theorem gFit_a (t : FieldType) (r : Option Nat) : gFit (.array t) (.inr (.inr r)) := by cases r <;> exact ⟨rfl, rfl⟩
theorem gFit_z0 : gFit .boolean (.inl 0) := ⟨by decide +kernel, by decide +kernel⟩
theorem gFit_z1 : gFit .boolean (.inl 1) := ⟨by decide +kernel, by decide +kernel⟩
theorem gTs_cons (v : gV) (st : List gV) : gTs (v :: st) = gTo v :: gTs st := rfl
section WX
variable {X : gX} {cc : ByteArray} {own : String} {nL : Nat} {rt : Option FieldType} {rm : Room} {w : gW} {cl sl pc : Nat} {lv : List (Nat × gV)} {st : List gV} {tab : gTab}
theorem Wx.widen {k n : Nat} (h1 : cl ≤ k) (h2 : sl ≤ n) (kk : Wx X w k n pc lv st) : Wx X w cl sl pc lv st := by
  obtain ⟨⟨p, l, e, R, s, m, args, below, meth, c⟩, G, n', Q⟩ := X
  intro H locs ls hR hS hl
  exact W.widen h1 h2 (kk H locs ls hR hS hl)
theorem Wx.sub (ks : List Nat) {lv' : List (Nat × gV)} (h : ks.filterMap (fun k => lv[k]?) = lv') (kk : Wx X w cl sl pc lv' st) : Wx X w cl sl pc lv st := by
  obtain ⟨⟨p, l, e, R, s, m, args, below, meth, c⟩, G, n', Q⟩ := X
  intro H locs ls hR hS hl
  refine kk H locs ls hR hS (lv_sub hl ks ?_)
  subst h
  unfold lv_pick gTl
  rw [List.map_filterMap]
  congr 1
  funext k
  simp
theorem Wx.run (ok : gOk X cc own nL rt rm) (hd : gDec tab cc) {lv' : List (Nat × gV)} {st' : List gV} {pc' : Nat} (i n : Nat) (h : gRun nL ((tab.drop i).take n) pc lv st = some (pc', lv', st')) (kk : Wx X w cl sl pc' lv' st') : Wx X w cl sl pc lv st := by
  obtain ⟨⟨p, l, e, R, s, m, args, below, meth, c⟩, G, n', Q⟩ := X
  obtain ⟨hx, hb, hml, hn, hown, hts, hK, hlk, hR, hrt⟩ := ok
  subst hn
  have hm : ∀ q ∈ (tab.drop i).take n, decode cc q.1 = .ok q.2 := fun q hq => hd q (List.mem_of_mem_drop (List.mem_of_mem_take hq))
  intro H locs ls hRp hS hl
  revert h hm
  generalize (tab.drop i).take n = t
  intro h hm
  induction t generalizing pc lv st ls with
  | nil =>
    unfold gRun at h
    cases h
    exact kk H locs ls hRp hS hl
  | cons q t ih =>
    obtain ⟨a, ins, len⟩ := q
    unfold gRun at h
    cases hc : ((a == pc) && (len == gLn ins)) with
    | false => rw [hc] at h; cases h
    | true =>
      rw [hc] at h
      have h1 := (Bool.and_eq_true _ _).mp hc
      have e1 : a = pc := by simpa using h1.1
      have e2 : len = gLn ins := by simpa using h1.2
      subst e1
      cases hp : gPs n' ins lv st with
      | none => rw [hp] at h; cases h
      | some q2 =>
        obtain ⟨lv2, st2⟩ := q2
        rw [hp] at h
        have hdq : decode cc a = .ok (ins, len) := hm (a, ins, len) List.mem_cons_self
        have hm2 : ∀ q ∈ t, decode cc q.1 = .ok q.2 := fun q hq => hm q (List.mem_cons_of_mem _ hq)
        refine gPs_ok (ins := ins) (len := len) (pc := a) (lv' := lv2) (st' := st2) hx hb hp hdq e2 hl (fun ls' hl' => ?_)
        exact ih ls' hl' h hm2
-- ls' hl' => ih ls' hl' h (fun q hq => hm q (List.mem_cons_of_mem _ hq)))
theorem Wx.jump (ok : gOk X cc own nL rt rm) (hd : gDec tab cc) (i : Nat) {off : Int} {tgt : Nat} (hi : tab[i]? = some (pc, .goto off, 3)) (ht : (pc : Int) + off = (tgt : Int)) (kk : Wx X w cl sl tgt lv st) : Wx X w cl sl pc lv st := by
  obtain ⟨⟨p, l, e, R, s, m, args, below, meth, c⟩, G, n', Q⟩ := X
  obtain ⟨hx, hb, -⟩ := ok
  intro H locs ls hRp hS hl
  exact lv_goto hx hb (hd.at hi) ht (kk H locs ls hRp hS hl)
theorem gIte {α : Type} {c : Prop} {d : Decidable c} {a b r : α} {P : Prop} (h : (if c then a else b) = r) (kt : c → a = r → P) (kf : ¬ c → b = r → P) : P := by
  by_cases hc : c
  · exact kt hc (by rw [if_pos hc] at h; exact h)
  · exact kf hc (by rw [if_neg hc] at h; exact h)
theorem Wx.icmp_eq (ok : gOk X cc own nL rt rm) (hd : gDec tab cc) (i : Nat) {off : Int} {tgt : Nat} {x y : Int32} (hi : tab[i]? = some (pc, .if_icmp .eq off, 3)) (ht : (pc : Int) + off = (tgt : Int)) {α : Type} {a b r : α} (h : (if x = y then a else b) = r)
    (kt : x = y → a = r → Wx X w cl sl tgt lv st) (kf : ¬ x = y → b = r → Wx X w cl sl (pc + 3) lv st) : Wx X w cl sl pc lv (.inl y :: .inl x :: st) := by
  obtain ⟨⟨p, l, e, R, s, m, args, below, meth, c⟩, G, n', Q⟩ := X
  obtain ⟨hx, hb, -⟩ := ok
  intro H locs ls hRp hS hl
  exact lv_icmp_eq hx hb (hd.at hi) ht (fun q => kt q (by rw [if_pos q] at h; exact h) H locs ls hRp hS hl) (fun q => kf q (by rw [if_neg q] at h; exact h) H locs ls hRp hS hl)
theorem Wx.if_eq (ok : gOk X cc own nL rt rm) (hd : gDec tab cc) (i : Nat) {off : Int} {tgt : Nat} {x : Int32} (hi : tab[i]? = some (pc, .ifCond .eq off, 3)) (ht : (pc : Int) + off = (tgt : Int)) {α : Type} {a b r : α} (h : (if x = 0 then a else b) = r)
    (kt : x = 0 → a = r → Wx X w cl sl tgt lv st) (kf : ¬ x = 0 → b = r → Wx X w cl sl (pc + 3) lv st) : Wx X w cl sl pc lv (.inl x :: st) := by
  obtain ⟨⟨p, l, e, R, s, m, args, below, meth, c⟩, G, n', Q⟩ := X
  obtain ⟨hx, hb, -⟩ := ok
  intro H locs ls hRp hS hl
  exact lv_if_eq hx hb (hd.at hi) ht (fun q => kt q (by rw [if_pos q] at h; exact h) H locs ls hRp hS hl) (fun q => kf q (by rw [if_neg q] at h; exact h) H locs ls hRp hS hl)
theorem Wx.icmp_lt (ok : gOk X cc own nL rt rm) (hd : gDec tab cc) (i : Nat) {off : Int} {tgt : Nat} {x y : Int32} (hi : tab[i]? = some (pc, .if_icmp .lt off, 3)) (ht : (pc : Int) + off = (tgt : Int)) {α : Type} {a b r : α} (h : (if x < y then a else b) = r)
    (kt : x < y → a = r → Wx X w cl sl tgt lv st) (kf : ¬ x < y → b = r → Wx X w cl sl (pc + 3) lv st) : Wx X w cl sl pc lv (.inl y :: .inl x :: st) := by
  obtain ⟨⟨p, l, e, R, s, m, args, below, meth, c⟩, G, n', Q⟩ := X
  obtain ⟨hx, hb, -⟩ := ok
  intro H locs ls hRp hS hl
  exact lv_icmp_lt hx hb (hd.at hi) ht (fun q => kt q (by rw [if_pos q] at h; exact h) H locs ls hRp hS hl) (fun q => kf q (by rw [if_neg q] at h; exact h) H locs ls hRp hS hl)
theorem Wx.if_lt (ok : gOk X cc own nL rt rm) (hd : gDec tab cc) (i : Nat) {off : Int} {tgt : Nat} {x : Int32} (hi : tab[i]? = some (pc, .ifCond .lt off, 3)) (ht : (pc : Int) + off = (tgt : Int)) {α : Type} {a b r : α} (h : (if x < 0 then a else b) = r)
    (kt : x < 0 → a = r → Wx X w cl sl tgt lv st) (kf : ¬ x < 0 → b = r → Wx X w cl sl (pc + 3) lv st) : Wx X w cl sl pc lv (.inl x :: st) := by
  obtain ⟨⟨p, l, e, R, s, m, args, below, meth, c⟩, G, n', Q⟩ := X
  obtain ⟨hx, hb, -⟩ := ok
  intro H locs ls hRp hS hl
  exact lv_if_lt hx hb (hd.at hi) ht (fun q => kt q (by rw [if_pos q] at h; exact h) H locs ls hRp hS hl) (fun q => kf q (by rw [if_neg q] at h; exact h) H locs ls hRp hS hl)
theorem Wx.icmp_ge (ok : gOk X cc own nL rt rm) (hd : gDec tab cc) (i : Nat) {off : Int} {tgt : Nat} {x y : Int32} (hi : tab[i]? = some (pc, .if_icmp .ge off, 3)) (ht : (pc : Int) + off = (tgt : Int)) {α : Type} {a b r : α} (h : (if y ≤ x then a else b) = r)
    (kt : y ≤ x → a = r → Wx X w cl sl tgt lv st) (kf : ¬ y ≤ x → b = r → Wx X w cl sl (pc + 3) lv st) : Wx X w cl sl pc lv (.inl y :: .inl x :: st) := by
  obtain ⟨⟨p, l, e, R, s, m, args, below, meth, c⟩, G, n', Q⟩ := X
  obtain ⟨hx, hb, -⟩ := ok
  intro H locs ls hRp hS hl
  exact lv_icmp_ge hx hb (hd.at hi) ht (fun q => kt q (by rw [if_pos q] at h; exact h) H locs ls hRp hS hl) (fun q => kf q (by rw [if_neg q] at h; exact h) H locs ls hRp hS hl)
theorem Wx.if_ge (ok : gOk X cc own nL rt rm) (hd : gDec tab cc) (i : Nat) {off : Int} {tgt : Nat} {x : Int32} (hi : tab[i]? = some (pc, .ifCond .ge off, 3)) (ht : (pc : Int) + off = (tgt : Int)) {α : Type} {a b r : α} (h : (if 0 ≤ x then a else b) = r)
    (kt : 0 ≤ x → a = r → Wx X w cl sl tgt lv st) (kf : ¬ 0 ≤ x → b = r → Wx X w cl sl (pc + 3) lv st) : Wx X w cl sl pc lv (.inl x :: st) := by
  obtain ⟨⟨p, l, e, R, s, m, args, below, meth, c⟩, G, n', Q⟩ := X
  obtain ⟨hx, hb, -⟩ := ok
  intro H locs ls hRp hS hl
  exact lv_if_ge hx hb (hd.at hi) ht (fun q => kt q (by rw [if_pos q] at h; exact h) H locs ls hRp hS hl) (fun q => kf q (by rw [if_neg q] at h; exact h) H locs ls hRp hS hl)
theorem Wx.icmp_gt (ok : gOk X cc own nL rt rm) (hd : gDec tab cc) (i : Nat) {off : Int} {tgt : Nat} {x y : Int32} (hi : tab[i]? = some (pc, .if_icmp .gt off, 3)) (ht : (pc : Int) + off = (tgt : Int)) {α : Type} {a b r : α} (h : (if y < x then a else b) = r)
    (kt : y < x → a = r → Wx X w cl sl tgt lv st) (kf : ¬ y < x → b = r → Wx X w cl sl (pc + 3) lv st) : Wx X w cl sl pc lv (.inl y :: .inl x :: st) := by
  obtain ⟨⟨p, l, e, R, s, m, args, below, meth, c⟩, G, n', Q⟩ := X
  obtain ⟨hx, hb, -⟩ := ok
  intro H locs ls hRp hS hl
  exact lv_icmp_gt hx hb (hd.at hi) ht (fun q => kt q (by rw [if_pos q] at h; exact h) H locs ls hRp hS hl) (fun q => kf q (by rw [if_neg q] at h; exact h) H locs ls hRp hS hl)
theorem Wx.if_gt (ok : gOk X cc own nL rt rm) (hd : gDec tab cc) (i : Nat) {off : Int} {tgt : Nat} {x : Int32} (hi : tab[i]? = some (pc, .ifCond .gt off, 3)) (ht : (pc : Int) + off = (tgt : Int)) {α : Type} {a b r : α} (h : (if 0 < x then a else b) = r)
    (kt : 0 < x → a = r → Wx X w cl sl tgt lv st) (kf : ¬ 0 < x → b = r → Wx X w cl sl (pc + 3) lv st) : Wx X w cl sl pc lv (.inl x :: st) := by
  obtain ⟨⟨p, l, e, R, s, m, args, below, meth, c⟩, G, n', Q⟩ := X
  obtain ⟨hx, hb, -⟩ := ok
  intro H locs ls hRp hS hl
  exact lv_if_gt hx hb (hd.at hi) ht (fun q => kt q (by rw [if_pos q] at h; exact h) H locs ls hRp hS hl) (fun q => kf q (by rw [if_neg q] at h; exact h) H locs ls hRp hS hl)
theorem Wx.icmp_le (ok : gOk X cc own nL rt rm) (hd : gDec tab cc) (i : Nat) {off : Int} {tgt : Nat} {x y : Int32} (hi : tab[i]? = some (pc, .if_icmp .le off, 3)) (ht : (pc : Int) + off = (tgt : Int)) {α : Type} {a b r : α} (h : (if x ≤ y then a else b) = r)
    (kt : x ≤ y → a = r → Wx X w cl sl tgt lv st) (kf : ¬ x ≤ y → b = r → Wx X w cl sl (pc + 3) lv st) : Wx X w cl sl pc lv (.inl y :: .inl x :: st) := by
  obtain ⟨⟨p, l, e, R, s, m, args, below, meth, c⟩, G, n', Q⟩ := X
  obtain ⟨hx, hb, -⟩ := ok
  intro H locs ls hRp hS hl
  exact lv_icmp_le hx hb (hd.at hi) ht (fun q => kt q (by rw [if_pos q] at h; exact h) H locs ls hRp hS hl) (fun q => kf q (by rw [if_neg q] at h; exact h) H locs ls hRp hS hl)
theorem Wx.if_le (ok : gOk X cc own nL rt rm) (hd : gDec tab cc) (i : Nat) {off : Int} {tgt : Nat} {x : Int32} (hi : tab[i]? = some (pc, .ifCond .le off, 3)) (ht : (pc : Int) + off = (tgt : Int)) {α : Type} {a b r : α} (h : (if x ≤ 0 then a else b) = r)
    (kt : x ≤ 0 → a = r → Wx X w cl sl tgt lv st) (kf : ¬ x ≤ 0 → b = r → Wx X w cl sl (pc + 3) lv st) : Wx X w cl sl pc lv (.inl x :: st) := by
  obtain ⟨⟨p, l, e, R, s, m, args, below, meth, c⟩, G, n', Q⟩ := X
  obtain ⟨hx, hb, -⟩ := ok
  intro H locs ls hRp hS hl
  exact lv_if_le hx hb (hd.at hi) ht (fun q => kt q (by rw [if_pos q] at h; exact h) H locs ls hRp hS hl) (fun q => kf q (by rw [if_neg q] at h; exact h) H locs ls hRp hS hl)
theorem Wx.icmp_ne (ok : gOk X cc own nL rt rm) (hd : gDec tab cc) (i : Nat) {off : Int} {tgt : Nat} {x y : Int32} (hi : tab[i]? = some (pc, .if_icmp .ne off, 3)) (ht : (pc : Int) + off = (tgt : Int)) {α : Type} {a b r : α} (h : (if x = y then a else b) = r)
    (kt : x = y → a = r → Wx X w cl sl (pc + 3) lv st) (kf : ¬ x = y → b = r → Wx X w cl sl tgt lv st) : Wx X w cl sl pc lv (.inl y :: .inl x :: st) := by
  obtain ⟨⟨p, l, e, R, s, m, args, below, meth, c⟩, G, n', Q⟩ := X
  obtain ⟨hx, hb, -⟩ := ok
  intro H locs ls hRp hS hl
  exact lv_icmp_ne hx hb (hd.at hi) ht (fun q => kf q (by rw [if_neg q] at h; exact h) H locs ls hRp hS hl) (fun q => kt q (by rw [if_pos q] at h; exact h) H locs ls hRp hS hl)
theorem Wx.if_ne (ok : gOk X cc own nL rt rm) (hd : gDec tab cc) (i : Nat) {off : Int} {tgt : Nat} {x : Int32} (hi : tab[i]? = some (pc, .ifCond .ne off, 3)) (ht : (pc : Int) + off = (tgt : Int)) {α : Type} {a b r : α} (h : (if x = 0 then a else b) = r)
    (kt : x = 0 → a = r → Wx X w cl sl (pc + 3) lv st) (kf : ¬ x = 0 → b = r → Wx X w cl sl tgt lv st) : Wx X w cl sl pc lv (.inl x :: st) := by
  obtain ⟨⟨p, l, e, R, s, m, args, below, meth, c⟩, G, n', Q⟩ := X
  obtain ⟨hx, hb, -⟩ := ok
  intro H locs ls hRp hS hl
  exact lv_if_ne hx hb (hd.at hi) ht (fun q => kf q (by rw [if_neg q] at h; exact h) H locs ls hRp hS hl) (fun q => kt q (by rw [if_pos q] at h; exact h) H locs ls hRp hS hl)
theorem Wx.ifnull (ok : gOk X cc own nL rt rm) (hd : gDec tab cc) (i : Nat) {off : Int} {tgt : Nat} {x : Option Nat} (hi : tab[i]? = some (pc, .ifnull off, 3)) (ht : (pc : Int) + off = (tgt : Int)) {α : Type} {a b r : α} (h : (if x = none then a else b) = r)
    (kt : x = none → a = r → Wx X w cl sl tgt lv st) (kf : ¬ x = none → b = r → Wx X w cl sl (pc + 3) lv st) : Wx X w cl sl pc lv (.inr (.inr x) :: st) := by
  obtain ⟨⟨p, l, e, R, s, m, args, below, meth, c⟩, G, n', Q⟩ := X
  obtain ⟨hx, hb, -⟩ := ok
  intro H locs ls hRp hS hl
  cases x with
  | none => exact lv_ifnullN hx hb (hd.at hi) ht (kt rfl (by rw [if_pos rfl] at h; exact h) H locs ls hRp hS hl)
  | some x => exact lv_ifnull hx hb (hd.at hi) (kf (by simp) (by rw [if_neg (by simp)] at h; exact h) H locs ls hRp hS hl)
theorem Wx.ifnonnull (ok : gOk X cc own nL rt rm) (hd : gDec tab cc) (i : Nat) {off : Int} {tgt : Nat} {x : Option Nat} (hi : tab[i]? = some (pc, .ifnonnull off, 3)) (ht : (pc : Int) + off = (tgt : Int)) {α : Type} {a b r : α} (h : (if x = none then a else b) = r)
    (kt : x = none → a = r → Wx X w cl sl (pc + 3) lv st) (kf : ¬ x = none → b = r → Wx X w cl sl tgt lv st) : Wx X w cl sl pc lv (.inr (.inr x) :: st) := by
  obtain ⟨⟨p, l, e, R, s, m, args, below, meth, c⟩, G, n', Q⟩ := X
  obtain ⟨hx, hb, -⟩ := ok
  intro H locs ls hRp hS hl
  cases x with
  | none => exact lv_ifnonnullN hx hb (hd.at hi) (kt rfl (by rw [if_pos rfl] at h; exact h) H locs ls hRp hS hl)
  | some x => exact lv_ifnonnull hx hb (hd.at hi) ht (kf (by simp) (by rw [if_neg (by simp)] at h; exact h) H locs ls hRp hS hl)
theorem Wx.acmp_ne (ok : gOk X cc own nL rt rm) (hd : gDec tab cc) (i : Nat) {off : Int} {tgt : Nat} {x y : Option Nat} (hi : tab[i]? = some (pc, .if_acmp .ne off, 3)) (ht : (pc : Int) + off = (tgt : Int)) {α : Type} {a b r : α} (h : (if x = y then a else b) = r)
    (kt : x = y → a = r → Wx X w cl sl (pc + 3) lv st) (kf : ¬ x = y → b = r → Wx X w cl sl tgt lv st) : Wx X w cl sl pc lv (.inr (.inr y) :: .inr (.inr x) :: st) := by
  obtain ⟨⟨p, l, e, R, s, m, args, below, meth, c⟩, G, n', Q⟩ := X
  obtain ⟨hx, hb, -⟩ := ok
  intro H locs ls hRp hS hl
  exact lv_acmp_ne hx hb (hd.at hi) ht (fun q => kf q (by rw [if_neg q] at h; exact h) H locs ls hRp hS hl) (fun q => kt q (by rw [if_pos q] at h; exact h) H locs ls hRp hS hl)
theorem Wx.swIn (ok : gOk X cc own nL rt rm) (hd : gDec tab cc) (i : Nat) {dflt lo hi off : Int} {offs : Array Int} {len tgt : Nat} {x : Int32} (hi' : tab[i]? = some (pc, .tableswitch dflt lo hi offs, len)) (h1 : ¬ x.toInt < lo) (h2 : ¬ hi < x.toInt) (ho : offs[(x.toInt - lo).toNat]? = some off) (ht : (pc : Int) + off = (tgt : Int)) (kk : Wx X w cl sl tgt lv st) : Wx X w cl sl pc lv (.inl x :: st) := by
  obtain ⟨⟨p, l, e, R, s, m, args, below, meth, c⟩, G, n', Q⟩ := X
  obtain ⟨hx, hb, -⟩ := ok
  intro H locs ls hRp hS hl
  exact lv_tableIn hx hb (hd.at hi') h1 h2 ho ht (kk H locs ls hRp hS hl)
theorem Wx.swOut (ok : gOk X cc own nL rt rm) (hd : gDec tab cc) (i : Nat) {dflt lo hi : Int} {offs : Array Int} {len tgt : Nat} {x : Int32} (hi' : tab[i]? = some (pc, .tableswitch dflt lo hi offs, len)) (h1 : x.toInt < lo ∨ hi < x.toInt) (ht : (pc : Int) + dflt = (tgt : Int)) (kk : Wx X w cl sl tgt lv st) : Wx X w cl sl pc lv (.inl x :: st) := by
  obtain ⟨⟨p, l, e, R, s, m, args, below, meth, c⟩, G, n', Q⟩ := X
  obtain ⟨hx, hb, -⟩ := ok
  intro H locs ls hRp hS hl
  exact lv_tableOut hx hb (hd.at hi') h1 ht (kk H locs ls hRp hS hl)
theorem Wx.ldc (ok : gOk X cc own nL rt rm) (hd : gDec tab cc) (i : Nat) {idx : Nat} {v : Int32} (hi : tab[i]? = some (pc, .ldc idx, 2)) (hw : Cond.constant own idx v ∈ lw_tbl) (kk : Wx X w cl sl (pc + 2) lv (.inl v :: st)) : Wx X w cl sl pc lv st := by
  obtain ⟨⟨p, l, e, R, s, m, args, below, meth, c⟩, G, n', Q⟩ := X
  obtain ⟨hx, hb, -, -, hown, hts, -⟩ := ok
  intro H locs ls hRp hS hl
  exact lv_ldc hx hb hown (hts _ (gT hw rfl)) (hd.at hi) (kk H locs ls hRp hS hl)
theorem Wx.ldc2 (ok : gOk X cc own nL rt rm) (hd : gDec tab cc) (i : Nat) {idx : Nat} {v : Int64} (hi : tab[i]? = some (pc, .ldc2_w idx, 3)) (hw : Cond.constantLong own idx v ∈ lw_tbl) (kk : Wx X w cl sl (pc + 3) lv (.inr (.inl v) :: st)) : Wx X w cl sl pc lv st := by
  obtain ⟨⟨p, l, e, R, s, m, args, below, meth, c⟩, G, n', Q⟩ := X
  obtain ⟨hx, hb, -, -, hown, hts, -⟩ := ok
  intro H locs ls hRp hS hl
  exact lv_ldc2 hx hb hown (hts _ (gT hw rfl)) (hd.at hi) (kk H locs ls hRp hS hl)
theorem Wx.idiv (ok : gOk X cc own nL rt rm) (hd : gDec tab cc) (i : Nat) {x y : Int32} (hi : tab[i]? = some (pc, .idiv, 1)) {ρ : Type} {f : Int32 → Option ρ} {q : ρ} (h : (gDiv x y).bind f = some q) (kk : ∀ v, f v = some q → Wx X w cl sl (pc + 1) lv (.inl v :: st)) : Wx X w cl sl pc lv (.inl y :: .inl x :: st) := by
  obtain ⟨v, h1, h2⟩ := gob h
  have h3 := kk v h2
  obtain ⟨⟨p, l, e, R, s, m, args, below, meth, c⟩, G, n', Q⟩ := X
  obtain ⟨hx, hb, -⟩ := ok
  intro H locs ls hRp hS hl
  unfold gDiv at h1
  by_cases hy : y = 0
  · rw [if_pos hy] at h1; cases h1
  · rw [if_neg hy] at h1; cases h1
    exact lv_idiv hx hb (hd.at hi) hy (h3 H locs ls hRp hS hl)
theorem Wx.irem (ok : gOk X cc own nL rt rm) (hd : gDec tab cc) (i : Nat) {x y : Int32} (hi : tab[i]? = some (pc, .irem, 1)) {ρ : Type} {f : Int32 → Option ρ} {q : ρ} (h : (gRem x y).bind f = some q) (kk : ∀ v, f v = some q → Wx X w cl sl (pc + 1) lv (.inl v :: st)) : Wx X w cl sl pc lv (.inl y :: .inl x :: st) := by
  obtain ⟨v, h1, h2⟩ := gob h
  have h3 := kk v h2
  obtain ⟨⟨p, l, e, R, s, m, args, below, meth, c⟩, G, n', Q⟩ := X
  obtain ⟨hx, hb, -⟩ := ok
  intro H locs ls hRp hS hl
  unfold gRem at h1
  by_cases hy : y = 0
  · rw [if_pos hy] at h1; cases h1
  · rw [if_neg hy] at h1; cases h1
    exact lv_irem hx hb (hd.at hi) hy (h3 H locs ls hRp hS hl)
end WX
