/-! THE PURE STRETCHES: a function that steps over them, and why it may -/
def gPs (nL : Nat) (ins : Instr) (lv : List (Nat × gV)) (st : List gV) : Option (List (Nat × gV) × List gV) := match ins with
  | .iconst n => some (lv, .inl (Int32.ofInt n) :: st)
  | .bipush n => if (Int8.ofInt n).toInt32 = Int32.ofInt n then some (lv, .inl (Int32.ofInt n) :: st) else none
  | .sipush n => if (Int16.ofInt n).toInt32 = Int32.ofInt n then some (lv, .inl (Int32.ofInt n) :: st) else none
  | .lconst n => some (lv, .inr (.inl (Int64.ofNat (n : Nat))) :: st)
  | .iload i => match gGet lv i with
    | some (.inl x) => some (lv, .inl x :: st)
    | _ => none
  | .iload_n i => match gGet lv (i : Nat) with
    | some (.inl x) => some (lv, .inl x :: st)
    | _ => none
  | .lload i => match gGet lv i with
    | some (.inr (.inl x)) => some (lv, .inr (.inl x) :: st)
    | _ => none
  | .lload_n i => match gGet lv (i : Nat) with
    | some (.inr (.inl x)) => some (lv, .inr (.inl x) :: st)
    | _ => none
  | .aload i => match gGet lv i with
    | some (.inr (.inr x)) => some (lv, .inr (.inr x) :: st)
    | _ => none
  | .aload_n i => match gGet lv (i : Nat) with
    | some (.inr (.inr x)) => some (lv, .inr (.inr x) :: st)
    | _ => none
  | .istore i => match st with
    | .inl x :: r => bif Nat.blt i nL then some (gPut1 lv i (.inl x), r) else none
    | _ => none
  | .istore_n i => match st with
    | .inl x :: r => bif Nat.blt i nL then some (gPut1 lv i (.inl x), r) else none
    | _ => none
  | .lstore i => match st with
    | .inr (.inl x) :: r => bif Nat.blt (i + 1) nL then some (gPut2 lv i (.inr (.inl x)), r) else none
    | _ => none
  | .lstore_n i => match st with
    | .inr (.inl x) :: r => bif Nat.blt (i + 1) nL then some (gPut2 lv i (.inr (.inl x)), r) else none
    | _ => none
  | .astore i => match st with
    | .inr (.inr x) :: r => bif Nat.blt i nL then some (gPut1 lv i (.inr (.inr x)), r) else none
    | _ => none
  | .astore_n i => match st with
    | .inr (.inr x) :: r => bif Nat.blt i nL then some (gPut1 lv i (.inr (.inr x)), r) else none
    | _ => none
  | .iinc i n => match gGet lv i with
    | some (.inl x) => bif Nat.blt i nL then some (gPut1 lv i (.inl (x + Int32.ofInt n)), st) else none
    | _ => none
  | .iadd => match st with
    | .inl y :: .inl x :: r => some (lv, .inl (x + y) :: r)
    | _ => none
  | .isub => match st with
    | .inl y :: .inl x :: r => some (lv, .inl (x - y) :: r)
    | _ => none
  | .imul => match st with
    | .inl y :: .inl x :: r => some (lv, .inl (x * y) :: r)
    | _ => none
  | .iand => match st with
    | .inl y :: .inl x :: r => some (lv, .inl (x &&& y) :: r)
    | _ => none
  | .ior => match st with
    | .inl y :: .inl x :: r => some (lv, .inl (x ||| y) :: r)
    | _ => none
  | .ixor => match st with
    | .inl y :: .inl x :: r => some (lv, .inl (x ^^^ y) :: r)
    | _ => none
  | .ishl => match st with
    | .inl y :: .inl x :: r => some (lv, .inl (x <<< (y &&& 31)) :: r)
    | _ => none
  | .ishr => match st with
    | .inl y :: .inl x :: r => some (lv, .inl (x >>> (y &&& 31)) :: r)
    | _ => none
  | .ineg => match st with
    | .inl x :: r => some (lv, .inl (-x) :: r)
    | _ => none
  | .i2l => match st with
    | .inl x :: r => some (lv, .inr (.inl x.toInt64) :: r)
    | _ => none
  | .i2b => match st with
    | .inl x :: r => some (lv, .inl x.toInt8.toInt32 :: r)
    | _ => none
  | .l2i => match st with
    | .inr (.inl x) :: r => some (lv, .inl x.toInt32 :: r)
    | _ => none
  | .ladd => match st with
    | .inr (.inl y) :: .inr (.inl x) :: r => some (lv, .inr (.inl (x + y)) :: r)
    | _ => none
  | .lsub => match st with
    | .inr (.inl y) :: .inr (.inl x) :: r => some (lv, .inr (.inl (x - y)) :: r)
    | _ => none
  | .land => match st with
    | .inr (.inl y) :: .inr (.inl x) :: r => some (lv, .inr (.inl (x &&& y)) :: r)
    | _ => none
  | .lor => match st with
    | .inr (.inl y) :: .inr (.inl x) :: r => some (lv, .inr (.inl (x ||| y)) :: r)
    | _ => none
  | .lshl => match st with
    | .inl y :: .inr (.inl x) :: r => some (lv, .inr (.inl (x <<< (y.toInt64 &&& 63))) :: r)
    | _ => none
  | .lshr => match st with
    | .inl y :: .inr (.inl x) :: r => some (lv, .inr (.inl (x >>> (y.toInt64 &&& 63))) :: r)
    | _ => none
  | .lushr => match st with
    | .inl y :: .inr (.inl x) :: r => some (lv, .inr (.inl (x.toUInt64 >>> (y.toInt64.toUInt64 &&& Int64.toUInt64 63)).toInt64) :: r)
    | _ => none
  | .lcmp => match st with
    | .inr (.inl y) :: .inr (.inl x) :: r => some (lv, .inl (lg_cmp x y) :: r)
    | _ => none
  | .dup => match st with
    | .inl x :: r => some (lv, .inl x :: .inl x :: r)
    | .inr (.inr x) :: r => some (lv, .inr (.inr x) :: .inr (.inr x) :: r)
    | _ => none
  | .dup_x1 => match st with
    | .inl x :: .inl y :: r => some (lv, .inl x :: .inl y :: .inl x :: r)
    | .inl x :: .inr (.inr y) :: r => some (lv, .inl x :: .inr (.inr y) :: .inl x :: r)
    | _ => none
  | .dup2 => match st with
    | .inl x :: .inl y :: r => some (lv, .inl x :: .inl y :: .inl x :: .inl y :: r)
    | .inl x :: .inr (.inr y) :: r => some (lv, .inl x :: .inr (.inr y) :: .inl x :: .inr (.inr y) :: r)
    | _ => none
  | .aconst_null => some (lv, .inr (.inr none) :: st)
  | _ => none
/-- how long an instruction of a pure stretch is -/
def gLn (ins : Instr) : Nat := match ins with
  | .bipush _ => 2
  | .sipush _ => 3
  | .iload _ => 2
  | .lload _ => 2
  | .aload _ => 2
  | .istore _ => 2
  | .lstore _ => 2
  | .astore _ => 2
  | .iinc _ _ => 3
  | _ => 1
theorem gLvAt {ls : Array Slot} {nL : Nat} {lv : List (Nat × gV)} {i : Nat} {v : gV} (hl : lv_has ls nL (gTl lv)) (h : gGet lv i = some v) : ls[i]? = some (.val (gTo v)) := hl.2.2 _ (gGet_at h)
section PS
variable {p : Program} {l : Launch} {e : Env} {R : Room} {s : State} {m : MethodId} {args : Array Value} {below : List Frame} {meth : Method} {c : Code} {H : Heap} {locs : List Loc} {cells slots : Nat} {Q : State → Prop}
variable {cc : ByteArray} {pc len nL : Nat} {ls : Array Slot}
theorem gIf {α : Type} {c : Prop} {d : Decidable c} {a b : α} (h : (if c then some a else none) = some b) : c ∧ a = b := by
  by_cases hc : c
  · rw [if_pos hc] at h; exact ⟨hc, Option.some.inj h⟩
  · rw [if_neg hc] at h; cases h
theorem gBif {α : Type} {c : Bool} {a b : α} (h : (bif c then some a else none) = some b) : c = true ∧ a = b := by
  cases c
  · cases h
  · exact ⟨rfl, Option.some.inj h⟩
theorem gNlt {i n : Nat} (h : Nat.blt i n = true) : i < n := by
  have := Nat.ble_eq.mp h; omega
set_option maxHeartbeats 8000000 in
theorem gPs_ok (hx : p.tables.exec = Jvm.exec) (hb : c.code = cc) {ins : Instr} {lv lv' : List (Nat × gV)} {st st' : List gV} (h : gPs nL ins lv st = some (lv', st')) (hd : decode cc pc = .ok (ins, len)) (hlen : len = gLn ins) (hl : lv_has ls nL (gTl lv))
    (kk : ∀ ls' : Array Slot, lv_has ls' nL (gTl lv') → W p l e R s m args below meth c H locs cells slots Q (F0 m (pc + len) ls' (gTs st'))) : W p l e R s m args below meth c H locs cells slots Q (F0 m pc ls (gTs st)) := by
  subst hlen
  cases ins
  case iconst n =>
    cases h; exact lv_iconst hx hb hd rfl (kk ls hl)
  case bipush n =>
    simp only [gPs] at h; obtain ⟨h1, h2⟩ := gIf h; cases h2; exact lv_bipush hx hb hd h1 (kk ls hl)
  case sipush n =>
    simp only [gPs] at h; obtain ⟨h1, h2⟩ := gIf h; cases h2; exact lv_sipush hx hb hd h1 (kk ls hl)
  case lconst n =>
    cases h; exact lv_lconst hx hb hd rfl (kk ls hl)
  case iload i =>
    simp only [gPs] at h; split at h
    · rename_i x hg; cases h; exact lv_iload hx hb hd (gLvAt hl hg) (kk ls hl)
    · cases h
  case iload_n i =>
    simp only [gPs] at h; split at h
    · rename_i x hg; cases h; exact lv_iload_n hx hb hd rfl (gLvAt hl hg) (kk ls hl)
    · cases h
  case lload i =>
    simp only [gPs] at h; split at h
    · rename_i x hg; cases h; exact lv_lload hx hb hd (gLvAt hl hg) (kk ls hl)
    · cases h
  case lload_n i =>
    simp only [gPs] at h; split at h
    · rename_i x hg; cases h; exact lv_lload_n hx hb hd rfl (gLvAt hl hg) (kk ls hl)
    · cases h
  case aload i =>
    simp only [gPs] at h; split at h
    · rename_i x hg; cases h; cases x with
      | none => exact lv_aloadN hx hb hd (gLvAt hl hg) (kk ls hl)
      | some x => exact lv_aload hx hb hd (gLvAt hl hg) (kk ls hl)
    · cases h
  case aload_n i =>
    simp only [gPs] at h; split at h
    · rename_i x hg; cases h; cases x with
      | none => exact lv_aload_nN hx hb hd rfl (gLvAt hl hg) (kk ls hl)
      | some x => exact lv_aload_n hx hb hd rfl (gLvAt hl hg) (kk ls hl)
    · cases h
  case istore i =>
    simp only [gPs] at h; split at h
    · obtain ⟨h1, h2⟩ := gBif h; cases h2; exact lv_istore hx hb hd hl (gNlt h1) (gTl_put1 lv _ (.inl _)) kk
    · cases h
  case istore_n i =>
    simp only [gPs] at h; split at h
    · obtain ⟨h1, h2⟩ := gBif h; cases h2; exact lv_istore_n hx hb hd rfl hl (gNlt h1) (gTl_put1 lv _ (.inl _)) kk
    · cases h
  case lstore i =>
    simp only [gPs] at h; split at h
    · obtain ⟨h1, h2⟩ := gBif h; cases h2; exact lv_lstore hx hb hd hl (gNlt h1) (gTl_put2 lv _ (.inr (.inl _))) kk
    · cases h
  case lstore_n i =>
    simp only [gPs] at h; split at h
    · obtain ⟨h1, h2⟩ := gBif h; cases h2; exact lv_lstore_n hx hb hd rfl hl (gNlt h1) (gTl_put2 lv _ (.inr (.inl _))) kk
    · cases h
  case astore i =>
    simp only [gPs] at h; split at h
    · rename_i x r; obtain ⟨h1, h2⟩ := gBif h; cases h2; cases x with
      | none => exact lv_astoreN hx hb hd hl (gNlt h1) (gTl_put1 lv _ (.inr (.inr none))) kk
      | some x => exact lv_astore hx hb hd hl (gNlt h1) (gTl_put1 lv _ (.inr (.inr (some x)))) kk
    · cases h
  case astore_n i =>
    simp only [gPs] at h; split at h
    · rename_i x r; obtain ⟨h1, h2⟩ := gBif h; cases h2; cases x with
      | none => exact lv_astore_nN hx hb hd rfl hl (gNlt h1) (gTl_put1 lv _ (.inr (.inr none))) kk
      | some x => exact lv_astore_n hx hb hd rfl hl (gNlt h1) (gTl_put1 lv _ (.inr (.inr (some x)))) kk
    · cases h
  case iinc i n =>
    simp only [gPs] at h; split at h
    · rename_i x hg; obtain ⟨h1, h2⟩ := gBif h; cases h2; obtain ⟨k, hk⟩ := List.getElem?_of_mem (gGet_at hg); exact lv_iinc hx hb hd hl hk rfl (gNlt h1) (gTl_put1 lv _ (.inl _)) kk
    · cases h
  case iadd =>
    simp only [gPs] at h; split at h
    · cases h; exact lv_iadd hx hb hd (kk ls hl)
    · cases h
  case isub =>
    simp only [gPs] at h; split at h
    · cases h; exact lv_isub hx hb hd (kk ls hl)
    · cases h
  case imul =>
    simp only [gPs] at h; split at h
    · cases h; exact lv_imul hx hb hd (kk ls hl)
    · cases h
  case iand =>
    simp only [gPs] at h; split at h
    · cases h; exact lv_iand hx hb hd (kk ls hl)
    · cases h
  case ior =>
    simp only [gPs] at h; split at h
    · cases h; exact lv_ior hx hb hd (kk ls hl)
    · cases h
  case ixor =>
    simp only [gPs] at h; split at h
    · cases h; exact lv_ixor hx hb hd (kk ls hl)
    · cases h
  case ishl =>
    simp only [gPs] at h; split at h
    · cases h; exact lv_ishl hx hb hd (kk ls hl)
    · cases h
  case ishr =>
    simp only [gPs] at h; split at h
    · cases h; exact lv_ishr hx hb hd (kk ls hl)
    · cases h
  case ineg =>
    simp only [gPs] at h; split at h
    · cases h; exact lv_ineg hx hb hd (kk ls hl)
    · cases h
  case ladd =>
    simp only [gPs] at h; split at h
    · cases h; exact lv_ladd hx hb hd (kk ls hl)
    · cases h
  case lsub =>
    simp only [gPs] at h; split at h
    · cases h; exact lv_lsub hx hb hd (kk ls hl)
    · cases h
  case land =>
    simp only [gPs] at h; split at h
    · cases h; exact lv_land hx hb hd (kk ls hl)
    · cases h
  case lor =>
    simp only [gPs] at h; split at h
    · cases h; exact lv_lor hx hb hd (kk ls hl)
    · cases h
  case i2l =>
    simp only [gPs] at h; split at h
    · cases h; exact lv_i2l hx hb hd rfl (kk ls hl)
    · cases h
  case i2b =>
    simp only [gPs] at h; split at h
    · cases h; exact lv_i2b hx hb hd rfl (kk ls hl)
    · cases h
  case l2i =>
    simp only [gPs] at h; split at h
    · cases h; exact lv_l2i hx hb hd rfl (kk ls hl)
    · cases h
  case lshl =>
    simp only [gPs] at h; split at h
    · cases h; exact lv_lshl hx hb hd rfl (kk ls hl)
    · cases h
  case lshr =>
    simp only [gPs] at h; split at h
    · cases h; exact lv_lshr hx hb hd rfl (kk ls hl)
    · cases h
  case lushr =>
    simp only [gPs] at h; split at h
    · cases h; exact lv_lushr hx hb hd rfl (kk ls hl)
    · cases h
  case lcmp =>
    simp only [gPs] at h; split at h
    · cases h; exact W.lcmp hx hb hd (kk ls hl)
    · cases h
  case dup =>
    simp only [gPs] at h; split at h
    · cases h; exact lv_dup hx hb hd rfl (kk ls hl)
    · rename_i x r; cases h; exact lv_dup hx hb hd (by cases x <;> rfl) (kk ls hl)
    · cases h
  case dup_x1 =>
    simp only [gPs] at h; split at h
    · cases h; exact lv_dup_x1 hx hb hd rfl rfl (kk ls hl)
    · rename_i x y r; cases h; exact lv_dup_x1 hx hb hd rfl (by cases y <;> rfl) (kk ls hl)
    · cases h
  case dup2 =>
    simp only [gPs] at h; split at h
    · cases h; exact lv_dup2_11 hx hb hd rfl rfl (kk ls hl)
    · rename_i x y r; cases h; exact lv_dup2_11 hx hb hd rfl (by cases y <;> rfl) (kk ls hl)
    · cases h
  case aconst_null =>
    cases h; exact lv_null hx hb hd (kk ls hl)
  all_goals
    have h0 : (none : Option (List (Nat × gV) × List gV)) = some (lv', st') := h
    cases h0
end PS
