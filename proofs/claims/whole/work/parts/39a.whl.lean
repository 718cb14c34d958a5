/-! THE WHOLE LAW, from its entry -/
theorem iK0 : ∀ w ∈ u_ws RX0 TX0 7, w ∈ lw_tbl := by decide +kernel
theorem iK1 : ∀ w ∈ u_ws RX1 TX1 6, w ∈ lw_tbl := by decide +kernel
theorem iK2 : ∀ w ∈ u_ws RX2 TX2 8, w ∈ lw_tbl := by decide +kernel
theorem iK3 : ∀ w ∈ u_ws RX3 TX3 8, w ∈ lw_tbl := by decide +kernel
theorem iK4 : ∀ w ∈ u_ws RX4 TX4 3, w ∈ lw_tbl := by decide +kernel
theorem iK5 : ∀ w ∈ u_ws RX5 TX5 7, w ∈ lw_tbl := by decide +kernel
theorem iK6 : ∀ w ∈ u_ws RX6 TX6 7, w ∈ lw_tbl := by decide +kernel
theorem iK7 : ∀ w ∈ u_ws RX7 TX7 40, w ∈ lw_tbl := by decide +kernel
theorem st_kn {s : State} {args : Array Value} (hts : ∀ w ∈ lw_tbl, w.before args s = true) : ∃ D : va_G, ∀ (c : Nat) (q : vw_C), vwCl[c]? = some q → u_Kn s q.1 q.2.1 q.2.2 (D.1 c) (D.2 c) := by
  obtain ⟨c0, i0, k0⟩ := u_known (C := RX0) (T := TX0) (N := 7) (n := 7) hts iK0 (hts _ gw_375)
  obtain ⟨c1, i1, k1⟩ := u_known (C := RX1) (T := TX1) (N := 6) (n := 6) hts iK1 (hts _ gw_387)
  obtain ⟨c2, i2, k2⟩ := u_known (C := RX2) (T := TX2) (N := 8) (n := 8) hts iK2 (hts _ gw_76)
  obtain ⟨c3, i3, k3⟩ := u_known (C := RX3) (T := TX3) (N := 8) (n := 8) hts iK3 (hts _ gw_314)
  obtain ⟨c4, i4, k4⟩ := u_known (C := RX4) (T := TX4) (N := 3) (n := 3) hts iK4 (hts _ gw_26)
  obtain ⟨c5, i5, k5⟩ := u_known (C := RX5) (T := TX5) (N := 7) (n := 7) hts iK5 (hts _ gw_381)
  obtain ⟨c6, i6, k6⟩ := u_known (C := RX6) (T := TX6) (N := 7) (n := 7) hts iK6 (hts _ gw_13)
  obtain ⟨c7, i7, k7⟩ := u_known (C := RX7) (T := TX7) (N := 40) (n := 40) hts iK7 (hts _ gw_690)
  refine ⟨(fun k => match k with | 0 => c0 | 1 => c1 | 2 => c2 | 3 => c3 | 4 => c4 | 5 => c5 | 6 => c6 | _ => c7, fun k => match k with | 0 => i0 | 1 => i1 | 2 => i2 | 3 => i3 | 4 => i4 | 5 => i5 | 6 => i6 | _ => i7), ?_⟩
  intro c q hq
  rcases c with _ | _ | _ | _ | _ | _ | _ | _ | c
  · cases hq; exact k0
  · cases hq; exact k1
  · cases hq; exact k2
  · cases hq; exact k3
  · cases hq; exact k4
  · cases hq; exact k5
  · cases hq; exact k6
  · cases hq; exact k7
  · cases hq
theorem st_ar {s : State} {args : Array Value} (hts : ∀ w ∈ lw_tbl, w.before args s = true) : ∃ A : FieldType → ClassId, ∀ (k : Nat) (q : ClassId × FieldType), (gTys A)[k]? = some q → ArrOfT s q.1 q.2 ∧ va_RA s q.1 q.2 := by
  classical
  have eI : ∃ c, ArrOfT s c .int ∧ va_RA s c .int := by
    obtain ⟨c, k, comp, h1, h2, h3⟩ := Cond.arrayClass_spec (hts _ gw_45)
    exact ⟨c, fun n z => ⟨fun k h => (by cases h), k, h2, comp, h3⟩, h1⟩
  have eL : ∃ c, ArrOfT s c .long ∧ va_RA s c .long := by
    obtain ⟨c, k, comp, h1, h2, h3⟩ := Cond.arrayClass_spec (hts _ gw_818)
    exact ⟨c, fun n z => ⟨fun k h => (by cases h), k, h2, comp, h3⟩, h1⟩
  have eO : ∀ C : String, Cond.arrayOver (.object C) ∈ lw_tbl → ∃ c, ArrOfT s c (.object C) ∧ va_RA s c (.object C) := fun C hC => by
    obtain ⟨comp, c, k, h1, -, h2, h3, h4⟩ := Cond.arrayOver_spec (hts _ hC)
    exact ⟨c, fun n z => ⟨fun k h => (by cases h), k, h2, comp, h3⟩, k, comp, h2, h3, h1, h4⟩
  have e2 := eO (gName 2) gw_21
  have e0 := eO (gName 0) gw_23
  have e4 := eO (gName 4) gw_25
  let A : FieldType → ClassId := fun ty => if h : ∃ c, ArrOfT s c ty ∧ va_RA s c ty then h.choose else eI.choose
  have hA : ∀ ty, (∃ c, ArrOfT s c ty ∧ va_RA s c ty) → ArrOfT s (A ty) ty ∧ va_RA s (A ty) ty := fun ty h => by
    have : A ty = h.choose := dif_pos h
    rw [this]
    exact h.choose_spec
  refine ⟨A, fun k q hq => ?_⟩
  rcases k with _ | _ | _ | _ | _ | k
  · cases hq; exact hA _ eI
  · cases hq; exact hA _ eL
  · cases hq; exact hA _ e2
  · cases hq; exact hA _ e0
  · cases hq; exact hA _ e4
  · cases hq
theorem whole_start {p : Program} {e : Env} {s : State} {m : MethodId} {below : List Frame} {meth : Method} {c : Code} (l : Launch) (hflags : l.flags = flags0) {b L : Nat} {xs : Nat → Int32} (hL : L ≤ 3584) (C0 : lw_At p s m meth c b L xs) : W p l e room_1 s m #[Value.ref b] below meth c s.heap [] 0 0 (lw_Z below #[Value.ref b] s) (entryFrame m ([Value.ref b] : List Value).toArray 4) := by
  obtain ⟨hx, hb, hr, hml, hown, hts, hX, hbl, hlocks, hgv⟩ := id C0
  have hs := flat_of_before _ hgv
  obtain ⟨D, hD⟩ := st_kn hts
  obtain ⟨A, hA⟩ := st_ar hts
  have hfree : ∀ a : Nat, a < s.heap.size → ¬ (fun q : Nat => s.heap.size ≤ q) a := fun a ha => Nat.not_le.mpr ha
  have hel : ∀ j : Nat, j < 16 → (Term.elem (.static "GroupTowers" "UNITS" "[I") (.int (Int32.ofNat j))).eval #[Value.ref b] s none [] s = some (.int (gUnit j)) := by
    intro j hj
    rcases j with _ | _ | _ | _ | _ | _ | _ | _ | _ | _ | _ | _ | _ | _ | _ | _ | j
    · exact va_eqt (z := 0) (hs _ (by decide +kernel))
    · exact va_eqt (z := 1) (hs _ (by decide +kernel))
    · exact va_eqt (z := 2) (hs _ (by decide +kernel))
    · exact va_eqt (z := 3) (hs _ (by decide +kernel))
    · exact va_eqt (z := 1) (hs _ (by decide +kernel))
    · exact va_eqt (z := 4) (hs _ (by decide +kernel))
    · exact va_eqt (z := 3) (hs _ (by decide +kernel))
    · exact va_eqt (z := 6) (hs _ (by decide +kernel))
    · exact va_eqt (z := 2) (hs _ (by decide +kernel))
    · exact va_eqt (z := 7) (hs _ (by decide +kernel))
    · exact va_eqt (z := 4) (hs _ (by decide +kernel))
    · exact va_eqt (z := 1) (hs _ (by decide +kernel))
    · exact va_eqt (z := 3) (hs _ (by decide +kernel))
    · exact va_eqt (z := 2) (hs _ (by decide +kernel))
    · exact va_eqt (z := 5) (hs _ (by decide +kernel))
    · exact va_eqt (z := 4) (hs _ (by decide +kernel))
    · omega
  obtain ⟨t, ht, hT⟩ := va_Tof (args := #[Value.ref b]) (s := s) (tm := .static "GroupTowers" "UNITS" "[I") (ty := .int) (N := 16) (f := fun i => .int (gUnit i)) (A := fun q : Nat => s.heap.size ≤ q) (by decide) (hs _ (by decide +kernel)) (va_eqt (z := 16) (hs _ (by decide +kernel))) hel hfree
  have hZ : va_Z "GroupTowers" "UNITS" "[I" (.ref t) (fun q : Nat => s.heap.size ≤ q) s s.heap := va_Zof (args := #[Value.ref b]) (hts _ (by decide +kernel)) (hts _ gw_1) ht hfree
  have hK : gK (D, A, s.heap.size, t) s := ⟨⟨fun a i x h hw => va_Nw.of rfl (hts _ hw), fun a i b n d h hw => va_Nw.of rfl (hts _ hw), fun C hw => va_AO.of (hts _ hw)⟩, ⟨hD, hA⟩, hZ, hT, Nat.le_refl _⟩
  have key := aL_law (X := ((p, l, e, room_1, s, m, #[Value.ref b], below, meth, c), (D, A, s.heap.size, t), 4, lw_Z below #[Value.ref b] s)) (F := 1000000000000) (L := L) (xs := xs) (sb := b) (w := (fun _ => none, s.heap.size)) ⟨hx, hb, hml, rfl, hown, fun w hw => hts w (List.mem_filter.mp hw).1, hK, hlocks, rfl, hr⟩ ⟨b, rfl, rfl, fun q hq => hq⟩ ⟨hX, hbl, Nat.not_le.mpr hbl⟩ (law_all (by unfold fG; exact Nat.le_refl _) hL _)
  have hl := lv_entry ([.ref b]) (n := 4) (Nat.le_of_ble_eq_true rfl)
  rw [lg_entry_eq]
  generalize (lg_sl ([.ref b]) ++ List.replicate (4 - (lg_sl ([.ref b])).length) Slot.unset).toArray = ls at hl ⊢
  exact key s.heap [] ls ⟨rfl, fun a e h => by cases h⟩ va_S.rf hl
