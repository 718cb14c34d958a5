section SLW
variable {F x m A g t b s n r : Nat} {C : yC} {w : gW} {O : zO} {S : oSt} {Z : zS} {T : Nat → Nat → Nat} {M : Nat → Nat → Nat → Int}
/-- what of a module's solution is there -/
def ySf (p : Nat) [NeZero p] (O : zO) (A t b s n r : Nat) (T : Nat → Nat → Nat) (M : Nat → Nat → Nat → Int) : Prop := zI (O A) 6 = 0 ∨ (zI (O A) 6 = 1 ∧ sdV n p r T M = 0 ∧ ySol p O t b s n r T M)
/-- the root: only the slots of the matching and the equations may be others -/
def rSm (S S' : oSt) : Prop := (∀ k, oI S' k = oI S k) ∧ oQ S' = oQ S
theorem rSm.rf : rSm S S := ⟨fun _ => rfl, rfl⟩
theorem w_solve {p : Nat} [NeZero p] (hF : fF F) (hI : fInv p) (h : hW C x m w O S Z) (hA : yAct C O A g t n T p r M) (hk : yKd C A t b s) (hG : gSt (O g) n T) (hf : ySf p O A t b s n r T M) (he : ∀ e, oP S 6 = some e → C.1 e = some (1, 98)) : ∃ (w' : gW) (C' : yC) (O' : zO) (S' : oSt), mX6_solve F x (some A) w = some w' ∧ hW C' x m w' O' S' Z ∧ cEx C C' ∧ (rSm S S' ∧ oP S' 5 = oP S 5 ∧ ∀ e, oP S' 6 = some e → C'.1 e = some (1, 98)) ∧ (∀ a q, C.1 a = some q → a ≠ A → a ≠ t → a ≠ b → a ≠ s → q ≠ (1, 98) → a ≠ g → O' a = O a) ∧ gSt (O' g) n T ∧ yAct C' O' A g t n T p r M ∧ zI (O' A) 5 = zI (O A) 5 ∧ ySd p O' A t b s n r T M := by
  have kA := hA.1.1
  have kt := hA.1.2.2.1
  have hn8 := hA.2.2.1
  have f6 : gFI 0 6 (some A) w = some (Int32.ofInt (zI (O A) 6)) := h.cFI kA (k := 6) rfl
  unfold mX6_solve
  rw [f6, Option.bind_some]
  rcases hf with f0 | ⟨f1, f2, f3⟩
  · rw [f0, if_pos (show Int32.ofInt 0 = 0 from rfl), h.gO kA, Option.bind_some]
    obtain ⟨w1, e1, h1⟩ := h.y1 (rX0_firstUnsound h.1 hF h.2.1) (hA.firstUnsound hF)
    rw [e1, Option.bind_some]
    dsimp only
    have sb := sdV_b (n := n) (p := p) (r := r) (T := T) (M := M) hn8
    by_cases c : sdV n p r T M = 0
    · rw [c, if_pos (show Int32.ofInt 0 = 0 from rfl)]
      have g6 : gFR 6 6 (some x) w1 = some (oP S 6) := h1.2.2.1.rP 6 rfl
      rw [g6, Option.bind_some]
      rcases q : oP S 6 with _ | e
      · rw [if_pos rfl]
        obtain ⟨w2, e2, s2, h2⟩ := h1.newE (F := F) 98 (by omega) (98 : Int32) rfl
        have nf : C.1 w1.2 = none := by
          rcases hq : C.1 w1.2 with _ | q'
          · rfl
          · have := (h1.2.2.2.2.1 _ _ hq).1
            have := SZ_pos q'
            omega
        have cx : cEx C (cNew C w1.2 (1, 98)) := fun a q' hq => by
          have : a ≠ w1.2 := fun u => by rw [u, nf] at hq; cases hq
          exact ⟨by rw [cNew_n this]; exact hq, fun k => cNew_r this k⟩
        obtain ⟨w3, e3, h3⟩ := h2.rP 6 rfl (some w1.2)
        have ne : ∀ {a q'}, C.1 a = some q' → a ≠ w1.2 := fun hq u => by rw [u, nf] at hq; cases hq
        have hG' : gSt (oup O w1.2 zZ g) n T := by rw [oup_n (ne hA.1.2.1)]; exact hG
        obtain ⟨w4, O', z1, z2, z3, z4, z5, z6, z7, z8⟩ := w_solve_b35 hF hI h3 ((hA.cx cx).keep (oup_n (ne kA)) (oup_n (ne hA.1.2.1))) (hk.cx kt cx) hG' (show (if (6 : Nat) = 6 then (some w1.2) else oP S 6) = some w1.2 from rfl) (cNew_s) c
        refine ⟨w4, _, O', _, ?_, z2, cx, ⟨⟨fun k => rfl, rfl⟩, rfl, fun e q2 => ?_⟩, fun a q' hq q1 q2 q3 q4 q5 q6 => ?_, z4, z5, ?_, ⟨fun _ => ⟨z7, z8⟩, fun u => absurd c u⟩⟩
        · rw [e2, Option.bind_some, e3, Option.bind_some]; exact z1
        · have q2 : some w1.2 = some e := q2
          cases q2
          exact cNew_s
        · rw [z3 a q1 q2 q3 q4 (ne hq) q6, oup_n (ne hq)]
        · rw [z6, oup_n (ne kA)]
      · rw [if_neg (by intro u; cases u)]
        obtain ⟨w4, O', z1, z2, z3, z4, z5, z6, z7, z8⟩ := w_solve_b35 hF hI h1 hA hk hG q (he e q) c
        refine ⟨w4, C, O', S, z1, z2, cEx.rf, ⟨rSm.rf, rfl, he⟩, fun a q' hq q1 q2 q3 q4 q5 q6 => z3 a q1 q2 q3 q4 (fun u => ?_) q6, z4, z5, z6, ⟨fun _ => ⟨z7, z8⟩, fun u => absurd c u⟩⟩
        rw [u, he e q] at hq
        cases hq
        exact q5 rfl
    · rw [if_neg]
      · exact ⟨w1, C, O, S, rfl, h1, cEx.rf, ⟨rSm.rf, rfl, he⟩, fun _ _ _ _ _ _ _ _ _ => rfl, hG, hA, rfl, ⟨fun u => absurd u c, fun _ => f0⟩⟩
      · intro u
        have := congrArg Int32.toInt u
        rw [Int32.toInt_ofInt_of_le (by omega) (by omega)] at this
        exact c this
  · rw [f1, if_neg (by decide)]
    exact ⟨w, C, O, S, rfl, h, cEx.rf, ⟨rSm.rf, rfl, he⟩, fun _ _ _ _ _ _ _ _ _ => rfl, hG, hA, rfl, ⟨fun _ => ⟨f1, f3⟩, fun u => absurd f2 u⟩⟩
end SLW
