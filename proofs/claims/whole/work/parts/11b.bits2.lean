/-! HOW MANY BITS OF A LONG ARE SET: the long itself -/
def bcN : Nat → Nat → Nat
  | 0, _ => 0
  | k + 1, x => bcB (x % 256) + bcN k (x / 256)
theorem bc_nat {x : Nat} (hx : x < 256 ^ 8) : ∃ y z u : Nat, y = x - (x / 2 &&& bcM 85 8) ∧ (x / 2 &&& bcM 85 8) ≤ x ∧ z = (y &&& bcM 51 8) + (y / 4 &&& bcM 51 8) ∧ z < 256 ^ 8 ∧ z + z / 16 < 256 ^ 8 ∧ u = ((z + z / 16) &&& bcM 15 8) ∧ u = bcS bcB 8 x := by
  have hb := bc_byte
  have e1 : bcS (fun b => b / 2 &&& 85) 8 x + bcS (fun b => b - (b / 2 &&& 85)) 8 x = x := by
    rw [bcS_add, bcS_eq (g := fun b => b) (fun b h => by have := (hb b h).1; omega), bcS_id 8 x hx]
  have h1 := bc_h55 8 x
  have e2 : x - (x / 2 &&& bcM 85 8) = bcS (fun b => b - (b / 2 &&& 85)) 8 x := by rw [h1]; omega
  have e3 : bcS (fun b => b - (b / 2 &&& 85)) 8 x &&& bcM 51 8 = bcS (fun b => (b - (b / 2 &&& 85)) &&& 51) 8 x := by
    rw [bc_and (by omega), bcS_co (f := fun b => b &&& 51) (g := fun b => b - (b / 2 &&& 85)) (fun b h => (hb b h).2.1)]
  have e4 : bcS (fun b => b - (b / 2 &&& 85)) 8 x / 4 &&& bcM 51 8 = bcS (fun b => (b - (b / 2 &&& 85)) / 4 &&& 51) 8 x := by
    rw [bc_h33, bcS_co (f := fun b => b / 4 &&& 51) (g := fun b => b - (b / 2 &&& 85)) (fun b h => (hb b h).2.1)]
  have e5 := bcS_add (fun b => (b - (b / 2 &&& 85)) &&& 51) (fun b => (b - (b / 2 &&& 85)) / 4 &&& 51) 8 x
  have l5 := bcS_lt (f := fun b => ((b - (b / 2 &&& 85)) &&& 51) + ((b - (b / 2 &&& 85)) / 4 &&& 51)) (fun b h => (hb b h).2.2.1) 8 x
  have e6 := bc_h0f (h := fun b => ((b - (b / 2 &&& 85)) &&& 51) + ((b - (b / 2 &&& 85)) / 4 &&& 51)) (fun b h => ⟨(hb b h).2.2.2.1, (hb b h).2.2.2.2.1⟩) 8 x
  have e7 := bcS_eq (f := fun b => (((b - (b / 2 &&& 85)) &&& 51) + ((b - (b / 2 &&& 85)) / 4 &&& 51)) % 16 + (((b - (b / 2 &&& 85)) &&& 51) + ((b - (b / 2 &&& 85)) / 4 &&& 51)) / 16) (g := bcB) (fun b h => (hb b h).2.2.2.2.2.1) 8 x
  have top : bcS (fun b => ((b - (b / 2 &&& 85)) &&& 51) + ((b - (b / 2 &&& 85)) / 4 &&& 51)) 8 x + bcS (fun b => ((b - (b / 2 &&& 85)) &&& 51) + ((b - (b / 2 &&& 85)) / 4 &&& 51)) 8 x / 16 < 256 ^ 8 := by
    have : bcS (fun b => ((b - (b / 2 &&& 85)) &&& 51) + ((b - (b / 2 &&& 85)) / 4 &&& 51)) 8 x ≤ bcS (fun _ => 68) 8 x := by
      have mono : ∀ (k x : Nat), bcS (fun b => ((b - (b / 2 &&& 85)) &&& 51) + ((b - (b / 2 &&& 85)) / 4 &&& 51)) k x ≤ bcS (fun _ => 68) k x := by
        intro k
        induction k with
        | zero => intro x; exact Nat.le_refl _
        | succ k ih =>
          intro x
          have := hb (x % 256) (Nat.mod_lt _ (by omega))
          have i2 := ih (x / 256)
          show (((x % 256 - (x % 256 / 2 &&& 85)) &&& 51) + ((x % 256 - (x % 256 / 2 &&& 85)) / 4 &&& 51)) + 256 * bcS _ k (x / 256) ≤ 68 + 256 * bcS _ k (x / 256)
          omega
      exact mono 8 x
    have e : bcS (fun _ => 68) 8 x = 68 + 256 * (68 + 256 * (68 + 256 * (68 + 256 * (68 + 256 * (68 + 256 * (68 + 256 * (68 + 256 * 0))))))) := rfl
    rw [e] at this
    omega
  refine ⟨_, _, _, rfl, by rw [h1]; omega, rfl, ?_, ?_, rfl, ?_⟩
  · rw [e2, e3, e4, e5]; exact l5
  · rw [e2, e3, e4, e5]; exact top
  · rw [e2, e3, e4, e5, e6, e7]
theorem bcB_le (x : Nat) : bcB (x % 256) ≤ 8 := by unfold bcB; omega
theorem bc_fold8 {p0 p1 p2 p3 p4 p5 p6 p7 u a b c : Nat} (b0 : p0 ≤ 8) (b1 : p1 ≤ 8) (b2 : p2 ≤ 8) (b3 : p3 ≤ 8) (b4 : p4 ≤ 8) (b5 : p5 ≤ 8) (b6 : p6 ≤ 8) (b7 : p7 ≤ 8) (hu : u = p0 + 256 * (p1 + 256 * (p2 + 256 * (p3 + 256 * (p4 + 256 * (p5 + 256 * (p6 + 256 * (p7 + 256 * 0)))))))) (ha : a = u + u / 256) (hb : b = a + a / 65536) (hc : c = b + b / 4294967296) : a < 18446744073709551616 ∧ b < 18446744073709551616 ∧ c < 18446744073709551616 ∧ c % 128 = p0 + (p1 + (p2 + (p3 + (p4 + (p5 + (p6 + (p7 + 0))))))) := by
  have ea : u / 256 = p1 + 256 * (p2 + 256 * (p3 + 256 * (p4 + 256 * (p5 + 256 * (p6 + 256 * p7))))) := by omega
  rw [ea] at ha
  have eb : a / 65536 = (p2 + p3) + 256 * ((p3 + p4) + 256 * ((p4 + p5) + 256 * ((p5 + p6) + 256 * ((p6 + p7) + 256 * p7)))) := by omega
  rw [eb] at hb
  have ec : b / 4294967296 = (p4 + p5 + p6 + p7) + 256 * ((p5 + p6 + p7) + 256 * ((p6 + p7) + 256 * p7)) := by omega
  rw [ec] at hc
  clear ea eb ec
  subst hu
  subst ha
  subst hb
  subst hc
  refine ⟨by omega, by omega, by omega, by omega⟩
theorem bc_fold {x a b c : Nat} (ha : a = bcS bcB 8 x + bcS bcB 8 x / 256) (hb : b = a + a / 65536) (hc : c = b + b / 4294967296) : a < 18446744073709551616 ∧ b < 18446744073709551616 ∧ c < 18446744073709551616 ∧ c % 128 = bcN 8 x :=
  bc_fold8 (bcB_le x) (bcB_le (x / 256)) (bcB_le (x / 256 / 256)) (bcB_le (x / 256 / 256 / 256)) (bcB_le (x / 256 / 256 / 256 / 256)) (bcB_le (x / 256 / 256 / 256 / 256 / 256)) (bcB_le (x / 256 / 256 / 256 / 256 / 256 / 256)) (bcB_le (x / 256 / 256 / 256 / 256 / 256 / 256 / 256)) (u := bcS bcB 8 x) rfl ha hb hc
