/-! .. and an induction rule for each loop (laid by a program of mine) -/
theorem iX7_clearLine_l2 {F : Nat}  (I : Int → zS → Prop) (μ : Int → zS → Nat) (P : Option zS → Prop) (step : ∀ (r : Int → zS → Option zS) (v1 : Int) (w : zS), I v1 w → (∀ (v1' : Int) (w' : zS), I v1' w' → μ v1' w' < μ v1 w → P (r v1' w')) → P (zX7_clearLine_h2 F r  v1 w)) : ∀ (n : Nat) (v1 : Int) (w : zS), I v1 w → μ v1 w < n → P (zX7_clearLine_l2 F  n v1 w) := by
  intro n
  induction n with
  | zero => intro v1 w _ q; omega
  | succ n ih =>
    intro v1 w hI hn
    exact step _ v1 w hI fun v1' w' hI2 hm => ih v1' w' hI2 (by omega)
theorem iX7_drop_l12 {F : Nat} {k44 : zS → Option (Int × zS)} (I : Int → zS → Prop) (μ : Int → zS → Nat) (P : Option (Int × zS) → Prop) (step : ∀ (r : Int → zS → Option (Int × zS)) (v1 : Int) (w : zS), I v1 w → (∀ (v1' : Int) (w' : zS), I v1' w' → μ v1' w' < μ v1 w → P (r v1' w')) → P (zX7_drop_h12 F r k44 v1 w)) : ∀ (n : Nat) (v1 : Int) (w : zS), I v1 w → μ v1 w < n → P (zX7_drop_l12 F k44 n v1 w) := by
  intro n
  induction n with
  | zero => intro v1 w _ q; omega
  | succ n ih =>
    intro v1 w hI hn
    exact step _ v1 w hI fun v1' w' hI2 hm => ih v1' w' hI2 (by omega)
theorem iX7_lessBound_l26 {F : Nat} {k80 : Int → zS → Option zS} (I : Int → Int → Int → zS → Prop) (μ : Int → Int → Int → zS → Nat) (P : Option zS → Prop) (step : ∀ (r : Int → Int → Int → zS → Option zS) (v1 : Int) (v2 : Int) (v3 : Int) (w : zS), I v1 v2 v3 w → (∀ (v1' : Int) (v2' : Int) (v3' : Int) (w' : zS), I v1' v2' v3' w' → μ v1' v2' v3' w' < μ v1 v2 v3 w → P (r v1' v2' v3' w')) → P (zX7_lessBound_h26 F r k80 v1 v2 v3 w)) : ∀ (n : Nat) (v1 : Int) (v2 : Int) (v3 : Int) (w : zS), I v1 v2 v3 w → μ v1 v2 v3 w < n → P (zX7_lessBound_l26 F k80 n v1 v2 v3 w) := by
  intro n
  induction n with
  | zero => intro v1 v2 v3 w _ q; omega
  | succ n ih =>
    intro v1 v2 v3 w hI hn
    exact step _ v1 v2 v3 w hI fun v1' v2' v3' w' hI2 hm => ih v1' v2' v3' w' hI2 (by omega)
theorem iX7_lessBound_l2 {F : Nat}  (I : Int → zS → Prop) (μ : Int → zS → Nat) (P : Option zS → Prop) (step : ∀ (r : Int → zS → Option zS) (v1 : Int) (w : zS), I v1 w → (∀ (v1' : Int) (w' : zS), I v1' w' → μ v1' w' < μ v1 w → P (r v1' w')) → P (zX7_lessBound_h2 F r  v1 w)) : ∀ (n : Nat) (v1 : Int) (w : zS), I v1 w → μ v1 w < n → P (zX7_lessBound_l2 F  n v1 w) := by
  intro n
  induction n with
  | zero => intro v1 w _ q; omega
  | succ n ih =>
    intro v1 w hI hn
    exact step _ v1 w hI fun v1' w' hI2 hm => ih v1' w' hI2 (by omega)
theorem iX7_power_l4 {F : Nat}  (I : Int → Int → Int → Int → zS → Prop) (μ : Int → Int → Int → Int → zS → Nat) (P : Option (Int × zS) → Prop) (step : ∀ (r : Int → Int → Int → Int → zS → Option (Int × zS)) (v0 : Int) (v1 : Int) (v2 : Int) (v3 : Int) (w : zS), I v0 v1 v2 v3 w → (∀ (v0' : Int) (v1' : Int) (v2' : Int) (v3' : Int) (w' : zS), I v0' v1' v2' v3' w' → μ v0' v1' v2' v3' w' < μ v0 v1 v2 v3 w → P (r v0' v1' v2' v3' w')) → P (zX7_power_h4 F r  v0 v1 v2 v3 w)) : ∀ (n : Nat) (v0 : Int) (v1 : Int) (v2 : Int) (v3 : Int) (w : zS), I v0 v1 v2 v3 w → μ v0 v1 v2 v3 w < n → P (zX7_power_l4 F  n v0 v1 v2 v3 w) := by
  intro n
  induction n with
  | zero => intro v0 v1 v2 v3 w _ q; omega
  | succ n ih =>
    intro v0 v1 v2 v3 w hI hn
    exact step _ v0 v1 v2 v3 w hI fun v0' v1' v2' v3' w' hI2 hm => ih v0' v1' v2' v3' w' hI2 (by omega)
theorem iX7_reduceLine_l24 {F : Nat} {k78 : Int → zS → Option zS} (I : Int → Int → Int → zS → Prop) (μ : Int → Int → Int → zS → Nat) (P : Option zS → Prop) (step : ∀ (r : Int → Int → Int → zS → Option zS) (v1 : Int) (v2 : Int) (v3 : Int) (w : zS), I v1 v2 v3 w → (∀ (v1' : Int) (v2' : Int) (v3' : Int) (w' : zS), I v1' v2' v3' w' → μ v1' v2' v3' w' < μ v1 v2 v3 w → P (r v1' v2' v3' w')) → P (zX7_reduceLine_h24 F r k78 v1 v2 v3 w)) : ∀ (n : Nat) (v1 : Int) (v2 : Int) (v3 : Int) (w : zS), I v1 v2 v3 w → μ v1 v2 v3 w < n → P (zX7_reduceLine_l24 F k78 n v1 v2 v3 w) := by
  intro n
  induction n with
  | zero => intro v1 v2 v3 w _ q; omega
  | succ n ih =>
    intro v1 v2 v3 w hI hn
    exact step _ v1 v2 v3 w hI fun v1' v2' v3' w' hI2 hm => ih v1' v2' v3' w' hI2 (by omega)
theorem iX7_reduceLine_l2 {F : Nat}  (I : Int → zS → Prop) (μ : Int → zS → Nat) (P : Option zS → Prop) (step : ∀ (r : Int → zS → Option zS) (v1 : Int) (w : zS), I v1 w → (∀ (v1' : Int) (w' : zS), I v1' w' → μ v1' w' < μ v1 w → P (r v1' w')) → P (zX7_reduceLine_h2 F r  v1 w)) : ∀ (n : Nat) (v1 : Int) (w : zS), I v1 w → μ v1 w < n → P (zX7_reduceLine_l2 F  n v1 w) := by
  intro n
  induction n with
  | zero => intro v1 w _ q; omega
  | succ n ih =>
    intro v1 w hI hn
    exact step _ v1 w hI fun v1' w' hI2 hm => ih v1' w' hI2 (by omega)
theorem iX7_classOfLine_l19 {F : Nat} {k39 : Int → Int → Int → zS → Option (Int × zS)} (I : Int → Int → Int → zS → Prop) (μ : Int → Int → Int → zS → Nat) (P : Option (Int × zS) → Prop) (step : ∀ (r : Int → Int → Int → zS → Option (Int × zS)) (v1 : Int) (v2 : Int) (v3 : Int) (w : zS), I v1 v2 v3 w → (∀ (v1' : Int) (v2' : Int) (v3' : Int) (w' : zS), I v1' v2' v3' w' → μ v1' v2' v3' w' < μ v1 v2 v3 w → P (r v1' v2' v3' w')) → P (zX7_classOfLine_h19 F r k39 v1 v2 v3 w)) : ∀ (n : Nat) (v1 : Int) (v2 : Int) (v3 : Int) (w : zS), I v1 v2 v3 w → μ v1 v2 v3 w < n → P (zX7_classOfLine_l19 F k39 n v1 v2 v3 w) := by
  intro n
  induction n with
  | zero => intro v1 v2 v3 w _ q; omega
  | succ n ih =>
    intro v1 v2 v3 w hI hn
    exact step _ v1 v2 v3 w hI fun v1' v2' v3' w' hI2 hm => ih v1' v2' v3' w' hI2 (by omega)
theorem iX7_classOfLine_l13 {F : Nat}  (I : Int → Int → zS → Prop) (μ : Int → Int → zS → Nat) (P : Option (Int × zS) → Prop) (step : ∀ (r : Int → Int → zS → Option (Int × zS)) (v1 : Int) (v2 : Int) (w : zS), I v1 v2 w → (∀ (v1' : Int) (v2' : Int) (w' : zS), I v1' v2' w' → μ v1' v2' w' < μ v1 v2 w → P (r v1' v2' w')) → P (zX7_classOfLine_h13 F r  v1 v2 w)) : ∀ (n : Nat) (v1 : Int) (v2 : Int) (w : zS), I v1 v2 w → μ v1 v2 w < n → P (zX7_classOfLine_l13 F  n v1 v2 w) := by
  intro n
  induction n with
  | zero => intro v1 v2 w _ q; omega
  | succ n ih =>
    intro v1 v2 w hI hn
    exact step _ v1 v2 w hI fun v1' v2' w' hI2 hm => ih v1' v2' w' hI2 (by omega)
theorem iX7_cyclic_l35 {F : Nat} {k57 : Int → Int → zS → Option (Int × zS)} (I : Int → Int → Int → zS → Prop) (μ : Int → Int → Int → zS → Nat) (P : Option (Int × zS) → Prop) (step : ∀ (r : Int → Int → Int → zS → Option (Int × zS)) (v1 : Int) (v2 : Int) (v3 : Int) (w : zS), I v1 v2 v3 w → (∀ (v1' : Int) (v2' : Int) (v3' : Int) (w' : zS), I v1' v2' v3' w' → μ v1' v2' v3' w' < μ v1 v2 v3 w → P (r v1' v2' v3' w')) → P (zX7_cyclic_h35 F r k57 v1 v2 v3 w)) : ∀ (n : Nat) (v1 : Int) (v2 : Int) (v3 : Int) (w : zS), I v1 v2 v3 w → μ v1 v2 v3 w < n → P (zX7_cyclic_l35 F k57 n v1 v2 v3 w) := by
  intro n
  induction n with
  | zero => intro v1 v2 v3 w _ q; omega
  | succ n ih =>
    intro v1 v2 v3 w hI hn
    exact step _ v1 v2 v3 w hI fun v1' v2' v3' w' hI2 hm => ih v1' v2' v3' w' hI2 (by omega)
theorem iX7_cyclic_l28 {F : Nat} {k63 : Int → zS → Option (Int × zS)} (I : Int → Int → zS → Prop) (μ : Int → Int → zS → Nat) (P : Option (Int × zS) → Prop) (step : ∀ (r : Int → Int → zS → Option (Int × zS)) (v1 : Int) (v2 : Int) (w : zS), I v1 v2 w → (∀ (v1' : Int) (v2' : Int) (w' : zS), I v1' v2' w' → μ v1' v2' w' < μ v1 v2 w → P (r v1' v2' w')) → P (zX7_cyclic_h28 F r k63 v1 v2 w)) : ∀ (n : Nat) (v1 : Int) (v2 : Int) (w : zS), I v1 v2 w → μ v1 v2 w < n → P (zX7_cyclic_l28 F k63 n v1 v2 w) := by
  intro n
  induction n with
  | zero => intro v1 v2 w _ q; omega
  | succ n ih =>
    intro v1 v2 w hI hn
    exact step _ v1 v2 w hI fun v1' v2' w' hI2 hm => ih v1' v2' w' hI2 (by omega)
theorem iX7_dihedral_l35 {F : Nat} {k106 : Int → Int → zS → Option (Int × zS)} (I : Int → Int → Int → zS → Prop) (μ : Int → Int → Int → zS → Nat) (P : Option (Int × zS) → Prop) (step : ∀ (r : Int → Int → Int → zS → Option (Int × zS)) (v1 : Int) (v2 : Int) (v3 : Int) (w : zS), I v1 v2 v3 w → (∀ (v1' : Int) (v2' : Int) (v3' : Int) (w' : zS), I v1' v2' v3' w' → μ v1' v2' v3' w' < μ v1 v2 v3 w → P (r v1' v2' v3' w')) → P (zX7_dihedral_h35 F r k106 v1 v2 v3 w)) : ∀ (n : Nat) (v1 : Int) (v2 : Int) (v3 : Int) (w : zS), I v1 v2 v3 w → μ v1 v2 v3 w < n → P (zX7_dihedral_l35 F k106 n v1 v2 v3 w) := by
  intro n
  induction n with
  | zero => intro v1 v2 v3 w _ q; omega
  | succ n ih =>
    intro v1 v2 v3 w hI hn
    exact step _ v1 v2 v3 w hI fun v1' v2' v3' w' hI2 hm => ih v1' v2' v3' w' hI2 (by omega)
theorem iX7_dihedral_l28 {F : Nat} {k112 : Int → zS → Option (Int × zS)} (I : Int → Int → zS → Prop) (μ : Int → Int → zS → Nat) (P : Option (Int × zS) → Prop) (step : ∀ (r : Int → Int → zS → Option (Int × zS)) (v1 : Int) (v2 : Int) (w : zS), I v1 v2 w → (∀ (v1' : Int) (v2' : Int) (w' : zS), I v1' v2' w' → μ v1' v2' w' < μ v1 v2 w → P (r v1' v2' w')) → P (zX7_dihedral_h28 F r k112 v1 v2 w)) : ∀ (n : Nat) (v1 : Int) (v2 : Int) (w : zS), I v1 v2 w → μ v1 v2 w < n → P (zX7_dihedral_l28 F k112 n v1 v2 w) := by
  intro n
  induction n with
  | zero => intro v1 v2 w _ q; omega
  | succ n ih =>
    intro v1 v2 w hI hn
    exact step _ v1 v2 w hI fun v1' v2' w' hI2 hm => ih v1' v2' w' hI2 (by omega)
theorem iX7_equation_l7 {F : Nat} {k47 : Int → Int → Int → Int → zS → Option zS} (I : Int → Int → Int → Int → Int → zS → Prop) (μ : Int → Int → Int → Int → Int → zS → Nat) (P : Option zS → Prop) (step : ∀ (r : Int → Int → Int → Int → Int → zS → Option zS) (v1 : Int) (v2 : Int) (v3 : Int) (v4 : Int) (v5 : Int) (w : zS), I v1 v2 v3 v4 v5 w → (∀ (v1' : Int) (v2' : Int) (v3' : Int) (v4' : Int) (v5' : Int) (w' : zS), I v1' v2' v3' v4' v5' w' → μ v1' v2' v3' v4' v5' w' < μ v1 v2 v3 v4 v5 w → P (r v1' v2' v3' v4' v5' w')) → P (zX7_equation_h7 F r k47 v1 v2 v3 v4 v5 w)) : ∀ (n : Nat) (v1 : Int) (v2 : Int) (v3 : Int) (v4 : Int) (v5 : Int) (w : zS), I v1 v2 v3 v4 v5 w → μ v1 v2 v3 v4 v5 w < n → P (zX7_equation_l7 F k47 n v1 v2 v3 v4 v5 w) := by
  intro n
  induction n with
  | zero => intro v1 v2 v3 v4 v5 w _ q; omega
  | succ n ih =>
    intro v1 v2 v3 v4 v5 w hI hn
    exact step _ v1 v2 v3 v4 v5 w hI fun v1' v2' v3' v4' v5' w' hI2 hm => ih v1' v2' v3' v4' v5' w' hI2 (by omega)
theorem iX7_friends_l5 {F : Nat}  (I : Int → Int → Int → Int → zS → Prop) (μ : Int → Int → Int → Int → zS → Nat) (P : Option (Int × zS) → Prop) (step : ∀ (r : Int → Int → Int → Int → zS → Option (Int × zS)) (v1 : Int) (v2 : Int) (v3 : Int) (v4 : Int) (w : zS), I v1 v2 v3 v4 w → (∀ (v1' : Int) (v2' : Int) (v3' : Int) (v4' : Int) (w' : zS), I v1' v2' v3' v4' w' → μ v1' v2' v3' v4' w' < μ v1 v2 v3 v4 w → P (r v1' v2' v3' v4' w')) → P (zX7_friends_h5 F r  v1 v2 v3 v4 w)) : ∀ (n : Nat) (v1 : Int) (v2 : Int) (v3 : Int) (v4 : Int) (w : zS), I v1 v2 v3 v4 w → μ v1 v2 v3 v4 w < n → P (zX7_friends_l5 F  n v1 v2 v3 v4 w) := by
  intro n
  induction n with
  | zero => intro v1 v2 v3 v4 w _ q; omega
  | succ n ih =>
    intro v1 v2 v3 v4 w hI hn
    exact step _ v1 v2 v3 v4 w hI fun v1' v2' v3' v4' w' hI2 hm => ih v1' v2' v3' v4' w' hI2 (by omega)
theorem iX7_goes_l11 {F : Nat} {k33 : Int → Int → Int → Int → zS → Option (Int × zS)} (I : Int → Int → Int → Int → Int → zS → Prop) (μ : Int → Int → Int → Int → Int → zS → Nat) (P : Option (Int × zS) → Prop) (step : ∀ (r : Int → Int → Int → Int → Int → zS → Option (Int × zS)) (v1 : Int) (v2 : Int) (v3 : Int) (v4 : Int) (v5 : Int) (w : zS), I v1 v2 v3 v4 v5 w → (∀ (v1' : Int) (v2' : Int) (v3' : Int) (v4' : Int) (v5' : Int) (w' : zS), I v1' v2' v3' v4' v5' w' → μ v1' v2' v3' v4' v5' w' < μ v1 v2 v3 v4 v5 w → P (r v1' v2' v3' v4' v5' w')) → P (zX7_goes_h11 F r k33 v1 v2 v3 v4 v5 w)) : ∀ (n : Nat) (v1 : Int) (v2 : Int) (v3 : Int) (v4 : Int) (v5 : Int) (w : zS), I v1 v2 v3 v4 v5 w → μ v1 v2 v3 v4 v5 w < n → P (zX7_goes_l11 F k33 n v1 v2 v3 v4 v5 w) := by
  intro n
  induction n with
  | zero => intro v1 v2 v3 v4 v5 w _ q; omega
  | succ n ih =>
    intro v1 v2 v3 v4 v5 w hI hn
    exact step _ v1 v2 v3 v4 v5 w hI fun v1' v2' v3' v4' v5' w' hI2 hm => ih v1' v2' v3' v4' v5' w' hI2 (by omega)
theorem iX7_goes_l67 {F : Nat} {k185 : Int → Int → Int → Int → Int → zS → Option (Int × zS)} (I : Int → Int → Int → Int → Int → Int → zS → Prop) (μ : Int → Int → Int → Int → Int → Int → zS → Nat) (P : Option (Int × zS) → Prop) (step : ∀ (r : Int → Int → Int → Int → Int → Int → zS → Option (Int × zS)) (v1 : Int) (v2 : Int) (v3 : Int) (v4 : Int) (v5 : Int) (v6 : Int) (w : zS), I v1 v2 v3 v4 v5 v6 w → (∀ (v1' : Int) (v2' : Int) (v3' : Int) (v4' : Int) (v5' : Int) (v6' : Int) (w' : zS), I v1' v2' v3' v4' v5' v6' w' → μ v1' v2' v3' v4' v5' v6' w' < μ v1 v2 v3 v4 v5 v6 w → P (r v1' v2' v3' v4' v5' v6' w')) → P (zX7_goes_h67 F r k185 v1 v2 v3 v4 v5 v6 w)) : ∀ (n : Nat) (v1 : Int) (v2 : Int) (v3 : Int) (v4 : Int) (v5 : Int) (v6 : Int) (w : zS), I v1 v2 v3 v4 v5 v6 w → μ v1 v2 v3 v4 v5 v6 w < n → P (zX7_goes_l67 F k185 n v1 v2 v3 v4 v5 v6 w) := by
  intro n
  induction n with
  | zero => intro v1 v2 v3 v4 v5 v6 w _ q; omega
  | succ n ih =>
    intro v1 v2 v3 v4 v5 v6 w hI hn
    exact step _ v1 v2 v3 v4 v5 v6 w hI fun v1' v2' v3' v4' v5' v6' w' hI2 hm => ih v1' v2' v3' v4' v5' v6' w' hI2 (by omega)
theorem iX7_goes_l55 {F : Nat} {k191 : Int → zS → Option (Int × zS)} (I : Int → Int → Int → Int → Int → zS → Prop) (μ : Int → Int → Int → Int → Int → zS → Nat) (P : Option (Int × zS) → Prop) (step : ∀ (r : Int → Int → Int → Int → Int → zS → Option (Int × zS)) (v1 : Int) (v2 : Int) (v3 : Int) (v4 : Int) (v5 : Int) (w : zS), I v1 v2 v3 v4 v5 w → (∀ (v1' : Int) (v2' : Int) (v3' : Int) (v4' : Int) (v5' : Int) (w' : zS), I v1' v2' v3' v4' v5' w' → μ v1' v2' v3' v4' v5' w' < μ v1 v2 v3 v4 v5 w → P (r v1' v2' v3' v4' v5' w')) → P (zX7_goes_h55 F r k191 v1 v2 v3 v4 v5 w)) : ∀ (n : Nat) (v1 : Int) (v2 : Int) (v3 : Int) (v4 : Int) (v5 : Int) (w : zS), I v1 v2 v3 v4 v5 w → μ v1 v2 v3 v4 v5 w < n → P (zX7_goes_l55 F k191 n v1 v2 v3 v4 v5 w) := by
  intro n
  induction n with
  | zero => intro v1 v2 v3 v4 v5 w _ q; omega
  | succ n ih =>
    intro v1 v2 v3 v4 v5 w hI hn
    exact step _ v1 v2 v3 v4 v5 w hI fun v1' v2' v3' v4' v5' w' hI2 hm => ih v1' v2' v3' v4' v5' w' hI2 (by omega)
theorem iX7_goes_l200 {F : Nat} {k235 : zS → Option (Int × zS)} (I : Int → Int64 → Int64 → Int → zS → Prop) (μ : Int → Int64 → Int64 → Int → zS → Nat) (P : Option (Int × zS) → Prop) (step : ∀ (r : Int → Int64 → Int64 → Int → zS → Option (Int × zS)) (v4 : Int) (v5 : Int64) (v7 : Int64) (v9 : Int) (w : zS), I v4 v5 v7 v9 w → (∀ (v4' : Int) (v5' : Int64) (v7' : Int64) (v9' : Int) (w' : zS), I v4' v5' v7' v9' w' → μ v4' v5' v7' v9' w' < μ v4 v5 v7 v9 w → P (r v4' v5' v7' v9' w')) → P (zX7_goes_h200 F r k235 v4 v5 v7 v9 w)) : ∀ (n : Nat) (v4 : Int) (v5 : Int64) (v7 : Int64) (v9 : Int) (w : zS), I v4 v5 v7 v9 w → μ v4 v5 v7 v9 w < n → P (zX7_goes_l200 F k235 n v4 v5 v7 v9 w) := by
  intro n
  induction n with
  | zero => intro v4 v5 v7 v9 w _ q; omega
  | succ n ih =>
    intro v4 v5 v7 v9 w hI hn
    exact step _ v4 v5 v7 v9 w hI fun v4' v5' v7' v9' w' hI2 hm => ih v4' v5' v7' v9' w' hI2 (by omega)
theorem iX7_inverse_l2 {F : Nat}  (I : Int → Int → Int → zS → Prop) (μ : Int → Int → Int → zS → Nat) (P : Option (Int × zS) → Prop) (step : ∀ (r : Int → Int → Int → zS → Option (Int × zS)) (v1 : Int) (v2 : Int) (v3 : Int) (w : zS), I v1 v2 v3 w → (∀ (v1' : Int) (v2' : Int) (v3' : Int) (w' : zS), I v1' v2' v3' w' → μ v1' v2' v3' w' < μ v1 v2 v3 w → P (r v1' v2' v3' w')) → P (zX7_inverse_h2 F r  v1 v2 v3 w)) : ∀ (n : Nat) (v1 : Int) (v2 : Int) (v3 : Int) (w : zS), I v1 v2 v3 w → μ v1 v2 v3 w < n → P (zX7_inverse_l2 F  n v1 v2 v3 w) := by
  intro n
  induction n with
  | zero => intro v1 v2 v3 w _ q; omega
  | succ n ih =>
    intro v1 v2 v3 w hI hn
    exact step _ v1 v2 v3 w hI fun v1' v2' v3' w' hI2 hm => ih v1' v2' v3' w' hI2 (by omega)
theorem iX7_makes_l35 {F : Nat} {k136 : Int → Int → Int → zS → Option zS} (I : Int → Int → Int → Int → zS → Prop) (μ : Int → Int → Int → Int → zS → Nat) (P : Option zS → Prop) (step : ∀ (r : Int → Int → Int → Int → zS → Option zS) (v1 : Int) (v2 : Int) (v3 : Int) (v4 : Int) (w : zS), I v1 v2 v3 v4 w → (∀ (v1' : Int) (v2' : Int) (v3' : Int) (v4' : Int) (w' : zS), I v1' v2' v3' v4' w' → μ v1' v2' v3' v4' w' < μ v1 v2 v3 v4 w → P (r v1' v2' v3' v4' w')) → P (zX7_makes_h35 F r k136 v1 v2 v3 v4 w)) : ∀ (n : Nat) (v1 : Int) (v2 : Int) (v3 : Int) (v4 : Int) (w : zS), I v1 v2 v3 v4 w → μ v1 v2 v3 v4 w < n → P (zX7_makes_l35 F k136 n v1 v2 v3 v4 w) := by
  intro n
  induction n with
  | zero => intro v1 v2 v3 v4 w _ q; omega
  | succ n ih =>
    intro v1 v2 v3 v4 w hI hn
    exact step _ v1 v2 v3 v4 w hI fun v1' v2' v3' v4' w' hI2 hm => ih v1' v2' v3' v4' w' hI2 (by omega)
theorem iX7_makes_l24 {F : Nat}  (I : Int → Int → Int → zS → Prop) (μ : Int → Int → Int → zS → Nat) (P : Option zS → Prop) (step : ∀ (r : Int → Int → Int → zS → Option zS) (v1 : Int) (v2 : Int) (v3 : Int) (w : zS), I v1 v2 v3 w → (∀ (v1' : Int) (v2' : Int) (v3' : Int) (w' : zS), I v1' v2' v3' w' → μ v1' v2' v3' w' < μ v1 v2 v3 w → P (r v1' v2' v3' w')) → P (zX7_makes_h24 F r  v1 v2 v3 w)) : ∀ (n : Nat) (v1 : Int) (v2 : Int) (v3 : Int) (w : zS), I v1 v2 v3 w → μ v1 v2 v3 w < n → P (zX7_makes_l24 F  n v1 v2 v3 w) := by
  intro n
  induction n with
  | zero => intro v1 v2 v3 w _ q; omega
  | succ n ih =>
    intro v1 v2 v3 w hI hn
    exact step _ v1 v2 v3 w hI fun v1' v2' v3' w' hI2 hm => ih v1' v2' v3' w' hI2 (by omega)
theorem iX7_orderOf_l5 {F : Nat}  (I : Int → Int → Int → Int → zS → Prop) (μ : Int → Int → Int → Int → zS → Nat) (P : Option (Int × zS) → Prop) (step : ∀ (r : Int → Int → Int → Int → zS → Option (Int × zS)) (v1 : Int) (v2 : Int) (v3 : Int) (v4 : Int) (w : zS), I v1 v2 v3 v4 w → (∀ (v1' : Int) (v2' : Int) (v3' : Int) (v4' : Int) (w' : zS), I v1' v2' v3' v4' w' → μ v1' v2' v3' v4' w' < μ v1 v2 v3 v4 w → P (r v1' v2' v3' v4' w')) → P (zX7_orderOf_h5 F r  v1 v2 v3 v4 w)) : ∀ (n : Nat) (v1 : Int) (v2 : Int) (v3 : Int) (v4 : Int) (w : zS), I v1 v2 v3 v4 w → μ v1 v2 v3 v4 w < n → P (zX7_orderOf_l5 F  n v1 v2 v3 v4 w) := by
  intro n
  induction n with
  | zero => intro v1 v2 v3 v4 w _ q; omega
  | succ n ih =>
    intro v1 v2 v3 v4 w hI hn
    exact step _ v1 v2 v3 v4 w hI fun v1' v2' v3' v4' w' hI2 hm => ih v1' v2' v3' v4' w' hI2 (by omega)
theorem iX7_quaternions_l22 {F : Nat} {k144 : Int → zS → Option (Int × zS)} (I : Int → Int → zS → Prop) (μ : Int → Int → zS → Nat) (P : Option (Int × zS) → Prop) (step : ∀ (r : Int → Int → zS → Option (Int × zS)) (v1 : Int) (v2 : Int) (w : zS), I v1 v2 w → (∀ (v1' : Int) (v2' : Int) (w' : zS), I v1' v2' w' → μ v1' v2' w' < μ v1 v2 w → P (r v1' v2' w')) → P (zX7_quaternions_h22 F r k144 v1 v2 w)) : ∀ (n : Nat) (v1 : Int) (v2 : Int) (w : zS), I v1 v2 w → μ v1 v2 w < n → P (zX7_quaternions_l22 F k144 n v1 v2 w) := by
  intro n
  induction n with
  | zero => intro v1 v2 w _ q; omega
  | succ n ih =>
    intro v1 v2 w hI hn
    exact step _ v1 v2 w hI fun v1' v2' w' hI2 hm => ih v1' v2' w' hI2 (by omega)
theorem iX7_quaternions_l14 {F : Nat} {k150 : zS → Option (Int × zS)} (I : Int → zS → Prop) (μ : Int → zS → Nat) (P : Option (Int × zS) → Prop) (step : ∀ (r : Int → zS → Option (Int × zS)) (v1 : Int) (w : zS), I v1 w → (∀ (v1' : Int) (w' : zS), I v1' w' → μ v1' w' < μ v1 w → P (r v1' w')) → P (zX7_quaternions_h14 F r k150 v1 w)) : ∀ (n : Nat) (v1 : Int) (w : zS), I v1 w → μ v1 w < n → P (zX7_quaternions_l14 F k150 n v1 w) := by
  intro n
  induction n with
  | zero => intro v1 w _ q; omega
  | succ n ih =>
    intro v1 w hI hn
    exact step _ v1 w hI fun v1' w' hI2 hm => ih v1' w' hI2 (by omega)
theorem iX7_settles_l6 {F : Nat} {k29 : Int → zS → Option zS} (I : Int → zS → Prop) (μ : Int → zS → Nat) (P : Option zS → Prop) (step : ∀ (r : Int → zS → Option zS) (v1 : Int) (w : zS), I v1 w → (∀ (v1' : Int) (w' : zS), I v1' w' → μ v1' w' < μ v1 w → P (r v1' w')) → P (zX7_settles_h6 F r k29 v1 w)) : ∀ (n : Nat) (v1 : Int) (w : zS), I v1 w → μ v1 w < n → P (zX7_settles_l6 F k29 n v1 w) := by
  intro n
  induction n with
  | zero => intro v1 w _ q; omega
  | succ n ih =>
    intro v1 w hI hn
    exact step _ v1 w hI fun v1' w' hI2 hm => ih v1' w' hI2 (by omega)
theorem iX7_settles_l40 {F : Nat} {k63 : Int → Int → zS → Option zS} (I : Int → Int → zS → Prop) (μ : Int → Int → zS → Nat) (P : Option zS → Prop) (step : ∀ (r : Int → Int → zS → Option zS) (v1 : Int) (v2 : Int) (w : zS), I v1 v2 w → (∀ (v1' : Int) (v2' : Int) (w' : zS), I v1' v2' w' → μ v1' v2' w' < μ v1 v2 w → P (r v1' v2' w')) → P (zX7_settles_h40 F r k63 v1 v2 w)) : ∀ (n : Nat) (v1 : Int) (v2 : Int) (w : zS), I v1 v2 w → μ v1 v2 w < n → P (zX7_settles_l40 F k63 n v1 v2 w) := by
  intro n
  induction n with
  | zero => intro v1 v2 w _ q; omega
  | succ n ih =>
    intro v1 v2 w hI hn
    exact step _ v1 v2 w hI fun v1' v2' w' hI2 hm => ih v1' v2' w' hI2 (by omega)
theorem iX7_settles_l65 {F : Nat} {k98 : Int → zS → Option zS} (I : Int → Int → Int → zS → Prop) (μ : Int → Int → Int → zS → Nat) (P : Option zS → Prop) (step : ∀ (r : Int → Int → Int → zS → Option zS) (v1 : Int) (v2 : Int) (v3 : Int) (w : zS), I v1 v2 v3 w → (∀ (v1' : Int) (v2' : Int) (v3' : Int) (w' : zS), I v1' v2' v3' w' → μ v1' v2' v3' w' < μ v1 v2 v3 w → P (r v1' v2' v3' w')) → P (zX7_settles_h65 F r k98 v1 v2 v3 w)) : ∀ (n : Nat) (v1 : Int) (v2 : Int) (v3 : Int) (w : zS), I v1 v2 v3 w → μ v1 v2 v3 w < n → P (zX7_settles_l65 F k98 n v1 v2 v3 w) := by
  intro n
  induction n with
  | zero => intro v1 v2 v3 w _ q; omega
  | succ n ih =>
    intro v1 v2 v3 w hI hn
    exact step _ v1 v2 v3 w hI fun v1' v2' v3' w' hI2 hm => ih v1' v2' v3' w' hI2 (by omega)
theorem iX7_settles_l124 {F : Nat} {k189 : Int → Int → zS → Option zS} (I : Int → Int → Int → Int → zS → Prop) (μ : Int → Int → Int → Int → zS → Nat) (P : Option zS → Prop) (step : ∀ (r : Int → Int → Int → Int → zS → Option zS) (v1 : Int) (v3 : Int) (v4 : Int) (v5 : Int) (w : zS), I v1 v3 v4 v5 w → (∀ (v1' : Int) (v3' : Int) (v4' : Int) (v5' : Int) (w' : zS), I v1' v3' v4' v5' w' → μ v1' v3' v4' v5' w' < μ v1 v3 v4 v5 w → P (r v1' v3' v4' v5' w')) → P (zX7_settles_h124 F r k189 v1 v3 v4 v5 w)) : ∀ (n : Nat) (v1 : Int) (v3 : Int) (v4 : Int) (v5 : Int) (w : zS), I v1 v3 v4 v5 w → μ v1 v3 v4 v5 w < n → P (zX7_settles_l124 F k189 n v1 v3 v4 v5 w) := by
  intro n
  induction n with
  | zero => intro v1 v3 v4 v5 w _ q; omega
  | succ n ih =>
    intro v1 v3 v4 v5 w hI hn
    exact step _ v1 v3 v4 v5 w hI fun v1' v3' v4' v5' w' hI2 hm => ih v1' v3' v4' v5' w' hI2 (by omega)
theorem iX7_settles_l100 {F : Nat} {k195 : Int → zS → Option zS} (I : Int → Int → zS → Prop) (μ : Int → Int → zS → Nat) (P : Option zS → Prop) (step : ∀ (r : Int → Int → zS → Option zS) (v1 : Int) (v3 : Int) (w : zS), I v1 v3 w → (∀ (v1' : Int) (v3' : Int) (w' : zS), I v1' v3' w' → μ v1' v3' w' < μ v1 v3 w → P (r v1' v3' w')) → P (zX7_settles_h100 F r k195 v1 v3 w)) : ∀ (n : Nat) (v1 : Int) (v3 : Int) (w : zS), I v1 v3 w → μ v1 v3 w < n → P (zX7_settles_l100 F k195 n v1 v3 w) := by
  intro n
  induction n with
  | zero => intro v1 v3 w _ q; omega
  | succ n ih =>
    intro v1 v3 w hI hn
    exact step _ v1 v3 w hI fun v1' v3' w' hI2 hm => ih v1' v3' w' hI2 (by omega)
theorem iX7_settles_l233 {F : Nat} {k274 : Int → Int → zS → Option zS} (I : Int → Int → Int → zS → Prop) (μ : Int → Int → Int → zS → Nat) (P : Option zS → Prop) (step : ∀ (r : Int → Int → Int → zS → Option zS) (v1 : Int) (v3 : Int) (v4 : Int) (w : zS), I v1 v3 v4 w → (∀ (v1' : Int) (v3' : Int) (v4' : Int) (w' : zS), I v1' v3' v4' w' → μ v1' v3' v4' w' < μ v1 v3 v4 w → P (r v1' v3' v4' w')) → P (zX7_settles_h233 F r k274 v1 v3 v4 w)) : ∀ (n : Nat) (v1 : Int) (v3 : Int) (v4 : Int) (w : zS), I v1 v3 v4 w → μ v1 v3 v4 w < n → P (zX7_settles_l233 F k274 n v1 v3 v4 w) := by
  intro n
  induction n with
  | zero => intro v1 v3 v4 w _ q; omega
  | succ n ih =>
    intro v1 v3 v4 w hI hn
    exact step _ v1 v3 v4 w hI fun v1' v3' v4' w' hI2 hm => ih v1' v3' v4' w' hI2 (by omega)
theorem iX7_settles_l200 {F : Nat} {k280 : Int → Int → zS → Option zS} (I : Int → Int → zS → Prop) (μ : Int → Int → zS → Nat) (P : Option zS → Prop) (step : ∀ (r : Int → Int → zS → Option zS) (v1 : Int) (v3 : Int) (w : zS), I v1 v3 w → (∀ (v1' : Int) (v3' : Int) (w' : zS), I v1' v3' w' → μ v1' v3' w' < μ v1 v3 w → P (r v1' v3' w')) → P (zX7_settles_h200 F r k280 v1 v3 w)) : ∀ (n : Nat) (v1 : Int) (v3 : Int) (w : zS), I v1 v3 w → μ v1 v3 w < n → P (zX7_settles_l200 F k280 n v1 v3 w) := by
  intro n
  induction n with
  | zero => intro v1 v3 w _ q; omega
  | succ n ih =>
    intro v1 v3 w hI hn
    exact step _ v1 v3 w hI fun v1' v3' w' hI2 hm => ih v1' v3' w' hI2 (by omega)
theorem iX7_settles_l290 {F : Nat} {k324 : zS → Option zS} (I : Int → Int → zS → Prop) (μ : Int → Int → zS → Nat) (P : Option zS → Prop) (step : ∀ (r : Int → Int → zS → Option zS) (v3 : Int) (v4 : Int) (w : zS), I v3 v4 w → (∀ (v3' : Int) (v4' : Int) (w' : zS), I v3' v4' w' → μ v3' v4' w' < μ v3 v4 w → P (r v3' v4' w')) → P (zX7_settles_h290 F r k324 v3 v4 w)) : ∀ (n : Nat) (v3 : Int) (v4 : Int) (w : zS), I v3 v4 w → μ v3 v4 w < n → P (zX7_settles_l290 F k324 n v3 v4 w) := by
  intro n
  induction n with
  | zero => intro v3 v4 w _ q; omega
  | succ n ih =>
    intro v3 v4 w hI hn
    exact step _ v3 v4 w hI fun v3' v4' w' hI2 hm => ih v3' v4' w' hI2 (by omega)
theorem iX7_sheet_l55 {F : Nat}  (I : Int → Int → zS → Prop) (μ : Int → Int → zS → Nat) (P : Option (Int × zS) → Prop) (step : ∀ (r : Int → Int → zS → Option (Int × zS)) (v1 : Int) (v4 : Int) (w : zS), I v1 v4 w → (∀ (v1' : Int) (v4' : Int) (w' : zS), I v1' v4' w' → μ v1' v4' w' < μ v1 v4 w → P (r v1' v4' w')) → P (zX7_sheet_h55 F r  v1 v4 w)) : ∀ (n : Nat) (v1 : Int) (v4 : Int) (w : zS), I v1 v4 w → μ v1 v4 w < n → P (zX7_sheet_l55 F  n v1 v4 w) := by
  intro n
  induction n with
  | zero => intro v1 v4 w _ q; omega
  | succ n ih =>
    intro v1 v4 w hI hn
    exact step _ v1 v4 w hI fun v1' v4' w' hI2 hm => ih v1' v4' w' hI2 (by omega)
theorem iX7_sumOf_l19 {F : Nat} {k73 : Int → Int → zS → Option zS} (I : Int → Int → Int → zS → Prop) (μ : Int → Int → Int → zS → Nat) (P : Option zS → Prop) (step : ∀ (r : Int → Int → Int → zS → Option zS) (v2 : Int) (v3 : Int) (v4 : Int) (w : zS), I v2 v3 v4 w → (∀ (v2' : Int) (v3' : Int) (v4' : Int) (w' : zS), I v2' v3' v4' w' → μ v2' v3' v4' w' < μ v2 v3 v4 w → P (r v2' v3' v4' w')) → P (zX7_sumOf_h19 F r k73 v2 v3 v4 w)) : ∀ (n : Nat) (v2 : Int) (v3 : Int) (v4 : Int) (w : zS), I v2 v3 v4 w → μ v2 v3 v4 w < n → P (zX7_sumOf_l19 F k73 n v2 v3 v4 w) := by
  intro n
  induction n with
  | zero => intro v2 v3 v4 w _ q; omega
  | succ n ih =>
    intro v2 v3 v4 w hI hn
    exact step _ v2 v3 v4 w hI fun v2' v3' v4' w' hI2 hm => ih v2' v3' v4' w' hI2 (by omega)
theorem iX7_sumOf_l8 {F : Nat}  (I : Int → Int → zS → Prop) (μ : Int → Int → zS → Nat) (P : Option zS → Prop) (step : ∀ (r : Int → Int → zS → Option zS) (v2 : Int) (v3 : Int) (w : zS), I v2 v3 w → (∀ (v2' : Int) (v3' : Int) (w' : zS), I v2' v3' w' → μ v2' v3' w' < μ v2 v3 w → P (r v2' v3' w')) → P (zX7_sumOf_h8 F r  v2 v3 w)) : ∀ (n : Nat) (v2 : Int) (v3 : Int) (w : zS), I v2 v3 w → μ v2 v3 w < n → P (zX7_sumOf_l8 F  n v2 v3 w) := by
  intro n
  induction n with
  | zero => intro v2 v3 w _ q; omega
  | succ n ih =>
    intro v2 v3 w hI hn
    exact step _ v2 v3 w hI fun v2' v3' w' hI2 hm => ih v2' v3' w' hI2 (by omega)
theorem iX7_table_l79 {F : Nat} {k170 : Int → Int → Int → zS → Option (Int × zS)} {k143 : Int → Int → Int → zS → Option (Int × zS)} (I : Int → Int → Int → Int → zS → Prop) (μ : Int → Int → Int → Int → zS → Nat) (P : Option (Int × zS) → Prop) (step : ∀ (r : Int → Int → Int → Int → zS → Option (Int × zS)) (v1 : Int) (v3 : Int) (v5 : Int) (v6 : Int) (w : zS), I v1 v3 v5 v6 w → (∀ (v1' : Int) (v3' : Int) (v5' : Int) (v6' : Int) (w' : zS), I v1' v3' v5' v6' w' → μ v1' v3' v5' v6' w' < μ v1 v3 v5 v6 w → P (r v1' v3' v5' v6' w')) → P (zX7_table_h79 F r k170 k143 v1 v3 v5 v6 w)) : ∀ (n : Nat) (v1 : Int) (v3 : Int) (v5 : Int) (v6 : Int) (w : zS), I v1 v3 v5 v6 w → μ v1 v3 v5 v6 w < n → P (zX7_table_l79 F k170 k143 n v1 v3 v5 v6 w) := by
  intro n
  induction n with
  | zero => intro v1 v3 v5 v6 w _ q; omega
  | succ n ih =>
    intro v1 v3 v5 v6 w hI hn
    exact step _ v1 v3 v5 v6 w hI fun v1' v3' v5' v6' w' hI2 hm => ih v1' v3' v5' v6' w' hI2 (by omega)
theorem iX7_table_l70 {F : Nat} {k176 : Int → zS → Option (Int × zS)} {k143 : Int → Int → Int → zS → Option (Int × zS)} (I : Int → Int → Int → zS → Prop) (μ : Int → Int → Int → zS → Nat) (P : Option (Int × zS) → Prop) (step : ∀ (r : Int → Int → Int → zS → Option (Int × zS)) (v1 : Int) (v3 : Int) (v5 : Int) (w : zS), I v1 v3 v5 w → (∀ (v1' : Int) (v3' : Int) (v5' : Int) (w' : zS), I v1' v3' v5' w' → μ v1' v3' v5' w' < μ v1 v3 v5 w → P (r v1' v3' v5' w')) → P (zX7_table_h70 F r k176 k143 v1 v3 v5 w)) : ∀ (n : Nat) (v1 : Int) (v3 : Int) (v5 : Int) (w : zS), I v1 v3 v5 w → μ v1 v3 v5 w < n → P (zX7_table_l70 F k176 k143 n v1 v3 v5 w) := by
  intro n
  induction n with
  | zero => intro v1 v3 v5 w _ q; omega
  | succ n ih =>
    intro v1 v3 v5 w hI hn
    exact step _ v1 v3 v5 w hI fun v1' v3' v5' w' hI2 hm => ih v1' v3' v5' w' hI2 (by omega)
theorem iX7_table_l185 {F : Nat} {k269 : Int → Int → zS → Option (Int × zS)} (I : Int → Int → Int → zS → Prop) (μ : Int → Int → Int → zS → Nat) (P : Option (Int × zS) → Prop) (step : ∀ (r : Int → Int → Int → zS → Option (Int × zS)) (v3 : Int) (v5 : Int) (v6 : Int) (w : zS), I v3 v5 v6 w → (∀ (v3' : Int) (v5' : Int) (v6' : Int) (w' : zS), I v3' v5' v6' w' → μ v3' v5' v6' w' < μ v3 v5 v6 w → P (r v3' v5' v6' w')) → P (zX7_table_h185 F r k269 v3 v5 v6 w)) : ∀ (n : Nat) (v3 : Int) (v5 : Int) (v6 : Int) (w : zS), I v3 v5 v6 w → μ v3 v5 v6 w < n → P (zX7_table_l185 F k269 n v3 v5 v6 w) := by
  intro n
  induction n with
  | zero => intro v3 v5 v6 w _ q; omega
  | succ n ih =>
    intro v3 v5 v6 w hI hn
    exact step _ v3 v5 v6 w hI fun v3' v5' v6' w' hI2 hm => ih v3' v5' v6' w' hI2 (by omega)
theorem iX7_table_l284 {F : Nat} {k321 : Int → Int → Int → Int → zS → Option (Int × zS)} (I : Int → Int → Int → Int → Int → zS → Prop) (μ : Int → Int → Int → Int → Int → zS → Nat) (P : Option (Int × zS) → Prop) (step : ∀ (r : Int → Int → Int → Int → Int → zS → Option (Int × zS)) (v3 : Int) (v5 : Int) (v6 : Int) (v7 : Int) (v8 : Int) (w : zS), I v3 v5 v6 v7 v8 w → (∀ (v3' : Int) (v5' : Int) (v6' : Int) (v7' : Int) (v8' : Int) (w' : zS), I v3' v5' v6' v7' v8' w' → μ v3' v5' v6' v7' v8' w' < μ v3 v5 v6 v7 v8 w → P (r v3' v5' v6' v7' v8' w')) → P (zX7_table_h284 F r k321 v3 v5 v6 v7 v8 w)) : ∀ (n : Nat) (v3 : Int) (v5 : Int) (v6 : Int) (v7 : Int) (v8 : Int) (w : zS), I v3 v5 v6 v7 v8 w → μ v3 v5 v6 v7 v8 w < n → P (zX7_table_l284 F k321 n v3 v5 v6 v7 v8 w) := by
  intro n
  induction n with
  | zero => intro v3 v5 v6 v7 v8 w _ q; omega
  | succ n ih =>
    intro v3 v5 v6 v7 v8 w hI hn
    exact step _ v3 v5 v6 v7 v8 w hI fun v3' v5' v6' v7' v8' w' hI2 hm => ih v3' v5' v6' v7' v8' w' hI2 (by omega)
theorem iX7_table_l272 {F : Nat} {k339 : Int → zS → Option (Int × zS)} (I : Int → Int → Int → zS → Prop) (μ : Int → Int → Int → zS → Nat) (P : Option (Int × zS) → Prop) (step : ∀ (r : Int → Int → Int → zS → Option (Int × zS)) (v3 : Int) (v5 : Int) (v6 : Int) (w : zS), I v3 v5 v6 w → (∀ (v3' : Int) (v5' : Int) (v6' : Int) (w' : zS), I v3' v5' v6' w' → μ v3' v5' v6' w' < μ v3 v5 v6 w → P (r v3' v5' v6' w')) → P (zX7_table_h272 F r k339 v3 v5 v6 w)) : ∀ (n : Nat) (v3 : Int) (v5 : Int) (v6 : Int) (w : zS), I v3 v5 v6 w → μ v3 v5 v6 w < n → P (zX7_table_l272 F k339 n v3 v5 v6 w) := by
  intro n
  induction n with
  | zero => intro v3 v5 v6 w _ q; omega
  | succ n ih =>
    intro v3 v5 v6 w hI hn
    exact step _ v3 v5 v6 w hI fun v3' v5' v6' w' hI2 hm => ih v3' v5' v6' w' hI2 (by omega)
theorem iX7_bounds_l54 {F : Nat} {k162 : Int → Int → Int → Int → zS → Option zS} (I : Int → Int → Int → Int → Int → zS → Prop) (μ : Int → Int → Int → Int → Int → zS → Nat) (P : Option zS → Prop) (step : ∀ (r : Int → Int → Int → Int → Int → zS → Option zS) (v1 : Int) (v2 : Int) (v3 : Int) (v4 : Int) (v5 : Int) (w : zS), I v1 v2 v3 v4 v5 w → (∀ (v1' : Int) (v2' : Int) (v3' : Int) (v4' : Int) (v5' : Int) (w' : zS), I v1' v2' v3' v4' v5' w' → μ v1' v2' v3' v4' v5' w' < μ v1 v2 v3 v4 v5 w → P (r v1' v2' v3' v4' v5' w')) → P (zX7_bounds_h54 F r k162 v1 v2 v3 v4 v5 w)) : ∀ (n : Nat) (v1 : Int) (v2 : Int) (v3 : Int) (v4 : Int) (v5 : Int) (w : zS), I v1 v2 v3 v4 v5 w → μ v1 v2 v3 v4 v5 w < n → P (zX7_bounds_l54 F k162 n v1 v2 v3 v4 v5 w) := by
  intro n
  induction n with
  | zero => intro v1 v2 v3 v4 v5 w _ q; omega
  | succ n ih =>
    intro v1 v2 v3 v4 v5 w hI hn
    exact step _ v1 v2 v3 v4 v5 w hI fun v1' v2' v3' v4' v5' w' hI2 hm => ih v1' v2' v3' v4' v5' w' hI2 (by omega)
theorem iX7_bounds_l42 {F : Nat} {k168 : Int → Int → Int → zS → Option zS} (I : Int → Int → Int → Int → zS → Prop) (μ : Int → Int → Int → Int → zS → Nat) (P : Option zS → Prop) (step : ∀ (r : Int → Int → Int → Int → zS → Option zS) (v1 : Int) (v2 : Int) (v3 : Int) (v4 : Int) (w : zS), I v1 v2 v3 v4 w → (∀ (v1' : Int) (v2' : Int) (v3' : Int) (v4' : Int) (w' : zS), I v1' v2' v3' v4' w' → μ v1' v2' v3' v4' w' < μ v1 v2 v3 v4 w → P (r v1' v2' v3' v4' w')) → P (zX7_bounds_h42 F r k168 v1 v2 v3 v4 w)) : ∀ (n : Nat) (v1 : Int) (v2 : Int) (v3 : Int) (v4 : Int) (w : zS), I v1 v2 v3 v4 w → μ v1 v2 v3 v4 w < n → P (zX7_bounds_l42 F k168 n v1 v2 v3 v4 w) := by
  intro n
  induction n with
  | zero => intro v1 v2 v3 v4 w _ q; omega
  | succ n ih =>
    intro v1 v2 v3 v4 w hI hn
    exact step _ v1 v2 v3 v4 w hI fun v1' v2' v3' v4' w' hI2 hm => ih v1' v2' v3' v4' w' hI2 (by omega)
theorem iX7_bounds_l31 {F : Nat} {k174 : Int → Int → zS → Option zS} (I : Int → Int → Int → zS → Prop) (μ : Int → Int → Int → zS → Nat) (P : Option zS → Prop) (step : ∀ (r : Int → Int → Int → zS → Option zS) (v1 : Int) (v2 : Int) (v3 : Int) (w : zS), I v1 v2 v3 w → (∀ (v1' : Int) (v2' : Int) (v3' : Int) (w' : zS), I v1' v2' v3' w' → μ v1' v2' v3' w' < μ v1 v2 v3 w → P (r v1' v2' v3' w')) → P (zX7_bounds_h31 F r k174 v1 v2 v3 w)) : ∀ (n : Nat) (v1 : Int) (v2 : Int) (v3 : Int) (w : zS), I v1 v2 v3 w → μ v1 v2 v3 w < n → P (zX7_bounds_l31 F k174 n v1 v2 v3 w) := by
  intro n
  induction n with
  | zero => intro v1 v2 v3 w _ q; omega
  | succ n ih =>
    intro v1 v2 v3 w hI hn
    exact step _ v1 v2 v3 w hI fun v1' v2' v3' w' hI2 hm => ih v1' v2' v3' w' hI2 (by omega)
theorem iX7_bounds_l17 {F : Nat} {k184 : Int → zS → Option zS} (I : Int → Int → zS → Prop) (μ : Int → Int → zS → Nat) (P : Option zS → Prop) (step : ∀ (r : Int → Int → zS → Option zS) (v1 : Int) (v2 : Int) (w : zS), I v1 v2 w → (∀ (v1' : Int) (v2' : Int) (w' : zS), I v1' v2' w' → μ v1' v2' w' < μ v1 v2 w → P (r v1' v2' w')) → P (zX7_bounds_h17 F r k184 v1 v2 w)) : ∀ (n : Nat) (v1 : Int) (v2 : Int) (w : zS), I v1 v2 w → μ v1 v2 w < n → P (zX7_bounds_l17 F k184 n v1 v2 w) := by
  intro n
  induction n with
  | zero => intro v1 v2 w _ q; omega
  | succ n ih =>
    intro v1 v2 w hI hn
    exact step _ v1 v2 w hI fun v1' v2' w' hI2 hm => ih v1' v2' w' hI2 (by omega)
theorem iX7_bounds_l7 {F : Nat} {k190 : zS → Option zS} (I : Int → zS → Prop) (μ : Int → zS → Nat) (P : Option zS → Prop) (step : ∀ (r : Int → zS → Option zS) (v1 : Int) (w : zS), I v1 w → (∀ (v1' : Int) (w' : zS), I v1' w' → μ v1' w' < μ v1 w → P (r v1' w')) → P (zX7_bounds_h7 F r k190 v1 w)) : ∀ (n : Nat) (v1 : Int) (w : zS), I v1 w → μ v1 w < n → P (zX7_bounds_l7 F k190 n v1 w) := by
  intro n
  induction n with
  | zero => intro v1 w _ q; omega
  | succ n ih =>
    intro v1 w hI hn
    exact step _ v1 w hI fun v1' w' hI2 hm => ih v1' w' hI2 (by omega)
theorem iX7_bounds_l224 {F : Nat} {k260 : Int → zS → Option zS} (I : Int → Int → zS → Prop) (μ : Int → Int → zS → Nat) (P : Option zS → Prop) (step : ∀ (r : Int → Int → zS → Option zS) (v1 : Int) (v2 : Int) (w : zS), I v1 v2 w → (∀ (v1' : Int) (v2' : Int) (w' : zS), I v1' v2' w' → μ v1' v2' w' < μ v1 v2 w → P (r v1' v2' w')) → P (zX7_bounds_h224 F r k260 v1 v2 w)) : ∀ (n : Nat) (v1 : Int) (v2 : Int) (w : zS), I v1 v2 w → μ v1 v2 w < n → P (zX7_bounds_l224 F k260 n v1 v2 w) := by
  intro n
  induction n with
  | zero => intro v1 v2 w _ q; omega
  | succ n ih =>
    intro v1 v2 w hI hn
    exact step _ v1 v2 w hI fun v1' v2' w' hI2 hm => ih v1' v2' w' hI2 (by omega)
theorem iX7_bounds_l202 {F : Nat}  (I : Int → zS → Prop) (μ : Int → zS → Nat) (P : Option zS → Prop) (step : ∀ (r : Int → zS → Option zS) (v1 : Int) (w : zS), I v1 w → (∀ (v1' : Int) (w' : zS), I v1' w' → μ v1' w' < μ v1 w → P (r v1' w')) → P (zX7_bounds_h202 F r  v1 w)) : ∀ (n : Nat) (v1 : Int) (w : zS), I v1 w → μ v1 w < n → P (zX7_bounds_l202 F  n v1 w) := by
  intro n
  induction n with
  | zero => intro v1 w _ q; omega
  | succ n ih =>
    intro v1 w hI hn
    exact step _ v1 w hI fun v1' w' hI2 hm => ih v1' w' hI2 (by omega)
theorem iX7_dimensionNone_l39 {F : Nat} {k80 : Int → Int → zS → Option zS} (I : Int → Int → Int → zS → Prop) (μ : Int → Int → Int → zS → Nat) (P : Option zS → Prop) (step : ∀ (r : Int → Int → Int → zS → Option zS) (v1 : Int) (v2 : Int) (v3 : Int) (w : zS), I v1 v2 v3 w → (∀ (v1' : Int) (v2' : Int) (v3' : Int) (w' : zS), I v1' v2' v3' w' → μ v1' v2' v3' w' < μ v1 v2 v3 w → P (r v1' v2' v3' w')) → P (zX7_dimensionNone_h39 F r k80 v1 v2 v3 w)) : ∀ (n : Nat) (v1 : Int) (v2 : Int) (v3 : Int) (w : zS), I v1 v2 v3 w → μ v1 v2 v3 w < n → P (zX7_dimensionNone_l39 F k80 n v1 v2 v3 w) := by
  intro n
  induction n with
  | zero => intro v1 v2 v3 w _ q; omega
  | succ n ih =>
    intro v1 v2 v3 w hI hn
    exact step _ v1 v2 v3 w hI fun v1' v2' v3' w' hI2 hm => ih v1' v2' v3' w' hI2 (by omega)
theorem iX7_dimensionNone_l25 {F : Nat} {k90 : Int → zS → Option zS} (I : Int → Int → zS → Prop) (μ : Int → Int → zS → Nat) (P : Option zS → Prop) (step : ∀ (r : Int → Int → zS → Option zS) (v1 : Int) (v2 : Int) (w : zS), I v1 v2 w → (∀ (v1' : Int) (v2' : Int) (w' : zS), I v1' v2' w' → μ v1' v2' w' < μ v1 v2 w → P (r v1' v2' w')) → P (zX7_dimensionNone_h25 F r k90 v1 v2 w)) : ∀ (n : Nat) (v1 : Int) (v2 : Int) (w : zS), I v1 v2 w → μ v1 v2 w < n → P (zX7_dimensionNone_l25 F k90 n v1 v2 w) := by
  intro n
  induction n with
  | zero => intro v1 v2 w _ q; omega
  | succ n ih =>
    intro v1 v2 w hI hn
    exact step _ v1 v2 w hI fun v1' v2' w' hI2 hm => ih v1' v2' w' hI2 (by omega)
theorem iX7_dimensionNone_l15 {F : Nat} {k96 : zS → Option zS} (I : Int → zS → Prop) (μ : Int → zS → Nat) (P : Option zS → Prop) (step : ∀ (r : Int → zS → Option zS) (v1 : Int) (w : zS), I v1 w → (∀ (v1' : Int) (w' : zS), I v1' w' → μ v1' w' < μ v1 w → P (r v1' w')) → P (zX7_dimensionNone_h15 F r k96 v1 w)) : ∀ (n : Nat) (v1 : Int) (w : zS), I v1 w → μ v1 w < n → P (zX7_dimensionNone_l15 F k96 n v1 w) := by
  intro n
  induction n with
  | zero => intro v1 w _ q; omega
  | succ n ih =>
    intro v1 w hI hn
    exact step _ v1 w hI fun v1' w' hI2 hm => ih v1' w' hI2 (by omega)
theorem iX7_dimensionOne_l105 {F : Nat} {k148 : Int → Int → Int → zS → Option zS} (I : Int → Int → Int → Int → zS → Prop) (μ : Int → Int → Int → Int → zS → Nat) (P : Option zS → Prop) (step : ∀ (r : Int → Int → Int → Int → zS → Option zS) (v1 : Int) (v2 : Int) (v3 : Int) (v5 : Int) (w : zS), I v1 v2 v3 v5 w → (∀ (v1' : Int) (v2' : Int) (v3' : Int) (v5' : Int) (w' : zS), I v1' v2' v3' v5' w' → μ v1' v2' v3' v5' w' < μ v1 v2 v3 v5 w → P (r v1' v2' v3' v5' w')) → P (zX7_dimensionOne_h105 F r k148 v1 v2 v3 v5 w)) : ∀ (n : Nat) (v1 : Int) (v2 : Int) (v3 : Int) (v5 : Int) (w : zS), I v1 v2 v3 v5 w → μ v1 v2 v3 v5 w < n → P (zX7_dimensionOne_l105 F k148 n v1 v2 v3 v5 w) := by
  intro n
  induction n with
  | zero => intro v1 v2 v3 v5 w _ q; omega
  | succ n ih =>
    intro v1 v2 v3 v5 w hI hn
    exact step _ v1 v2 v3 v5 w hI fun v1' v2' v3' v5' w' hI2 hm => ih v1' v2' v3' v5' w' hI2 (by omega)
theorem iX7_dimensionOne_l42 {F : Nat} {k158 : Int → Int → zS → Option zS} (I : Int → Int → Int → zS → Prop) (μ : Int → Int → Int → zS → Nat) (P : Option zS → Prop) (step : ∀ (r : Int → Int → Int → zS → Option zS) (v1 : Int) (v2 : Int) (v3 : Int) (w : zS), I v1 v2 v3 w → (∀ (v1' : Int) (v2' : Int) (v3' : Int) (w' : zS), I v1' v2' v3' w' → μ v1' v2' v3' w' < μ v1 v2 v3 w → P (r v1' v2' v3' w')) → P (zX7_dimensionOne_h42 F r k158 v1 v2 v3 w)) : ∀ (n : Nat) (v1 : Int) (v2 : Int) (v3 : Int) (w : zS), I v1 v2 v3 w → μ v1 v2 v3 w < n → P (zX7_dimensionOne_l42 F k158 n v1 v2 v3 w) := by
  intro n
  induction n with
  | zero => intro v1 v2 v3 w _ q; omega
  | succ n ih =>
    intro v1 v2 v3 w hI hn
    exact step _ v1 v2 v3 w hI fun v1' v2' v3' w' hI2 hm => ih v1' v2' v3' w' hI2 (by omega)
theorem iX7_dimensionOne_l32 {F : Nat} {k164 : Int → zS → Option zS} (I : Int → Int → zS → Prop) (μ : Int → Int → zS → Nat) (P : Option zS → Prop) (step : ∀ (r : Int → Int → zS → Option zS) (v1 : Int) (v2 : Int) (w : zS), I v1 v2 w → (∀ (v1' : Int) (v2' : Int) (w' : zS), I v1' v2' w' → μ v1' v2' w' < μ v1 v2 w → P (r v1' v2' w')) → P (zX7_dimensionOne_h32 F r k164 v1 v2 w)) : ∀ (n : Nat) (v1 : Int) (v2 : Int) (w : zS), I v1 v2 w → μ v1 v2 w < n → P (zX7_dimensionOne_l32 F k164 n v1 v2 w) := by
  intro n
  induction n with
  | zero => intro v1 v2 w _ q; omega
  | succ n ih =>
    intro v1 v2 w hI hn
    exact step _ v1 v2 w hI fun v1' v2' w' hI2 hm => ih v1' v2' w' hI2 (by omega)
theorem iX7_dimensionOne_l22 {F : Nat} {k170 : zS → Option zS} (I : Int → zS → Prop) (μ : Int → zS → Nat) (P : Option zS → Prop) (step : ∀ (r : Int → zS → Option zS) (v1 : Int) (w : zS), I v1 w → (∀ (v1' : Int) (w' : zS), I v1' w' → μ v1' w' < μ v1 w → P (r v1' w')) → P (zX7_dimensionOne_h22 F r k170 v1 w)) : ∀ (n : Nat) (v1 : Int) (w : zS), I v1 w → μ v1 w < n → P (zX7_dimensionOne_l22 F k170 n v1 w) := by
  intro n
  induction n with
  | zero => intro v1 w _ q; omega
  | succ n ih =>
    intro v1 w hI hn
    exact step _ v1 w hI fun v1' w' hI2 hm => ih v1' w' hI2 (by omega)
theorem iX7_isCocycle_l97 {F : Nat} {k140 : Int → Int → Int → Int → Int → Int → zS → Option (Int × zS)} (I : Int → Int → Int → Int → Int → Int → Int → zS → Prop) (μ : Int → Int → Int → Int → Int → Int → Int → zS → Nat) (P : Option (Int × zS) → Prop) (step : ∀ (r : Int → Int → Int → Int → Int → Int → Int → zS → Option (Int × zS)) (v1 : Int) (v2 : Int) (v3 : Int) (v4 : Int) (v5 : Int) (v6 : Int) (v7 : Int) (w : zS), I v1 v2 v3 v4 v5 v6 v7 w → (∀ (v1' : Int) (v2' : Int) (v3' : Int) (v4' : Int) (v5' : Int) (v6' : Int) (v7' : Int) (w' : zS), I v1' v2' v3' v4' v5' v6' v7' w' → μ v1' v2' v3' v4' v5' v6' v7' w' < μ v1 v2 v3 v4 v5 v6 v7 w → P (r v1' v2' v3' v4' v5' v6' v7' w')) → P (zX7_isCocycle_h97 F r k140 v1 v2 v3 v4 v5 v6 v7 w)) : ∀ (n : Nat) (v1 : Int) (v2 : Int) (v3 : Int) (v4 : Int) (v5 : Int) (v6 : Int) (v7 : Int) (w : zS), I v1 v2 v3 v4 v5 v6 v7 w → μ v1 v2 v3 v4 v5 v6 v7 w < n → P (zX7_isCocycle_l97 F k140 n v1 v2 v3 v4 v5 v6 v7 w) := by
  intro n
  induction n with
  | zero => intro v1 v2 v3 v4 v5 v6 v7 w _ q; omega
  | succ n ih =>
    intro v1 v2 v3 v4 v5 v6 v7 w hI hn
    exact step _ v1 v2 v3 v4 v5 v6 v7 w hI fun v1' v2' v3' v4' v5' v6' v7' w' hI2 hm => ih v1' v2' v3' v4' v5' v6' v7' w' hI2 (by omega)
theorem iX7_isCocycle_l37 {F : Nat} {k166 : Int → Int → Int → Int → zS → Option (Int × zS)} (I : Int → Int → Int → Int → Int → zS → Prop) (μ : Int → Int → Int → Int → Int → zS → Nat) (P : Option (Int × zS) → Prop) (step : ∀ (r : Int → Int → Int → Int → Int → zS → Option (Int × zS)) (v1 : Int) (v2 : Int) (v3 : Int) (v4 : Int) (v5 : Int) (w : zS), I v1 v2 v3 v4 v5 w → (∀ (v1' : Int) (v2' : Int) (v3' : Int) (v4' : Int) (v5' : Int) (w' : zS), I v1' v2' v3' v4' v5' w' → μ v1' v2' v3' v4' v5' w' < μ v1 v2 v3 v4 v5 w → P (r v1' v2' v3' v4' v5' w')) → P (zX7_isCocycle_h37 F r k166 v1 v2 v3 v4 v5 w)) : ∀ (n : Nat) (v1 : Int) (v2 : Int) (v3 : Int) (v4 : Int) (v5 : Int) (w : zS), I v1 v2 v3 v4 v5 w → μ v1 v2 v3 v4 v5 w < n → P (zX7_isCocycle_l37 F k166 n v1 v2 v3 v4 v5 w) := by
  intro n
  induction n with
  | zero => intro v1 v2 v3 v4 v5 w _ q; omega
  | succ n ih =>
    intro v1 v2 v3 v4 v5 w hI hn
    exact step _ v1 v2 v3 v4 v5 w hI fun v1' v2' v3' v4' v5' w' hI2 hm => ih v1' v2' v3' v4' v5' w' hI2 (by omega)
theorem iX7_isCocycle_l25 {F : Nat} {k172 : Int → Int → Int → zS → Option (Int × zS)} (I : Int → Int → Int → Int → zS → Prop) (μ : Int → Int → Int → Int → zS → Nat) (P : Option (Int × zS) → Prop) (step : ∀ (r : Int → Int → Int → Int → zS → Option (Int × zS)) (v1 : Int) (v2 : Int) (v3 : Int) (v4 : Int) (w : zS), I v1 v2 v3 v4 w → (∀ (v1' : Int) (v2' : Int) (v3' : Int) (v4' : Int) (w' : zS), I v1' v2' v3' v4' w' → μ v1' v2' v3' v4' w' < μ v1 v2 v3 v4 w → P (r v1' v2' v3' v4' w')) → P (zX7_isCocycle_h25 F r k172 v1 v2 v3 v4 w)) : ∀ (n : Nat) (v1 : Int) (v2 : Int) (v3 : Int) (v4 : Int) (w : zS), I v1 v2 v3 v4 w → μ v1 v2 v3 v4 w < n → P (zX7_isCocycle_l25 F k172 n v1 v2 v3 v4 w) := by
  intro n
  induction n with
  | zero => intro v1 v2 v3 v4 w _ q; omega
  | succ n ih =>
    intro v1 v2 v3 v4 w hI hn
    exact step _ v1 v2 v3 v4 w hI fun v1' v2' v3' v4' w' hI2 hm => ih v1' v2' v3' v4' w' hI2 (by omega)
theorem iX7_isCocycle_l14 {F : Nat} {k178 : Int → Int → zS → Option (Int × zS)} (I : Int → Int → Int → zS → Prop) (μ : Int → Int → Int → zS → Nat) (P : Option (Int × zS) → Prop) (step : ∀ (r : Int → Int → Int → zS → Option (Int × zS)) (v1 : Int) (v2 : Int) (v3 : Int) (w : zS), I v1 v2 v3 w → (∀ (v1' : Int) (v2' : Int) (v3' : Int) (w' : zS), I v1' v2' v3' w' → μ v1' v2' v3' w' < μ v1 v2 v3 w → P (r v1' v2' v3' w')) → P (zX7_isCocycle_h14 F r k178 v1 v2 v3 w)) : ∀ (n : Nat) (v1 : Int) (v2 : Int) (v3 : Int) (w : zS), I v1 v2 v3 w → μ v1 v2 v3 w < n → P (zX7_isCocycle_l14 F k178 n v1 v2 v3 w) := by
  intro n
  induction n with
  | zero => intro v1 v2 v3 w _ q; omega
  | succ n ih =>
    intro v1 v2 v3 w hI hn
    exact step _ v1 v2 v3 w hI fun v1' v2' v3' w' hI2 hm => ih v1' v2' v3' w' hI2 (by omega)
theorem iX7_isCocycle_l4 {F : Nat}  (I : Int → Int → zS → Prop) (μ : Int → Int → zS → Nat) (P : Option (Int × zS) → Prop) (step : ∀ (r : Int → Int → zS → Option (Int × zS)) (v1 : Int) (v2 : Int) (w : zS), I v1 v2 w → (∀ (v1' : Int) (v2' : Int) (w' : zS), I v1' v2' w' → μ v1' v2' w' < μ v1 v2 w → P (r v1' v2' w')) → P (zX7_isCocycle_h4 F r  v1 v2 w)) : ∀ (n : Nat) (v1 : Int) (v2 : Int) (w : zS), I v1 v2 w → μ v1 v2 w < n → P (zX7_isCocycle_l4 F  n v1 v2 w) := by
  intro n
  induction n with
  | zero => intro v1 v2 w _ q; omega
  | succ n ih =>
    intro v1 v2 w hI hn
    exact step _ v1 v2 w hI fun v1' v2' w' hI2 hm => ih v1' v2' w' hI2 (by omega)
theorem iX7_leastMakers_l172 {F : Nat} {k205 : Int → Int → Int → Int → Int → Int64 → Int64 → Int → zS → Option (Int × zS)} (I : Int → Int → Int → Int → Int → Int64 → Int64 → Int → Int → zS → Prop) (μ : Int → Int → Int → Int → Int → Int64 → Int64 → Int → Int → zS → Nat) (P : Option (Int × zS) → Prop) (step : ∀ (r : Int → Int → Int → Int → Int → Int64 → Int64 → Int → Int → zS → Option (Int × zS)) (v1 : Int) (v3 : Int) (v4 : Int) (v6 : Int) (v7 : Int) (v8 : Int64) (v10 : Int64) (v12 : Int) (v14 : Int) (w : zS), I v1 v3 v4 v6 v7 v8 v10 v12 v14 w → (∀ (v1' : Int) (v3' : Int) (v4' : Int) (v6' : Int) (v7' : Int) (v8' : Int64) (v10' : Int64) (v12' : Int) (v14' : Int) (w' : zS), I v1' v3' v4' v6' v7' v8' v10' v12' v14' w' → μ v1' v3' v4' v6' v7' v8' v10' v12' v14' w' < μ v1 v3 v4 v6 v7 v8 v10 v12 v14 w → P (r v1' v3' v4' v6' v7' v8' v10' v12' v14' w')) → P (zX7_leastMakers_h172 F r k205 v1 v3 v4 v6 v7 v8 v10 v12 v14 w)) : ∀ (n : Nat) (v1 : Int) (v3 : Int) (v4 : Int) (v6 : Int) (v7 : Int) (v8 : Int64) (v10 : Int64) (v12 : Int) (v14 : Int) (w : zS), I v1 v3 v4 v6 v7 v8 v10 v12 v14 w → μ v1 v3 v4 v6 v7 v8 v10 v12 v14 w < n → P (zX7_leastMakers_l172 F k205 n v1 v3 v4 v6 v7 v8 v10 v12 v14 w) := by
  intro n
  induction n with
  | zero => intro v1 v3 v4 v6 v7 v8 v10 v12 v14 w _ q; omega
  | succ n ih =>
    intro v1 v3 v4 v6 v7 v8 v10 v12 v14 w hI hn
    exact step _ v1 v3 v4 v6 v7 v8 v10 v12 v14 w hI fun v1' v3' v4' v6' v7' v8' v10' v12' v14' w' hI2 hm => ih v1' v3' v4' v6' v7' v8' v10' v12' v14' w' hI2 (by omega)
theorem iX7_leastMakers_l267 {F : Nat} {k322 : Int → Int → Int → Int → Int → Int → Int64 → Int64 → Int → Int → zS → Option (Int × zS)} (I : Int → Int → Int → Int → Int → Int → Int64 → Int64 → Int → Int → Int → zS → Prop) (μ : Int → Int → Int → Int → Int → Int → Int64 → Int64 → Int → Int → Int → zS → Nat) (P : Option (Int × zS) → Prop) (step : ∀ (r : Int → Int → Int → Int → Int → Int → Int64 → Int64 → Int → Int → Int → zS → Option (Int × zS)) (v1 : Int) (v3 : Int) (v4 : Int) (v5 : Int) (v6 : Int) (v7 : Int) (v8 : Int64) (v10 : Int64) (v12 : Int) (v14 : Int) (v15 : Int) (w : zS), I v1 v3 v4 v5 v6 v7 v8 v10 v12 v14 v15 w → (∀ (v1' : Int) (v3' : Int) (v4' : Int) (v5' : Int) (v6' : Int) (v7' : Int) (v8' : Int64) (v10' : Int64) (v12' : Int) (v14' : Int) (v15' : Int) (w' : zS), I v1' v3' v4' v5' v6' v7' v8' v10' v12' v14' v15' w' → μ v1' v3' v4' v5' v6' v7' v8' v10' v12' v14' v15' w' < μ v1 v3 v4 v5 v6 v7 v8 v10 v12 v14 v15 w → P (r v1' v3' v4' v5' v6' v7' v8' v10' v12' v14' v15' w')) → P (zX7_leastMakers_h267 F r k322 v1 v3 v4 v5 v6 v7 v8 v10 v12 v14 v15 w)) : ∀ (n : Nat) (v1 : Int) (v3 : Int) (v4 : Int) (v5 : Int) (v6 : Int) (v7 : Int) (v8 : Int64) (v10 : Int64) (v12 : Int) (v14 : Int) (v15 : Int) (w : zS), I v1 v3 v4 v5 v6 v7 v8 v10 v12 v14 v15 w → μ v1 v3 v4 v5 v6 v7 v8 v10 v12 v14 v15 w < n → P (zX7_leastMakers_l267 F k322 n v1 v3 v4 v5 v6 v7 v8 v10 v12 v14 v15 w) := by
  intro n
  induction n with
  | zero => intro v1 v3 v4 v5 v6 v7 v8 v10 v12 v14 v15 w _ q; omega
  | succ n ih =>
    intro v1 v3 v4 v5 v6 v7 v8 v10 v12 v14 v15 w hI hn
    exact step _ v1 v3 v4 v5 v6 v7 v8 v10 v12 v14 v15 w hI fun v1' v3' v4' v5' v6' v7' v8' v10' v12' v14' v15' w' hI2 hm => ih v1' v3' v4' v5' v6' v7' v8' v10' v12' v14' v15' w' hI2 (by omega)
theorem iX7_leastMakers_l352 {F : Nat} {k385 : Int → Int → Int → Int → Int → Int → Int64 → Int64 → Int → zS → Option (Int × zS)} (I : Int → Int → Int → Int → Int → Int → Int64 → Int64 → Int → Int → zS → Prop) (μ : Int → Int → Int → Int → Int → Int → Int64 → Int64 → Int → Int → zS → Nat) (P : Option (Int × zS) → Prop) (step : ∀ (r : Int → Int → Int → Int → Int → Int → Int64 → Int64 → Int → Int → zS → Option (Int × zS)) (v1 : Int) (v3 : Int) (v4 : Int) (v5 : Int) (v6 : Int) (v7 : Int) (v8 : Int64) (v10 : Int64) (v12 : Int) (v15 : Int) (w : zS), I v1 v3 v4 v5 v6 v7 v8 v10 v12 v15 w → (∀ (v1' : Int) (v3' : Int) (v4' : Int) (v5' : Int) (v6' : Int) (v7' : Int) (v8' : Int64) (v10' : Int64) (v12' : Int) (v15' : Int) (w' : zS), I v1' v3' v4' v5' v6' v7' v8' v10' v12' v15' w' → μ v1' v3' v4' v5' v6' v7' v8' v10' v12' v15' w' < μ v1 v3 v4 v5 v6 v7 v8 v10 v12 v15 w → P (r v1' v3' v4' v5' v6' v7' v8' v10' v12' v15' w')) → P (zX7_leastMakers_h352 F r k385 v1 v3 v4 v5 v6 v7 v8 v10 v12 v15 w)) : ∀ (n : Nat) (v1 : Int) (v3 : Int) (v4 : Int) (v5 : Int) (v6 : Int) (v7 : Int) (v8 : Int64) (v10 : Int64) (v12 : Int) (v15 : Int) (w : zS), I v1 v3 v4 v5 v6 v7 v8 v10 v12 v15 w → μ v1 v3 v4 v5 v6 v7 v8 v10 v12 v15 w < n → P (zX7_leastMakers_l352 F k385 n v1 v3 v4 v5 v6 v7 v8 v10 v12 v15 w) := by
  intro n
  induction n with
  | zero => intro v1 v3 v4 v5 v6 v7 v8 v10 v12 v15 w _ q; omega
  | succ n ih =>
    intro v1 v3 v4 v5 v6 v7 v8 v10 v12 v15 w hI hn
    exact step _ v1 v3 v4 v5 v6 v7 v8 v10 v12 v15 w hI fun v1' v3' v4' v5' v6' v7' v8' v10' v12' v15' w' hI2 hm => ih v1' v3' v4' v5' v6' v7' v8' v10' v12' v15' w' hI2 (by omega)
theorem iX7_leastMakers_l99 {F : Nat} {k394 : Int → Int → Int → Int → Int → Int → zS → Option (Int × zS)} (I : Int → Int → Int → Int → Int → Int → Int64 → Int64 → Int → zS → Prop) (μ : Int → Int → Int → Int → Int → Int → Int64 → Int64 → Int → zS → Nat) (P : Option (Int × zS) → Prop) (step : ∀ (r : Int → Int → Int → Int → Int → Int → Int64 → Int64 → Int → zS → Option (Int × zS)) (v1 : Int) (v3 : Int) (v4 : Int) (v5 : Int) (v6 : Int) (v7 : Int) (v8 : Int64) (v10 : Int64) (v12 : Int) (w : zS), I v1 v3 v4 v5 v6 v7 v8 v10 v12 w → (∀ (v1' : Int) (v3' : Int) (v4' : Int) (v5' : Int) (v6' : Int) (v7' : Int) (v8' : Int64) (v10' : Int64) (v12' : Int) (w' : zS), I v1' v3' v4' v5' v6' v7' v8' v10' v12' w' → μ v1' v3' v4' v5' v6' v7' v8' v10' v12' w' < μ v1 v3 v4 v5 v6 v7 v8 v10 v12 w → P (r v1' v3' v4' v5' v6' v7' v8' v10' v12' w')) → P (zX7_leastMakers_h99 F r k394 v1 v3 v4 v5 v6 v7 v8 v10 v12 w)) : ∀ (n : Nat) (v1 : Int) (v3 : Int) (v4 : Int) (v5 : Int) (v6 : Int) (v7 : Int) (v8 : Int64) (v10 : Int64) (v12 : Int) (w : zS), I v1 v3 v4 v5 v6 v7 v8 v10 v12 w → μ v1 v3 v4 v5 v6 v7 v8 v10 v12 w < n → P (zX7_leastMakers_l99 F k394 n v1 v3 v4 v5 v6 v7 v8 v10 v12 w) := by
  intro n
  induction n with
  | zero => intro v1 v3 v4 v5 v6 v7 v8 v10 v12 w _ q; omega
  | succ n ih =>
    intro v1 v3 v4 v5 v6 v7 v8 v10 v12 w hI hn
    exact step _ v1 v3 v4 v5 v6 v7 v8 v10 v12 w hI fun v1' v3' v4' v5' v6' v7' v8' v10' v12' w' hI2 hm => ih v1' v3' v4' v5' v6' v7' v8' v10' v12' w' hI2 (by omega)
theorem iX7_leastMakers_l67 {F : Nat} {k400 : Int → Int → Int → Int → Int → zS → Option (Int × zS)} (I : Int → Int → Int → Int → Int → Int → zS → Prop) (μ : Int → Int → Int → Int → Int → Int → zS → Nat) (P : Option (Int × zS) → Prop) (step : ∀ (r : Int → Int → Int → Int → Int → Int → zS → Option (Int × zS)) (v1 : Int) (v3 : Int) (v4 : Int) (v5 : Int) (v6 : Int) (v7 : Int) (w : zS), I v1 v3 v4 v5 v6 v7 w → (∀ (v1' : Int) (v3' : Int) (v4' : Int) (v5' : Int) (v6' : Int) (v7' : Int) (w' : zS), I v1' v3' v4' v5' v6' v7' w' → μ v1' v3' v4' v5' v6' v7' w' < μ v1 v3 v4 v5 v6 v7 w → P (r v1' v3' v4' v5' v6' v7' w')) → P (zX7_leastMakers_h67 F r k400 v1 v3 v4 v5 v6 v7 w)) : ∀ (n : Nat) (v1 : Int) (v3 : Int) (v4 : Int) (v5 : Int) (v6 : Int) (v7 : Int) (w : zS), I v1 v3 v4 v5 v6 v7 w → μ v1 v3 v4 v5 v6 v7 w < n → P (zX7_leastMakers_l67 F k400 n v1 v3 v4 v5 v6 v7 w) := by
  intro n
  induction n with
  | zero => intro v1 v3 v4 v5 v6 v7 w _ q; omega
  | succ n ih =>
    intro v1 v3 v4 v5 v6 v7 w hI hn
    exact step _ v1 v3 v4 v5 v6 v7 w hI fun v1' v3' v4' v5' v6' v7' w' hI2 hm => ih v1' v3' v4' v5' v6' v7' w' hI2 (by omega)
theorem iX7_leastMakers_l445 {F : Nat} {k486 : Int → Int → Int → Int → Int → Int → zS → Option (Int × zS)} (I : Int → Int → Int → Int → Int → Int → Int → zS → Prop) (μ : Int → Int → Int → Int → Int → Int → Int → zS → Nat) (P : Option (Int × zS) → Prop) (step : ∀ (r : Int → Int → Int → Int → Int → Int → Int → zS → Option (Int × zS)) (v1 : Int) (v3 : Int) (v4 : Int) (v5 : Int) (v6 : Int) (v7 : Int) (v8 : Int) (w : zS), I v1 v3 v4 v5 v6 v7 v8 w → (∀ (v1' : Int) (v3' : Int) (v4' : Int) (v5' : Int) (v6' : Int) (v7' : Int) (v8' : Int) (w' : zS), I v1' v3' v4' v5' v6' v7' v8' w' → μ v1' v3' v4' v5' v6' v7' v8' w' < μ v1 v3 v4 v5 v6 v7 v8 w → P (r v1' v3' v4' v5' v6' v7' v8' w')) → P (zX7_leastMakers_h445 F r k486 v1 v3 v4 v5 v6 v7 v8 w)) : ∀ (n : Nat) (v1 : Int) (v3 : Int) (v4 : Int) (v5 : Int) (v6 : Int) (v7 : Int) (v8 : Int) (w : zS), I v1 v3 v4 v5 v6 v7 v8 w → μ v1 v3 v4 v5 v6 v7 v8 w < n → P (zX7_leastMakers_l445 F k486 n v1 v3 v4 v5 v6 v7 v8 w) := by
  intro n
  induction n with
  | zero => intro v1 v3 v4 v5 v6 v7 v8 w _ q; omega
  | succ n ih =>
    intro v1 v3 v4 v5 v6 v7 v8 w hI hn
    exact step _ v1 v3 v4 v5 v6 v7 v8 w hI fun v1' v3' v4' v5' v6' v7' v8' w' hI2 hm => ih v1' v3' v4' v5' v6' v7' v8' w' hI2 (by omega)
theorem iX7_leastMakers_l403 {F : Nat} {k492 : Int → Int → Int → Int → Int → zS → Option (Int × zS)} (I : Int → Int → Int → Int → Int → Int → zS → Prop) (μ : Int → Int → Int → Int → Int → Int → zS → Nat) (P : Option (Int × zS) → Prop) (step : ∀ (r : Int → Int → Int → Int → Int → Int → zS → Option (Int × zS)) (v1 : Int) (v3 : Int) (v4 : Int) (v5 : Int) (v6 : Int) (v7 : Int) (w : zS), I v1 v3 v4 v5 v6 v7 w → (∀ (v1' : Int) (v3' : Int) (v4' : Int) (v5' : Int) (v6' : Int) (v7' : Int) (w' : zS), I v1' v3' v4' v5' v6' v7' w' → μ v1' v3' v4' v5' v6' v7' w' < μ v1 v3 v4 v5 v6 v7 w → P (r v1' v3' v4' v5' v6' v7' w')) → P (zX7_leastMakers_h403 F r k492 v1 v3 v4 v5 v6 v7 w)) : ∀ (n : Nat) (v1 : Int) (v3 : Int) (v4 : Int) (v5 : Int) (v6 : Int) (v7 : Int) (w : zS), I v1 v3 v4 v5 v6 v7 w → μ v1 v3 v4 v5 v6 v7 w < n → P (zX7_leastMakers_l403 F k492 n v1 v3 v4 v5 v6 v7 w) := by
  intro n
  induction n with
  | zero => intro v1 v3 v4 v5 v6 v7 w _ q; omega
  | succ n ih =>
    intro v1 v3 v4 v5 v6 v7 w hI hn
    exact step _ v1 v3 v4 v5 v6 v7 w hI fun v1' v3' v4' v5' v6' v7' w' hI2 hm => ih v1' v3' v4' v5' v6' v7' w' hI2 (by omega)
theorem iX7_leastMakers_l56 {F : Nat} {k505 : Int → Int → zS → Option (Int × zS)} (I : Int → Int → Int → Int → Int → zS → Prop) (μ : Int → Int → Int → Int → Int → zS → Nat) (P : Option (Int × zS) → Prop) (step : ∀ (r : Int → Int → Int → Int → Int → zS → Option (Int × zS)) (v1 : Int) (v2 : Int) (v3 : Int) (v4 : Int) (v5 : Int) (w : zS), I v1 v2 v3 v4 v5 w → (∀ (v1' : Int) (v2' : Int) (v3' : Int) (v4' : Int) (v5' : Int) (w' : zS), I v1' v2' v3' v4' v5' w' → μ v1' v2' v3' v4' v5' w' < μ v1 v2 v3 v4 v5 w → P (r v1' v2' v3' v4' v5' w')) → P (zX7_leastMakers_h56 F r k505 v1 v2 v3 v4 v5 w)) : ∀ (n : Nat) (v1 : Int) (v2 : Int) (v3 : Int) (v4 : Int) (v5 : Int) (w : zS), I v1 v2 v3 v4 v5 w → μ v1 v2 v3 v4 v5 w < n → P (zX7_leastMakers_l56 F k505 n v1 v2 v3 v4 v5 w) := by
  intro n
  induction n with
  | zero => intro v1 v2 v3 v4 v5 w _ q; omega
  | succ n ih =>
    intro v1 v2 v3 v4 v5 w hI hn
    exact step _ v1 v2 v3 v4 v5 w hI fun v1' v2' v3' v4' v5' w' hI2 hm => ih v1' v2' v3' v4' v5' w' hI2 (by omega)
theorem iX7_leastRow_l28 {F : Nat} {k54 : Int → Int → Int → Int → zS → Option zS} (I : Int → Int → Int → Int → Int → zS → Prop) (μ : Int → Int → Int → Int → Int → zS → Nat) (P : Option zS → Prop) (step : ∀ (r : Int → Int → Int → Int → Int → zS → Option zS) (v1 : Int) (v2 : Int) (v3 : Int) (v4 : Int) (v5 : Int) (w : zS), I v1 v2 v3 v4 v5 w → (∀ (v1' : Int) (v2' : Int) (v3' : Int) (v4' : Int) (v5' : Int) (w' : zS), I v1' v2' v3' v4' v5' w' → μ v1' v2' v3' v4' v5' w' < μ v1 v2 v3 v4 v5 w → P (r v1' v2' v3' v4' v5' w')) → P (zX7_leastRow_h28 F r k54 v1 v2 v3 v4 v5 w)) : ∀ (n : Nat) (v1 : Int) (v2 : Int) (v3 : Int) (v4 : Int) (v5 : Int) (w : zS), I v1 v2 v3 v4 v5 w → μ v1 v2 v3 v4 v5 w < n → P (zX7_leastRow_l28 F k54 n v1 v2 v3 v4 v5 w) := by
  intro n
  induction n with
  | zero => intro v1 v2 v3 v4 v5 w _ q; omega
  | succ n ih =>
    intro v1 v2 v3 v4 v5 w hI hn
    exact step _ v1 v2 v3 v4 v5 w hI fun v1' v2' v3' v4' v5' w' hI2 hm => ih v1' v2' v3' v4' v5' w' hI2 (by omega)
theorem iX7_leastRow_l68 {F : Nat} {k94 : Int → Int → Int → Int → Int → zS → Option zS} (I : Int → Int → Int → Int → Int → zS → Prop) (μ : Int → Int → Int → Int → Int → zS → Nat) (P : Option zS → Prop) (step : ∀ (r : Int → Int → Int → Int → Int → zS → Option zS) (v1 : Int) (v2 : Int) (v3 : Int) (v4 : Int) (v5 : Int) (w : zS), I v1 v2 v3 v4 v5 w → (∀ (v1' : Int) (v2' : Int) (v3' : Int) (v4' : Int) (v5' : Int) (w' : zS), I v1' v2' v3' v4' v5' w' → μ v1' v2' v3' v4' v5' w' < μ v1 v2 v3 v4 v5 w → P (r v1' v2' v3' v4' v5' w')) → P (zX7_leastRow_h68 F r k94 v1 v2 v3 v4 v5 w)) : ∀ (n : Nat) (v1 : Int) (v2 : Int) (v3 : Int) (v4 : Int) (v5 : Int) (w : zS), I v1 v2 v3 v4 v5 w → μ v1 v2 v3 v4 v5 w < n → P (zX7_leastRow_l68 F k94 n v1 v2 v3 v4 v5 w) := by
  intro n
  induction n with
  | zero => intro v1 v2 v3 v4 v5 w _ q; omega
  | succ n ih =>
    intro v1 v2 v3 v4 v5 w hI hn
    exact step _ v1 v2 v3 v4 v5 w hI fun v1' v2' v3' v4' v5' w' hI2 hm => ih v1' v2' v3' v4' v5' w' hI2 (by omega)
theorem iX7_leastRow_l20 {F : Nat}  (I : Int → Int → Int → Int → zS → Prop) (μ : Int → Int → Int → Int → zS → Nat) (P : Option zS → Prop) (step : ∀ (r : Int → Int → Int → Int → zS → Option zS) (v1 : Int) (v2 : Int) (v3 : Int) (v4 : Int) (w : zS), I v1 v2 v3 v4 w → (∀ (v1' : Int) (v2' : Int) (v3' : Int) (v4' : Int) (w' : zS), I v1' v2' v3' v4' w' → μ v1' v2' v3' v4' w' < μ v1 v2 v3 v4 w → P (r v1' v2' v3' v4' w')) → P (zX7_leastRow_h20 F r  v1 v2 v3 v4 w)) : ∀ (n : Nat) (v1 : Int) (v2 : Int) (v3 : Int) (v4 : Int) (w : zS), I v1 v2 v3 v4 w → μ v1 v2 v3 v4 w < n → P (zX7_leastRow_l20 F  n v1 v2 v3 v4 w) := by
  intro n
  induction n with
  | zero => intro v1 v2 v3 v4 w _ q; omega
  | succ n ih =>
    intro v1 v2 v3 v4 w hI hn
    exact step _ v1 v2 v3 v4 w hI fun v1' v2' v3' v4' w' hI2 hm => ih v1' v2' v3' v4' w' hI2 (by omega)
theorem iX7_leastTurned_l5 {F : Nat}  (I : Int → Int → Int → Int → zS → Prop) (μ : Int → Int → Int → Int → zS → Nat) (P : Option (Int × zS) → Prop) (step : ∀ (r : Int → Int → Int → Int → zS → Option (Int × zS)) (v1 : Int) (v2 : Int) (v3 : Int) (v4 : Int) (w : zS), I v1 v2 v3 v4 w → (∀ (v1' : Int) (v2' : Int) (v3' : Int) (v4' : Int) (w' : zS), I v1' v2' v3' v4' w' → μ v1' v2' v3' v4' w' < μ v1 v2 v3 v4 w → P (r v1' v2' v3' v4' w')) → P (zX7_leastTurned_h5 F r  v1 v2 v3 v4 w)) : ∀ (n : Nat) (v1 : Int) (v2 : Int) (v3 : Int) (v4 : Int) (w : zS), I v1 v2 v3 v4 w → μ v1 v2 v3 v4 w < n → P (zX7_leastTurned_l5 F  n v1 v2 v3 v4 w) := by
  intro n
  induction n with
  | zero => intro v1 v2 v3 v4 w _ q; omega
  | succ n ih =>
    intro v1 v2 v3 v4 w hI hn
    exact step _ v1 v2 v3 v4 w hI fun v1' v2' v3' v4' w' hI2 hm => ih v1' v2' v3' v4' w' hI2 (by omega)
theorem iX7_module_l93 {F : Nat} {k144 : Int → zS → Option (Int × zS)} (I : Int → Int → Int → zS → Prop) (μ : Int → Int → Int → zS → Nat) (P : Option (Int × zS) → Prop) (step : ∀ (r : Int → Int → Int → zS → Option (Int × zS)) (v3 : Int) (v4 : Int) (v5 : Int) (w : zS), I v3 v4 v5 w → (∀ (v3' : Int) (v4' : Int) (v5' : Int) (w' : zS), I v3' v4' v5' w' → μ v3' v4' v5' w' < μ v3 v4 v5 w → P (r v3' v4' v5' w')) → P (zX7_module_h93 F r k144 v3 v4 v5 w)) : ∀ (n : Nat) (v3 : Int) (v4 : Int) (v5 : Int) (w : zS), I v3 v4 v5 w → μ v3 v4 v5 w < n → P (zX7_module_l93 F k144 n v3 v4 v5 w) := by
  intro n
  induction n with
  | zero => intro v3 v4 v5 w _ q; omega
  | succ n ih =>
    intro v3 v4 v5 w hI hn
    exact step _ v3 v4 v5 w hI fun v3' v4' v5' w' hI2 hm => ih v3' v4' v5' w' hI2 (by omega)
theorem iX7_nextLike_l17 {F : Nat}  (I : Int → Int → Int → zS → Prop) (μ : Int → Int → Int → zS → Nat) (P : Option (Int × zS) → Prop) (step : ∀ (r : Int → Int → Int → zS → Option (Int × zS)) (v2 : Int) (v5 : Int) (v6 : Int) (w : zS), I v2 v5 v6 w → (∀ (v2' : Int) (v5' : Int) (v6' : Int) (w' : zS), I v2' v5' v6' w' → μ v2' v5' v6' w' < μ v2 v5 v6 w → P (r v2' v5' v6' w')) → P (zX7_nextLike_h17 F r  v2 v5 v6 w)) : ∀ (n : Nat) (v2 : Int) (v5 : Int) (v6 : Int) (w : zS), I v2 v5 v6 w → μ v2 v5 v6 w < n → P (zX7_nextLike_l17 F  n v2 v5 v6 w) := by
  intro n
  induction n with
  | zero => intro v2 v5 v6 w _ q; omega
  | succ n ih =>
    intro v2 v5 v6 w hI hn
    exact step _ v2 v5 v6 w hI fun v2' v5' v6' w' hI2 hm => ih v2' v5' v6' w' hI2 (by omega)
theorem iX7_ofOrder_l5 {F : Nat}  (I : Int → Int → Int → Int → zS → Prop) (μ : Int → Int → Int → Int → zS → Nat) (P : Option (Int × zS) → Prop) (step : ∀ (r : Int → Int → Int → Int → zS → Option (Int × zS)) (v1 : Int) (v2 : Int) (v3 : Int) (v4 : Int) (w : zS), I v1 v2 v3 v4 w → (∀ (v1' : Int) (v2' : Int) (v3' : Int) (v4' : Int) (w' : zS), I v1' v2' v3' v4' w' → μ v1' v2' v3' v4' w' < μ v1 v2 v3 v4 w → P (r v1' v2' v3' v4' w')) → P (zX7_ofOrder_h5 F r  v1 v2 v3 v4 w)) : ∀ (n : Nat) (v1 : Int) (v2 : Int) (v3 : Int) (v4 : Int) (w : zS), I v1 v2 v3 v4 w → μ v1 v2 v3 v4 w < n → P (zX7_ofOrder_l5 F  n v1 v2 v3 v4 w) := by
  intro n
  induction n with
  | zero => intro v1 v2 v3 v4 w _ q; omega
  | succ n ih =>
    intro v1 v2 v3 v4 w hI hn
    exact step _ v1 v2 v3 v4 w hI fun v1' v2' v3' v4' w' hI2 hm => ih v1' v2' v3' v4' w' hI2 (by omega)
theorem iX7_pair_l69 {F : Nat} {k126 : Int → Int → Int → Int → Int → zS → Option (Int × zS)} (I : Int → Int → Int → Int → Int → Int → zS → Prop) (μ : Int → Int → Int → Int → Int → Int → zS → Nat) (P : Option (Int × zS) → Prop) (step : ∀ (r : Int → Int → Int → Int → Int → Int → zS → Option (Int × zS)) (v1 : Int) (v2 : Int) (v3 : Int) (v4 : Int) (v5 : Int) (v6 : Int) (w : zS), I v1 v2 v3 v4 v5 v6 w → (∀ (v1' : Int) (v2' : Int) (v3' : Int) (v4' : Int) (v5' : Int) (v6' : Int) (w' : zS), I v1' v2' v3' v4' v5' v6' w' → μ v1' v2' v3' v4' v5' v6' w' < μ v1 v2 v3 v4 v5 v6 w → P (r v1' v2' v3' v4' v5' v6' w')) → P (zX7_pair_h69 F r k126 v1 v2 v3 v4 v5 v6 w)) : ∀ (n : Nat) (v1 : Int) (v2 : Int) (v3 : Int) (v4 : Int) (v5 : Int) (v6 : Int) (w : zS), I v1 v2 v3 v4 v5 v6 w → μ v1 v2 v3 v4 v5 v6 w < n → P (zX7_pair_l69 F k126 n v1 v2 v3 v4 v5 v6 w) := by
  intro n
  induction n with
  | zero => intro v1 v2 v3 v4 v5 v6 w _ q; omega
  | succ n ih =>
    intro v1 v2 v3 v4 v5 v6 w hI hn
    exact step _ v1 v2 v3 v4 v5 v6 w hI fun v1' v2' v3' v4' v5' v6' w' hI2 hm => ih v1' v2' v3' v4' v5' v6' w' hI2 (by omega)
theorem iX7_pair_l57 {F : Nat} {k132 : Int → Int → zS → Option (Int × zS)} (I : Int → Int → Int → Int → Int → zS → Prop) (μ : Int → Int → Int → Int → Int → zS → Nat) (P : Option (Int × zS) → Prop) (step : ∀ (r : Int → Int → Int → Int → Int → zS → Option (Int × zS)) (v1 : Int) (v2 : Int) (v3 : Int) (v4 : Int) (v5 : Int) (w : zS), I v1 v2 v3 v4 v5 w → (∀ (v1' : Int) (v2' : Int) (v3' : Int) (v4' : Int) (v5' : Int) (w' : zS), I v1' v2' v3' v4' v5' w' → μ v1' v2' v3' v4' v5' w' < μ v1 v2 v3 v4 v5 w → P (r v1' v2' v3' v4' v5' w')) → P (zX7_pair_h57 F r k132 v1 v2 v3 v4 v5 w)) : ∀ (n : Nat) (v1 : Int) (v2 : Int) (v3 : Int) (v4 : Int) (v5 : Int) (w : zS), I v1 v2 v3 v4 v5 w → μ v1 v2 v3 v4 v5 w < n → P (zX7_pair_l57 F k132 n v1 v2 v3 v4 v5 w) := by
  intro n
  induction n with
  | zero => intro v1 v2 v3 v4 v5 w _ q; omega
  | succ n ih =>
    intro v1 v2 v3 v4 v5 w hI hn
    exact step _ v1 v2 v3 v4 v5 w hI fun v1' v2' v3' v4' v5' w' hI2 hm => ih v1' v2' v3' v4' v5' w' hI2 (by omega)
theorem iX7_pairs_l60 {F : Nat} {k88 : Int → Int → Int → zS → Option zS} (I : Int → Int → Int → Int → zS → Prop) (μ : Int → Int → Int → Int → zS → Nat) (P : Option zS → Prop) (step : ∀ (r : Int → Int → Int → Int → zS → Option zS) (v1 : Int) (v2 : Int) (v3 : Int) (v4 : Int) (w : zS), I v1 v2 v3 v4 w → (∀ (v1' : Int) (v2' : Int) (v3' : Int) (v4' : Int) (w' : zS), I v1' v2' v3' v4' w' → μ v1' v2' v3' v4' w' < μ v1 v2 v3 v4 w → P (r v1' v2' v3' v4' w')) → P (zX7_pairs_h60 F r k88 v1 v2 v3 v4 w)) : ∀ (n : Nat) (v1 : Int) (v2 : Int) (v3 : Int) (v4 : Int) (w : zS), I v1 v2 v3 v4 w → μ v1 v2 v3 v4 w < n → P (zX7_pairs_l60 F k88 n v1 v2 v3 v4 w) := by
  intro n
  induction n with
  | zero => intro v1 v2 v3 v4 w _ q; omega
  | succ n ih =>
    intro v1 v2 v3 v4 w hI hn
    exact step _ v1 v2 v3 v4 w hI fun v1' v2' v3' v4' w' hI2 hm => ih v1' v2' v3' v4' w' hI2 (by omega)
theorem iX7_pairs_l49 {F : Nat} {k94 : Int → Int → zS → Option zS} (I : Int → Int → Int → zS → Prop) (μ : Int → Int → Int → zS → Nat) (P : Option zS → Prop) (step : ∀ (r : Int → Int → Int → zS → Option zS) (v1 : Int) (v2 : Int) (v3 : Int) (w : zS), I v1 v2 v3 w → (∀ (v1' : Int) (v2' : Int) (v3' : Int) (w' : zS), I v1' v2' v3' w' → μ v1' v2' v3' w' < μ v1 v2 v3 w → P (r v1' v2' v3' w')) → P (zX7_pairs_h49 F r k94 v1 v2 v3 w)) : ∀ (n : Nat) (v1 : Int) (v2 : Int) (v3 : Int) (w : zS), I v1 v2 v3 w → μ v1 v2 v3 w < n → P (zX7_pairs_l49 F k94 n v1 v2 v3 w) := by
  intro n
  induction n with
  | zero => intro v1 v2 v3 w _ q; omega
  | succ n ih =>
    intro v1 v2 v3 w hI hn
    exact step _ v1 v2 v3 w hI fun v1' v2' v3' w' hI2 hm => ih v1' v2' v3' w' hI2 (by omega)
theorem iX7_pairs_l39 {F : Nat} {k100 : Int → zS → Option zS} (I : Int → Int → zS → Prop) (μ : Int → Int → zS → Nat) (P : Option zS → Prop) (step : ∀ (r : Int → Int → zS → Option zS) (v1 : Int) (v2 : Int) (w : zS), I v1 v2 w → (∀ (v1' : Int) (v2' : Int) (w' : zS), I v1' v2' w' → μ v1' v2' w' < μ v1 v2 w → P (r v1' v2' w')) → P (zX7_pairs_h39 F r k100 v1 v2 w)) : ∀ (n : Nat) (v1 : Int) (v2 : Int) (w : zS), I v1 v2 w → μ v1 v2 w < n → P (zX7_pairs_l39 F k100 n v1 v2 w) := by
  intro n
  induction n with
  | zero => intro v1 v2 w _ q; omega
  | succ n ih =>
    intro v1 v2 w hI hn
    exact step _ v1 v2 w hI fun v1' v2' w' hI2 hm => ih v1' v2' w' hI2 (by omega)
theorem iX7_pairs_l29 {F : Nat} {k106 : zS → Option zS} (I : Int → zS → Prop) (μ : Int → zS → Nat) (P : Option zS → Prop) (step : ∀ (r : Int → zS → Option zS) (v1 : Int) (w : zS), I v1 w → (∀ (v1' : Int) (w' : zS), I v1' w' → μ v1' w' < μ v1 w → P (r v1' w')) → P (zX7_pairs_h29 F r k106 v1 w)) : ∀ (n : Nat) (v1 : Int) (w : zS), I v1 w → μ v1 w < n → P (zX7_pairs_l29 F k106 n v1 w) := by
  intro n
  induction n with
  | zero => intro v1 w _ q; omega
  | succ n ih =>
    intro v1 w hI hn
    exact step _ v1 w hI fun v1' w' hI2 hm => ih v1' w' hI2 (by omega)
theorem iX7_pairs_l147 {F : Nat} {k185 : Int → Int → Int → zS → Option zS} (I : Int → Int → Int → Int → zS → Prop) (μ : Int → Int → Int → Int → zS → Nat) (P : Option zS → Prop) (step : ∀ (r : Int → Int → Int → Int → zS → Option zS) (v1 : Int) (v2 : Int) (v3 : Int) (v4 : Int) (w : zS), I v1 v2 v3 v4 w → (∀ (v1' : Int) (v2' : Int) (v3' : Int) (v4' : Int) (w' : zS), I v1' v2' v3' v4' w' → μ v1' v2' v3' v4' w' < μ v1 v2 v3 v4 w → P (r v1' v2' v3' v4' w')) → P (zX7_pairs_h147 F r k185 v1 v2 v3 v4 w)) : ∀ (n : Nat) (v1 : Int) (v2 : Int) (v3 : Int) (v4 : Int) (w : zS), I v1 v2 v3 v4 w → μ v1 v2 v3 v4 w < n → P (zX7_pairs_l147 F k185 n v1 v2 v3 v4 w) := by
  intro n
  induction n with
  | zero => intro v1 v2 v3 v4 w _ q; omega
  | succ n ih =>
    intro v1 v2 v3 v4 w hI hn
    exact step _ v1 v2 v3 v4 w hI fun v1' v2' v3' v4' w' hI2 hm => ih v1' v2' v3' v4' w' hI2 (by omega)
theorem iX7_pairs_l188 {F : Nat} {k242 : Int → Int → Int → zS → Option zS} (I : Int → Int → Int → Int → zS → Prop) (μ : Int → Int → Int → Int → zS → Nat) (P : Option zS → Prop) (step : ∀ (r : Int → Int → Int → Int → zS → Option zS) (v1 : Int) (v2 : Int) (v3 : Int) (v4 : Int) (w : zS), I v1 v2 v3 v4 w → (∀ (v1' : Int) (v2' : Int) (v3' : Int) (v4' : Int) (w' : zS), I v1' v2' v3' v4' w' → μ v1' v2' v3' v4' w' < μ v1 v2 v3 v4 w → P (r v1' v2' v3' v4' w')) → P (zX7_pairs_h188 F r k242 v1 v2 v3 v4 w)) : ∀ (n : Nat) (v1 : Int) (v2 : Int) (v3 : Int) (v4 : Int) (w : zS), I v1 v2 v3 v4 w → μ v1 v2 v3 v4 w < n → P (zX7_pairs_l188 F k242 n v1 v2 v3 v4 w) := by
  intro n
  induction n with
  | zero => intro v1 v2 v3 v4 w _ q; omega
  | succ n ih =>
    intro v1 v2 v3 v4 w hI hn
    exact step _ v1 v2 v3 v4 w hI fun v1' v2' v3' v4' w' hI2 hm => ih v1' v2' v3' v4' w' hI2 (by omega)
theorem iX7_pairs_l112 {F : Nat} {k251 : Int → zS → Option zS} (I : Int → Int → Int → zS → Prop) (μ : Int → Int → Int → zS → Nat) (P : Option zS → Prop) (step : ∀ (r : Int → Int → Int → zS → Option zS) (v1 : Int) (v2 : Int) (v3 : Int) (w : zS), I v1 v2 v3 w → (∀ (v1' : Int) (v2' : Int) (v3' : Int) (w' : zS), I v1' v2' v3' w' → μ v1' v2' v3' w' < μ v1 v2 v3 w → P (r v1' v2' v3' w')) → P (zX7_pairs_h112 F r k251 v1 v2 v3 w)) : ∀ (n : Nat) (v1 : Int) (v2 : Int) (v3 : Int) (w : zS), I v1 v2 v3 w → μ v1 v2 v3 w < n → P (zX7_pairs_l112 F k251 n v1 v2 v3 w) := by
  intro n
  induction n with
  | zero => intro v1 v2 v3 w _ q; omega
  | succ n ih =>
    intro v1 v2 v3 w hI hn
    exact step _ v1 v2 v3 w hI fun v1' v2' v3' w' hI2 hm => ih v1' v2' v3' w' hI2 (by omega)
theorem iX7_sound_l36 {F : Nat} {k77 : Int → Int → Int → Int → zS → Option (Int × zS)} (I : Int → Int → Int → Int → Int → zS → Prop) (μ : Int → Int → Int → Int → Int → zS → Nat) (P : Option (Int × zS) → Prop) (step : ∀ (r : Int → Int → Int → Int → Int → zS → Option (Int × zS)) (v1 : Int) (v2 : Int) (v3 : Int) (v4 : Int) (v5 : Int) (w : zS), I v1 v2 v3 v4 v5 w → (∀ (v1' : Int) (v2' : Int) (v3' : Int) (v4' : Int) (v5' : Int) (w' : zS), I v1' v2' v3' v4' v5' w' → μ v1' v2' v3' v4' v5' w' < μ v1 v2 v3 v4 v5 w → P (r v1' v2' v3' v4' v5' w')) → P (zX7_sound_h36 F r k77 v1 v2 v3 v4 v5 w)) : ∀ (n : Nat) (v1 : Int) (v2 : Int) (v3 : Int) (v4 : Int) (v5 : Int) (w : zS), I v1 v2 v3 v4 v5 w → μ v1 v2 v3 v4 v5 w < n → P (zX7_sound_l36 F k77 n v1 v2 v3 v4 v5 w) := by
  intro n
  induction n with
  | zero => intro v1 v2 v3 v4 v5 w _ q; omega
  | succ n ih =>
    intro v1 v2 v3 v4 v5 w hI hn
    exact step _ v1 v2 v3 v4 v5 w hI fun v1' v2' v3' v4' v5' w' hI2 hm => ih v1' v2' v3' v4' v5' w' hI2 (by omega)
theorem iX7_sound_l27 {F : Nat} {k83 : Int → Int → Int → zS → Option (Int × zS)} (I : Int → Int → Int → Int → zS → Prop) (μ : Int → Int → Int → Int → zS → Nat) (P : Option (Int × zS) → Prop) (step : ∀ (r : Int → Int → Int → Int → zS → Option (Int × zS)) (v1 : Int) (v2 : Int) (v3 : Int) (v4 : Int) (w : zS), I v1 v2 v3 v4 w → (∀ (v1' : Int) (v2' : Int) (v3' : Int) (v4' : Int) (w' : zS), I v1' v2' v3' v4' w' → μ v1' v2' v3' v4' w' < μ v1 v2 v3 v4 w → P (r v1' v2' v3' v4' w')) → P (zX7_sound_h27 F r k83 v1 v2 v3 v4 w)) : ∀ (n : Nat) (v1 : Int) (v2 : Int) (v3 : Int) (v4 : Int) (w : zS), I v1 v2 v3 v4 w → μ v1 v2 v3 v4 w < n → P (zX7_sound_l27 F k83 n v1 v2 v3 v4 w) := by
  intro n
  induction n with
  | zero => intro v1 v2 v3 v4 w _ q; omega
  | succ n ih =>
    intro v1 v2 v3 v4 w hI hn
    exact step _ v1 v2 v3 v4 w hI fun v1' v2' v3' v4' w' hI2 hm => ih v1' v2' v3' v4' w' hI2 (by omega)
theorem iX7_sound_l123 {F : Nat} {k234 : Int → Int → Int → Int → Int → Int → zS → Option (Int × zS)} {k213 : Int → Int → Int → zS → Option (Int × zS)} (I : Int → Int → Int → Int → Int → Int → Int → zS → Prop) (μ : Int → Int → Int → Int → Int → Int → Int → zS → Nat) (P : Option (Int × zS) → Prop) (step : ∀ (r : Int → Int → Int → Int → Int → Int → Int → zS → Option (Int × zS)) (v1 : Int) (v2 : Int) (v3 : Int) (v4 : Int) (v5 : Int) (v6 : Int) (v7 : Int) (w : zS), I v1 v2 v3 v4 v5 v6 v7 w → (∀ (v1' : Int) (v2' : Int) (v3' : Int) (v4' : Int) (v5' : Int) (v6' : Int) (v7' : Int) (w' : zS), I v1' v2' v3' v4' v5' v6' v7' w' → μ v1' v2' v3' v4' v5' v6' v7' w' < μ v1 v2 v3 v4 v5 v6 v7 w → P (r v1' v2' v3' v4' v5' v6' v7' w')) → P (zX7_sound_h123 F r k234 k213 v1 v2 v3 v4 v5 v6 v7 w)) : ∀ (n : Nat) (v1 : Int) (v2 : Int) (v3 : Int) (v4 : Int) (v5 : Int) (v6 : Int) (v7 : Int) (w : zS), I v1 v2 v3 v4 v5 v6 v7 w → μ v1 v2 v3 v4 v5 v6 v7 w < n → P (zX7_sound_l123 F k234 k213 n v1 v2 v3 v4 v5 v6 v7 w) := by
  intro n
  induction n with
  | zero => intro v1 v2 v3 v4 v5 v6 v7 w _ q; omega
  | succ n ih =>
    intro v1 v2 v3 v4 v5 v6 v7 w hI hn
    exact step _ v1 v2 v3 v4 v5 v6 v7 w hI fun v1' v2' v3' v4' v5' v6' v7' w' hI2 hm => ih v1' v2' v3' v4' v5' v6' v7' w' hI2 (by omega)
theorem iX7_sound_l114 {F : Nat} {k240 : Int → Int → Int → Int → Int → zS → Option (Int × zS)} {k213 : Int → Int → Int → zS → Option (Int × zS)} (I : Int → Int → Int → Int → Int → Int → zS → Prop) (μ : Int → Int → Int → Int → Int → Int → zS → Nat) (P : Option (Int × zS) → Prop) (step : ∀ (r : Int → Int → Int → Int → Int → Int → zS → Option (Int × zS)) (v1 : Int) (v2 : Int) (v3 : Int) (v4 : Int) (v5 : Int) (v6 : Int) (w : zS), I v1 v2 v3 v4 v5 v6 w → (∀ (v1' : Int) (v2' : Int) (v3' : Int) (v4' : Int) (v5' : Int) (v6' : Int) (w' : zS), I v1' v2' v3' v4' v5' v6' w' → μ v1' v2' v3' v4' v5' v6' w' < μ v1 v2 v3 v4 v5 v6 w → P (r v1' v2' v3' v4' v5' v6' w')) → P (zX7_sound_h114 F r k240 k213 v1 v2 v3 v4 v5 v6 w)) : ∀ (n : Nat) (v1 : Int) (v2 : Int) (v3 : Int) (v4 : Int) (v5 : Int) (v6 : Int) (w : zS), I v1 v2 v3 v4 v5 v6 w → μ v1 v2 v3 v4 v5 v6 w < n → P (zX7_sound_l114 F k240 k213 n v1 v2 v3 v4 v5 v6 w) := by
  intro n
  induction n with
  | zero => intro v1 v2 v3 v4 v5 v6 w _ q; omega
  | succ n ih =>
    intro v1 v2 v3 v4 v5 v6 w hI hn
    exact step _ v1 v2 v3 v4 v5 v6 w hI fun v1' v2' v3' v4' v5' v6' w' hI2 hm => ih v1' v2' v3' v4' v5' v6' w' hI2 (by omega)
theorem iX7_sound_l100 {F : Nat} {k246 : Int → Int → Int → Int → zS → Option (Int × zS)} {k213 : Int → Int → Int → zS → Option (Int × zS)} (I : Int → Int → Int → Int → Int → zS → Prop) (μ : Int → Int → Int → Int → Int → zS → Nat) (P : Option (Int × zS) → Prop) (step : ∀ (r : Int → Int → Int → Int → Int → zS → Option (Int × zS)) (v1 : Int) (v2 : Int) (v3 : Int) (v4 : Int) (v5 : Int) (w : zS), I v1 v2 v3 v4 v5 w → (∀ (v1' : Int) (v2' : Int) (v3' : Int) (v4' : Int) (v5' : Int) (w' : zS), I v1' v2' v3' v4' v5' w' → μ v1' v2' v3' v4' v5' w' < μ v1 v2 v3 v4 v5 w → P (r v1' v2' v3' v4' v5' w')) → P (zX7_sound_h100 F r k246 k213 v1 v2 v3 v4 v5 w)) : ∀ (n : Nat) (v1 : Int) (v2 : Int) (v3 : Int) (v4 : Int) (v5 : Int) (w : zS), I v1 v2 v3 v4 v5 w → μ v1 v2 v3 v4 v5 w < n → P (zX7_sound_l100 F k246 k213 n v1 v2 v3 v4 v5 w) := by
  intro n
  induction n with
  | zero => intro v1 v2 v3 v4 v5 w _ q; omega
  | succ n ih =>
    intro v1 v2 v3 v4 v5 w hI hn
    exact step _ v1 v2 v3 v4 v5 w hI fun v1' v2' v3' v4' v5' w' hI2 hm => ih v1' v2' v3' v4' v5' w' hI2 (by omega)
theorem iX7_sound_l86 {F : Nat} {k213 : Int → Int → Int → zS → Option (Int × zS)} (I : Int → Int → Int → Int → zS → Prop) (μ : Int → Int → Int → Int → zS → Nat) (P : Option (Int × zS) → Prop) (step : ∀ (r : Int → Int → Int → Int → zS → Option (Int × zS)) (v1 : Int) (v2 : Int) (v3 : Int) (v4 : Int) (w : zS), I v1 v2 v3 v4 w → (∀ (v1' : Int) (v2' : Int) (v3' : Int) (v4' : Int) (w' : zS), I v1' v2' v3' v4' w' → μ v1' v2' v3' v4' w' < μ v1 v2 v3 v4 w → P (r v1' v2' v3' v4' w')) → P (zX7_sound_h86 F r k213 v1 v2 v3 v4 w)) : ∀ (n : Nat) (v1 : Int) (v2 : Int) (v3 : Int) (v4 : Int) (w : zS), I v1 v2 v3 v4 w → μ v1 v2 v3 v4 w < n → P (zX7_sound_l86 F k213 n v1 v2 v3 v4 w) := by
  intro n
  induction n with
  | zero => intro v1 v2 v3 v4 w _ q; omega
  | succ n ih =>
    intro v1 v2 v3 v4 w hI hn
    exact step _ v1 v2 v3 v4 w hI fun v1' v2' v3' v4' w' hI2 hm => ih v1' v2' v3' v4' w' hI2 (by omega)
theorem iX7_turnsMade_l32 {F : Nat} {k108 : Int → Int → Int → zS → Option (Int × zS)} (I : Int → Int → Int → Int → zS → Prop) (μ : Int → Int → Int → Int → zS → Nat) (P : Option (Int × zS) → Prop) (step : ∀ (r : Int → Int → Int → Int → zS → Option (Int × zS)) (v1 : Int) (v2 : Int) (v3 : Int) (v4 : Int) (w : zS), I v1 v2 v3 v4 w → (∀ (v1' : Int) (v2' : Int) (v3' : Int) (v4' : Int) (w' : zS), I v1' v2' v3' v4' w' → μ v1' v2' v3' v4' w' < μ v1 v2 v3 v4 w → P (r v1' v2' v3' v4' w')) → P (zX7_turnsMade_h32 F r k108 v1 v2 v3 v4 w)) : ∀ (n : Nat) (v1 : Int) (v2 : Int) (v3 : Int) (v4 : Int) (w : zS), I v1 v2 v3 v4 w → μ v1 v2 v3 v4 w < n → P (zX7_turnsMade_l32 F k108 n v1 v2 v3 v4 w) := by
  intro n
  induction n with
  | zero => intro v1 v2 v3 v4 w _ q; omega
  | succ n ih =>
    intro v1 v2 v3 v4 w hI hn
    exact step _ v1 v2 v3 v4 w hI fun v1' v2' v3' v4' w' hI2 hm => ih v1' v2' v3' v4' w' hI2 (by omega)
theorem iX7_turnsMade_l19 {F : Nat} {k114 : zS → Option (Int × zS)} (I : Int → Int → Int → zS → Prop) (μ : Int → Int → Int → zS → Nat) (P : Option (Int × zS) → Prop) (step : ∀ (r : Int → Int → Int → zS → Option (Int × zS)) (v1 : Int) (v2 : Int) (v3 : Int) (w : zS), I v1 v2 v3 w → (∀ (v1' : Int) (v2' : Int) (v3' : Int) (w' : zS), I v1' v2' v3' w' → μ v1' v2' v3' w' < μ v1 v2 v3 w → P (r v1' v2' v3' w')) → P (zX7_turnsMade_h19 F r k114 v1 v2 v3 w)) : ∀ (n : Nat) (v1 : Int) (v2 : Int) (v3 : Int) (w : zS), I v1 v2 v3 w → μ v1 v2 v3 w < n → P (zX7_turnsMade_l19 F k114 n v1 v2 v3 w) := by
  intro n
  induction n with
  | zero => intro v1 v2 v3 w _ q; omega
  | succ n ih =>
    intro v1 v2 v3 w hI hn
    exact step _ v1 v2 v3 w hI fun v1' v2' v3' w' hI2 hm => ih v1' v2' v3' w' hI2 (by omega)
theorem iX7_about_l63 {F : Nat} {k96 : Int → Int → Int → zS → Option (Int × zS)} (I : Int → Int → Int → Int → Int → zS → Prop) (μ : Int → Int → Int → Int → Int → zS → Nat) (P : Option (Int × zS) → Prop) (step : ∀ (r : Int → Int → Int → Int → Int → zS → Option (Int × zS)) (v1 : Int) (v2 : Int) (v3 : Int) (v4 : Int) (v5 : Int) (w : zS), I v1 v2 v3 v4 v5 w → (∀ (v1' : Int) (v2' : Int) (v3' : Int) (v4' : Int) (v5' : Int) (w' : zS), I v1' v2' v3' v4' v5' w' → μ v1' v2' v3' v4' v5' w' < μ v1 v2 v3 v4 v5 w → P (r v1' v2' v3' v4' v5' w')) → P (zX7_about_h63 F r k96 v1 v2 v3 v4 v5 w)) : ∀ (n : Nat) (v1 : Int) (v2 : Int) (v3 : Int) (v4 : Int) (v5 : Int) (w : zS), I v1 v2 v3 v4 v5 w → μ v1 v2 v3 v4 v5 w < n → P (zX7_about_l63 F k96 n v1 v2 v3 v4 v5 w) := by
  intro n
  induction n with
  | zero => intro v1 v2 v3 v4 v5 w _ q; omega
  | succ n ih =>
    intro v1 v2 v3 v4 v5 w hI hn
    exact step _ v1 v2 v3 v4 v5 w hI fun v1' v2' v3' v4' v5' w' hI2 hm => ih v1' v2' v3' v4' v5' w' hI2 (by omega)
theorem iX7_about_l148 {F : Nat} {k166 : Int → Int → Int → Int → zS → Option (Int × zS)} (I : Int → Int → Int → Int → Int → Int → zS → Prop) (μ : Int → Int → Int → Int → Int → Int → zS → Nat) (P : Option (Int × zS) → Prop) (step : ∀ (r : Int → Int → Int → Int → Int → Int → zS → Option (Int × zS)) (v1 : Int) (v3 : Int) (v4 : Int) (v5 : Int) (v6 : Int) (v7 : Int) (w : zS), I v1 v3 v4 v5 v6 v7 w → (∀ (v1' : Int) (v3' : Int) (v4' : Int) (v5' : Int) (v6' : Int) (v7' : Int) (w' : zS), I v1' v3' v4' v5' v6' v7' w' → μ v1' v3' v4' v5' v6' v7' w' < μ v1 v3 v4 v5 v6 v7 w → P (r v1' v3' v4' v5' v6' v7' w')) → P (zX7_about_h148 F r k166 v1 v3 v4 v5 v6 v7 w)) : ∀ (n : Nat) (v1 : Int) (v3 : Int) (v4 : Int) (v5 : Int) (v6 : Int) (v7 : Int) (w : zS), I v1 v3 v4 v5 v6 v7 w → μ v1 v3 v4 v5 v6 v7 w < n → P (zX7_about_l148 F k166 n v1 v3 v4 v5 v6 v7 w) := by
  intro n
  induction n with
  | zero => intro v1 v3 v4 v5 v6 v7 w _ q; omega
  | succ n ih =>
    intro v1 v3 v4 v5 v6 v7 w hI hn
    exact step _ v1 v3 v4 v5 v6 v7 w hI fun v1' v3' v4' v5' v6' v7' w' hI2 hm => ih v1' v3' v4' v5' v6' v7' w' hI2 (by omega)
theorem iX7_about_l129 {F : Nat}  (I : Int → Int → Int → Int → zS → Prop) (μ : Int → Int → Int → Int → zS → Nat) (P : Option (Int × zS) → Prop) (step : ∀ (r : Int → Int → Int → Int → zS → Option (Int × zS)) (v1 : Int) (v3 : Int) (v4 : Int) (v5 : Int) (w : zS), I v1 v3 v4 v5 w → (∀ (v1' : Int) (v3' : Int) (v4' : Int) (v5' : Int) (w' : zS), I v1' v3' v4' v5' w' → μ v1' v3' v4' v5' w' < μ v1 v3 v4 v5 w → P (r v1' v3' v4' v5' w')) → P (zX7_about_h129 F r  v1 v3 v4 v5 w)) : ∀ (n : Nat) (v1 : Int) (v3 : Int) (v4 : Int) (v5 : Int) (w : zS), I v1 v3 v4 v5 w → μ v1 v3 v4 v5 w < n → P (zX7_about_l129 F  n v1 v3 v4 v5 w) := by
  intro n
  induction n with
  | zero => intro v1 v3 v4 v5 w _ q; omega
  | succ n ih =>
    intro v1 v3 v4 v5 w hI hn
    exact step _ v1 v3 v4 v5 w hI fun v1' v3' v4' v5' w' hI2 hm => ih v1' v3' v4' v5' w' hI2 (by omega)
theorem iX7_about_l182 {F : Nat}  (I : Int → Int → Int → Int → zS → Prop) (μ : Int → Int → Int → Int → zS → Nat) (P : Option (Int × zS) → Prop) (step : ∀ (r : Int → Int → Int → Int → zS → Option (Int × zS)) (v1 : Int) (v3 : Int) (v4 : Int) (v5 : Int) (w : zS), I v1 v3 v4 v5 w → (∀ (v1' : Int) (v3' : Int) (v4' : Int) (v5' : Int) (w' : zS), I v1' v3' v4' v5' w' → μ v1' v3' v4' v5' w' < μ v1 v3 v4 v5 w → P (r v1' v3' v4' v5' w')) → P (zX7_about_h182 F r  v1 v3 v4 v5 w)) : ∀ (n : Nat) (v1 : Int) (v3 : Int) (v4 : Int) (v5 : Int) (w : zS), I v1 v3 v4 v5 w → μ v1 v3 v4 v5 w < n → P (zX7_about_l182 F  n v1 v3 v4 v5 w) := by
  intro n
  induction n with
  | zero => intro v1 v3 v4 v5 w _ q; omega
  | succ n ih =>
    intro v1 v3 v4 v5 w hI hn
    exact step _ v1 v3 v4 v5 w hI fun v1' v3' v4' v5' w' hI2 hm => ih v1' v3' v4' v5' w' hI2 (by omega)
theorem iX7_know_l76 {F : Nat} {k107 : Int → zS → Option zS} (I : Int → Int → zS → Prop) (μ : Int → Int → zS → Nat) (P : Option zS → Prop) (step : ∀ (r : Int → Int → zS → Option zS) (v2 : Int) (v3 : Int) (w : zS), I v2 v3 w → (∀ (v2' : Int) (v3' : Int) (w' : zS), I v2' v3' w' → μ v2' v3' w' < μ v2 v3 w → P (r v2' v3' w')) → P (zX7_know_h76 F r k107 v2 v3 w)) : ∀ (n : Nat) (v2 : Int) (v3 : Int) (w : zS), I v2 v3 w → μ v2 v3 w < n → P (zX7_know_l76 F k107 n v2 v3 w) := by
  intro n
  induction n with
  | zero => intro v2 v3 w _ q; omega
  | succ n ih =>
    intro v2 v3 w hI hn
    exact step _ v2 v3 w hI fun v2' v3' w' hI2 hm => ih v2' v3' w' hI2 (by omega)
theorem iX7_know_l64 {F : Nat} {k121 : zS → Option zS} (I : Int → zS → Prop) (μ : Int → zS → Nat) (P : Option zS → Prop) (step : ∀ (r : Int → zS → Option zS) (v2 : Int) (w : zS), I v2 w → (∀ (v2' : Int) (w' : zS), I v2' w' → μ v2' w' < μ v2 w → P (r v2' w')) → P (zX7_know_h64 F r k121 v2 w)) : ∀ (n : Nat) (v2 : Int) (w : zS), I v2 w → μ v2 w < n → P (zX7_know_l64 F k121 n v2 w) := by
  intro n
  induction n with
  | zero => intro v2 w _ q; omega
  | succ n ih =>
    intro v2 w hI hn
    exact step _ v2 w hI fun v2' w' hI2 hm => ih v2' w' hI2 (by omega)
theorem iX7_know_l131 {F : Nat}  (I : Int → zS → Prop) (μ : Int → zS → Nat) (P : Option zS → Prop) (step : ∀ (r : Int → zS → Option zS) (v2 : Int) (w : zS), I v2 w → (∀ (v2' : Int) (w' : zS), I v2' w' → μ v2' w' < μ v2 w → P (r v2' w')) → P (zX7_know_h131 F r  v2 w)) : ∀ (n : Nat) (v2 : Int) (w : zS), I v2 w → μ v2 w < n → P (zX7_know_l131 F  n v2 w) := by
  intro n
  induction n with
  | zero => intro v2 w _ q; omega
  | succ n ih =>
    intro v2 w hI hn
    exact step _ v2 w hI fun v2' w' hI2 hm => ih v2' w' hI2 (by omega)
theorem iX7_same_l50 {F : Nat} {k86 : Int → Int → Int → zS → Option (Int × zS)} (I : Int → Int → Int → Int → zS → Prop) (μ : Int → Int → Int → Int → zS → Nat) (P : Option (Int × zS) → Prop) (step : ∀ (r : Int → Int → Int → Int → zS → Option (Int × zS)) (v1 : Int) (v2 : Int) (v3 : Int) (v4 : Int) (w : zS), I v1 v2 v3 v4 w → (∀ (v1' : Int) (v2' : Int) (v3' : Int) (v4' : Int) (w' : zS), I v1' v2' v3' v4' w' → μ v1' v2' v3' v4' w' < μ v1 v2 v3 v4 w → P (r v1' v2' v3' v4' w')) → P (zX7_same_h50 F r k86 v1 v2 v3 v4 w)) : ∀ (n : Nat) (v1 : Int) (v2 : Int) (v3 : Int) (v4 : Int) (w : zS), I v1 v2 v3 v4 w → μ v1 v2 v3 v4 w < n → P (zX7_same_l50 F k86 n v1 v2 v3 v4 w) := by
  intro n
  induction n with
  | zero => intro v1 v2 v3 v4 w _ q; omega
  | succ n ih =>
    intro v1 v2 v3 v4 w hI hn
    exact step _ v1 v2 v3 v4 w hI fun v1' v2' v3' v4' w' hI2 hm => ih v1' v2' v3' v4' w' hI2 (by omega)
theorem iX7_same_l103 {F : Nat} {k132 : Int → Int → Int → Int → zS → Option (Int × zS)} (I : Int → Int → Int → Int → Int → zS → Prop) (μ : Int → Int → Int → Int → Int → zS → Nat) (P : Option (Int × zS) → Prop) (step : ∀ (r : Int → Int → Int → Int → Int → zS → Option (Int × zS)) (v1 : Int) (v2 : Int) (v3 : Int) (v4 : Int) (v5 : Int) (w : zS), I v1 v2 v3 v4 v5 w → (∀ (v1' : Int) (v2' : Int) (v3' : Int) (v4' : Int) (v5' : Int) (w' : zS), I v1' v2' v3' v4' v5' w' → μ v1' v2' v3' v4' v5' w' < μ v1 v2 v3 v4 v5 w → P (r v1' v2' v3' v4' v5' w')) → P (zX7_same_h103 F r k132 v1 v2 v3 v4 v5 w)) : ∀ (n : Nat) (v1 : Int) (v2 : Int) (v3 : Int) (v4 : Int) (v5 : Int) (w : zS), I v1 v2 v3 v4 v5 w → μ v1 v2 v3 v4 v5 w < n → P (zX7_same_l103 F k132 n v1 v2 v3 v4 v5 w) := by
  intro n
  induction n with
  | zero => intro v1 v2 v3 v4 v5 w _ q; omega
  | succ n ih =>
    intro v1 v2 v3 v4 v5 w hI hn
    exact step _ v1 v2 v3 v4 v5 w hI fun v1' v2' v3' v4' v5' w' hI2 hm => ih v1' v2' v3' v4' v5' w' hI2 (by omega)
theorem iX7_same_l177 {F : Nat} {k261 : Int → Int → Int → Int → Int → Int → zS → Option (Int × zS)} (I : Int → Int → Int → Int → Int → Int → Int → zS → Prop) (μ : Int → Int → Int → Int → Int → Int → Int → zS → Nat) (P : Option (Int × zS) → Prop) (step : ∀ (r : Int → Int → Int → Int → Int → Int → Int → zS → Option (Int × zS)) (v1 : Int) (v2 : Int) (v3 : Int) (v4 : Int) (v5 : Int) (v7 : Int) (v8 : Int) (w : zS), I v1 v2 v3 v4 v5 v7 v8 w → (∀ (v1' : Int) (v2' : Int) (v3' : Int) (v4' : Int) (v5' : Int) (v7' : Int) (v8' : Int) (w' : zS), I v1' v2' v3' v4' v5' v7' v8' w' → μ v1' v2' v3' v4' v5' v7' v8' w' < μ v1 v2 v3 v4 v5 v7 v8 w → P (r v1' v2' v3' v4' v5' v7' v8' w')) → P (zX7_same_h177 F r k261 v1 v2 v3 v4 v5 v7 v8 w)) : ∀ (n : Nat) (v1 : Int) (v2 : Int) (v3 : Int) (v4 : Int) (v5 : Int) (v7 : Int) (v8 : Int) (w : zS), I v1 v2 v3 v4 v5 v7 v8 w → μ v1 v2 v3 v4 v5 v7 v8 w < n → P (zX7_same_l177 F k261 n v1 v2 v3 v4 v5 v7 v8 w) := by
  intro n
  induction n with
  | zero => intro v1 v2 v3 v4 v5 v7 v8 w _ q; omega
  | succ n ih =>
    intro v1 v2 v3 v4 v5 v7 v8 w hI hn
    exact step _ v1 v2 v3 v4 v5 v7 v8 w hI fun v1' v2' v3' v4' v5' v7' v8' w' hI2 hm => ih v1' v2' v3' v4' v5' v7' v8' w' hI2 (by omega)
theorem iX7_same_l138 {F : Nat}  (I : Int → Int → Int → Int → Int → Int → zS → Prop) (μ : Int → Int → Int → Int → Int → Int → zS → Nat) (P : Option (Int × zS) → Prop) (step : ∀ (r : Int → Int → Int → Int → Int → Int → zS → Option (Int × zS)) (v1 : Int) (v2 : Int) (v3 : Int) (v4 : Int) (v5 : Int) (v6 : Int) (w : zS), I v1 v2 v3 v4 v5 v6 w → (∀ (v1' : Int) (v2' : Int) (v3' : Int) (v4' : Int) (v5' : Int) (v6' : Int) (w' : zS), I v1' v2' v3' v4' v5' v6' w' → μ v1' v2' v3' v4' v5' v6' w' < μ v1 v2 v3 v4 v5 v6 w → P (r v1' v2' v3' v4' v5' v6' w')) → P (zX7_same_h138 F r  v1 v2 v3 v4 v5 v6 w)) : ∀ (n : Nat) (v1 : Int) (v2 : Int) (v3 : Int) (v4 : Int) (v5 : Int) (v6 : Int) (w : zS), I v1 v2 v3 v4 v5 v6 w → μ v1 v2 v3 v4 v5 v6 w < n → P (zX7_same_l138 F  n v1 v2 v3 v4 v5 v6 w) := by
  intro n
  induction n with
  | zero => intro v1 v2 v3 v4 v5 v6 w _ q; omega
  | succ n ih =>
    intro v1 v2 v3 v4 v5 v6 w hI hn
    exact step _ v1 v2 v3 v4 v5 v6 w hI fun v1' v2' v3' v4' v5' v6' w' hI2 hm => ih v1' v2' v3' v4' v5' v6' w' hI2 (by omega)
theorem iX7_classOf_l109 {F : Nat} {k217 : Int → Int → Int → zS → Option (Int × zS)} (I : Int → Int → Int → Int → zS → Prop) (μ : Int → Int → Int → Int → zS → Nat) (P : Option (Int × zS) → Prop) (step : ∀ (r : Int → Int → Int → Int → zS → Option (Int × zS)) (v2 : Int) (v5 : Int) (v6 : Int) (v7 : Int) (w : zS), I v2 v5 v6 v7 w → (∀ (v2' : Int) (v5' : Int) (v6' : Int) (v7' : Int) (w' : zS), I v2' v5' v6' v7' w' → μ v2' v5' v6' v7' w' < μ v2 v5 v6 v7 w → P (r v2' v5' v6' v7' w')) → P (zX7_classOf_h109 F r k217 v2 v5 v6 v7 w)) : ∀ (n : Nat) (v2 : Int) (v5 : Int) (v6 : Int) (v7 : Int) (w : zS), I v2 v5 v6 v7 w → μ v2 v5 v6 v7 w < n → P (zX7_classOf_l109 F k217 n v2 v5 v6 v7 w) := by
  intro n
  induction n with
  | zero => intro v2 v5 v6 v7 w _ q; omega
  | succ n ih =>
    intro v2 v5 v6 v7 w hI hn
    exact step _ v2 v5 v6 v7 w hI fun v2' v5' v6' v7' w' hI2 hm => ih v2' v5' v6' v7' w' hI2 (by omega)
theorem iX7_classOf_l97 {F : Nat} {k223 : Int → Int → zS → Option (Int × zS)} (I : Int → Int → Int → zS → Prop) (μ : Int → Int → Int → zS → Nat) (P : Option (Int × zS) → Prop) (step : ∀ (r : Int → Int → Int → zS → Option (Int × zS)) (v2 : Int) (v5 : Int) (v6 : Int) (w : zS), I v2 v5 v6 w → (∀ (v2' : Int) (v5' : Int) (v6' : Int) (w' : zS), I v2' v5' v6' w' → μ v2' v5' v6' w' < μ v2 v5 v6 w → P (r v2' v5' v6' w')) → P (zX7_classOf_h97 F r k223 v2 v5 v6 w)) : ∀ (n : Nat) (v2 : Int) (v5 : Int) (v6 : Int) (w : zS), I v2 v5 v6 w → μ v2 v5 v6 w < n → P (zX7_classOf_l97 F k223 n v2 v5 v6 w) := by
  intro n
  induction n with
  | zero => intro v2 v5 v6 w _ q; omega
  | succ n ih =>
    intro v2 v5 v6 w hI hn
    exact step _ v2 v5 v6 w hI fun v2' v5' v6' w' hI2 hm => ih v2' v5' v6' w' hI2 (by omega)
theorem iX7_classOf_l85 {F : Nat} {k229 : zS → Option (Int × zS)} (I : Int → Int → zS → Prop) (μ : Int → Int → zS → Nat) (P : Option (Int × zS) → Prop) (step : ∀ (r : Int → Int → zS → Option (Int × zS)) (v2 : Int) (v5 : Int) (w : zS), I v2 v5 w → (∀ (v2' : Int) (v5' : Int) (w' : zS), I v2' v5' w' → μ v2' v5' w' < μ v2 v5 w → P (r v2' v5' w')) → P (zX7_classOf_h85 F r k229 v2 v5 w)) : ∀ (n : Nat) (v2 : Int) (v5 : Int) (w : zS), I v2 v5 w → μ v2 v5 w < n → P (zX7_classOf_l85 F k229 n v2 v5 w) := by
  intro n
  induction n with
  | zero => intro v2 v5 w _ q; omega
  | succ n ih =>
    intro v2 v5 w hI hn
    exact step _ v2 v5 w hI fun v2' v5' w' hI2 hm => ih v2' v5' w' hI2 (by omega)
theorem iX7_over_l108 {F : Nat} {k258 : Int → Int → Int → Int → Int → Int → zS → Option (Int × zS)} (I : Int → Int → Int → Int → Int → Int → Int → Int → zS → Prop) (μ : Int → Int → Int → Int → Int → Int → Int → Int → zS → Nat) (P : Option (Int × zS) → Prop) (step : ∀ (r : Int → Int → Int → Int → Int → Int → Int → Int → zS → Option (Int × zS)) (v4 : Int) (v5 : Int) (v6 : Int) (v7 : Int) (v8 : Int) (v9 : Int) (v10 : Int) (v11 : Int) (w : zS), I v4 v5 v6 v7 v8 v9 v10 v11 w → (∀ (v4' : Int) (v5' : Int) (v6' : Int) (v7' : Int) (v8' : Int) (v9' : Int) (v10' : Int) (v11' : Int) (w' : zS), I v4' v5' v6' v7' v8' v9' v10' v11' w' → μ v4' v5' v6' v7' v8' v9' v10' v11' w' < μ v4 v5 v6 v7 v8 v9 v10 v11 w → P (r v4' v5' v6' v7' v8' v9' v10' v11' w')) → P (zX7_over_h108 F r k258 v4 v5 v6 v7 v8 v9 v10 v11 w)) : ∀ (n : Nat) (v4 : Int) (v5 : Int) (v6 : Int) (v7 : Int) (v8 : Int) (v9 : Int) (v10 : Int) (v11 : Int) (w : zS), I v4 v5 v6 v7 v8 v9 v10 v11 w → μ v4 v5 v6 v7 v8 v9 v10 v11 w < n → P (zX7_over_l108 F k258 n v4 v5 v6 v7 v8 v9 v10 v11 w) := by
  intro n
  induction n with
  | zero => intro v4 v5 v6 v7 v8 v9 v10 v11 w _ q; omega
  | succ n ih =>
    intro v4 v5 v6 v7 v8 v9 v10 v11 w hI hn
    exact step _ v4 v5 v6 v7 v8 v9 v10 v11 w hI fun v4' v5' v6' v7' v8' v9' v10' v11' w' hI2 hm => ih v4' v5' v6' v7' v8' v9' v10' v11' w' hI2 (by omega)
theorem iX7_over_l73 {F : Nat} {k290 : Int → Int → zS → Option (Int × zS)} (I : Int → Int → Int → zS → Prop) (μ : Int → Int → Int → zS → Nat) (P : Option (Int × zS) → Prop) (step : ∀ (r : Int → Int → Int → zS → Option (Int × zS)) (v4 : Int) (v5 : Int) (v6 : Int) (w : zS), I v4 v5 v6 w → (∀ (v4' : Int) (v5' : Int) (v6' : Int) (w' : zS), I v4' v5' v6' w' → μ v4' v5' v6' w' < μ v4 v5 v6 w → P (r v4' v5' v6' w')) → P (zX7_over_h73 F r k290 v4 v5 v6 w)) : ∀ (n : Nat) (v4 : Int) (v5 : Int) (v6 : Int) (w : zS), I v4 v5 v6 w → μ v4 v5 v6 w < n → P (zX7_over_l73 F k290 n v4 v5 v6 w) := by
  intro n
  induction n with
  | zero => intro v4 v5 v6 w _ q; omega
  | succ n ih =>
    intro v4 v5 v6 w hI hn
    exact step _ v4 v5 v6 w hI fun v4' v5' v6' w' hI2 hm => ih v4' v5' v6' w' hI2 (by omega)
theorem iX7_over_l58 {F : Nat} {k296 : Int → zS → Option (Int × zS)} (I : Int → Int → zS → Prop) (μ : Int → Int → zS → Nat) (P : Option (Int × zS) → Prop) (step : ∀ (r : Int → Int → zS → Option (Int × zS)) (v4 : Int) (v5 : Int) (w : zS), I v4 v5 w → (∀ (v4' : Int) (v5' : Int) (w' : zS), I v4' v5' w' → μ v4' v5' w' < μ v4 v5 w → P (r v4' v5' w')) → P (zX7_over_h58 F r k296 v4 v5 w)) : ∀ (n : Nat) (v4 : Int) (v5 : Int) (w : zS), I v4 v5 w → μ v4 v5 w < n → P (zX7_over_l58 F k296 n v4 v5 w) := by
  intro n
  induction n with
  | zero => intro v4 v5 w _ q; omega
  | succ n ih =>
    intro v4 v5 w hI hn
    exact step _ v4 v5 w hI fun v4' v5' w' hI2 hm => ih v4' v5' w' hI2 (by omega)
theorem iX7_sum_l43 {F : Nat}  (I : Int → Int → Int → Int → Int → zS → Prop) (μ : Int → Int → Int → Int → Int → zS → Nat) (P : Option (Int × zS) → Prop) (step : ∀ (r : Int → Int → Int → Int → Int → zS → Option (Int × zS)) (v2 : Int) (v3 : Int) (v5 : Int) (v6 : Int) (v7 : Int) (w : zS), I v2 v3 v5 v6 v7 w → (∀ (v2' : Int) (v3' : Int) (v5' : Int) (v6' : Int) (v7' : Int) (w' : zS), I v2' v3' v5' v6' v7' w' → μ v2' v3' v5' v6' v7' w' < μ v2 v3 v5 v6 v7 w → P (r v2' v3' v5' v6' v7' w')) → P (zX7_sum_h43 F r  v2 v3 v5 v6 v7 w)) : ∀ (n : Nat) (v2 : Int) (v3 : Int) (v5 : Int) (v6 : Int) (v7 : Int) (w : zS), I v2 v3 v5 v6 v7 w → μ v2 v3 v5 v6 v7 w < n → P (zX7_sum_l43 F  n v2 v3 v5 v6 v7 w) := by
  intro n
  induction n with
  | zero => intro v2 v3 v5 v6 v7 w _ q; omega
  | succ n ih =>
    intro v2 v3 v5 v6 v7 w hI hn
    exact step _ v2 v3 v5 v6 v7 w hI fun v2' v3' v5' v6' v7' w' hI2 hm => ih v2' v3' v5' v6' v7' w' hI2 (by omega)
theorem iX7_times_l53 {F : Nat}  (I : Int → Int → Int → Int → Int → zS → Prop) (μ : Int → Int → Int → Int → Int → zS → Nat) (P : Option (Int × zS) → Prop) (step : ∀ (r : Int → Int → Int → Int → Int → zS → Option (Int × zS)) (v2 : Int) (v3 : Int) (v5 : Int) (v6 : Int) (v7 : Int) (w : zS), I v2 v3 v5 v6 v7 w → (∀ (v2' : Int) (v3' : Int) (v5' : Int) (v6' : Int) (v7' : Int) (w' : zS), I v2' v3' v5' v6' v7' w' → μ v2' v3' v5' v6' v7' w' < μ v2 v3 v5 v6 v7 w → P (r v2' v3' v5' v6' v7' w')) → P (zX7_times_h53 F r  v2 v3 v5 v6 v7 w)) : ∀ (n : Nat) (v2 : Int) (v3 : Int) (v5 : Int) (v6 : Int) (v7 : Int) (w : zS), I v2 v3 v5 v6 v7 w → μ v2 v3 v5 v6 v7 w < n → P (zX7_times_l53 F  n v2 v3 v5 v6 v7 w) := by
  intro n
  induction n with
  | zero => intro v2 v3 v5 v6 v7 w _ q; omega
  | succ n ih =>
    intro v2 v3 v5 v6 v7 w hI hn
    exact step _ v2 v3 v5 v6 v7 w hI fun v2' v3' v5' v6' v7' w' hI2 hm => ih v2' v3' v5' v6' v7' w' hI2 (by omega)
