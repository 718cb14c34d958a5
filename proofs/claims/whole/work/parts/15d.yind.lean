/-! .. and an induction rule for each loop (laid by a program of mine) -/
theorem iX1_firstNotZero_l2 {F : Nat} {C : yC}  (I : Nat → Option Nat → Int → zO → Prop) (μ : Nat → Option Nat → Int → zO → Nat) (P : Option (Int × zO) → Prop) (step : ∀ (r : Nat → Option Nat → Int → zO → Option (Int × zO)) (v0 : Nat) (v1 : Option Nat) (v2 : Int) (w : zO), I v0 v1 v2 w → (∀ (v0' : Nat) (v1' : Option Nat) (v2' : Int) (w' : zO), I v0' v1' v2' w' → μ v0' v1' v2' w' < μ v0 v1 v2 w → P (r v0' v1' v2' w')) → P (zX1_firstNotZero_h2 F C r  v0 v1 v2 w)) : ∀ (n : Nat) (v0 : Nat) (v1 : Option Nat) (v2 : Int) (w : zO), I v0 v1 v2 w → μ v0 v1 v2 w < n → P (zX1_firstNotZero_l2 F C  n v0 v1 v2 w) := by
  intro n
  induction n with
  | zero => intro v0 v1 v2 w _ q; omega
  | succ n ih =>
    intro v0 v1 v2 w hI hn
    exact step _ v0 v1 v2 w hI fun v0' v1' v2' w' hI2 hm => ih v0' v1' v2' w' hI2 (by omega)
theorem iX3_nextOfPeriod_l3 {F : Nat} {C : yC}  (I : Option Nat → Int → Int → zO → Prop) (μ : Option Nat → Int → Int → zO → Nat) (P : Option (Int × zO) → Prop) (step : ∀ (r : Option Nat → Int → Int → zO → Option (Int × zO)) (v1 : Option Nat) (v2 : Int) (v4 : Int) (w : zO), I v1 v2 v4 w → (∀ (v1' : Option Nat) (v2' : Int) (v4' : Int) (w' : zO), I v1' v2' v4' w' → μ v1' v2' v4' w' < μ v1 v2 v4 w → P (r v1' v2' v4' w')) → P (zX3_nextOfPeriod_h3 F C r  v1 v2 v4 w)) : ∀ (n : Nat) (v1 : Option Nat) (v2 : Int) (v4 : Int) (w : zO), I v1 v2 v4 w → μ v1 v2 v4 w < n → P (zX3_nextOfPeriod_l3 F C  n v1 v2 v4 w) := by
  intro n
  induction n with
  | zero => intro v1 v2 v4 w _ q; omega
  | succ n ih =>
    intro v1 v2 v4 w hI hn
    exact step _ v1 v2 v4 w hI fun v1' v2' v4' w' hI2 hm => ih v1' v2' v4' w' hI2 (by omega)
theorem iX6_power_l4 {F : Nat} {C : yC}  (I : Int → Int → Int → Int → zO → Prop) (μ : Int → Int → Int → Int → zO → Nat) (P : Option (Int × zO) → Prop) (step : ∀ (r : Int → Int → Int → Int → zO → Option (Int × zO)) (v0 : Int) (v1 : Int) (v2 : Int) (v3 : Int) (w : zO), I v0 v1 v2 v3 w → (∀ (v0' : Int) (v1' : Int) (v2' : Int) (v3' : Int) (w' : zO), I v0' v1' v2' v3' w' → μ v0' v1' v2' v3' w' < μ v0 v1 v2 v3 w → P (r v0' v1' v2' v3' w')) → P (zX6_power_h4 F C r  v0 v1 v2 v3 w)) : ∀ (n : Nat) (v0 : Int) (v1 : Int) (v2 : Int) (v3 : Int) (w : zO), I v0 v1 v2 v3 w → μ v0 v1 v2 v3 w < n → P (zX6_power_l4 F C  n v0 v1 v2 v3 w) := by
  intro n
  induction n with
  | zero => intro v0 v1 v2 v3 w _ q; omega
  | succ n ih =>
    intro v0 v1 v2 v3 w hI hn
    exact step _ v0 v1 v2 v3 w hI fun v0' v1' v2' v3' w' hI2 hm => ih v0' v1' v2' v3' w' hI2 (by omega)
theorem iX3_goesWithProducts_l17 {F : Nat} {C : yC} {k97 : Nat → Option Nat → Option Nat → zO → Option (Int × zO)} (I : Nat → Option Nat → Option Nat → Int → Int → zO → Prop) (μ : Nat → Option Nat → Option Nat → Int → Int → zO → Nat) (P : Option (Int × zO) → Prop) (step : ∀ (r : Nat → Option Nat → Option Nat → Int → Int → zO → Option (Int × zO)) (v0 : Nat) (v1 : Option Nat) (v2 : Option Nat) (v3 : Int) (v4 : Int) (w : zO), I v0 v1 v2 v3 v4 w → (∀ (v0' : Nat) (v1' : Option Nat) (v2' : Option Nat) (v3' : Int) (v4' : Int) (w' : zO), I v0' v1' v2' v3' v4' w' → μ v0' v1' v2' v3' v4' w' < μ v0 v1 v2 v3 v4 w → P (r v0' v1' v2' v3' v4' w')) → P (zX3_goesWithProducts_h17 F C r k97 v0 v1 v2 v3 v4 w)) : ∀ (n : Nat) (v0 : Nat) (v1 : Option Nat) (v2 : Option Nat) (v3 : Int) (v4 : Int) (w : zO), I v0 v1 v2 v3 v4 w → μ v0 v1 v2 v3 v4 w < n → P (zX3_goesWithProducts_l17 F C k97 n v0 v1 v2 v3 v4 w) := by
  intro n
  induction n with
  | zero => intro v0 v1 v2 v3 v4 w _ q; omega
  | succ n ih =>
    intro v0 v1 v2 v3 v4 w hI hn
    exact step _ v0 v1 v2 v3 v4 w hI fun v0' v1' v2' v3' v4' w' hI2 hm => ih v0' v1' v2' v3' v4' w' hI2 (by omega)
theorem iX3_goesWithProducts_l112 {F : Nat} {C : yC} {k168 : Nat → Option Nat → Option Nat → Int → zO → Option (Int × zO)} (I : Nat → Option Nat → Option Nat → Int → Int → zO → Prop) (μ : Nat → Option Nat → Option Nat → Int → Int → zO → Nat) (P : Option (Int × zO) → Prop) (step : ∀ (r : Nat → Option Nat → Option Nat → Int → Int → zO → Option (Int × zO)) (v0 : Nat) (v1 : Option Nat) (v2 : Option Nat) (v4 : Int) (v5 : Int) (w : zO), I v0 v1 v2 v4 v5 w → (∀ (v0' : Nat) (v1' : Option Nat) (v2' : Option Nat) (v4' : Int) (v5' : Int) (w' : zO), I v0' v1' v2' v4' v5' w' → μ v0' v1' v2' v4' v5' w' < μ v0 v1 v2 v4 v5 w → P (r v0' v1' v2' v4' v5' w')) → P (zX3_goesWithProducts_h112 F C r k168 v0 v1 v2 v4 v5 w)) : ∀ (n : Nat) (v0 : Nat) (v1 : Option Nat) (v2 : Option Nat) (v4 : Int) (v5 : Int) (w : zO), I v0 v1 v2 v4 v5 w → μ v0 v1 v2 v4 v5 w < n → P (zX3_goesWithProducts_l112 F C k168 n v0 v1 v2 v4 v5 w) := by
  intro n
  induction n with
  | zero => intro v0 v1 v2 v4 v5 w _ q; omega
  | succ n ih =>
    intro v0 v1 v2 v4 v5 w hI hn
    exact step _ v0 v1 v2 v4 v5 w hI fun v0' v1' v2' v4' v5' w' hI2 hm => ih v0' v1' v2' v4' v5' w' hI2 (by omega)
theorem iX3_goesWithProducts_l100 {F : Nat} {C : yC}  (I : Nat → Option Nat → Option Nat → Int → zO → Prop) (μ : Nat → Option Nat → Option Nat → Int → zO → Nat) (P : Option (Int × zO) → Prop) (step : ∀ (r : Nat → Option Nat → Option Nat → Int → zO → Option (Int × zO)) (v0 : Nat) (v1 : Option Nat) (v2 : Option Nat) (v4 : Int) (w : zO), I v0 v1 v2 v4 w → (∀ (v0' : Nat) (v1' : Option Nat) (v2' : Option Nat) (v4' : Int) (w' : zO), I v0' v1' v2' v4' w' → μ v0' v1' v2' v4' w' < μ v0 v1 v2 v4 w → P (r v0' v1' v2' v4' w')) → P (zX3_goesWithProducts_h100 F C r  v0 v1 v2 v4 w)) : ∀ (n : Nat) (v0 : Nat) (v1 : Option Nat) (v2 : Option Nat) (v4 : Int) (w : zO), I v0 v1 v2 v4 w → μ v0 v1 v2 v4 w < n → P (zX3_goesWithProducts_l100 F C  n v0 v1 v2 v4 w) := by
  intro n
  induction n with
  | zero => intro v0 v1 v2 v4 w _ q; omega
  | succ n ih =>
    intro v0 v1 v2 v4 w hI hn
    exact step _ v0 v1 v2 v4 w hI fun v0' v1' v2' v4' w' hI2 hm => ih v0' v1' v2' v4' w' hI2 (by omega)
theorem iX3_layPaths_l34 {F : Nat} {C : yC} {k131 : Nat → Option Nat → Int64 → Int → Int → zO → Option zO} (I : Nat → Option Nat → Int64 → Int → Int → Int → zO → Prop) (μ : Nat → Option Nat → Int64 → Int → Int → Int → zO → Nat) (P : Option zO → Prop) (step : ∀ (r : Nat → Option Nat → Int64 → Int → Int → Int → zO → Option zO) (v0 : Nat) (v1 : Option Nat) (v2 : Int64) (v4 : Int) (v5 : Int) (v6 : Int) (w : zO), I v0 v1 v2 v4 v5 v6 w → (∀ (v0' : Nat) (v1' : Option Nat) (v2' : Int64) (v4' : Int) (v5' : Int) (v6' : Int) (w' : zO), I v0' v1' v2' v4' v5' v6' w' → μ v0' v1' v2' v4' v5' v6' w' < μ v0 v1 v2 v4 v5 v6 w → P (r v0' v1' v2' v4' v5' v6' w')) → P (zX3_layPaths_h34 F C r k131 v0 v1 v2 v4 v5 v6 w)) : ∀ (n : Nat) (v0 : Nat) (v1 : Option Nat) (v2 : Int64) (v4 : Int) (v5 : Int) (v6 : Int) (w : zO), I v0 v1 v2 v4 v5 v6 w → μ v0 v1 v2 v4 v5 v6 w < n → P (zX3_layPaths_l34 F C k131 n v0 v1 v2 v4 v5 v6 w) := by
  intro n
  induction n with
  | zero => intro v0 v1 v2 v4 v5 v6 w _ q; omega
  | succ n ih =>
    intro v0 v1 v2 v4 v5 v6 w hI hn
    exact step _ v0 v1 v2 v4 v5 v6 w hI fun v0' v1' v2' v4' v5' v6' w' hI2 hm => ih v0' v1' v2' v4' v5' v6' w' hI2 (by omega)
theorem iX3_layPaths_l15 {F : Nat} {C : yC}  (I : Nat → Option Nat → Int64 → Int → Int → zO → Prop) (μ : Nat → Option Nat → Int64 → Int → Int → zO → Nat) (P : Option zO → Prop) (step : ∀ (r : Nat → Option Nat → Int64 → Int → Int → zO → Option zO) (v0 : Nat) (v1 : Option Nat) (v2 : Int64) (v4 : Int) (v5 : Int) (w : zO), I v0 v1 v2 v4 v5 w → (∀ (v0' : Nat) (v1' : Option Nat) (v2' : Int64) (v4' : Int) (v5' : Int) (w' : zO), I v0' v1' v2' v4' v5' w' → μ v0' v1' v2' v4' v5' w' < μ v0 v1 v2 v4 v5 w → P (r v0' v1' v2' v4' v5' w')) → P (zX3_layPaths_h15 F C r  v0 v1 v2 v4 v5 w)) : ∀ (n : Nat) (v0 : Nat) (v1 : Option Nat) (v2 : Int64) (v4 : Int) (v5 : Int) (w : zO), I v0 v1 v2 v4 v5 w → μ v0 v1 v2 v4 v5 w < n → P (zX3_layPaths_l15 F C  n v0 v1 v2 v4 v5 w) := by
  intro n
  induction n with
  | zero => intro v0 v1 v2 v4 v5 w _ q; omega
  | succ n ih =>
    intro v0 v1 v2 v4 v5 w hI hn
    exact step _ v0 v1 v2 v4 v5 w hI fun v0' v1' v2' v4' v5' w' hI2 hm => ih v0' v1' v2' v4' v5' w' hI2 (by omega)
theorem iX3_stepGiven_l7 {F : Nat} {C : yC} {k46 : Nat → Int → Int → zO → Option (Int × zO)} (I : Nat → Option Nat → Option Nat → Int → zO → Prop) (μ : Nat → Option Nat → Option Nat → Int → zO → Nat) (P : Option (Int × zO) → Prop) (step : ∀ (r : Nat → Option Nat → Option Nat → Int → zO → Option (Int × zO)) (v0 : Nat) (v1 : Option Nat) (v2 : Option Nat) (v3 : Int) (w : zO), I v0 v1 v2 v3 w → (∀ (v0' : Nat) (v1' : Option Nat) (v2' : Option Nat) (v3' : Int) (w' : zO), I v0' v1' v2' v3' w' → μ v0' v1' v2' v3' w' < μ v0 v1 v2 v3 w → P (r v0' v1' v2' v3' w')) → P (zX3_stepGiven_h7 F C r k46 v0 v1 v2 v3 w)) : ∀ (n : Nat) (v0 : Nat) (v1 : Option Nat) (v2 : Option Nat) (v3 : Int) (w : zO), I v0 v1 v2 v3 w → μ v0 v1 v2 v3 w < n → P (zX3_stepGiven_l7 F C k46 n v0 v1 v2 v3 w) := by
  intro n
  induction n with
  | zero => intro v0 v1 v2 v3 w _ q; omega
  | succ n ih =>
    intro v0 v1 v2 v3 w hI hn
    exact step _ v0 v1 v2 v3 w hI fun v0' v1' v2' v3' w' hI2 hm => ih v0' v1' v2' v3' w' hI2 (by omega)
theorem iX5_writeBound_l95 {F : Nat} {C : yC} {k143 : Nat → Option Nat → Int → Int → Int → Int → zO → Option zO} (I : Nat → Option Nat → Int → Int → Int → Int → Int → zO → Prop) (μ : Nat → Option Nat → Int → Int → Int → Int → Int → zO → Nat) (P : Option zO → Prop) (step : ∀ (r : Nat → Option Nat → Int → Int → Int → Int → Int → zO → Option zO) (v0 : Nat) (v1 : Option Nat) (v2 : Int) (v3 : Int) (v4 : Int) (v5 : Int) (v7 : Int) (w : zO), I v0 v1 v2 v3 v4 v5 v7 w → (∀ (v0' : Nat) (v1' : Option Nat) (v2' : Int) (v3' : Int) (v4' : Int) (v5' : Int) (v7' : Int) (w' : zO), I v0' v1' v2' v3' v4' v5' v7' w' → μ v0' v1' v2' v3' v4' v5' v7' w' < μ v0 v1 v2 v3 v4 v5 v7 w → P (r v0' v1' v2' v3' v4' v5' v7' w')) → P (zX5_writeBound_h95 F C r k143 v0 v1 v2 v3 v4 v5 v7 w)) : ∀ (n : Nat) (v0 : Nat) (v1 : Option Nat) (v2 : Int) (v3 : Int) (v4 : Int) (v5 : Int) (v7 : Int) (w : zO), I v0 v1 v2 v3 v4 v5 v7 w → μ v0 v1 v2 v3 v4 v5 v7 w < n → P (zX5_writeBound_l95 F C k143 n v0 v1 v2 v3 v4 v5 v7 w) := by
  intro n
  induction n with
  | zero => intro v0 v1 v2 v3 v4 v5 v7 w _ q; omega
  | succ n ih =>
    intro v0 v1 v2 v3 v4 v5 v7 w hI hn
    exact step _ v0 v1 v2 v3 v4 v5 v7 w hI fun v0' v1' v2' v3' v4' v5' v7' w' hI2 hm => ih v0' v1' v2' v3' v4' v5' v7' w' hI2 (by omega)
theorem iX5_writeBound_l26 {F : Nat} {C : yC} {k149 : Nat → Option Nat → Int → Int → Int → zO → Option zO} (I : Nat → Option Nat → Int → Int → Int → Int → zO → Prop) (μ : Nat → Option Nat → Int → Int → Int → Int → zO → Nat) (P : Option zO → Prop) (step : ∀ (r : Nat → Option Nat → Int → Int → Int → Int → zO → Option zO) (v0 : Nat) (v1 : Option Nat) (v2 : Int) (v3 : Int) (v4 : Int) (v5 : Int) (w : zO), I v0 v1 v2 v3 v4 v5 w → (∀ (v0' : Nat) (v1' : Option Nat) (v2' : Int) (v3' : Int) (v4' : Int) (v5' : Int) (w' : zO), I v0' v1' v2' v3' v4' v5' w' → μ v0' v1' v2' v3' v4' v5' w' < μ v0 v1 v2 v3 v4 v5 w → P (r v0' v1' v2' v3' v4' v5' w')) → P (zX5_writeBound_h26 F C r k149 v0 v1 v2 v3 v4 v5 w)) : ∀ (n : Nat) (v0 : Nat) (v1 : Option Nat) (v2 : Int) (v3 : Int) (v4 : Int) (v5 : Int) (w : zO), I v0 v1 v2 v3 v4 v5 w → μ v0 v1 v2 v3 v4 v5 w < n → P (zX5_writeBound_l26 F C k149 n v0 v1 v2 v3 v4 v5 w) := by
  intro n
  induction n with
  | zero => intro v0 v1 v2 v3 v4 v5 w _ q; omega
  | succ n ih =>
    intro v0 v1 v2 v3 v4 v5 w hI hn
    exact step _ v0 v1 v2 v3 v4 v5 w hI fun v0' v1' v2' v3' v4' v5' w' hI2 hm => ih v0' v1' v2' v3' v4' v5' w' hI2 (by omega)
theorem iX5_writeBound_l11 {F : Nat} {C : yC}  (I : Nat → Option Nat → Int → Int → Int → zO → Prop) (μ : Nat → Option Nat → Int → Int → Int → zO → Nat) (P : Option zO → Prop) (step : ∀ (r : Nat → Option Nat → Int → Int → Int → zO → Option zO) (v0 : Nat) (v1 : Option Nat) (v2 : Int) (v3 : Int) (v4 : Int) (w : zO), I v0 v1 v2 v3 v4 w → (∀ (v0' : Nat) (v1' : Option Nat) (v2' : Int) (v3' : Int) (v4' : Int) (w' : zO), I v0' v1' v2' v3' v4' w' → μ v0' v1' v2' v3' v4' w' < μ v0 v1 v2 v3 v4 w → P (r v0' v1' v2' v3' v4' w')) → P (zX5_writeBound_h11 F C r  v0 v1 v2 v3 v4 w)) : ∀ (n : Nat) (v0 : Nat) (v1 : Option Nat) (v2 : Int) (v3 : Int) (v4 : Int) (w : zO), I v0 v1 v2 v3 v4 w → μ v0 v1 v2 v3 v4 w < n → P (zX5_writeBound_l11 F C  n v0 v1 v2 v3 v4 w) := by
  intro n
  induction n with
  | zero => intro v0 v1 v2 v3 v4 w _ q; omega
  | succ n ih =>
    intro v0 v1 v2 v3 v4 w hI hn
    exact step _ v0 v1 v2 v3 v4 w hI fun v0' v1' v2' v3' v4' w' hI2 hm => ih v0' v1' v2' v3' v4' w' hI2 (by omega)
theorem iX5_writeCocycleRule_l42 {F : Nat} {C : yC} {k86 : Nat → Option Nat → Int → Int → Int → Int → Int → Int → Int → zO → Option zO} (I : Nat → Option Nat → Int → Int → Int → Int → Int → Int → Int → Int → zO → Prop) (μ : Nat → Option Nat → Int → Int → Int → Int → Int → Int → Int → Int → zO → Nat) (P : Option zO → Prop) (step : ∀ (r : Nat → Option Nat → Int → Int → Int → Int → Int → Int → Int → Int → zO → Option zO) (v0 : Nat) (v1 : Option Nat) (v2 : Int) (v3 : Int) (v4 : Int) (v5 : Int) (v6 : Int) (v7 : Int) (v8 : Int) (v9 : Int) (w : zO), I v0 v1 v2 v3 v4 v5 v6 v7 v8 v9 w → (∀ (v0' : Nat) (v1' : Option Nat) (v2' : Int) (v3' : Int) (v4' : Int) (v5' : Int) (v6' : Int) (v7' : Int) (v8' : Int) (v9' : Int) (w' : zO), I v0' v1' v2' v3' v4' v5' v6' v7' v8' v9' w' → μ v0' v1' v2' v3' v4' v5' v6' v7' v8' v9' w' < μ v0 v1 v2 v3 v4 v5 v6 v7 v8 v9 w → P (r v0' v1' v2' v3' v4' v5' v6' v7' v8' v9' w')) → P (zX5_writeCocycleRule_h42 F C r k86 v0 v1 v2 v3 v4 v5 v6 v7 v8 v9 w)) : ∀ (n : Nat) (v0 : Nat) (v1 : Option Nat) (v2 : Int) (v3 : Int) (v4 : Int) (v5 : Int) (v6 : Int) (v7 : Int) (v8 : Int) (v9 : Int) (w : zO), I v0 v1 v2 v3 v4 v5 v6 v7 v8 v9 w → μ v0 v1 v2 v3 v4 v5 v6 v7 v8 v9 w < n → P (zX5_writeCocycleRule_l42 F C k86 n v0 v1 v2 v3 v4 v5 v6 v7 v8 v9 w) := by
  intro n
  induction n with
  | zero => intro v0 v1 v2 v3 v4 v5 v6 v7 v8 v9 w _ q; omega
  | succ n ih =>
    intro v0 v1 v2 v3 v4 v5 v6 v7 v8 v9 w hI hn
    exact step _ v0 v1 v2 v3 v4 v5 v6 v7 v8 v9 w hI fun v0' v1' v2' v3' v4' v5' v6' v7' v8' v9' w' hI2 hm => ih v0' v1' v2' v3' v4' v5' v6' v7' v8' v9' w' hI2 (by omega)
theorem iX0_goesWithProduct_l40 {F : Nat} {C : yC} {k79 : Nat → Int → Int → Int → Int → Int → Int → zO → Option (Int × zO)} (I : Nat → Int → Int → Int → Int → Int → Int → Int → zO → Prop) (μ : Nat → Int → Int → Int → Int → Int → Int → Int → zO → Nat) (P : Option (Int × zO) → Prop) (step : ∀ (r : Nat → Int → Int → Int → Int → Int → Int → Int → zO → Option (Int × zO)) (v0 : Nat) (v1 : Int) (v2 : Int) (v3 : Int) (v4 : Int) (v5 : Int) (v6 : Int) (v7 : Int) (w : zO), I v0 v1 v2 v3 v4 v5 v6 v7 w → (∀ (v0' : Nat) (v1' : Int) (v2' : Int) (v3' : Int) (v4' : Int) (v5' : Int) (v6' : Int) (v7' : Int) (w' : zO), I v0' v1' v2' v3' v4' v5' v6' v7' w' → μ v0' v1' v2' v3' v4' v5' v6' v7' w' < μ v0 v1 v2 v3 v4 v5 v6 v7 w → P (r v0' v1' v2' v3' v4' v5' v6' v7' w')) → P (zX0_goesWithProduct_h40 F C r k79 v0 v1 v2 v3 v4 v5 v6 v7 w)) : ∀ (n : Nat) (v0 : Nat) (v1 : Int) (v2 : Int) (v3 : Int) (v4 : Int) (v5 : Int) (v6 : Int) (v7 : Int) (w : zO), I v0 v1 v2 v3 v4 v5 v6 v7 w → μ v0 v1 v2 v3 v4 v5 v6 v7 w < n → P (zX0_goesWithProduct_l40 F C k79 n v0 v1 v2 v3 v4 v5 v6 v7 w) := by
  intro n
  induction n with
  | zero => intro v0 v1 v2 v3 v4 v5 v6 v7 w _ q; omega
  | succ n ih =>
    intro v0 v1 v2 v3 v4 v5 v6 v7 w hI hn
    exact step _ v0 v1 v2 v3 v4 v5 v6 v7 w hI fun v0' v1' v2' v3' v4' v5' v6' v7' w' hI2 hm => ih v0' v1' v2' v3' v4' v5' v6' v7' w' hI2 (by omega)
theorem iX0_goesWithProduct_l25 {F : Nat} {C : yC} {k108 : Nat → Int → Int → Int → Int → zO → Option (Int × zO)} (I : Nat → Int → Int → Int → Int → Int → zO → Prop) (μ : Nat → Int → Int → Int → Int → Int → zO → Nat) (P : Option (Int × zO) → Prop) (step : ∀ (r : Nat → Int → Int → Int → Int → Int → zO → Option (Int × zO)) (v0 : Nat) (v1 : Int) (v2 : Int) (v3 : Int) (v4 : Int) (v5 : Int) (w : zO), I v0 v1 v2 v3 v4 v5 w → (∀ (v0' : Nat) (v1' : Int) (v2' : Int) (v3' : Int) (v4' : Int) (v5' : Int) (w' : zO), I v0' v1' v2' v3' v4' v5' w' → μ v0' v1' v2' v3' v4' v5' w' < μ v0 v1 v2 v3 v4 v5 w → P (r v0' v1' v2' v3' v4' v5' w')) → P (zX0_goesWithProduct_h25 F C r k108 v0 v1 v2 v3 v4 v5 w)) : ∀ (n : Nat) (v0 : Nat) (v1 : Int) (v2 : Int) (v3 : Int) (v4 : Int) (v5 : Int) (w : zO), I v0 v1 v2 v3 v4 v5 w → μ v0 v1 v2 v3 v4 v5 w < n → P (zX0_goesWithProduct_l25 F C k108 n v0 v1 v2 v3 v4 v5 w) := by
  intro n
  induction n with
  | zero => intro v0 v1 v2 v3 v4 v5 w _ q; omega
  | succ n ih =>
    intro v0 v1 v2 v3 v4 v5 w hI hn
    exact step _ v0 v1 v2 v3 v4 v5 w hI fun v0' v1' v2' v3' v4' v5' w' hI2 hm => ih v0' v1' v2' v3' v4' v5' w' hI2 (by omega)
theorem iX0_goesWithProduct_l13 {F : Nat} {C : yC}  (I : Nat → Int → Int → Int → Int → zO → Prop) (μ : Nat → Int → Int → Int → Int → zO → Nat) (P : Option (Int × zO) → Prop) (step : ∀ (r : Nat → Int → Int → Int → Int → zO → Option (Int × zO)) (v0 : Nat) (v1 : Int) (v2 : Int) (v3 : Int) (v4 : Int) (w : zO), I v0 v1 v2 v3 v4 w → (∀ (v0' : Nat) (v1' : Int) (v2' : Int) (v3' : Int) (v4' : Int) (w' : zO), I v0' v1' v2' v3' v4' w' → μ v0' v1' v2' v3' v4' w' < μ v0 v1 v2 v3 v4 w → P (r v0' v1' v2' v3' v4' w')) → P (zX0_goesWithProduct_h13 F C r  v0 v1 v2 v3 v4 w)) : ∀ (n : Nat) (v0 : Nat) (v1 : Int) (v2 : Int) (v3 : Int) (v4 : Int) (w : zO), I v0 v1 v2 v3 v4 w → μ v0 v1 v2 v3 v4 w < n → P (zX0_goesWithProduct_l13 F C  n v0 v1 v2 v3 v4 w) := by
  intro n
  induction n with
  | zero => intro v0 v1 v2 v3 v4 w _ q; omega
  | succ n ih =>
    intro v0 v1 v2 v3 v4 w hI hn
    exact step _ v0 v1 v2 v3 v4 w hI fun v0' v1' v2' v3' v4' w' hI2 hm => ih v0' v1' v2' v3' v4' w' hI2 (by omega)
theorem iX0_move_l8 {F : Nat} {C : yC}  (I : Nat → Int → Int → Int → Int → Int → zO → Prop) (μ : Nat → Int → Int → Int → Int → Int → zO → Nat) (P : Option (Int × zO) → Prop) (step : ∀ (r : Nat → Int → Int → Int → Int → Int → zO → Option (Int × zO)) (v0 : Nat) (v1 : Int) (v2 : Int) (v3 : Int) (v4 : Int) (v5 : Int) (w : zO), I v0 v1 v2 v3 v4 v5 w → (∀ (v0' : Nat) (v1' : Int) (v2' : Int) (v3' : Int) (v4' : Int) (v5' : Int) (w' : zO), I v0' v1' v2' v3' v4' v5' w' → μ v0' v1' v2' v3' v4' v5' w' < μ v0 v1 v2 v3 v4 v5 w → P (r v0' v1' v2' v3' v4' v5' w')) → P (zX0_move_h8 F C r  v0 v1 v2 v3 v4 v5 w)) : ∀ (n : Nat) (v0 : Nat) (v1 : Int) (v2 : Int) (v3 : Int) (v4 : Int) (v5 : Int) (w : zO), I v0 v1 v2 v3 v4 v5 w → μ v0 v1 v2 v3 v4 v5 w < n → P (zX0_move_l8 F C  n v0 v1 v2 v3 v4 v5 w) := by
  intro n
  induction n with
  | zero => intro v0 v1 v2 v3 v4 v5 w _ q; omega
  | succ n ih =>
    intro v0 v1 v2 v3 v4 v5 w hI hn
    exact step _ v0 v1 v2 v3 v4 v5 w hI fun v0' v1' v2' v3' v4' v5' w' hI2 hm => ih v0' v1' v2' v3' v4' v5' w' hI2 (by omega)
theorem iX1_inverseOf_l2 {F : Nat} {C : yC}  (I : Nat → Int → Int → zO → Prop) (μ : Nat → Int → Int → zO → Nat) (P : Option (Int × zO) → Prop) (step : ∀ (r : Nat → Int → Int → zO → Option (Int × zO)) (v0 : Nat) (v1 : Int) (v2 : Int) (w : zO), I v0 v1 v2 w → (∀ (v0' : Nat) (v1' : Int) (v2' : Int) (w' : zO), I v0' v1' v2' w' → μ v0' v1' v2' w' < μ v0 v1 v2 w → P (r v0' v1' v2' w')) → P (zX1_inverseOf_h2 F C r  v0 v1 v2 w)) : ∀ (n : Nat) (v0 : Nat) (v1 : Int) (v2 : Int) (w : zO), I v0 v1 v2 w → μ v0 v1 v2 w < n → P (zX1_inverseOf_l2 F C  n v0 v1 v2 w) := by
  intro n
  induction n with
  | zero => intro v0 v1 v2 w _ q; omega
  | succ n ih =>
    intro v0 v1 v2 w hI hn
    exact step _ v0 v1 v2 w hI fun v0' v1' v2' w' hI2 hm => ih v0' v1' v2' w' hI2 (by omega)
theorem iX1_reduce_l47 {F : Nat} {C : yC} {k99 : Nat → Option Nat → Int → zO → Option zO} (I : Nat → Option Nat → Int → Int → Int → Int → zO → Prop) (μ : Nat → Option Nat → Int → Int → Int → Int → zO → Nat) (P : Option zO → Prop) (step : ∀ (r : Nat → Option Nat → Int → Int → Int → Int → zO → Option zO) (v0 : Nat) (v1 : Option Nat) (v2 : Int) (v3 : Int) (v4 : Int) (v5 : Int) (w : zO), I v0 v1 v2 v3 v4 v5 w → (∀ (v0' : Nat) (v1' : Option Nat) (v2' : Int) (v3' : Int) (v4' : Int) (v5' : Int) (w' : zO), I v0' v1' v2' v3' v4' v5' w' → μ v0' v1' v2' v3' v4' v5' w' < μ v0 v1 v2 v3 v4 v5 w → P (r v0' v1' v2' v3' v4' v5' w')) → P (zX1_reduce_h47 F C r k99 v0 v1 v2 v3 v4 v5 w)) : ∀ (n : Nat) (v0 : Nat) (v1 : Option Nat) (v2 : Int) (v3 : Int) (v4 : Int) (v5 : Int) (w : zO), I v0 v1 v2 v3 v4 v5 w → μ v0 v1 v2 v3 v4 v5 w < n → P (zX1_reduce_l47 F C k99 n v0 v1 v2 v3 v4 v5 w) := by
  intro n
  induction n with
  | zero => intro v0 v1 v2 v3 v4 v5 w _ q; omega
  | succ n ih =>
    intro v0 v1 v2 v3 v4 v5 w hI hn
    exact step _ v0 v1 v2 v3 v4 v5 w hI fun v0' v1' v2' v3' v4' v5' w' hI2 hm => ih v0' v1' v2' v3' v4' v5' w' hI2 (by omega)
theorem iX1_reduce_l2 {F : Nat} {C : yC}  (I : Nat → Option Nat → Int → zO → Prop) (μ : Nat → Option Nat → Int → zO → Nat) (P : Option zO → Prop) (step : ∀ (r : Nat → Option Nat → Int → zO → Option zO) (v0 : Nat) (v1 : Option Nat) (v2 : Int) (w : zO), I v0 v1 v2 w → (∀ (v0' : Nat) (v1' : Option Nat) (v2' : Int) (w' : zO), I v0' v1' v2' w' → μ v0' v1' v2' w' < μ v0 v1 v2 w → P (r v0' v1' v2' w')) → P (zX1_reduce_h2 F C r  v0 v1 v2 w)) : ∀ (n : Nat) (v0 : Nat) (v1 : Option Nat) (v2 : Int) (w : zO), I v0 v1 v2 w → μ v0 v1 v2 w < n → P (zX1_reduce_l2 F C  n v0 v1 v2 w) := by
  intro n
  induction n with
  | zero => intro v0 v1 v2 w _ q; omega
  | succ n ih =>
    intro v0 v1 v2 w hI hn
    exact step _ v0 v1 v2 w hI fun v0' v1' v2' w' hI2 hm => ih v0' v1' v2' w' hI2 (by omega)
theorem iX5_numberOf_l31 {F : Nat} {C : yC} {k86 : Option Nat → Int → zO → Option (Int × zO)} (I : Nat → Option Nat → Int → Int → Int → Int → zO → Prop) (μ : Nat → Option Nat → Int → Int → Int → Int → zO → Nat) (P : Option (Int × zO) → Prop) (step : ∀ (r : Nat → Option Nat → Int → Int → Int → Int → zO → Option (Int × zO)) (v0 : Nat) (v1 : Option Nat) (v6 : Int) (v7 : Int) (v8 : Int) (v9 : Int) (w : zO), I v0 v1 v6 v7 v8 v9 w → (∀ (v0' : Nat) (v1' : Option Nat) (v6' : Int) (v7' : Int) (v8' : Int) (v9' : Int) (w' : zO), I v0' v1' v6' v7' v8' v9' w' → μ v0' v1' v6' v7' v8' v9' w' < μ v0 v1 v6 v7 v8 v9 w → P (r v0' v1' v6' v7' v8' v9' w')) → P (zX5_numberOf_h31 F C r k86 v0 v1 v6 v7 v8 v9 w)) : ∀ (n : Nat) (v0 : Nat) (v1 : Option Nat) (v6 : Int) (v7 : Int) (v8 : Int) (v9 : Int) (w : zO), I v0 v1 v6 v7 v8 v9 w → μ v0 v1 v6 v7 v8 v9 w < n → P (zX5_numberOf_l31 F C k86 n v0 v1 v6 v7 v8 v9 w) := by
  intro n
  induction n with
  | zero => intro v0 v1 v6 v7 v8 v9 w _ q; omega
  | succ n ih =>
    intro v0 v1 v6 v7 v8 v9 w hI hn
    exact step _ v0 v1 v6 v7 v8 v9 w hI fun v0' v1' v6' v7' v8' v9' w' hI2 hm => ih v0' v1' v6' v7' v8' v9' w' hI2 (by omega)
theorem iX5_readPair_l29 {F : Nat} {C : yC} {k110 : Nat → Option Nat → Option Nat → Int → Int → Int → zO → Option (Int × zO)} (I : Nat → Option Nat → Option Nat → Int → Int → Int → Int → zO → Prop) (μ : Nat → Option Nat → Option Nat → Int → Int → Int → Int → zO → Nat) (P : Option (Int × zO) → Prop) (step : ∀ (r : Nat → Option Nat → Option Nat → Int → Int → Int → Int → zO → Option (Int × zO)) (v0 : Nat) (v1 : Option Nat) (v2 : Option Nat) (v3 : Int) (v4 : Int) (v5 : Int) (v6 : Int) (w : zO), I v0 v1 v2 v3 v4 v5 v6 w → (∀ (v0' : Nat) (v1' : Option Nat) (v2' : Option Nat) (v3' : Int) (v4' : Int) (v5' : Int) (v6' : Int) (w' : zO), I v0' v1' v2' v3' v4' v5' v6' w' → μ v0' v1' v2' v3' v4' v5' v6' w' < μ v0 v1 v2 v3 v4 v5 v6 w → P (r v0' v1' v2' v3' v4' v5' v6' w')) → P (zX5_readPair_h29 F C r k110 v0 v1 v2 v3 v4 v5 v6 w)) : ∀ (n : Nat) (v0 : Nat) (v1 : Option Nat) (v2 : Option Nat) (v3 : Int) (v4 : Int) (v5 : Int) (v6 : Int) (w : zO), I v0 v1 v2 v3 v4 v5 v6 w → μ v0 v1 v2 v3 v4 v5 v6 w < n → P (zX5_readPair_l29 F C k110 n v0 v1 v2 v3 v4 v5 v6 w) := by
  intro n
  induction n with
  | zero => intro v0 v1 v2 v3 v4 v5 v6 w _ q; omega
  | succ n ih =>
    intro v0 v1 v2 v3 v4 v5 v6 w hI hn
    exact step _ v0 v1 v2 v3 v4 v5 v6 w hI fun v0' v1' v2' v3' v4' v5' v6' w' hI2 hm => ih v0' v1' v2' v3' v4' v5' v6' w' hI2 (by omega)
theorem iX5_readPair_l20 {F : Nat} {C : yC} {k116 : Nat → Option Nat → Option Nat → Int → Int → zO → Option (Int × zO)} (I : Nat → Option Nat → Option Nat → Int → Int → Int → zO → Prop) (μ : Nat → Option Nat → Option Nat → Int → Int → Int → zO → Nat) (P : Option (Int × zO) → Prop) (step : ∀ (r : Nat → Option Nat → Option Nat → Int → Int → Int → zO → Option (Int × zO)) (v0 : Nat) (v1 : Option Nat) (v2 : Option Nat) (v3 : Int) (v4 : Int) (v5 : Int) (w : zO), I v0 v1 v2 v3 v4 v5 w → (∀ (v0' : Nat) (v1' : Option Nat) (v2' : Option Nat) (v3' : Int) (v4' : Int) (v5' : Int) (w' : zO), I v0' v1' v2' v3' v4' v5' w' → μ v0' v1' v2' v3' v4' v5' w' < μ v0 v1 v2 v3 v4 v5 w → P (r v0' v1' v2' v3' v4' v5' w')) → P (zX5_readPair_h20 F C r k116 v0 v1 v2 v3 v4 v5 w)) : ∀ (n : Nat) (v0 : Nat) (v1 : Option Nat) (v2 : Option Nat) (v3 : Int) (v4 : Int) (v5 : Int) (w : zO), I v0 v1 v2 v3 v4 v5 w → μ v0 v1 v2 v3 v4 v5 w < n → P (zX5_readPair_l20 F C k116 n v0 v1 v2 v3 v4 v5 w) := by
  intro n
  induction n with
  | zero => intro v0 v1 v2 v3 v4 v5 w _ q; omega
  | succ n ih =>
    intro v0 v1 v2 v3 v4 v5 w hI hn
    exact step _ v0 v1 v2 v3 v4 v5 w hI fun v0' v1' v2' v3' v4' v5' w' hI2 hm => ih v0' v1' v2' v3' v4' v5' w' hI2 (by omega)
theorem iX5_readPair_l11 {F : Nat} {C : yC}  (I : Nat → Option Nat → Option Nat → Int → Int → zO → Prop) (μ : Nat → Option Nat → Option Nat → Int → Int → zO → Nat) (P : Option (Int × zO) → Prop) (step : ∀ (r : Nat → Option Nat → Option Nat → Int → Int → zO → Option (Int × zO)) (v0 : Nat) (v1 : Option Nat) (v2 : Option Nat) (v3 : Int) (v4 : Int) (w : zO), I v0 v1 v2 v3 v4 w → (∀ (v0' : Nat) (v1' : Option Nat) (v2' : Option Nat) (v3' : Int) (v4' : Int) (w' : zO), I v0' v1' v2' v3' v4' w' → μ v0' v1' v2' v3' v4' w' < μ v0 v1 v2 v3 v4 w → P (r v0' v1' v2' v3' v4' w')) → P (zX5_readPair_h11 F C r  v0 v1 v2 v3 v4 w)) : ∀ (n : Nat) (v0 : Nat) (v1 : Option Nat) (v2 : Option Nat) (v3 : Int) (v4 : Int) (w : zO), I v0 v1 v2 v3 v4 w → μ v0 v1 v2 v3 v4 w < n → P (zX5_readPair_l11 F C  n v0 v1 v2 v3 v4 w) := by
  intro n
  induction n with
  | zero => intro v0 v1 v2 v3 v4 w _ q; omega
  | succ n ih =>
    intro v0 v1 v2 v3 v4 w hI hn
    exact step _ v0 v1 v2 v3 v4 w hI fun v0' v1' v2' v3' v4' w' hI2 hm => ih v0' v1' v2' v3' v4' w' hI2 (by omega)
theorem iX5_writeStandard_l49 {F : Nat} {C : yC} {k87 : Nat → Option Nat → Int → Int → Int → Int → Int → zO → Option zO} (I : Nat → Option Nat → Int → Int → Int → Int → Int → Int → Int → zO → Prop) (μ : Nat → Option Nat → Int → Int → Int → Int → Int → Int → Int → zO → Nat) (P : Option zO → Prop) (step : ∀ (r : Nat → Option Nat → Int → Int → Int → Int → Int → Int → Int → zO → Option zO) (v0 : Nat) (v1 : Option Nat) (v2 : Int) (v3 : Int) (v4 : Int) (v5 : Int) (v6 : Int) (v7 : Int) (v8 : Int) (w : zO), I v0 v1 v2 v3 v4 v5 v6 v7 v8 w → (∀ (v0' : Nat) (v1' : Option Nat) (v2' : Int) (v3' : Int) (v4' : Int) (v5' : Int) (v6' : Int) (v7' : Int) (v8' : Int) (w' : zO), I v0' v1' v2' v3' v4' v5' v6' v7' v8' w' → μ v0' v1' v2' v3' v4' v5' v6' v7' v8' w' < μ v0 v1 v2 v3 v4 v5 v6 v7 v8 w → P (r v0' v1' v2' v3' v4' v5' v6' v7' v8' w')) → P (zX5_writeStandard_h49 F C r k87 v0 v1 v2 v3 v4 v5 v6 v7 v8 w)) : ∀ (n : Nat) (v0 : Nat) (v1 : Option Nat) (v2 : Int) (v3 : Int) (v4 : Int) (v5 : Int) (v6 : Int) (v7 : Int) (v8 : Int) (w : zO), I v0 v1 v2 v3 v4 v5 v6 v7 v8 w → μ v0 v1 v2 v3 v4 v5 v6 v7 v8 w < n → P (zX5_writeStandard_l49 F C k87 n v0 v1 v2 v3 v4 v5 v6 v7 v8 w) := by
  intro n
  induction n with
  | zero => intro v0 v1 v2 v3 v4 v5 v6 v7 v8 w _ q; omega
  | succ n ih =>
    intro v0 v1 v2 v3 v4 v5 v6 v7 v8 w hI hn
    exact step _ v0 v1 v2 v3 v4 v5 v6 v7 v8 w hI fun v0' v1' v2' v3' v4' v5' v6' v7' v8' w' hI2 hm => ih v0' v1' v2' v3' v4' v5' v6' v7' v8' w' hI2 (by omega)
theorem iX5_writeStandard_l20 {F : Nat} {C : yC}  (I : Nat → Option Nat → Int → Int → Int → Int → zO → Prop) (μ : Nat → Option Nat → Int → Int → Int → Int → zO → Nat) (P : Option zO → Prop) (step : ∀ (r : Nat → Option Nat → Int → Int → Int → Int → zO → Option zO) (v0 : Nat) (v1 : Option Nat) (v2 : Int) (v3 : Int) (v4 : Int) (v5 : Int) (w : zO), I v0 v1 v2 v3 v4 v5 w → (∀ (v0' : Nat) (v1' : Option Nat) (v2' : Int) (v3' : Int) (v4' : Int) (v5' : Int) (w' : zO), I v0' v1' v2' v3' v4' v5' w' → μ v0' v1' v2' v3' v4' v5' w' < μ v0 v1 v2 v3 v4 v5 w → P (r v0' v1' v2' v3' v4' v5' w')) → P (zX5_writeStandard_h20 F C r  v0 v1 v2 v3 v4 v5 w)) : ∀ (n : Nat) (v0 : Nat) (v1 : Option Nat) (v2 : Int) (v3 : Int) (v4 : Int) (v5 : Int) (w : zO), I v0 v1 v2 v3 v4 v5 w → μ v0 v1 v2 v3 v4 v5 w < n → P (zX5_writeStandard_l20 F C  n v0 v1 v2 v3 v4 v5 w) := by
  intro n
  induction n with
  | zero => intro v0 v1 v2 v3 v4 v5 w _ q; omega
  | succ n ih =>
    intro v0 v1 v2 v3 v4 v5 w hI hn
    exact step _ v0 v1 v2 v3 v4 v5 w hI fun v0' v1' v2' v3' v4' v5' w' hI2 hm => ih v0' v1' v2' v3' v4' v5' w' hI2 (by omega)
theorem iX6_addDigits_l9 {F : Nat} {C : yC}  (I : Int → Int → Int → Int → Int → Int → Int → zO → Prop) (μ : Int → Int → Int → Int → Int → Int → Int → zO → Nat) (P : Option (Int × zO) → Prop) (step : ∀ (r : Int → Int → Int → Int → Int → Int → Int → zO → Option (Int × zO)) (v0 : Int) (v1 : Int) (v2 : Int) (v3 : Int) (v4 : Int) (v5 : Int) (v6 : Int) (w : zO), I v0 v1 v2 v3 v4 v5 v6 w → (∀ (v0' : Int) (v1' : Int) (v2' : Int) (v3' : Int) (v4' : Int) (v5' : Int) (v6' : Int) (w' : zO), I v0' v1' v2' v3' v4' v5' v6' w' → μ v0' v1' v2' v3' v4' v5' v6' w' < μ v0 v1 v2 v3 v4 v5 v6 w → P (r v0' v1' v2' v3' v4' v5' v6' w')) → P (zX6_addDigits_h9 F C r  v0 v1 v2 v3 v4 v5 v6 w)) : ∀ (n : Nat) (v0 : Int) (v1 : Int) (v2 : Int) (v3 : Int) (v4 : Int) (v5 : Int) (v6 : Int) (w : zO), I v0 v1 v2 v3 v4 v5 v6 w → μ v0 v1 v2 v3 v4 v5 v6 w < n → P (zX6_addDigits_l9 F C  n v0 v1 v2 v3 v4 v5 v6 w) := by
  intro n
  induction n with
  | zero => intro v0 v1 v2 v3 v4 v5 v6 w _ q; omega
  | succ n ih =>
    intro v0 v1 v2 v3 v4 v5 v6 w hI hn
    exact step _ v0 v1 v2 v3 v4 v5 v6 w hI fun v0' v1' v2' v3' v4' v5' v6' w' hI2 hm => ih v0' v1' v2' v3' v4' v5' v6' w' hI2 (by omega)
theorem iX0_firstUnsound_l12 {F : Nat} {C : yC} {k50 : Nat → Int → zO → Option (Int × zO)} (I : Nat → Int → Int → zO → Prop) (μ : Nat → Int → Int → zO → Nat) (P : Option (Int × zO) → Prop) (step : ∀ (r : Nat → Int → Int → zO → Option (Int × zO)) (v0 : Nat) (v1 : Int) (v2 : Int) (w : zO), I v0 v1 v2 w → (∀ (v0' : Nat) (v1' : Int) (v2' : Int) (w' : zO), I v0' v1' v2' w' → μ v0' v1' v2' w' < μ v0 v1 v2 w → P (r v0' v1' v2' w')) → P (zX0_firstUnsound_h12 F C r k50 v0 v1 v2 w)) : ∀ (n : Nat) (v0 : Nat) (v1 : Int) (v2 : Int) (w : zO), I v0 v1 v2 w → μ v0 v1 v2 w < n → P (zX0_firstUnsound_l12 F C k50 n v0 v1 v2 w) := by
  intro n
  induction n with
  | zero => intro v0 v1 v2 w _ q; omega
  | succ n ih =>
    intro v0 v1 v2 w hI hn
    exact step _ v0 v1 v2 w hI fun v0' v1' v2' w' hI2 hm => ih v0' v1' v2' w' hI2 (by omega)
theorem iX0_firstUnsound_l2 {F : Nat} {C : yC} {k56 : Nat → zO → Option (Int × zO)} (I : Nat → Int → zO → Prop) (μ : Nat → Int → zO → Nat) (P : Option (Int × zO) → Prop) (step : ∀ (r : Nat → Int → zO → Option (Int × zO)) (v0 : Nat) (v1 : Int) (w : zO), I v0 v1 w → (∀ (v0' : Nat) (v1' : Int) (w' : zO), I v0' v1' w' → μ v0' v1' w' < μ v0 v1 w → P (r v0' v1' w')) → P (zX0_firstUnsound_h2 F C r k56 v0 v1 w)) : ∀ (n : Nat) (v0 : Nat) (v1 : Int) (w : zO), I v0 v1 w → μ v0 v1 w < n → P (zX0_firstUnsound_l2 F C k56 n v0 v1 w) := by
  intro n
  induction n with
  | zero => intro v0 v1 w _ q; omega
  | succ n ih =>
    intro v0 v1 w hI hn
    exact step _ v0 v1 w hI fun v0' v1' w' hI2 hm => ih v0' v1' w' hI2 (by omega)
theorem iX0_firstUnsound_l71 {F : Nat} {C : yC} {k111 : Nat → Int → zO → Option (Int × zO)} {k91 : Nat → Int → Int → zO → Option (Int × zO)} (I : Nat → Int → Int → zO → Prop) (μ : Nat → Int → Int → zO → Nat) (P : Option (Int × zO) → Prop) (step : ∀ (r : Nat → Int → Int → zO → Option (Int × zO)) (v0 : Nat) (v1 : Int) (v2 : Int) (w : zO), I v0 v1 v2 w → (∀ (v0' : Nat) (v1' : Int) (v2' : Int) (w' : zO), I v0' v1' v2' w' → μ v0' v1' v2' w' < μ v0 v1 v2 w → P (r v0' v1' v2' w')) → P (zX0_firstUnsound_h71 F C r k111 k91 v0 v1 v2 w)) : ∀ (n : Nat) (v0 : Nat) (v1 : Int) (v2 : Int) (w : zO), I v0 v1 v2 w → μ v0 v1 v2 w < n → P (zX0_firstUnsound_l71 F C k111 k91 n v0 v1 v2 w) := by
  intro n
  induction n with
  | zero => intro v0 v1 v2 w _ q; omega
  | succ n ih =>
    intro v0 v1 v2 w hI hn
    exact step _ v0 v1 v2 w hI fun v0' v1' v2' w' hI2 hm => ih v0' v1' v2' w' hI2 (by omega)
theorem iX0_firstUnsound_l58 {F : Nat} {C : yC} {k91 : Nat → Int → Int → zO → Option (Int × zO)} (I : Nat → Int → zO → Prop) (μ : Nat → Int → zO → Nat) (P : Option (Int × zO) → Prop) (step : ∀ (r : Nat → Int → zO → Option (Int × zO)) (v0 : Nat) (v1 : Int) (w : zO), I v0 v1 w → (∀ (v0' : Nat) (v1' : Int) (w' : zO), I v0' v1' w' → μ v0' v1' w' < μ v0 v1 w → P (r v0' v1' w')) → P (zX0_firstUnsound_h58 F C r k91 v0 v1 w)) : ∀ (n : Nat) (v0 : Nat) (v1 : Int) (w : zO), I v0 v1 w → μ v0 v1 w < n → P (zX0_firstUnsound_l58 F C k91 n v0 v1 w) := by
  intro n
  induction n with
  | zero => intro v0 v1 w _ q; omega
  | succ n ih =>
    intro v0 v1 w hI hn
    exact step _ v0 v1 w hI fun v0' v1' w' hI2 hm => ih v0' v1' w' hI2 (by omega)
theorem iX1_add_l2 {F : Nat} {C : yC} {k29 : Nat → Option Nat → zO → Option zO} (I : Nat → Option Nat → Int → zO → Prop) (μ : Nat → Option Nat → Int → zO → Nat) (P : Option zO → Prop) (step : ∀ (r : Nat → Option Nat → Int → zO → Option zO) (v0 : Nat) (v1 : Option Nat) (v2 : Int) (w : zO), I v0 v1 v2 w → (∀ (v0' : Nat) (v1' : Option Nat) (v2' : Int) (w' : zO), I v0' v1' v2' w' → μ v0' v1' v2' w' < μ v0 v1 v2 w → P (r v0' v1' v2' w')) → P (zX1_add_h2 F C r k29 v0 v1 v2 w)) : ∀ (n : Nat) (v0 : Nat) (v1 : Option Nat) (v2 : Int) (w : zO), I v0 v1 v2 w → μ v0 v1 v2 w < n → P (zX1_add_l2 F C k29 n v0 v1 v2 w) := by
  intro n
  induction n with
  | zero => intro v0 v1 v2 w _ q; omega
  | succ n ih =>
    intro v0 v1 v2 w hI hn
    exact step _ v0 v1 v2 w hI fun v0' v1' v2' w' hI2 hm => ih v0' v1' v2' w' hI2 (by omega)
theorem iX1_add_l68 {F : Nat} {C : yC} {k111 : Nat → Int → zO → Option zO} (I : Nat → Option Nat → Int → Int → Int → zO → Prop) (μ : Nat → Option Nat → Int → Int → Int → zO → Nat) (P : Option zO → Prop) (step : ∀ (r : Nat → Option Nat → Int → Int → Int → zO → Option zO) (v0 : Nat) (v1 : Option Nat) (v2 : Int) (v3 : Int) (v4 : Int) (w : zO), I v0 v1 v2 v3 v4 w → (∀ (v0' : Nat) (v1' : Option Nat) (v2' : Int) (v3' : Int) (v4' : Int) (w' : zO), I v0' v1' v2' v3' v4' w' → μ v0' v1' v2' v3' v4' w' < μ v0 v1 v2 v3 v4 w → P (r v0' v1' v2' v3' v4' w')) → P (zX1_add_h68 F C r k111 v0 v1 v2 v3 v4 w)) : ∀ (n : Nat) (v0 : Nat) (v1 : Option Nat) (v2 : Int) (v3 : Int) (v4 : Int) (w : zO), I v0 v1 v2 v3 v4 w → μ v0 v1 v2 v3 v4 w < n → P (zX1_add_l68 F C k111 n v0 v1 v2 v3 v4 w) := by
  intro n
  induction n with
  | zero => intro v0 v1 v2 v3 v4 w _ q; omega
  | succ n ih =>
    intro v0 v1 v2 v3 v4 w hI hn
    exact step _ v0 v1 v2 v3 v4 w hI fun v0' v1' v2' v3' v4' w' hI2 hm => ih v0' v1' v2' v3' v4' w' hI2 (by omega)
theorem iX5_classRead_l36 {F : Nat} {C : yC} {k69 : Nat → Int → zO → Option (Int × zO)} (I : Nat → Option Nat → Int → Int → zO → Prop) (μ : Nat → Option Nat → Int → Int → zO → Nat) (P : Option (Int × zO) → Prop) (step : ∀ (r : Nat → Option Nat → Int → Int → zO → Option (Int × zO)) (v0 : Nat) (v1 : Option Nat) (v3 : Int) (v4 : Int) (w : zO), I v0 v1 v3 v4 w → (∀ (v0' : Nat) (v1' : Option Nat) (v3' : Int) (v4' : Int) (w' : zO), I v0' v1' v3' v4' w' → μ v0' v1' v3' v4' w' < μ v0 v1 v3 v4 w → P (r v0' v1' v3' v4' w')) → P (zX5_classRead_h36 F C r k69 v0 v1 v3 v4 w)) : ∀ (n : Nat) (v0 : Nat) (v1 : Option Nat) (v3 : Int) (v4 : Int) (w : zO), I v0 v1 v3 v4 w → μ v0 v1 v3 v4 w < n → P (zX5_classRead_l36 F C k69 n v0 v1 v3 v4 w) := by
  intro n
  induction n with
  | zero => intro v0 v1 v3 v4 w _ q; omega
  | succ n ih =>
    intro v0 v1 v3 v4 w hI hn
    exact step _ v0 v1 v3 v4 w hI fun v0' v1' v3' v4' w' hI2 hm => ih v0' v1' v3' v4' w' hI2 (by omega)
theorem iX5_vectorOf_l11 {F : Nat} {C : yC}  (I : Nat → Option Nat → Int → Int → Int → Int → Int → zO → Prop) (μ : Nat → Option Nat → Int → Int → Int → Int → Int → zO → Nat) (P : Option (Int × zO) → Prop) (step : ∀ (r : Nat → Option Nat → Int → Int → Int → Int → Int → zO → Option (Int × zO)) (v0 : Nat) (v1 : Option Nat) (v2 : Int) (v3 : Int) (v4 : Int) (v5 : Int) (v6 : Int) (w : zO), I v0 v1 v2 v3 v4 v5 v6 w → (∀ (v0' : Nat) (v1' : Option Nat) (v2' : Int) (v3' : Int) (v4' : Int) (v5' : Int) (v6' : Int) (w' : zO), I v0' v1' v2' v3' v4' v5' v6' w' → μ v0' v1' v2' v3' v4' v5' v6' w' < μ v0 v1 v2 v3 v4 v5 v6 w → P (r v0' v1' v2' v3' v4' v5' v6' w')) → P (zX5_vectorOf_h11 F C r  v0 v1 v2 v3 v4 v5 v6 w)) : ∀ (n : Nat) (v0 : Nat) (v1 : Option Nat) (v2 : Int) (v3 : Int) (v4 : Int) (v5 : Int) (v6 : Int) (w : zO), I v0 v1 v2 v3 v4 v5 v6 w → μ v0 v1 v2 v3 v4 v5 v6 w < n → P (zX5_vectorOf_l11 F C  n v0 v1 v2 v3 v4 v5 v6 w) := by
  intro n
  induction n with
  | zero => intro v0 v1 v2 v3 v4 v5 v6 w _ q; omega
  | succ n ih =>
    intro v0 v1 v2 v3 v4 v5 v6 w hI hn
    exact step _ v0 v1 v2 v3 v4 v5 v6 w hI fun v0' v1' v2' v3' v4' v5' v6' w' hI2 hm => ih v0' v1' v2' v3' v4' v5' v6' w' hI2 (by omega)
theorem iX2_fillOver_l90 {F : Nat} {C : yC} {k143 : Nat → Option Nat → Int → Option Nat → Int → Int → Int → Int → Int → zO → Option zO} (I : Nat → Option Nat → Int → Option Nat → Int → Int → Int → Int → Int → Int → Int → zO → Prop) (μ : Nat → Option Nat → Int → Option Nat → Int → Int → Int → Int → Int → Int → Int → zO → Nat) (P : Option zO → Prop) (step : ∀ (r : Nat → Option Nat → Int → Option Nat → Int → Int → Int → Int → Int → Int → Int → zO → Option zO) (v0 : Nat) (v1 : Option Nat) (v2 : Int) (v3 : Option Nat) (v4 : Int) (v5 : Int) (v6 : Int) (v7 : Int) (v8 : Int) (v9 : Int) (v10 : Int) (w : zO), I v0 v1 v2 v3 v4 v5 v6 v7 v8 v9 v10 w → (∀ (v0' : Nat) (v1' : Option Nat) (v2' : Int) (v3' : Option Nat) (v4' : Int) (v5' : Int) (v6' : Int) (v7' : Int) (v8' : Int) (v9' : Int) (v10' : Int) (w' : zO), I v0' v1' v2' v3' v4' v5' v6' v7' v8' v9' v10' w' → μ v0' v1' v2' v3' v4' v5' v6' v7' v8' v9' v10' w' < μ v0 v1 v2 v3 v4 v5 v6 v7 v8 v9 v10 w → P (r v0' v1' v2' v3' v4' v5' v6' v7' v8' v9' v10' w')) → P (zX2_fillOver_h90 F C r k143 v0 v1 v2 v3 v4 v5 v6 v7 v8 v9 v10 w)) : ∀ (n : Nat) (v0 : Nat) (v1 : Option Nat) (v2 : Int) (v3 : Option Nat) (v4 : Int) (v5 : Int) (v6 : Int) (v7 : Int) (v8 : Int) (v9 : Int) (v10 : Int) (w : zO), I v0 v1 v2 v3 v4 v5 v6 v7 v8 v9 v10 w → μ v0 v1 v2 v3 v4 v5 v6 v7 v8 v9 v10 w < n → P (zX2_fillOver_l90 F C k143 n v0 v1 v2 v3 v4 v5 v6 v7 v8 v9 v10 w) := by
  intro n
  induction n with
  | zero => intro v0 v1 v2 v3 v4 v5 v6 v7 v8 v9 v10 w _ q; omega
  | succ n ih =>
    intro v0 v1 v2 v3 v4 v5 v6 v7 v8 v9 v10 w hI hn
    exact step _ v0 v1 v2 v3 v4 v5 v6 v7 v8 v9 v10 w hI fun v0' v1' v2' v3' v4' v5' v6' v7' v8' v9' v10' w' hI2 hm => ih v0' v1' v2' v3' v4' v5' v6' v7' v8' v9' v10' w' hI2 (by omega)
theorem iX2_fillOver_l64 {F : Nat} {C : yC} {k149 : Nat → Option Nat → Int → Option Nat → Int → Int → Int → zO → Option zO} (I : Nat → Option Nat → Int → Option Nat → Int → Int → Int → Int → Int → zO → Prop) (μ : Nat → Option Nat → Int → Option Nat → Int → Int → Int → Int → Int → zO → Nat) (P : Option zO → Prop) (step : ∀ (r : Nat → Option Nat → Int → Option Nat → Int → Int → Int → Int → Int → zO → Option zO) (v0 : Nat) (v1 : Option Nat) (v2 : Int) (v3 : Option Nat) (v4 : Int) (v5 : Int) (v6 : Int) (v7 : Int) (v8 : Int) (w : zO), I v0 v1 v2 v3 v4 v5 v6 v7 v8 w → (∀ (v0' : Nat) (v1' : Option Nat) (v2' : Int) (v3' : Option Nat) (v4' : Int) (v5' : Int) (v6' : Int) (v7' : Int) (v8' : Int) (w' : zO), I v0' v1' v2' v3' v4' v5' v6' v7' v8' w' → μ v0' v1' v2' v3' v4' v5' v6' v7' v8' w' < μ v0 v1 v2 v3 v4 v5 v6 v7 v8 w → P (r v0' v1' v2' v3' v4' v5' v6' v7' v8' w')) → P (zX2_fillOver_h64 F C r k149 v0 v1 v2 v3 v4 v5 v6 v7 v8 w)) : ∀ (n : Nat) (v0 : Nat) (v1 : Option Nat) (v2 : Int) (v3 : Option Nat) (v4 : Int) (v5 : Int) (v6 : Int) (v7 : Int) (v8 : Int) (w : zO), I v0 v1 v2 v3 v4 v5 v6 v7 v8 w → μ v0 v1 v2 v3 v4 v5 v6 v7 v8 w < n → P (zX2_fillOver_l64 F C k149 n v0 v1 v2 v3 v4 v5 v6 v7 v8 w) := by
  intro n
  induction n with
  | zero => intro v0 v1 v2 v3 v4 v5 v6 v7 v8 w _ q; omega
  | succ n ih =>
    intro v0 v1 v2 v3 v4 v5 v6 v7 v8 w hI hn
    exact step _ v0 v1 v2 v3 v4 v5 v6 v7 v8 w hI fun v0' v1' v2' v3' v4' v5' v6' v7' v8' w' hI2 hm => ih v0' v1' v2' v3' v4' v5' v6' v7' v8' w' hI2 (by omega)
theorem iX2_fillOver_l37 {F : Nat} {C : yC} {k155 : Nat → Option Nat → Int → Option Nat → Int → Int → zO → Option zO} (I : Nat → Option Nat → Int → Option Nat → Int → Int → Int → zO → Prop) (μ : Nat → Option Nat → Int → Option Nat → Int → Int → Int → zO → Nat) (P : Option zO → Prop) (step : ∀ (r : Nat → Option Nat → Int → Option Nat → Int → Int → Int → zO → Option zO) (v0 : Nat) (v1 : Option Nat) (v2 : Int) (v3 : Option Nat) (v4 : Int) (v5 : Int) (v6 : Int) (w : zO), I v0 v1 v2 v3 v4 v5 v6 w → (∀ (v0' : Nat) (v1' : Option Nat) (v2' : Int) (v3' : Option Nat) (v4' : Int) (v5' : Int) (v6' : Int) (w' : zO), I v0' v1' v2' v3' v4' v5' v6' w' → μ v0' v1' v2' v3' v4' v5' v6' w' < μ v0 v1 v2 v3 v4 v5 v6 w → P (r v0' v1' v2' v3' v4' v5' v6' w')) → P (zX2_fillOver_h37 F C r k155 v0 v1 v2 v3 v4 v5 v6 w)) : ∀ (n : Nat) (v0 : Nat) (v1 : Option Nat) (v2 : Int) (v3 : Option Nat) (v4 : Int) (v5 : Int) (v6 : Int) (w : zO), I v0 v1 v2 v3 v4 v5 v6 w → μ v0 v1 v2 v3 v4 v5 v6 w < n → P (zX2_fillOver_l37 F C k155 n v0 v1 v2 v3 v4 v5 v6 w) := by
  intro n
  induction n with
  | zero => intro v0 v1 v2 v3 v4 v5 v6 w _ q; omega
  | succ n ih =>
    intro v0 v1 v2 v3 v4 v5 v6 w hI hn
    exact step _ v0 v1 v2 v3 v4 v5 v6 w hI fun v0' v1' v2' v3' v4' v5' v6' w' hI2 hm => ih v0' v1' v2' v3' v4' v5' v6' w' hI2 (by omega)
theorem iX2_fillOver_l25 {F : Nat} {C : yC}  (I : Nat → Option Nat → Int → Option Nat → Int → Int → zO → Prop) (μ : Nat → Option Nat → Int → Option Nat → Int → Int → zO → Nat) (P : Option zO → Prop) (step : ∀ (r : Nat → Option Nat → Int → Option Nat → Int → Int → zO → Option zO) (v0 : Nat) (v1 : Option Nat) (v2 : Int) (v3 : Option Nat) (v4 : Int) (v5 : Int) (w : zO), I v0 v1 v2 v3 v4 v5 w → (∀ (v0' : Nat) (v1' : Option Nat) (v2' : Int) (v3' : Option Nat) (v4' : Int) (v5' : Int) (w' : zO), I v0' v1' v2' v3' v4' v5' w' → μ v0' v1' v2' v3' v4' v5' w' < μ v0 v1 v2 v3 v4 v5 w → P (r v0' v1' v2' v3' v4' v5' w')) → P (zX2_fillOver_h25 F C r  v0 v1 v2 v3 v4 v5 w)) : ∀ (n : Nat) (v0 : Nat) (v1 : Option Nat) (v2 : Int) (v3 : Option Nat) (v4 : Int) (v5 : Int) (w : zO), I v0 v1 v2 v3 v4 v5 w → μ v0 v1 v2 v3 v4 v5 w < n → P (zX2_fillOver_l25 F C  n v0 v1 v2 v3 v4 v5 w) := by
  intro n
  induction n with
  | zero => intro v0 v1 v2 v3 v4 v5 w _ q; omega
  | succ n ih =>
    intro v0 v1 v2 v3 v4 v5 w hI hn
    exact step _ v0 v1 v2 v3 v4 v5 w hI fun v0' v1' v2' v3' v4' v5' w' hI2 hm => ih v0' v1' v2' v3' v4' v5' w' hI2 (by omega)
theorem iX5_findBounds_l48 {F : Nat} {C : yC} {k80 : Nat → Option Nat → Int → zO → Option zO} (I : Nat → Option Nat → Int → Int → zO → Prop) (μ : Nat → Option Nat → Int → Int → zO → Nat) (P : Option zO → Prop) (step : ∀ (r : Nat → Option Nat → Int → Int → zO → Option zO) (v0 : Nat) (v1 : Option Nat) (v2 : Int) (v3 : Int) (w : zO), I v0 v1 v2 v3 w → (∀ (v0' : Nat) (v1' : Option Nat) (v2' : Int) (v3' : Int) (w' : zO), I v0' v1' v2' v3' w' → μ v0' v1' v2' v3' w' < μ v0 v1 v2 v3 w → P (r v0' v1' v2' v3' w')) → P (zX5_findBounds_h48 F C r k80 v0 v1 v2 v3 w)) : ∀ (n : Nat) (v0 : Nat) (v1 : Option Nat) (v2 : Int) (v3 : Int) (w : zO), I v0 v1 v2 v3 w → μ v0 v1 v2 v3 w < n → P (zX5_findBounds_l48 F C k80 n v0 v1 v2 v3 w) := by
  intro n
  induction n with
  | zero => intro v0 v1 v2 v3 w _ q; omega
  | succ n ih =>
    intro v0 v1 v2 v3 w hI hn
    exact step _ v0 v1 v2 v3 w hI fun v0' v1' v2' v3' w' hI2 hm => ih v0' v1' v2' v3' w' hI2 (by omega)
theorem iX5_findBounds_l35 {F : Nat} {C : yC}  (I : Nat → Option Nat → Int → zO → Prop) (μ : Nat → Option Nat → Int → zO → Nat) (P : Option zO → Prop) (step : ∀ (r : Nat → Option Nat → Int → zO → Option zO) (v0 : Nat) (v1 : Option Nat) (v2 : Int) (w : zO), I v0 v1 v2 w → (∀ (v0' : Nat) (v1' : Option Nat) (v2' : Int) (w' : zO), I v0' v1' v2' w' → μ v0' v1' v2' w' < μ v0 v1 v2 w → P (r v0' v1' v2' w')) → P (zX5_findBounds_h35 F C r  v0 v1 v2 w)) : ∀ (n : Nat) (v0 : Nat) (v1 : Option Nat) (v2 : Int) (w : zO), I v0 v1 v2 w → μ v0 v1 v2 w < n → P (zX5_findBounds_l35 F C  n v0 v1 v2 w) := by
  intro n
  induction n with
  | zero => intro v0 v1 v2 w _ q; omega
  | succ n ih =>
    intro v0 v1 v2 w hI hn
    exact step _ v0 v1 v2 w hI fun v0' v1' v2' w' hI2 hm => ih v0' v1' v2' w' hI2 (by omega)
theorem iX5_findStandards_l20 {F : Nat} {C : yC} {k68 : Nat → Option Nat → zO → Option zO} (I : Nat → Option Nat → Option Nat → Int → Int → zO → Prop) (μ : Nat → Option Nat → Option Nat → Int → Int → zO → Nat) (P : Option zO → Prop) (step : ∀ (r : Nat → Option Nat → Option Nat → Int → Int → zO → Option zO) (v0 : Nat) (v1 : Option Nat) (v2 : Option Nat) (v3 : Int) (v4 : Int) (w : zO), I v0 v1 v2 v3 v4 w → (∀ (v0' : Nat) (v1' : Option Nat) (v2' : Option Nat) (v3' : Int) (v4' : Int) (w' : zO), I v0' v1' v2' v3' v4' w' → μ v0' v1' v2' v3' v4' w' < μ v0 v1 v2 v3 v4 w → P (r v0' v1' v2' v3' v4' w')) → P (zX5_findStandards_h20 F C r k68 v0 v1 v2 v3 v4 w)) : ∀ (n : Nat) (v0 : Nat) (v1 : Option Nat) (v2 : Option Nat) (v3 : Int) (v4 : Int) (w : zO), I v0 v1 v2 v3 v4 w → μ v0 v1 v2 v3 v4 w < n → P (zX5_findStandards_l20 F C k68 n v0 v1 v2 v3 v4 w) := by
  intro n
  induction n with
  | zero => intro v0 v1 v2 v3 v4 w _ q; omega
  | succ n ih =>
    intro v0 v1 v2 v3 v4 w hI hn
    exact step _ v0 v1 v2 v3 v4 w hI fun v0' v1' v2' v3' v4' w' hI2 hm => ih v0' v1' v2' v3' v4' w' hI2 (by omega)
theorem iX5_findUnmoved_l40 {F : Nat} {C : yC} {k84 : Nat → Option Nat → Option Nat → Int → Int → zO → Option zO} (I : Nat → Option Nat → Option Nat → Int → Int → Int → zO → Prop) (μ : Nat → Option Nat → Option Nat → Int → Int → Int → zO → Nat) (P : Option zO → Prop) (step : ∀ (r : Nat → Option Nat → Option Nat → Int → Int → Int → zO → Option zO) (v0 : Nat) (v1 : Option Nat) (v2 : Option Nat) (v3 : Int) (v4 : Int) (v5 : Int) (w : zO), I v0 v1 v2 v3 v4 v5 w → (∀ (v0' : Nat) (v1' : Option Nat) (v2' : Option Nat) (v3' : Int) (v4' : Int) (v5' : Int) (w' : zO), I v0' v1' v2' v3' v4' v5' w' → μ v0' v1' v2' v3' v4' v5' w' < μ v0 v1 v2 v3 v4 v5 w → P (r v0' v1' v2' v3' v4' v5' w')) → P (zX5_findUnmoved_h40 F C r k84 v0 v1 v2 v3 v4 v5 w)) : ∀ (n : Nat) (v0 : Nat) (v1 : Option Nat) (v2 : Option Nat) (v3 : Int) (v4 : Int) (v5 : Int) (w : zO), I v0 v1 v2 v3 v4 v5 w → μ v0 v1 v2 v3 v4 v5 w < n → P (zX5_findUnmoved_l40 F C k84 n v0 v1 v2 v3 v4 v5 w) := by
  intro n
  induction n with
  | zero => intro v0 v1 v2 v3 v4 v5 w _ q; omega
  | succ n ih =>
    intro v0 v1 v2 v3 v4 v5 w hI hn
    exact step _ v0 v1 v2 v3 v4 v5 w hI fun v0' v1' v2' v3' v4' v5' w' hI2 hm => ih v0' v1' v2' v3' v4' v5' w' hI2 (by omega)
theorem iX5_findUnmoved_l28 {F : Nat} {C : yC} {k98 : Nat → Option Nat → Option Nat → Int → zO → Option zO} (I : Nat → Option Nat → Option Nat → Int → Int → zO → Prop) (μ : Nat → Option Nat → Option Nat → Int → Int → zO → Nat) (P : Option zO → Prop) (step : ∀ (r : Nat → Option Nat → Option Nat → Int → Int → zO → Option zO) (v0 : Nat) (v1 : Option Nat) (v2 : Option Nat) (v3 : Int) (v4 : Int) (w : zO), I v0 v1 v2 v3 v4 w → (∀ (v0' : Nat) (v1' : Option Nat) (v2' : Option Nat) (v3' : Int) (v4' : Int) (w' : zO), I v0' v1' v2' v3' v4' w' → μ v0' v1' v2' v3' v4' w' < μ v0 v1 v2 v3 v4 w → P (r v0' v1' v2' v3' v4' w')) → P (zX5_findUnmoved_h28 F C r k98 v0 v1 v2 v3 v4 w)) : ∀ (n : Nat) (v0 : Nat) (v1 : Option Nat) (v2 : Option Nat) (v3 : Int) (v4 : Int) (w : zO), I v0 v1 v2 v3 v4 w → μ v0 v1 v2 v3 v4 w < n → P (zX5_findUnmoved_l28 F C k98 n v0 v1 v2 v3 v4 w) := by
  intro n
  induction n with
  | zero => intro v0 v1 v2 v3 v4 w _ q; omega
  | succ n ih =>
    intro v0 v1 v2 v3 v4 w hI hn
    exact step _ v0 v1 v2 v3 v4 w hI fun v0' v1' v2' v3' v4' w' hI2 hm => ih v0' v1' v2' v3' v4' w' hI2 (by omega)
theorem iX5_findUnmoved_l14 {F : Nat} {C : yC} {k104 : Nat → Option Nat → Option Nat → zO → Option zO} (I : Nat → Option Nat → Option Nat → Int → zO → Prop) (μ : Nat → Option Nat → Option Nat → Int → zO → Nat) (P : Option zO → Prop) (step : ∀ (r : Nat → Option Nat → Option Nat → Int → zO → Option zO) (v0 : Nat) (v1 : Option Nat) (v2 : Option Nat) (v3 : Int) (w : zO), I v0 v1 v2 v3 w → (∀ (v0' : Nat) (v1' : Option Nat) (v2' : Option Nat) (v3' : Int) (w' : zO), I v0' v1' v2' v3' w' → μ v0' v1' v2' v3' w' < μ v0 v1 v2 v3 w → P (r v0' v1' v2' v3' w')) → P (zX5_findUnmoved_h14 F C r k104 v0 v1 v2 v3 w)) : ∀ (n : Nat) (v0 : Nat) (v1 : Option Nat) (v2 : Option Nat) (v3 : Int) (w : zO), I v0 v1 v2 v3 w → μ v0 v1 v2 v3 w < n → P (zX5_findUnmoved_l14 F C k104 n v0 v1 v2 v3 w) := by
  intro n
  induction n with
  | zero => intro v0 v1 v2 v3 w _ q; omega
  | succ n ih =>
    intro v0 v1 v2 v3 w hI hn
    exact step _ v0 v1 v2 v3 w hI fun v0' v1' v2' v3' w' hI2 hm => ih v0' v1' v2' v3' w' hI2 (by omega)
theorem iX5_writeEquations_l21 {F : Nat} {C : yC} {k72 : Nat → Option Nat → Option Nat → zO → Option zO} (I : Nat → Option Nat → Option Nat → Int → Int → zO → Prop) (μ : Nat → Option Nat → Option Nat → Int → Int → zO → Nat) (P : Option zO → Prop) (step : ∀ (r : Nat → Option Nat → Option Nat → Int → Int → zO → Option zO) (v0 : Nat) (v1 : Option Nat) (v2 : Option Nat) (v3 : Int) (v4 : Int) (w : zO), I v0 v1 v2 v3 v4 w → (∀ (v0' : Nat) (v1' : Option Nat) (v2' : Option Nat) (v3' : Int) (v4' : Int) (w' : zO), I v0' v1' v2' v3' v4' w' → μ v0' v1' v2' v3' v4' w' < μ v0 v1 v2 v3 v4 w → P (r v0' v1' v2' v3' v4' w')) → P (zX5_writeEquations_h21 F C r k72 v0 v1 v2 v3 v4 w)) : ∀ (n : Nat) (v0 : Nat) (v1 : Option Nat) (v2 : Option Nat) (v3 : Int) (v4 : Int) (w : zO), I v0 v1 v2 v3 v4 w → μ v0 v1 v2 v3 v4 w < n → P (zX5_writeEquations_l21 F C k72 n v0 v1 v2 v3 v4 w) := by
  intro n
  induction n with
  | zero => intro v0 v1 v2 v3 v4 w _ q; omega
  | succ n ih =>
    intro v0 v1 v2 v3 v4 w hI hn
    exact step _ v0 v1 v2 v3 v4 w hI fun v0' v1' v2' v3' v4' w' hI2 hm => ih v0' v1' v2' v3' v4' w' hI2 (by omega)
theorem iX5_writeEquations_l124 {F : Nat} {C : yC} {k168 : Nat → Option Nat → Option Nat → Int → Int → Int → Int → zO → Option zO} (I : Nat → Option Nat → Option Nat → Int → Int → Int → Int → Int → zO → Prop) (μ : Nat → Option Nat → Option Nat → Int → Int → Int → Int → Int → zO → Nat) (P : Option zO → Prop) (step : ∀ (r : Nat → Option Nat → Option Nat → Int → Int → Int → Int → Int → zO → Option zO) (v0 : Nat) (v1 : Option Nat) (v2 : Option Nat) (v4 : Int) (v5 : Int) (v6 : Int) (v7 : Int) (v8 : Int) (w : zO), I v0 v1 v2 v4 v5 v6 v7 v8 w → (∀ (v0' : Nat) (v1' : Option Nat) (v2' : Option Nat) (v4' : Int) (v5' : Int) (v6' : Int) (v7' : Int) (v8' : Int) (w' : zO), I v0' v1' v2' v4' v5' v6' v7' v8' w' → μ v0' v1' v2' v4' v5' v6' v7' v8' w' < μ v0 v1 v2 v4 v5 v6 v7 v8 w → P (r v0' v1' v2' v4' v5' v6' v7' v8' w')) → P (zX5_writeEquations_h124 F C r k168 v0 v1 v2 v4 v5 v6 v7 v8 w)) : ∀ (n : Nat) (v0 : Nat) (v1 : Option Nat) (v2 : Option Nat) (v4 : Int) (v5 : Int) (v6 : Int) (v7 : Int) (v8 : Int) (w : zO), I v0 v1 v2 v4 v5 v6 v7 v8 w → μ v0 v1 v2 v4 v5 v6 v7 v8 w < n → P (zX5_writeEquations_l124 F C k168 n v0 v1 v2 v4 v5 v6 v7 v8 w) := by
  intro n
  induction n with
  | zero => intro v0 v1 v2 v4 v5 v6 v7 v8 w _ q; omega
  | succ n ih =>
    intro v0 v1 v2 v4 v5 v6 v7 v8 w hI hn
    exact step _ v0 v1 v2 v4 v5 v6 v7 v8 w hI fun v0' v1' v2' v4' v5' v6' v7' v8' w' hI2 hm => ih v0' v1' v2' v4' v5' v6' v7' v8' w' hI2 (by omega)
theorem iX5_writeEquations_l109 {F : Nat} {C : yC} {k174 : Nat → Option Nat → Option Nat → Int → Int → Int → zO → Option zO} (I : Nat → Option Nat → Option Nat → Int → Int → Int → Int → zO → Prop) (μ : Nat → Option Nat → Option Nat → Int → Int → Int → Int → zO → Nat) (P : Option zO → Prop) (step : ∀ (r : Nat → Option Nat → Option Nat → Int → Int → Int → Int → zO → Option zO) (v0 : Nat) (v1 : Option Nat) (v2 : Option Nat) (v4 : Int) (v5 : Int) (v6 : Int) (v7 : Int) (w : zO), I v0 v1 v2 v4 v5 v6 v7 w → (∀ (v0' : Nat) (v1' : Option Nat) (v2' : Option Nat) (v4' : Int) (v5' : Int) (v6' : Int) (v7' : Int) (w' : zO), I v0' v1' v2' v4' v5' v6' v7' w' → μ v0' v1' v2' v4' v5' v6' v7' w' < μ v0 v1 v2 v4 v5 v6 v7 w → P (r v0' v1' v2' v4' v5' v6' v7' w')) → P (zX5_writeEquations_h109 F C r k174 v0 v1 v2 v4 v5 v6 v7 w)) : ∀ (n : Nat) (v0 : Nat) (v1 : Option Nat) (v2 : Option Nat) (v4 : Int) (v5 : Int) (v6 : Int) (v7 : Int) (w : zO), I v0 v1 v2 v4 v5 v6 v7 w → μ v0 v1 v2 v4 v5 v6 v7 w < n → P (zX5_writeEquations_l109 F C k174 n v0 v1 v2 v4 v5 v6 v7 w) := by
  intro n
  induction n with
  | zero => intro v0 v1 v2 v4 v5 v6 v7 w _ q; omega
  | succ n ih =>
    intro v0 v1 v2 v4 v5 v6 v7 w hI hn
    exact step _ v0 v1 v2 v4 v5 v6 v7 w hI fun v0' v1' v2' v4' v5' v6' v7' w' hI2 hm => ih v0' v1' v2' v4' v5' v6' v7' w' hI2 (by omega)
theorem iX5_writeEquations_l94 {F : Nat} {C : yC} {k180 : Nat → Option Nat → Option Nat → Int → Int → zO → Option zO} (I : Nat → Option Nat → Option Nat → Int → Int → Int → zO → Prop) (μ : Nat → Option Nat → Option Nat → Int → Int → Int → zO → Nat) (P : Option zO → Prop) (step : ∀ (r : Nat → Option Nat → Option Nat → Int → Int → Int → zO → Option zO) (v0 : Nat) (v1 : Option Nat) (v2 : Option Nat) (v4 : Int) (v5 : Int) (v6 : Int) (w : zO), I v0 v1 v2 v4 v5 v6 w → (∀ (v0' : Nat) (v1' : Option Nat) (v2' : Option Nat) (v4' : Int) (v5' : Int) (v6' : Int) (w' : zO), I v0' v1' v2' v4' v5' v6' w' → μ v0' v1' v2' v4' v5' v6' w' < μ v0 v1 v2 v4 v5 v6 w → P (r v0' v1' v2' v4' v5' v6' w')) → P (zX5_writeEquations_h94 F C r k180 v0 v1 v2 v4 v5 v6 w)) : ∀ (n : Nat) (v0 : Nat) (v1 : Option Nat) (v2 : Option Nat) (v4 : Int) (v5 : Int) (v6 : Int) (w : zO), I v0 v1 v2 v4 v5 v6 w → μ v0 v1 v2 v4 v5 v6 w < n → P (zX5_writeEquations_l94 F C k180 n v0 v1 v2 v4 v5 v6 w) := by
  intro n
  induction n with
  | zero => intro v0 v1 v2 v4 v5 v6 w _ q; omega
  | succ n ih =>
    intro v0 v1 v2 v4 v5 v6 w hI hn
    exact step _ v0 v1 v2 v4 v5 v6 w hI fun v0' v1' v2' v4' v5' v6' w' hI2 hm => ih v0' v1' v2' v4' v5' v6' w' hI2 (by omega)
theorem iX5_writeEquations_l84 {F : Nat} {C : yC}  (I : Nat → Option Nat → Option Nat → Int → Int → zO → Prop) (μ : Nat → Option Nat → Option Nat → Int → Int → zO → Nat) (P : Option zO → Prop) (step : ∀ (r : Nat → Option Nat → Option Nat → Int → Int → zO → Option zO) (v0 : Nat) (v1 : Option Nat) (v2 : Option Nat) (v4 : Int) (v5 : Int) (w : zO), I v0 v1 v2 v4 v5 w → (∀ (v0' : Nat) (v1' : Option Nat) (v2' : Option Nat) (v4' : Int) (v5' : Int) (w' : zO), I v0' v1' v2' v4' v5' w' → μ v0' v1' v2' v4' v5' w' < μ v0 v1 v2 v4 v5 w → P (r v0' v1' v2' v4' v5' w')) → P (zX5_writeEquations_h84 F C r  v0 v1 v2 v4 v5 w)) : ∀ (n : Nat) (v0 : Nat) (v1 : Option Nat) (v2 : Option Nat) (v4 : Int) (v5 : Int) (w : zO), I v0 v1 v2 v4 v5 w → μ v0 v1 v2 v4 v5 w < n → P (zX5_writeEquations_l84 F C  n v0 v1 v2 v4 v5 w) := by
  intro n
  induction n with
  | zero => intro v0 v1 v2 v4 v5 w _ q; omega
  | succ n ih =>
    intro v0 v1 v2 v4 v5 w hI hn
    exact step _ v0 v1 v2 v4 v5 w hI fun v0' v1' v2' v4' v5' w' hI2 hm => ih v0' v1' v2' v4' v5' w' hI2 (by omega)
