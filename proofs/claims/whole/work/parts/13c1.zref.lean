/-! .. and that the m-functions do what they say (laid by a program of mine) -/
set_option maxRecDepth 100000 in
theorem rX7_bounds_l31 {F m : Nat} {E : zS → gW → Prop} {w0 : gW} {k174 : Int → Int → zS → Option zS} {k174' : Nat → Int32 → Int32 → gW → Option (gW)} (hk174 : ∀ (a2 : Int) (a3 : Int) (Z : zS) (b2 : Int32) (b3 : Int32) (w : gW), b2 = Int32.ofInt a2 → b3 = Int32.ofInt a3 → oAt 7 lyZ w m (cvZ Z) → wF m (m + 27) w0 w → zR E (k174 a2 a3 Z) (k174' m b2 b3 w)) : ∀ (n : Nat) (v1 : Int) (v2 : Int) (v3 : Int) (w : zS) (v1' : Int32) (v2' : Int32) (v3' : Int32) (w' : gW), v1' = Int32.ofInt v1 → v2' = Int32.ofInt v2 → v3' = Int32.ofInt v3 → oAt 7 lyZ w' m (cvZ w) → wF m (m + 27) w0 w' → zR E (zX7_bounds_l31 F k174 n v1 v2 v3 w) (mX7_bounds_l31 F k174' n m v1' v2' v3' w') := by
  intro n
  induction n with
  | zero => intros; exact R_none
  | succ n ih =>
    intro v1 v2 v3 w v1' v2' v3' w' hv1 hv2 hv3 h_w f_w
    exact rX7_bounds_h31 ih hk174 hv1 hv2 hv3 h_w f_w
set_option maxRecDepth 100000 in
theorem rX7_bounds_h17 {F m : Nat} {E : zS → gW → Prop} {w0 : gW} {r : Int → Int → zS → Option zS} {r' : Nat → Int32 → Int32 → gW → Option (gW)} {k184 : Int → zS → Option zS} {k184' : Nat → Int32 → gW → Option (gW)} {v1 : Int} {v1' : Int32} {v2 : Int} {v2' : Int32} {w : zS} {w' : gW} (hr : ∀ (a2 : Int) (a3 : Int) (Z : zS) (b2 : Int32) (b3 : Int32) (w : gW), b2 = Int32.ofInt a2 → b3 = Int32.ofInt a3 → oAt 7 lyZ w m (cvZ Z) → wF m (m + 27) w0 w → zR E (r a2 a3 Z) (r' m b2 b3 w)) (hk184 : ∀ (a2 : Int) (Z : zS) (b2 : Int32) (w : gW), b2 = Int32.ofInt a2 → oAt 7 lyZ w m (cvZ Z) → wF m (m + 27) w0 w → zR E (k184 a2 Z) (k184' m b2 w)) (hv1 : v1' = Int32.ofInt v1) (hv2 : v2' = Int32.ofInt v2) (h_w : oAt 7 lyZ w' m (cvZ w)) (f_w : wF m (m + 27) w0 w') : zR E (zX7_bounds_h17 F r k184 v1 v2 w) (mX7_bounds_h17 F r' k184' m v1' v2' w') := by
  unfold zX7_bounds_h17 mX7_bounds_h17
  exact (R_FI h_w (k := 37) rfl (c := (zI w 37)) rfl (fun t19' ht19 =>
  (R_Le ht19 hv2
  (hk184 _ _ _ _ hv1 h_w f_w)
  (R_O h_w
    (R_C0 (rX7_clearLine h_w) f_w (fun q26 q26' h_q26 f_q26 =>
    (rX7_bounds_l31 (by exact (fun v1 v2 w v1' v2' w' hv1 hv2 h_w f_w =>
      (R_O h_w
      (R_C0 (rX7_settles h_w) f_w (fun q175 q175' h_q175 f_q175 =>
      (hr _ _ _ _ _ _ hv1 (eAdd hv2 (eL (by decide) : (1 : Int32) = Int32.ofInt (1 : Int))) h_q175 f_q175)))))) F _ _ _ _ _ _ _ _ hv1 hv2 (eL (by decide) : (1 : Int32) = Int32.ofInt (1 : Int)) h_q26 f_q26)))))))
set_option maxRecDepth 100000 in
theorem rX7_bounds_l17 {F m : Nat} {E : zS → gW → Prop} {w0 : gW} {k184 : Int → zS → Option zS} {k184' : Nat → Int32 → gW → Option (gW)} (hk184 : ∀ (a2 : Int) (Z : zS) (b2 : Int32) (w : gW), b2 = Int32.ofInt a2 → oAt 7 lyZ w m (cvZ Z) → wF m (m + 27) w0 w → zR E (k184 a2 Z) (k184' m b2 w)) : ∀ (n : Nat) (v1 : Int) (v2 : Int) (w : zS) (v1' : Int32) (v2' : Int32) (w' : gW), v1' = Int32.ofInt v1 → v2' = Int32.ofInt v2 → oAt 7 lyZ w' m (cvZ w) → wF m (m + 27) w0 w' → zR E (zX7_bounds_l17 F k184 n v1 v2 w) (mX7_bounds_l17 F k184' n m v1' v2' w') := by
  intro n
  induction n with
  | zero => intros; exact R_none
  | succ n ih =>
    intro v1 v2 w v1' v2' w' hv1 hv2 h_w f_w
    exact rX7_bounds_h17 ih hk184 hv1 hv2 h_w f_w
set_option maxRecDepth 100000 in
theorem rX7_bounds_h7 {F m : Nat} {E : zS → gW → Prop} {w0 : gW} {r : Int → zS → Option zS} {r' : Nat → Int32 → gW → Option (gW)} {k190 : zS → Option zS} {k190' : Nat → gW → Option (gW)} {v1 : Int} {v1' : Int32} {w : zS} {w' : gW} (hr : ∀ (a2 : Int) (Z : zS) (b2 : Int32) (w : gW), b2 = Int32.ofInt a2 → oAt 7 lyZ w m (cvZ Z) → wF m (m + 27) w0 w → zR E (r a2 Z) (r' m b2 w)) (hk190 : ∀ (Z : zS) (w : gW), oAt 7 lyZ w m (cvZ Z) → wF m (m + 27) w0 w → zR E (k190 Z) (k190' m w)) (hv1 : v1' = Int32.ofInt v1) (h_w : oAt 7 lyZ w' m (cvZ w)) (f_w : wF m (m + 27) w0 w') : zR E (zX7_bounds_h7 F r k190 v1 w) (mX7_bounds_h7 F r' k190' m v1' w') := by
  unfold zX7_bounds_h7 mX7_bounds_h7
  exact (R_FI h_w (k := 36) rfl (c := (zI w 36)) rfl (fun t9' ht9 =>
  (R_Le ht9 hv1
  (hk190 _ _ h_w f_w)
  (rX7_bounds_l17 (by exact (fun v1 w v1' w' hv1 h_w f_w =>
      (hr _ _ _ _ (eAdd hv1 (eL (by decide) : (1 : Int32) = Int32.ofInt (1 : Int))) h_w f_w))) F _ _ _ _ _ _ hv1 (eL (by decide) : (0 : Int32) = Int32.ofInt (0 : Int)) h_w f_w))))
set_option maxRecDepth 100000 in
theorem rX7_bounds_l7 {F m : Nat} {E : zS → gW → Prop} {w0 : gW} {k190 : zS → Option zS} {k190' : Nat → gW → Option (gW)} (hk190 : ∀ (Z : zS) (w : gW), oAt 7 lyZ w m (cvZ Z) → wF m (m + 27) w0 w → zR E (k190 Z) (k190' m w)) : ∀ (n : Nat) (v1 : Int) (w : zS) (v1' : Int32) (w' : gW), v1' = Int32.ofInt v1 → oAt 7 lyZ w' m (cvZ w) → wF m (m + 27) w0 w' → zR E (zX7_bounds_l7 F k190 n v1 w) (mX7_bounds_l7 F k190' n m v1' w') := by
  intro n
  induction n with
  | zero => intros; exact R_none
  | succ n ih =>
    intro v1 w v1' w' hv1 h_w f_w
    exact rX7_bounds_h7 ih hk190 hv1 h_w f_w
set_option maxRecDepth 100000 in
theorem rX7_bounds_h224 {F m : Nat} {E : zS → gW → Prop} {w0 : gW} {r : Int → Int → zS → Option zS} {r' : Nat → Int32 → Int32 → gW → Option (gW)} {k260 : Int → zS → Option zS} {k260' : Nat → Int32 → gW → Option (gW)} {v1 : Int} {v1' : Int32} {v2 : Int} {v2' : Int32} {w : zS} {w' : gW} (hr : ∀ (a2 : Int) (a3 : Int) (Z : zS) (b2 : Int32) (b3 : Int32) (w : gW), b2 = Int32.ofInt a2 → b3 = Int32.ofInt a3 → oAt 7 lyZ w m (cvZ Z) → wF m (m + 27) w0 w → zR E (r a2 a3 Z) (r' m b2 b3 w)) (hk260 : ∀ (a2 : Int) (Z : zS) (b2 : Int32) (w : gW), b2 = Int32.ofInt a2 → oAt 7 lyZ w m (cvZ Z) → wF m (m + 27) w0 w → zR E (k260 a2 Z) (k260' m b2 w)) (hv1 : v1' = Int32.ofInt v1) (hv2 : v2' = Int32.ofInt v2) (h_w : oAt 7 lyZ w' m (cvZ w)) (f_w : wF m (m + 27) w0 w') : zR E (zX7_bounds_h224 F r k260 v1 v2 w) (mX7_bounds_h224 F r' k260' m v1' v2' w') := by
  unfold zX7_bounds_h224 mX7_bounds_h224
  exact (R_FI h_w (k := 24) rfl (c := (zI w 24)) rfl (fun t226' ht226 =>
  (R_Le ht226 hv2
  (hk260 _ _ _ _ hv1 h_w f_w)
  (R_FR h_w (k := 31) rfl
    (R_FR h_w (k := 26) rfl
    (R_Ld h_w (k := 26) rfl (by decide) (eAdd (eMul (eL (by decide) : (98 : Int32) = Int32.ofInt (98 : Int)) hv1) hv2) rfl (fun t252 t252' ht252 =>
    (R_St h_w f_w (k := 31) rfl (by decide) (eAdd (eMul (eL (by decide) : (98 : Int32) = Int32.ofInt (98 : Int)) hv1) hv2) ht252 (fun w253' h_w253 f_w253 =>
    (hr _ _ _ _ _ _ hv1 (eAdd hv2 (eL (by decide) : (1 : Int32) = Int32.ofInt (1 : Int))) h_w253 f_w253))))))))))
set_option maxRecDepth 100000 in
theorem rX7_bounds_l224 {F m : Nat} {E : zS → gW → Prop} {w0 : gW} {k260 : Int → zS → Option zS} {k260' : Nat → Int32 → gW → Option (gW)} (hk260 : ∀ (a2 : Int) (Z : zS) (b2 : Int32) (w : gW), b2 = Int32.ofInt a2 → oAt 7 lyZ w m (cvZ Z) → wF m (m + 27) w0 w → zR E (k260 a2 Z) (k260' m b2 w)) : ∀ (n : Nat) (v1 : Int) (v2 : Int) (w : zS) (v1' : Int32) (v2' : Int32) (w' : gW), v1' = Int32.ofInt v1 → v2' = Int32.ofInt v2 → oAt 7 lyZ w' m (cvZ w) → wF m (m + 27) w0 w' → zR E (zX7_bounds_l224 F k260 n v1 v2 w) (mX7_bounds_l224 F k260' n m v1' v2' w') := by
  intro n
  induction n with
  | zero => intros; exact R_none
  | succ n ih =>
    intro v1 v2 w v1' v2' w' hv1 hv2 h_w f_w
    exact rX7_bounds_h224 ih hk260 hv1 hv2 h_w f_w
set_option maxRecDepth 100000 in
theorem rX7_bounds_h202 {F m : Nat} {w0 : gW} {r : Int → zS → Option zS} {r' : Nat → Int32 → gW → Option (gW)} {v1 : Int} {v1' : Int32} {w : zS} {w' : gW} (hr : ∀ (a2 : Int) (Z : zS) (b2 : Int32) (w : gW), b2 = Int32.ofInt a2 → oAt 7 lyZ w m (cvZ Z) → wF m (m + 27) w0 w → zR (E0 m w0) (r a2 Z) (r' m b2 w)) (hv1 : v1' = Int32.ofInt v1) (h_w : oAt 7 lyZ w' m (cvZ w)) (f_w : wF m (m + 27) w0 w') : zR (E0 m w0) (zX7_bounds_h202 F r v1 w) (mX7_bounds_h202 F r' m v1' w') := by
  unfold zX7_bounds_h202 mX7_bounds_h202
  exact (R_FI h_w (k := 28) rfl (c := (zI w 28)) rfl (fun t204' ht204 =>
  (R_Le ht204 hv1
  (R_ret0 h_w f_w)
  (R_FR h_w (k := 32) rfl
    (R_FR h_w (k := 27) rfl
    (R_Ld h_w (k := 27) rfl (by decide) hv1 rfl (fun t220 t220' ht220 =>
    (R_St h_w f_w (k := 32) rfl (by decide) hv1 ht220 (fun w221' h_w221 f_w221 =>
    (rX7_bounds_l224 (by exact (fun v1 w v1' w' hv1 h_w f_w =>
      (hr _ _ _ _ (eAdd hv1 (eL (by decide) : (1 : Int32) = Int32.ofInt (1 : Int))) h_w f_w))) F _ _ _ _ _ _ hv1 (eL (by decide) : (0 : Int32) = Int32.ofInt (0 : Int)) h_w221 f_w221))))))))))
set_option maxRecDepth 100000 in
theorem rX7_bounds_l202 {F m : Nat} {w0 : gW}   : ∀ (n : Nat) (v1 : Int) (w : zS) (v1' : Int32) (w' : gW), v1' = Int32.ofInt v1 → oAt 7 lyZ w' m (cvZ w) → wF m (m + 27) w0 w' → zR (E0 m w0) (zX7_bounds_l202 F  n v1 w) (mX7_bounds_l202 F  n m v1' w') := by
  intro n
  induction n with
  | zero => intros; exact R_none
  | succ n ih =>
    intro v1 w v1' w' hv1 h_w f_w
    exact rX7_bounds_h202 ih  hv1 h_w f_w
set_option maxRecDepth 100000 in
theorem rX7_bounds {F m : Nat} {w : zS} {w' : gW} (h_w : oAt 7 lyZ w' m (cvZ w)) : zR (E0 m w') (zX7_bounds F w) (mX7_bounds F m w') := by
  have f_w : wF m (m + 27) w' w' := wF.rf
  unfold zX7_bounds mX7_bounds
  exact (R_PI h_w f_w (k := 28) rfl (eL (by decide) : (0 : Int32) = Int32.ofInt (0 : Int)) (fun w2' h_w2 f_w2 =>
  (rX7_bounds_l7 (by exact (fun w w' h_w f_w =>
    (R_FR h_w (k := 30) rfl
    (R_FI h_w (k := 28) rfl (c := (zI w 28)) rfl (fun t196' ht196 =>
    (R_St h_w f_w (k := 30) rfl (by decide) (eL (by decide) : (4 : Int32) = Int32.ofInt (4 : Int)) ht196 (fun w199' h_w199 f_w199 =>
    (rX7_bounds_l202  F _ _ _ _ (eL (by decide) : (0 : Int32) = Int32.ofInt (0 : Int)) h_w199 f_w199)))))))) F _ _ _ _ (eL (by decide) : (1 : Int32) = Int32.ofInt (1 : Int)) h_w2 f_w2)))
set_option maxRecDepth 100000 in
theorem rX7_dimensionNone_b70 {F m : Nat} {E : zS → gW → Prop} {w0 : gW} {r : Int → Int → Int → zS → Option zS} {r' : Nat → Int32 → Int32 → Int32 → gW → Option (gW)} {k80 : Int → Int → zS → Option zS} {k80' : Nat → Int32 → Int32 → gW → Option (gW)} {v1 : Int} {v1' : Int32} {v2 : Int} {v2' : Int32} {v3 : Int} {v3' : Int32} {s1 : Int} {s1' : Int32} {s2 : Int} {s2' : Int32} {s3 : Int} {s3' : Int32} {w : zS} {w' : gW} (hr : ∀ (a2 : Int) (a3 : Int) (a4 : Int) (Z : zS) (b2 : Int32) (b3 : Int32) (b4 : Int32) (w : gW), b2 = Int32.ofInt a2 → b3 = Int32.ofInt a3 → b4 = Int32.ofInt a4 → oAt 7 lyZ w m (cvZ Z) → wF m (m + 27) w0 w → zR E (r a2 a3 a4 Z) (r' m b2 b3 b4 w)) (hk80 : ∀ (a2 : Int) (a3 : Int) (Z : zS) (b2 : Int32) (b3 : Int32) (w : gW), b2 = Int32.ofInt a2 → b3 = Int32.ofInt a3 → oAt 7 lyZ w m (cvZ Z) → wF m (m + 27) w0 w → zR E (k80 a2 a3 Z) (k80' m b2 b3 w)) (hv1 : v1' = Int32.ofInt v1) (hv2 : v2' = Int32.ofInt v2) (hv3 : v3' = Int32.ofInt v3) (hs1 : s1' = Int32.ofInt s1) (hs2 : s2' = Int32.ofInt s2) (hs3 : s3' = Int32.ofInt s3) (h_w : oAt 7 lyZ w' m (cvZ w)) (f_w : wF m (m + 27) w0 w') : zR E (zX7_dimensionNone_b70 F r k80 v1 v2 v3 s1 s2 s3 w) (mX7_dimensionNone_b70 F r' k80' m v1' v2' v3' (some m) s1' s2' s3' w') := by
  unfold zX7_dimensionNone_b70 mX7_dimensionNone_b70
  exact (R_O h_w
  (R_C0 (rX7_addTo hs1 (eSub hs2 hs3) h_w) f_w (fun q71 q71' h_q71 f_q71 =>
  (hr _ _ _ _ _ _ _ _ hv1 hv2 (eAdd hv3 (eL (by decide) : (1 : Int32) = Int32.ofInt (1 : Int))) h_q71 f_q71))))
set_option maxRecDepth 100000 in
theorem rX7_dimensionNone_h39 {F m : Nat} {E : zS → gW → Prop} {w0 : gW} {r : Int → Int → Int → zS → Option zS} {r' : Nat → Int32 → Int32 → Int32 → gW → Option (gW)} {k80 : Int → Int → zS → Option zS} {k80' : Nat → Int32 → Int32 → gW → Option (gW)} {v1 : Int} {v1' : Int32} {v2 : Int} {v2' : Int32} {v3 : Int} {v3' : Int32} {w : zS} {w' : gW} (hr : ∀ (a2 : Int) (a3 : Int) (a4 : Int) (Z : zS) (b2 : Int32) (b3 : Int32) (b4 : Int32) (w : gW), b2 = Int32.ofInt a2 → b3 = Int32.ofInt a3 → b4 = Int32.ofInt a4 → oAt 7 lyZ w m (cvZ Z) → wF m (m + 27) w0 w → zR E (r a2 a3 a4 Z) (r' m b2 b3 b4 w)) (hk80 : ∀ (a2 : Int) (a3 : Int) (Z : zS) (b2 : Int32) (b3 : Int32) (w : gW), b2 = Int32.ofInt a2 → b3 = Int32.ofInt a3 → oAt 7 lyZ w m (cvZ Z) → wF m (m + 27) w0 w → zR E (k80 a2 a3 Z) (k80' m b2 b3 w)) (hv1 : v1' = Int32.ofInt v1) (hv2 : v2' = Int32.ofInt v2) (hv3 : v3' = Int32.ofInt v3) (h_w : oAt 7 lyZ w' m (cvZ w)) (f_w : wF m (m + 27) w0 w') : zR E (zX7_dimensionNone_h39 F r k80 v1 v2 v3 w) (mX7_dimensionNone_h39 F r' k80' m v1' v2' v3' w') := by
  unfold zX7_dimensionNone_h39 mX7_dimensionNone_h39
  exact (R_FI h_w (k := 37) rfl (c := (zI w 37)) rfl (fun t41' ht41 =>
  (R_Le ht41 hv3
  (hk80 _ _ _ _ _ _ hv1 hv2 h_w f_w)
  (R_FI h_w (k := 39) rfl (c := (zI w 39)) rfl (fun t51' ht51 =>
    (R_O h_w
    (R_C1 (rX7_matrix ht51 hv1 hv2 hv3 h_w) f_w (fun q57_1 q57_2 q57_1' q57_2' hq57 h_q57_2 f_q57_2 =>
    (R_Eq hv2 hv3
    (rX7_dimensionNone_b70 hr hk80 hv1 hv2 hv3 hv3 hq57 (eL (by decide) : (1 : Int32) = Int32.ofInt (1 : Int)) h_q57_2 f_q57_2)
    (rX7_dimensionNone_b70 hr hk80 hv1 hv2 hv3 hv3 hq57 (eL (by decide) : (0 : Int32) = Int32.ofInt (0 : Int)) h_q57_2 f_q57_2))))))))))
set_option maxRecDepth 100000 in
theorem rX7_dimensionNone_l39 {F m : Nat} {E : zS → gW → Prop} {w0 : gW} {k80 : Int → Int → zS → Option zS} {k80' : Nat → Int32 → Int32 → gW → Option (gW)} (hk80 : ∀ (a2 : Int) (a3 : Int) (Z : zS) (b2 : Int32) (b3 : Int32) (w : gW), b2 = Int32.ofInt a2 → b3 = Int32.ofInt a3 → oAt 7 lyZ w m (cvZ Z) → wF m (m + 27) w0 w → zR E (k80 a2 a3 Z) (k80' m b2 b3 w)) : ∀ (n : Nat) (v1 : Int) (v2 : Int) (v3 : Int) (w : zS) (v1' : Int32) (v2' : Int32) (v3' : Int32) (w' : gW), v1' = Int32.ofInt v1 → v2' = Int32.ofInt v2 → v3' = Int32.ofInt v3 → oAt 7 lyZ w' m (cvZ w) → wF m (m + 27) w0 w' → zR E (zX7_dimensionNone_l39 F k80 n v1 v2 v3 w) (mX7_dimensionNone_l39 F k80' n m v1' v2' v3' w') := by
  intro n
  induction n with
  | zero => intros; exact R_none
  | succ n ih =>
    intro v1 v2 v3 w v1' v2' v3' w' hv1 hv2 hv3 h_w f_w
    exact rX7_dimensionNone_h39 ih hk80 hv1 hv2 hv3 h_w f_w
set_option maxRecDepth 100000 in
theorem rX7_dimensionNone_h25 {F m : Nat} {E : zS → gW → Prop} {w0 : gW} {r : Int → Int → zS → Option zS} {r' : Nat → Int32 → Int32 → gW → Option (gW)} {k90 : Int → zS → Option zS} {k90' : Nat → Int32 → gW → Option (gW)} {v1 : Int} {v1' : Int32} {v2 : Int} {v2' : Int32} {w : zS} {w' : gW} (hr : ∀ (a2 : Int) (a3 : Int) (Z : zS) (b2 : Int32) (b3 : Int32) (w : gW), b2 = Int32.ofInt a2 → b3 = Int32.ofInt a3 → oAt 7 lyZ w m (cvZ Z) → wF m (m + 27) w0 w → zR E (r a2 a3 Z) (r' m b2 b3 w)) (hk90 : ∀ (a2 : Int) (Z : zS) (b2 : Int32) (w : gW), b2 = Int32.ofInt a2 → oAt 7 lyZ w m (cvZ Z) → wF m (m + 27) w0 w → zR E (k90 a2 Z) (k90' m b2 w)) (hv1 : v1' = Int32.ofInt v1) (hv2 : v2' = Int32.ofInt v2) (h_w : oAt 7 lyZ w' m (cvZ w)) (f_w : wF m (m + 27) w0 w') : zR E (zX7_dimensionNone_h25 F r k90 v1 v2 w) (mX7_dimensionNone_h25 F r' k90' m v1' v2' w') := by
  unfold zX7_dimensionNone_h25 mX7_dimensionNone_h25
  exact (R_FI h_w (k := 37) rfl (c := (zI w 37)) rfl (fun t27' ht27 =>
  (R_Le ht27 hv2
  (hk90 _ _ _ _ hv1 h_w f_w)
  (R_O h_w
    (R_C0 (rX7_clearLine h_w) f_w (fun q34 q34' h_q34 f_q34 =>
    (rX7_dimensionNone_l39 (by exact (fun v1 v2 w v1' v2' w' hv1 hv2 h_w f_w =>
      (R_O h_w
      (R_C0 (rX7_settles h_w) f_w (fun q81 q81' h_q81 f_q81 =>
      (hr _ _ _ _ _ _ hv1 (eAdd hv2 (eL (by decide) : (1 : Int32) = Int32.ofInt (1 : Int))) h_q81 f_q81)))))) F _ _ _ _ _ _ _ _ hv1 hv2 (eL (by decide) : (0 : Int32) = Int32.ofInt (0 : Int)) h_q34 f_q34)))))))
set_option maxRecDepth 100000 in
theorem rX7_dimensionNone_l25 {F m : Nat} {E : zS → gW → Prop} {w0 : gW} {k90 : Int → zS → Option zS} {k90' : Nat → Int32 → gW → Option (gW)} (hk90 : ∀ (a2 : Int) (Z : zS) (b2 : Int32) (w : gW), b2 = Int32.ofInt a2 → oAt 7 lyZ w m (cvZ Z) → wF m (m + 27) w0 w → zR E (k90 a2 Z) (k90' m b2 w)) : ∀ (n : Nat) (v1 : Int) (v2 : Int) (w : zS) (v1' : Int32) (v2' : Int32) (w' : gW), v1' = Int32.ofInt v1 → v2' = Int32.ofInt v2 → oAt 7 lyZ w' m (cvZ w) → wF m (m + 27) w0 w' → zR E (zX7_dimensionNone_l25 F k90 n v1 v2 w) (mX7_dimensionNone_l25 F k90' n m v1' v2' w') := by
  intro n
  induction n with
  | zero => intros; exact R_none
  | succ n ih =>
    intro v1 v2 w v1' v2' w' hv1 hv2 h_w f_w
    exact rX7_dimensionNone_h25 ih hk90 hv1 hv2 h_w f_w
set_option maxRecDepth 100000 in
theorem rX7_dimensionNone_h15 {F m : Nat} {E : zS → gW → Prop} {w0 : gW} {r : Int → zS → Option zS} {r' : Nat → Int32 → gW → Option (gW)} {k96 : zS → Option zS} {k96' : Nat → gW → Option (gW)} {v1 : Int} {v1' : Int32} {w : zS} {w' : gW} (hr : ∀ (a2 : Int) (Z : zS) (b2 : Int32) (w : gW), b2 = Int32.ofInt a2 → oAt 7 lyZ w m (cvZ Z) → wF m (m + 27) w0 w → zR E (r a2 Z) (r' m b2 w)) (hk96 : ∀ (Z : zS) (w : gW), oAt 7 lyZ w m (cvZ Z) → wF m (m + 27) w0 w → zR E (k96 Z) (k96' m w)) (hv1 : v1' = Int32.ofInt v1) (h_w : oAt 7 lyZ w' m (cvZ w)) (f_w : wF m (m + 27) w0 w') : zR E (zX7_dimensionNone_h15 F r k96 v1 w) (mX7_dimensionNone_h15 F r' k96' m v1' w') := by
  unfold zX7_dimensionNone_h15 mX7_dimensionNone_h15
  exact (R_FI h_w (k := 36) rfl (c := (zI w 36)) rfl (fun t17' ht17 =>
  (R_Le ht17 hv1
  (hk96 _ _ h_w f_w)
  (rX7_dimensionNone_l25 (by exact (fun v1 w v1' w' hv1 h_w f_w =>
      (hr _ _ _ _ (eAdd hv1 (eL (by decide) : (1 : Int32) = Int32.ofInt (1 : Int))) h_w f_w))) F _ _ _ _ _ _ hv1 (eL (by decide) : (0 : Int32) = Int32.ofInt (0 : Int)) h_w f_w))))
set_option maxRecDepth 100000 in
theorem rX7_dimensionNone_l15 {F m : Nat} {E : zS → gW → Prop} {w0 : gW} {k96 : zS → Option zS} {k96' : Nat → gW → Option (gW)} (hk96 : ∀ (Z : zS) (w : gW), oAt 7 lyZ w m (cvZ Z) → wF m (m + 27) w0 w → zR E (k96 Z) (k96' m w)) : ∀ (n : Nat) (v1 : Int) (w : zS) (v1' : Int32) (w' : gW), v1' = Int32.ofInt v1 → oAt 7 lyZ w' m (cvZ w) → wF m (m + 27) w0 w' → zR E (zX7_dimensionNone_l15 F k96 n v1 w) (mX7_dimensionNone_l15 F k96' n m v1' w') := by
  intro n
  induction n with
  | zero => intros; exact R_none
  | succ n ih =>
    intro v1 w v1' w' hv1 h_w f_w
    exact rX7_dimensionNone_h15 ih hk96 hv1 h_w f_w
set_option maxRecDepth 100000 in
theorem rX7_dimensionNone {F m : Nat} {w : zS} {w' : gW} (h_w : oAt 7 lyZ w' m (cvZ w)) : zR (E0 m w') (zX7_dimensionNone F w) (mX7_dimensionNone F m w') := by
  have f_w : wF m (m + 27) w' w' := wF.rf
  unfold zX7_dimensionNone mX7_dimensionNone
  exact (R_PI h_w f_w (k := 28) rfl (eL (by decide) : (0 : Int32) = Int32.ofInt (0 : Int)) (fun w2' h_w2 f_w2 =>
  (R_FI h_w2 (k := 37) rfl (c := (zI w 37)) rfl (fun t7' ht7 =>
  (R_PI h_w2 f_w2 (k := 24) rfl ht7 (fun w10' h_w10 f_w10 =>
  (rX7_dimensionNone_l15 (by exact (fun w w' h_w f_w =>
    (R_FR h_w (k := 30) rfl
    (R_FI h_w (k := 37) rfl (c := (zI w 37)) rfl (fun t102' ht102 =>
    (R_FI h_w (k := 28) rfl (c := (zI w 28)) rfl (fun t106' ht106 =>
    (R_St h_w f_w (k := 30) rfl (by decide) (eL (by decide) : (0 : Int32) = Int32.ofInt (0 : Int)) (eSub ht102 ht106) (fun w110' h_w110 f_w110 =>
    (R_FR h_w110 (k := 30) rfl
    (R_FI h_w110 (k := 28) rfl (c := (zI w 28)) rfl (fun t117' ht117 =>
    (R_St h_w110 f_w110 (k := 30) rfl (by decide) (eL (by decide) : (2 : Int32) = Int32.ofInt (2 : Int)) ht117 (fun w120' h_w120 f_w120 =>
    (R_ret0 h_w120 f_w120))))))))))))))) F _ _ _ _ (eL (by decide) : (0 : Int32) = Int32.ofInt (0 : Int)) h_w10 f_w10)))))))
set_option maxRecDepth 100000 in
theorem rX7_dimensionOne_h105 {F m : Nat} {E : zS → gW → Prop} {w0 : gW} {r : Int → Int → Int → Int → zS → Option zS} {r' : Nat → Int32 → Int32 → Int32 → Int32 → gW → Option (gW)} {k148 : Int → Int → Int → zS → Option zS} {k148' : Nat → Int32 → Int32 → Int32 → gW → Option (gW)} {v1 : Int} {v1' : Int32} {v2 : Int} {v2' : Int32} {v3 : Int} {v3' : Int32} {v5 : Int} {v5' : Int32} {w : zS} {w' : gW} (hr : ∀ (a2 : Int) (a3 : Int) (a4 : Int) (a5 : Int) (Z : zS) (b2 : Int32) (b3 : Int32) (b4 : Int32) (b5 : Int32) (w : gW), b2 = Int32.ofInt a2 → b3 = Int32.ofInt a3 → b4 = Int32.ofInt a4 → b5 = Int32.ofInt a5 → oAt 7 lyZ w m (cvZ Z) → wF m (m + 27) w0 w → zR E (r a2 a3 a4 a5 Z) (r' m b2 b3 b4 b5 w)) (hk148 : ∀ (a2 : Int) (a3 : Int) (a4 : Int) (Z : zS) (b2 : Int32) (b3 : Int32) (b4 : Int32) (w : gW), b2 = Int32.ofInt a2 → b3 = Int32.ofInt a3 → b4 = Int32.ofInt a4 → oAt 7 lyZ w m (cvZ Z) → wF m (m + 27) w0 w → zR E (k148 a2 a3 a4 Z) (k148' m b2 b3 b4 w)) (hv1 : v1' = Int32.ofInt v1) (hv2 : v2' = Int32.ofInt v2) (hv3 : v3' = Int32.ofInt v3) (hv5 : v5' = Int32.ofInt v5) (h_w : oAt 7 lyZ w' m (cvZ w)) (f_w : wF m (m + 27) w0 w') : zR E (zX7_dimensionOne_h105 F r k148 v1 v2 v3 v5 w) (mX7_dimensionOne_h105 F r' k148' m v1' v2' v3' v5' w') := by
  unfold zX7_dimensionOne_h105 mX7_dimensionOne_h105
  exact (R_FI h_w (k := 37) rfl (c := (zI w 37)) rfl (fun t108' ht108 =>
  (R_Le ht108 hv5
  (hk148 _ _ _ _ _ _ _ _ hv1 hv2 hv3 h_w f_w)
  (R_FI h_w (k := 37) rfl (c := (zI w 37)) rfl (fun t119' ht119 =>
    (R_FI h_w (k := 39) rfl (c := (zI w 39)) rfl (fun t128' ht128 =>
    (R_O h_w
    (R_C1 (rX7_matrix ht128 hv1 hv3 hv5 h_w) f_w (fun q135_1 q135_2 q135_1' q135_2' hq135 h_q135_2 f_q135_2 =>
    (R_O h_q135_2
    (R_C0 (rX7_addTo (eAdd (eMul (eSub hv2 (eL (by decide) : (1 : Int32) = Int32.ofInt (1 : Int))) ht119) hv5) (eNeg hq135) h_q135_2) f_q135_2 (fun q139 q139' h_q139 f_q139 =>
    (hr _ _ _ _ _ _ _ _ _ _ hv1 hv2 hv3 (eAdd hv5 (eL (by decide) : (1 : Int32) = Int32.ofInt (1 : Int))) h_q139 f_q139))))))))))))))
set_option maxRecDepth 100000 in
theorem rX7_dimensionOne_l105 {F m : Nat} {E : zS → gW → Prop} {w0 : gW} {k148 : Int → Int → Int → zS → Option zS} {k148' : Nat → Int32 → Int32 → Int32 → gW → Option (gW)} (hk148 : ∀ (a2 : Int) (a3 : Int) (a4 : Int) (Z : zS) (b2 : Int32) (b3 : Int32) (b4 : Int32) (w : gW), b2 = Int32.ofInt a2 → b3 = Int32.ofInt a3 → b4 = Int32.ofInt a4 → oAt 7 lyZ w m (cvZ Z) → wF m (m + 27) w0 w → zR E (k148 a2 a3 a4 Z) (k148' m b2 b3 b4 w)) : ∀ (n : Nat) (v1 : Int) (v2 : Int) (v3 : Int) (v5 : Int) (w : zS) (v1' : Int32) (v2' : Int32) (v3' : Int32) (v5' : Int32) (w' : gW), v1' = Int32.ofInt v1 → v2' = Int32.ofInt v2 → v3' = Int32.ofInt v3 → v5' = Int32.ofInt v5 → oAt 7 lyZ w' m (cvZ w) → wF m (m + 27) w0 w' → zR E (zX7_dimensionOne_l105 F k148 n v1 v2 v3 v5 w) (mX7_dimensionOne_l105 F k148' n m v1' v2' v3' v5' w') := by
  intro n
  induction n with
  | zero => intros; exact R_none
  | succ n ih =>
    intro v1 v2 v3 v5 w v1' v2' v3' v5' w' hv1 hv2 hv3 hv5 h_w f_w
    exact rX7_dimensionOne_h105 ih hk148 hv1 hv2 hv3 hv5 h_w f_w
set_option maxRecDepth 100000 in
theorem rX7_dimensionOne_b87 {F m : Nat} {E : zS → gW → Prop} {w0 : gW} {r : Int → Int → Int → zS → Option zS} {r' : Nat → Int32 → Int32 → Int32 → gW → Option (gW)} {k158 : Int → Int → zS → Option zS} {k158' : Nat → Int32 → Int32 → gW → Option (gW)} {v1 : Int} {v1' : Int32} {v2 : Int} {v2' : Int32} {v3 : Int} {v3' : Int32} {w : zS} {w' : gW} (hr : ∀ (a2 : Int) (a3 : Int) (a4 : Int) (Z : zS) (b2 : Int32) (b3 : Int32) (b4 : Int32) (w : gW), b2 = Int32.ofInt a2 → b3 = Int32.ofInt a3 → b4 = Int32.ofInt a4 → oAt 7 lyZ w m (cvZ Z) → wF m (m + 27) w0 w → zR E (r a2 a3 a4 Z) (r' m b2 b3 b4 w)) (hk158 : ∀ (a2 : Int) (a3 : Int) (Z : zS) (b2 : Int32) (b3 : Int32) (w : gW), b2 = Int32.ofInt a2 → b3 = Int32.ofInt a3 → oAt 7 lyZ w m (cvZ Z) → wF m (m + 27) w0 w → zR E (k158 a2 a3 Z) (k158' m b2 b3 w)) (hv1 : v1' = Int32.ofInt v1) (hv2 : v2' = Int32.ofInt v2) (hv3 : v3' = Int32.ofInt v3) (h_w : oAt 7 lyZ w' m (cvZ w)) (f_w : wF m (m + 27) w0 w') : zR E (zX7_dimensionOne_b87 F r k158 v1 v2 v3 w) (mX7_dimensionOne_b87 F r' k158' m v1' v2' v3' w') := by
  unfold zX7_dimensionOne_b87 mX7_dimensionOne_b87
  exact (R_FI h_w (k := 37) rfl (c := (zI w 37)) rfl (fun t92' ht92 =>
  (R_O h_w
  (R_C0 (rX7_addTo (eAdd (eMul (eSub hv1 (eL (by decide) : (1 : Int32) = Int32.ofInt (1 : Int))) ht92) hv3) (eL (by decide) : (-1 : Int32) = Int32.ofInt (-1 : Int)) h_w) f_w (fun q99 q99' h_q99 f_q99 =>
  (rX7_dimensionOne_l105 (by exact (fun v1 v2 v3 w v1' v2' v3' w' hv1 hv2 hv3 h_w f_w =>
    (R_O h_w
    (R_C0 (rX7_settles h_w) f_w (fun q149 q149' h_q149 f_q149 =>
    (hr _ _ _ _ _ _ _ _ hv1 hv2 (eAdd hv3 (eL (by decide) : (1 : Int32) = Int32.ofInt (1 : Int))) h_q149 f_q149)))))) F _ _ _ _ _ _ _ _ _ _ hv1 hv2 hv3 (eL (by decide) : (0 : Int32) = Int32.ofInt (0 : Int)) h_q99 f_q99))))))
set_option maxRecDepth 100000 in
theorem rX7_dimensionOne_h42 {F m : Nat} {E : zS → gW → Prop} {w0 : gW} {r : Int → Int → Int → zS → Option zS} {r' : Nat → Int32 → Int32 → Int32 → gW → Option (gW)} {k158 : Int → Int → zS → Option zS} {k158' : Nat → Int32 → Int32 → gW → Option (gW)} {v1 : Int} {v1' : Int32} {v2 : Int} {v2' : Int32} {v3 : Int} {v3' : Int32} {w : zS} {w' : gW} (hr : ∀ (a2 : Int) (a3 : Int) (a4 : Int) (Z : zS) (b2 : Int32) (b3 : Int32) (b4 : Int32) (w : gW), b2 = Int32.ofInt a2 → b3 = Int32.ofInt a3 → b4 = Int32.ofInt a4 → oAt 7 lyZ w m (cvZ Z) → wF m (m + 27) w0 w → zR E (r a2 a3 a4 Z) (r' m b2 b3 b4 w)) (hk158 : ∀ (a2 : Int) (a3 : Int) (Z : zS) (b2 : Int32) (b3 : Int32) (w : gW), b2 = Int32.ofInt a2 → b3 = Int32.ofInt a3 → oAt 7 lyZ w m (cvZ Z) → wF m (m + 27) w0 w → zR E (k158 a2 a3 Z) (k158' m b2 b3 w)) (hv1 : v1' = Int32.ofInt v1) (hv2 : v2' = Int32.ofInt v2) (hv3 : v3' = Int32.ofInt v3) (h_w : oAt 7 lyZ w' m (cvZ w)) (f_w : wF m (m + 27) w0 w') : zR E (zX7_dimensionOne_h42 F r k158 v1 v2 v3 w) (mX7_dimensionOne_h42 F r' k158' m v1' v2' v3' w') := by
  unfold zX7_dimensionOne_h42 mX7_dimensionOne_h42
  exact (R_FI h_w (k := 37) rfl (c := (zI w 37)) rfl (fun t44' ht44 =>
  (R_Le ht44 hv3
  (hk158 _ _ _ _ _ _ hv1 hv2 h_w f_w)
  (R_O h_w
    (R_C0 (rX7_clearLine h_w) f_w (fun q51 q51' h_q51 f_q51 =>
    (R_FI h_q51 (k := 38) rfl (c := (zI q51 38)) rfl (fun t56' ht56 =>
    (R_O h_q51
    (R_C1 (rX7_prod ht56 hv1 hv2 h_q51) f_q51 (fun q61_1 q61_2 q61_1' q61_2' hq61 h_q61_2 f_q61_2 =>
    (R_Le hq61 (eL (by decide) : (0 : Int32) = Int32.ofInt (0 : Int))
    (rX7_dimensionOne_b87 hr hk158 hv1 hv2 hv3 h_q61_2 f_q61_2)
    (R_FI h_q61_2 (k := 37) rfl (c := (zI q61_2 37)) rfl (fun t77' ht77 =>
      (R_O h_q61_2
      (R_C0 (rX7_addTo (eAdd (eMul (eSub hq61 (eL (by decide) : (1 : Int32) = Int32.ofInt (1 : Int))) ht77) hv3) (eL (by decide) : (1 : Int32) = Int32.ofInt (1 : Int)) h_q61_2) f_q61_2 (fun q84 q84' h_q84 f_q84 =>
      (rX7_dimensionOne_b87 hr hk158 hv1 hv2 hv3 h_q84 f_q84))))))))))))))))))
set_option maxRecDepth 100000 in
theorem rX7_dimensionOne_l42 {F m : Nat} {E : zS → gW → Prop} {w0 : gW} {k158 : Int → Int → zS → Option zS} {k158' : Nat → Int32 → Int32 → gW → Option (gW)} (hk158 : ∀ (a2 : Int) (a3 : Int) (Z : zS) (b2 : Int32) (b3 : Int32) (w : gW), b2 = Int32.ofInt a2 → b3 = Int32.ofInt a3 → oAt 7 lyZ w m (cvZ Z) → wF m (m + 27) w0 w → zR E (k158 a2 a3 Z) (k158' m b2 b3 w)) : ∀ (n : Nat) (v1 : Int) (v2 : Int) (v3 : Int) (w : zS) (v1' : Int32) (v2' : Int32) (v3' : Int32) (w' : gW), v1' = Int32.ofInt v1 → v2' = Int32.ofInt v2 → v3' = Int32.ofInt v3 → oAt 7 lyZ w' m (cvZ w) → wF m (m + 27) w0 w' → zR E (zX7_dimensionOne_l42 F k158 n v1 v2 v3 w) (mX7_dimensionOne_l42 F k158' n m v1' v2' v3' w') := by
  intro n
  induction n with
  | zero => intros; exact R_none
  | succ n ih =>
    intro v1 v2 v3 w v1' v2' v3' w' hv1 hv2 hv3 h_w f_w
    exact rX7_dimensionOne_h42 ih hk158 hv1 hv2 hv3 h_w f_w
set_option maxRecDepth 100000 in
theorem rX7_dimensionOne_h32 {F m : Nat} {E : zS → gW → Prop} {w0 : gW} {r : Int → Int → zS → Option zS} {r' : Nat → Int32 → Int32 → gW → Option (gW)} {k164 : Int → zS → Option zS} {k164' : Nat → Int32 → gW → Option (gW)} {v1 : Int} {v1' : Int32} {v2 : Int} {v2' : Int32} {w : zS} {w' : gW} (hr : ∀ (a2 : Int) (a3 : Int) (Z : zS) (b2 : Int32) (b3 : Int32) (w : gW), b2 = Int32.ofInt a2 → b3 = Int32.ofInt a3 → oAt 7 lyZ w m (cvZ Z) → wF m (m + 27) w0 w → zR E (r a2 a3 Z) (r' m b2 b3 w)) (hk164 : ∀ (a2 : Int) (Z : zS) (b2 : Int32) (w : gW), b2 = Int32.ofInt a2 → oAt 7 lyZ w m (cvZ Z) → wF m (m + 27) w0 w → zR E (k164 a2 Z) (k164' m b2 w)) (hv1 : v1' = Int32.ofInt v1) (hv2 : v2' = Int32.ofInt v2) (h_w : oAt 7 lyZ w' m (cvZ w)) (f_w : wF m (m + 27) w0 w') : zR E (zX7_dimensionOne_h32 F r k164 v1 v2 w) (mX7_dimensionOne_h32 F r' k164' m v1' v2' w') := by
  unfold zX7_dimensionOne_h32 mX7_dimensionOne_h32
  exact (R_FI h_w (k := 36) rfl (c := (zI w 36)) rfl (fun t34' ht34 =>
  (R_Le ht34 hv2
  (hk164 _ _ _ _ hv1 h_w f_w)
  (rX7_dimensionOne_l42 (by exact (fun v1 v2 w v1' v2' w' hv1 hv2 h_w f_w =>
      (hr _ _ _ _ _ _ hv1 (eAdd hv2 (eL (by decide) : (1 : Int32) = Int32.ofInt (1 : Int))) h_w f_w))) F _ _ _ _ _ _ _ _ hv1 hv2 (eL (by decide) : (0 : Int32) = Int32.ofInt (0 : Int)) h_w f_w))))
set_option maxRecDepth 100000 in
theorem rX7_dimensionOne_l32 {F m : Nat} {E : zS → gW → Prop} {w0 : gW} {k164 : Int → zS → Option zS} {k164' : Nat → Int32 → gW → Option (gW)} (hk164 : ∀ (a2 : Int) (Z : zS) (b2 : Int32) (w : gW), b2 = Int32.ofInt a2 → oAt 7 lyZ w m (cvZ Z) → wF m (m + 27) w0 w → zR E (k164 a2 Z) (k164' m b2 w)) : ∀ (n : Nat) (v1 : Int) (v2 : Int) (w : zS) (v1' : Int32) (v2' : Int32) (w' : gW), v1' = Int32.ofInt v1 → v2' = Int32.ofInt v2 → oAt 7 lyZ w' m (cvZ w) → wF m (m + 27) w0 w' → zR E (zX7_dimensionOne_l32 F k164 n v1 v2 w) (mX7_dimensionOne_l32 F k164' n m v1' v2' w') := by
  intro n
  induction n with
  | zero => intros; exact R_none
  | succ n ih =>
    intro v1 v2 w v1' v2' w' hv1 hv2 h_w f_w
    exact rX7_dimensionOne_h32 ih hk164 hv1 hv2 h_w f_w
set_option maxRecDepth 100000 in
theorem rX7_dimensionOne_h22 {F m : Nat} {E : zS → gW → Prop} {w0 : gW} {r : Int → zS → Option zS} {r' : Nat → Int32 → gW → Option (gW)} {k170 : zS → Option zS} {k170' : Nat → gW → Option (gW)} {v1 : Int} {v1' : Int32} {w : zS} {w' : gW} (hr : ∀ (a2 : Int) (Z : zS) (b2 : Int32) (w : gW), b2 = Int32.ofInt a2 → oAt 7 lyZ w m (cvZ Z) → wF m (m + 27) w0 w → zR E (r a2 Z) (r' m b2 w)) (hk170 : ∀ (Z : zS) (w : gW), oAt 7 lyZ w m (cvZ Z) → wF m (m + 27) w0 w → zR E (k170 Z) (k170' m w)) (hv1 : v1' = Int32.ofInt v1) (h_w : oAt 7 lyZ w' m (cvZ w)) (f_w : wF m (m + 27) w0 w') : zR E (zX7_dimensionOne_h22 F r k170 v1 w) (mX7_dimensionOne_h22 F r' k170' m v1' w') := by
  unfold zX7_dimensionOne_h22 mX7_dimensionOne_h22
  exact (R_FI h_w (k := 36) rfl (c := (zI w 36)) rfl (fun t24' ht24 =>
  (R_Le ht24 hv1
  (hk170 _ _ h_w f_w)
  (rX7_dimensionOne_l32 (by exact (fun v1 w v1' w' hv1 h_w f_w =>
      (hr _ _ _ _ (eAdd hv1 (eL (by decide) : (1 : Int32) = Int32.ofInt (1 : Int))) h_w f_w))) F _ _ _ _ _ _ hv1 (eL (by decide) : (1 : Int32) = Int32.ofInt (1 : Int)) h_w f_w))))
set_option maxRecDepth 100000 in
theorem rX7_dimensionOne_l22 {F m : Nat} {E : zS → gW → Prop} {w0 : gW} {k170 : zS → Option zS} {k170' : Nat → gW → Option (gW)} (hk170 : ∀ (Z : zS) (w : gW), oAt 7 lyZ w m (cvZ Z) → wF m (m + 27) w0 w → zR E (k170 Z) (k170' m w)) : ∀ (n : Nat) (v1 : Int) (w : zS) (v1' : Int32) (w' : gW), v1' = Int32.ofInt v1 → oAt 7 lyZ w' m (cvZ w) → wF m (m + 27) w0 w' → zR E (zX7_dimensionOne_l22 F k170 n v1 w) (mX7_dimensionOne_l22 F k170' n m v1' w') := by
  intro n
  induction n with
  | zero => intros; exact R_none
  | succ n ih =>
    intro v1 w v1' w' hv1 h_w f_w
    exact rX7_dimensionOne_h22 ih hk170 hv1 h_w f_w
set_option maxRecDepth 100000 in
theorem rX7_dimensionOne {F m : Nat} {w : zS} {w' : gW} (h_w : oAt 7 lyZ w' m (cvZ w)) : zR (E0 m w') (zX7_dimensionOne F w) (mX7_dimensionOne F m w') := by
  have f_w : wF m (m + 27) w' w' := wF.rf
  unfold zX7_dimensionOne mX7_dimensionOne
  exact (R_PI h_w f_w (k := 28) rfl (eL (by decide) : (0 : Int32) = Int32.ofInt (0 : Int)) (fun w2' h_w2 f_w2 =>
  (R_FI h_w2 (k := 36) rfl (c := (zI w 36)) rfl (fun t7' ht7 =>
  (R_FI h_w2 (k := 37) rfl (c := (zI w 37)) rfl (fun t13' ht13 =>
  (R_PI h_w2 f_w2 (k := 24) rfl (eMul (eSub ht7 (eL (by decide) : (1 : Int32) = Int32.ofInt (1 : Int))) ht13) (fun w17' h_w17 f_w17 =>
  (rX7_dimensionOne_l22 (by exact (fun w w' h_w f_w =>
    (R_FR h_w (k := 30) rfl
    (R_FI h_w (k := 24) rfl (c := (zI w 24)) rfl (fun t176' ht176 =>
    (R_FI h_w (k := 28) rfl (c := (zI w 28)) rfl (fun t180' ht180 =>
    (R_St h_w f_w (k := 30) rfl (by decide) (eL (by decide) : (1 : Int32) = Int32.ofInt (1 : Int)) (eSub ht176 ht180) (fun w184' h_w184 f_w184 =>
    (R_ret0 h_w184 f_w184)))))))))) F _ _ _ _ (eL (by decide) : (1 : Int32) = Int32.ofInt (1 : Int)) h_w17 f_w17)))))))))
set_option maxRecDepth 100000 in
theorem rX7_isCocycle_h97 {F m : Nat} {E : (Int × zS) → (Int32 × gW) → Prop} {w0 : gW} {r : Int → Int → Int → Int → Int → Int → Int → zS → Option (Int × zS)} {r' : Nat → Int32 → Int32 → Int32 → Int32 → Int32 → Int32 → Int32 → gW → Option (Int32 × gW)} {k140 : Int → Int → Int → Int → Int → Int → zS → Option (Int × zS)} {k140' : Nat → Int32 → Int32 → Int32 → Int32 → Int32 → Int32 → gW → Option (Int32 × gW)} {v1 : Int} {v1' : Int32} {v2 : Int} {v2' : Int32} {v3 : Int} {v3' : Int32} {v4 : Int} {v4' : Int32} {v5 : Int} {v5' : Int32} {v6 : Int} {v6' : Int32} {v7 : Int} {v7' : Int32} {w : zS} {w' : gW} (hr : ∀ (a2 : Int) (a3 : Int) (a4 : Int) (a5 : Int) (a6 : Int) (a7 : Int) (a8 : Int) (Z : zS) (b2 : Int32) (b3 : Int32) (b4 : Int32) (b5 : Int32) (b6 : Int32) (b7 : Int32) (b8 : Int32) (w : gW), b2 = Int32.ofInt a2 → b3 = Int32.ofInt a3 → b4 = Int32.ofInt a4 → b5 = Int32.ofInt a5 → b6 = Int32.ofInt a6 → b7 = Int32.ofInt a7 → b8 = Int32.ofInt a8 → oAt 7 lyZ w m (cvZ Z) → wF m (m + 27) w0 w → zR E (r a2 a3 a4 a5 a6 a7 a8 Z) (r' m b2 b3 b4 b5 b6 b7 b8 w)) (hk140 : ∀ (a2 : Int) (a3 : Int) (a4 : Int) (a5 : Int) (a6 : Int) (a7 : Int) (Z : zS) (b2 : Int32) (b3 : Int32) (b4 : Int32) (b5 : Int32) (b6 : Int32) (b7 : Int32) (w : gW), b2 = Int32.ofInt a2 → b3 = Int32.ofInt a3 → b4 = Int32.ofInt a4 → b5 = Int32.ofInt a5 → b6 = Int32.ofInt a6 → b7 = Int32.ofInt a7 → oAt 7 lyZ w m (cvZ Z) → wF m (m + 27) w0 w → zR E (k140 a2 a3 a4 a5 a6 a7 Z) (k140' m b2 b3 b4 b5 b6 b7 w)) (hv1 : v1' = Int32.ofInt v1) (hv2 : v2' = Int32.ofInt v2) (hv3 : v3' = Int32.ofInt v3) (hv4 : v4' = Int32.ofInt v4) (hv5 : v5' = Int32.ofInt v5) (hv6 : v6' = Int32.ofInt v6) (hv7 : v7' = Int32.ofInt v7) (h_w : oAt 7 lyZ w' m (cvZ w)) (f_w : wF m (m + 27) w0 w') : zR E (zX7_isCocycle_h97 F r k140 v1 v2 v3 v4 v5 v6 v7 w) (mX7_isCocycle_h97 F r' k140' m v1' v2' v3' v4' v5' v6' v7' w') := by
  unfold zX7_isCocycle_h97 mX7_isCocycle_h97
  exact (R_FI h_w (k := 37) rfl (c := (zI w 37)) rfl (fun t100' ht100 =>
  (R_Le ht100 hv7
  (hk140 _ _ _ _ _ _ _ _ _ _ _ _ _ _ hv1 hv2 hv3 hv4 hv5 hv6 h_w f_w)
  (R_FI h_w (k := 39) rfl (c := (zI w 39)) rfl (fun t110' ht110 =>
    (R_O h_w
    (R_C1 (rX7_matrix ht110 hv2 hv5 hv7 h_w) f_w (fun q118_1 q118_2 q118_1' q118_2' hq118 h_q118_2 f_q118_2 =>
    (R_O h_q118_2
    (R_C1 (rX7_twisted hv3 hv4 hv7 h_q118_2) f_q118_2 (fun q127_1 q127_2 q127_1' q127_2' hq127 h_q127_2 f_q127_2 =>
    (hr _ _ _ _ _ _ _ _ _ _ _ _ _ _ _ _ hv1 hv2 hv3 hv4 hv5 (eAdd hv6 (eMul hq118 hq127)) (eAdd hv7 (eL (by decide) : (1 : Int32) = Int32.ofInt (1 : Int))) h_q127_2 f_q127_2))))))))))))
set_option maxRecDepth 100000 in
theorem rX7_isCocycle_l97 {F m : Nat} {E : (Int × zS) → (Int32 × gW) → Prop} {w0 : gW} {k140 : Int → Int → Int → Int → Int → Int → zS → Option (Int × zS)} {k140' : Nat → Int32 → Int32 → Int32 → Int32 → Int32 → Int32 → gW → Option (Int32 × gW)} (hk140 : ∀ (a2 : Int) (a3 : Int) (a4 : Int) (a5 : Int) (a6 : Int) (a7 : Int) (Z : zS) (b2 : Int32) (b3 : Int32) (b4 : Int32) (b5 : Int32) (b6 : Int32) (b7 : Int32) (w : gW), b2 = Int32.ofInt a2 → b3 = Int32.ofInt a3 → b4 = Int32.ofInt a4 → b5 = Int32.ofInt a5 → b6 = Int32.ofInt a6 → b7 = Int32.ofInt a7 → oAt 7 lyZ w m (cvZ Z) → wF m (m + 27) w0 w → zR E (k140 a2 a3 a4 a5 a6 a7 Z) (k140' m b2 b3 b4 b5 b6 b7 w)) : ∀ (n : Nat) (v1 : Int) (v2 : Int) (v3 : Int) (v4 : Int) (v5 : Int) (v6 : Int) (v7 : Int) (w : zS) (v1' : Int32) (v2' : Int32) (v3' : Int32) (v4' : Int32) (v5' : Int32) (v6' : Int32) (v7' : Int32) (w' : gW), v1' = Int32.ofInt v1 → v2' = Int32.ofInt v2 → v3' = Int32.ofInt v3 → v4' = Int32.ofInt v4 → v5' = Int32.ofInt v5 → v6' = Int32.ofInt v6 → v7' = Int32.ofInt v7 → oAt 7 lyZ w' m (cvZ w) → wF m (m + 27) w0 w' → zR E (zX7_isCocycle_l97 F k140 n v1 v2 v3 v4 v5 v6 v7 w) (mX7_isCocycle_l97 F k140' n m v1' v2' v3' v4' v5' v6' v7' w') := by
  intro n
  induction n with
  | zero => intros; exact R_none
  | succ n ih =>
    intro v1 v2 v3 v4 v5 v6 v7 w v1' v2' v3' v4' v5' v6' v7' w' hv1 hv2 hv3 hv4 hv5 hv6 hv7 h_w f_w
    exact rX7_isCocycle_h97 ih hk140 hv1 hv2 hv3 hv4 hv5 hv6 hv7 h_w f_w
set_option maxRecDepth 100000 in
theorem rX7_isCocycle_b159 {F m : Nat} {E : (Int × zS) → (Int32 × gW) → Prop} {w0 : gW} {r : Int → Int → Int → Int → Int → zS → Option (Int × zS)} {r' : Nat → Int32 → Int32 → Int32 → Int32 → Int32 → gW → Option (Int32 × gW)} {k166 : Int → Int → Int → Int → zS → Option (Int × zS)} {k166' : Nat → Int32 → Int32 → Int32 → Int32 → gW → Option (Int32 × gW)} {v2 : Int} {v2' : Int32} {v3 : Int} {v3' : Int32} {v4 : Int} {v4' : Int32} {v5 : Int} {v5' : Int32} {s0 : Int} {s0' : Int32} {w : zS} {w' : gW} (hr : ∀ (a2 : Int) (a3 : Int) (a4 : Int) (a5 : Int) (a6 : Int) (Z : zS) (b2 : Int32) (b3 : Int32) (b4 : Int32) (b5 : Int32) (b6 : Int32) (w : gW), b2 = Int32.ofInt a2 → b3 = Int32.ofInt a3 → b4 = Int32.ofInt a4 → b5 = Int32.ofInt a5 → b6 = Int32.ofInt a6 → oAt 7 lyZ w m (cvZ Z) → wF m (m + 27) w0 w → zR E (r a2 a3 a4 a5 a6 Z) (r' m b2 b3 b4 b5 b6 w)) (hk166 : ∀ (a2 : Int) (a3 : Int) (a4 : Int) (a5 : Int) (Z : zS) (b2 : Int32) (b3 : Int32) (b4 : Int32) (b5 : Int32) (w : gW), b2 = Int32.ofInt a2 → b3 = Int32.ofInt a3 → b4 = Int32.ofInt a4 → b5 = Int32.ofInt a5 → oAt 7 lyZ w m (cvZ Z) → wF m (m + 27) w0 w → zR E (k166 a2 a3 a4 a5 Z) (k166' m b2 b3 b4 b5 w)) (hv2 : v2' = Int32.ofInt v2) (hv3 : v3' = Int32.ofInt v3) (hv4 : v4' = Int32.ofInt v4) (hv5 : v5' = Int32.ofInt v5) (hs0 : s0' = Int32.ofInt s0) (h_w : oAt 7 lyZ w' m (cvZ w)) (f_w : wF m (m + 27) w0 w') : zR E (zX7_isCocycle_b159 F r k166 v2 v3 v4 v5 s0 w) (mX7_isCocycle_b159 F r' k166' m v2' v3' v4' v5' s0' w') := by
  unfold zX7_isCocycle_b159 mX7_isCocycle_b159
  exact (hr _ _ _ _ _ _ _ _ _ _ _ _ hs0 hv2 hv3 hv4 (eAdd hv5 (eL (by decide) : (1 : Int32) = Int32.ofInt (1 : Int))) h_w f_w)
set_option maxRecDepth 100000 in
theorem rX7_isCocycle_b158 {F m : Nat} {E : (Int × zS) → (Int32 × gW) → Prop} {w0 : gW} {r : Int → Int → Int → Int → Int → zS → Option (Int × zS)} {r' : Nat → Int32 → Int32 → Int32 → Int32 → Int32 → gW → Option (Int32 × gW)} {k166 : Int → Int → Int → Int → zS → Option (Int × zS)} {k166' : Nat → Int32 → Int32 → Int32 → Int32 → gW → Option (Int32 × gW)} {v2 : Int} {v2' : Int32} {v3 : Int} {v3' : Int32} {v4 : Int} {v4' : Int32} {v5 : Int} {v5' : Int32} {w : zS} {w' : gW} (hr : ∀ (a2 : Int) (a3 : Int) (a4 : Int) (a5 : Int) (a6 : Int) (Z : zS) (b2 : Int32) (b3 : Int32) (b4 : Int32) (b5 : Int32) (b6 : Int32) (w : gW), b2 = Int32.ofInt a2 → b3 = Int32.ofInt a3 → b4 = Int32.ofInt a4 → b5 = Int32.ofInt a5 → b6 = Int32.ofInt a6 → oAt 7 lyZ w m (cvZ Z) → wF m (m + 27) w0 w → zR E (r a2 a3 a4 a5 a6 Z) (r' m b2 b3 b4 b5 b6 w)) (hk166 : ∀ (a2 : Int) (a3 : Int) (a4 : Int) (a5 : Int) (Z : zS) (b2 : Int32) (b3 : Int32) (b4 : Int32) (b5 : Int32) (w : gW), b2 = Int32.ofInt a2 → b3 = Int32.ofInt a3 → b4 = Int32.ofInt a4 → b5 = Int32.ofInt a5 → oAt 7 lyZ w m (cvZ Z) → wF m (m + 27) w0 w → zR E (k166 a2 a3 a4 a5 Z) (k166' m b2 b3 b4 b5 w)) (hv2 : v2' = Int32.ofInt v2) (hv3 : v3' = Int32.ofInt v3) (hv4 : v4' = Int32.ofInt v4) (hv5 : v5' = Int32.ofInt v5) (h_w : oAt 7 lyZ w' m (cvZ w)) (f_w : wF m (m + 27) w0 w') : zR E (zX7_isCocycle_b158 F r k166 v2 v3 v4 v5 w) (mX7_isCocycle_b158 F r' k166' m v2' v3' v4' v5' w') := by
  unfold zX7_isCocycle_b158 mX7_isCocycle_b158
  exact (rX7_isCocycle_b159 hr hk166 hv2 hv3 hv4 hv5 (eL (by decide) : (0 : Int32) = Int32.ofInt (0 : Int)) h_w f_w)
set_option maxRecDepth 100000 in
theorem rX7_isCocycle_h37 {F m : Nat} {E : (Int × zS) → (Int32 × gW) → Prop} {w0 : gW} {r : Int → Int → Int → Int → Int → zS → Option (Int × zS)} {r' : Nat → Int32 → Int32 → Int32 → Int32 → Int32 → gW → Option (Int32 × gW)} {k166 : Int → Int → Int → Int → zS → Option (Int × zS)} {k166' : Nat → Int32 → Int32 → Int32 → Int32 → gW → Option (Int32 × gW)} {v1 : Int} {v1' : Int32} {v2 : Int} {v2' : Int32} {v3 : Int} {v3' : Int32} {v4 : Int} {v4' : Int32} {v5 : Int} {v5' : Int32} {w : zS} {w' : gW} (hr : ∀ (a2 : Int) (a3 : Int) (a4 : Int) (a5 : Int) (a6 : Int) (Z : zS) (b2 : Int32) (b3 : Int32) (b4 : Int32) (b5 : Int32) (b6 : Int32) (w : gW), b2 = Int32.ofInt a2 → b3 = Int32.ofInt a3 → b4 = Int32.ofInt a4 → b5 = Int32.ofInt a5 → b6 = Int32.ofInt a6 → oAt 7 lyZ w m (cvZ Z) → wF m (m + 27) w0 w → zR E (r a2 a3 a4 a5 a6 Z) (r' m b2 b3 b4 b5 b6 w)) (hk166 : ∀ (a2 : Int) (a3 : Int) (a4 : Int) (a5 : Int) (Z : zS) (b2 : Int32) (b3 : Int32) (b4 : Int32) (b5 : Int32) (w : gW), b2 = Int32.ofInt a2 → b3 = Int32.ofInt a3 → b4 = Int32.ofInt a4 → b5 = Int32.ofInt a5 → oAt 7 lyZ w m (cvZ Z) → wF m (m + 27) w0 w → zR E (k166 a2 a3 a4 a5 Z) (k166' m b2 b3 b4 b5 w)) (hv1 : v1' = Int32.ofInt v1) (hv2 : v2' = Int32.ofInt v2) (hv3 : v3' = Int32.ofInt v3) (hv4 : v4' = Int32.ofInt v4) (hv5 : v5' = Int32.ofInt v5) (h_w : oAt 7 lyZ w' m (cvZ w)) (f_w : wF m (m + 27) w0 w') : zR E (zX7_isCocycle_h37 F r k166 v1 v2 v3 v4 v5 w) (mX7_isCocycle_h37 F r' k166' m v1' v2' v3' v4' v5' w') := by
  unfold zX7_isCocycle_h37 mX7_isCocycle_h37
  exact (R_FI h_w (k := 37) rfl (c := (zI w 37)) rfl (fun t40' ht40 =>
  (R_Le ht40 hv5
  (hk166 _ _ _ _ _ _ _ _ _ _ hv1 hv2 hv3 hv4 h_w f_w)
  (R_FI h_w (k := 38) rfl (c := (zI w 38)) rfl (fun t50' ht50 =>
    (R_O h_w
    (R_C1 (rX7_prod ht50 hv3 hv4 h_w) f_w (fun q56_1 q56_2 q56_1' q56_2' hq56 h_q56_2 f_q56_2 =>
    (R_O h_q56_2
    (R_C1 (rX7_twisted hv2 hq56 hv5 h_q56_2) f_q56_2 (fun q61_1 q61_2 q61_1' q61_2' hq61 h_q61_2 f_q61_2 =>
    (R_FI h_q61_2 (k := 38) rfl (c := (zI q61_2 38)) rfl (fun t67' ht67 =>
    (R_O h_q61_2
    (R_C1 (rX7_prod ht67 hv2 hv3 h_q61_2) f_q61_2 (fun q72_1 q72_2 q72_1' q72_2' hq72 h_q72_2 f_q72_2 =>
    (R_O h_q72_2
    (R_C1 (rX7_twisted hq72 hv4 hv5 h_q72_2) f_q72_2 (fun q79_1 q79_2 q79_1' q79_2' hq79 h_q79_2 f_q79_2 =>
    (R_O h_q79_2
    (R_C1 (rX7_twisted hv2 hv3 hv5 h_q79_2) f_q79_2 (fun q88_1 q88_2 q88_1' q88_2' hq88 h_q88_2 f_q88_2 =>
    (rX7_isCocycle_l97 (by exact (fun v1 v2 v3 v4 v5 v6 w v1' v2' v3' v4' v5' v6' w' hv1 hv2 hv3 hv4 hv5 hv6 h_w f_w =>
      (R_Eq hv1 (eL (by decide) : (0 : Int32) = Int32.ofInt (0 : Int))
      (rX7_isCocycle_b158 hr hk166 hv2 hv3 hv4 hv5 h_w f_w)
      (R_FI h_w (k := 23) rfl (c := (zI w 23)) rfl (fun t147' ht147 =>
        (R_Rem hv6 ht147 (fun t150 t150' ht150 =>
        (R_Eq ht150 (eL (by decide) : (0 : Int32) = Int32.ofInt (0 : Int))
        (rX7_isCocycle_b159 hr hk166 hv2 hv3 hv4 hv5 (eL (by decide) : (1 : Int32) = Int32.ofInt (1 : Int)) h_w f_w)
        (rX7_isCocycle_b158 hr hk166 hv2 hv3 hv4 hv5 h_w f_w))))))))) F _ _ _ _ _ _ _ _ _ _ _ _ _ _ _ _ hv1 hv2 hv3 hv4 hv5 (eSub (eSub hq61 hq79) hq88) (eL (by decide) : (0 : Int32) = Int32.ofInt (0 : Int)) h_q88_2 f_q88_2)))))))))))))))))))))))
set_option maxRecDepth 100000 in
theorem rX7_isCocycle_l37 {F m : Nat} {E : (Int × zS) → (Int32 × gW) → Prop} {w0 : gW} {k166 : Int → Int → Int → Int → zS → Option (Int × zS)} {k166' : Nat → Int32 → Int32 → Int32 → Int32 → gW → Option (Int32 × gW)} (hk166 : ∀ (a2 : Int) (a3 : Int) (a4 : Int) (a5 : Int) (Z : zS) (b2 : Int32) (b3 : Int32) (b4 : Int32) (b5 : Int32) (w : gW), b2 = Int32.ofInt a2 → b3 = Int32.ofInt a3 → b4 = Int32.ofInt a4 → b5 = Int32.ofInt a5 → oAt 7 lyZ w m (cvZ Z) → wF m (m + 27) w0 w → zR E (k166 a2 a3 a4 a5 Z) (k166' m b2 b3 b4 b5 w)) : ∀ (n : Nat) (v1 : Int) (v2 : Int) (v3 : Int) (v4 : Int) (v5 : Int) (w : zS) (v1' : Int32) (v2' : Int32) (v3' : Int32) (v4' : Int32) (v5' : Int32) (w' : gW), v1' = Int32.ofInt v1 → v2' = Int32.ofInt v2 → v3' = Int32.ofInt v3 → v4' = Int32.ofInt v4 → v5' = Int32.ofInt v5 → oAt 7 lyZ w' m (cvZ w) → wF m (m + 27) w0 w' → zR E (zX7_isCocycle_l37 F k166 n v1 v2 v3 v4 v5 w) (mX7_isCocycle_l37 F k166' n m v1' v2' v3' v4' v5' w') := by
  intro n
  induction n with
  | zero => intros; exact R_none
  | succ n ih =>
    intro v1 v2 v3 v4 v5 w v1' v2' v3' v4' v5' w' hv1 hv2 hv3 hv4 hv5 h_w f_w
    exact rX7_isCocycle_h37 ih hk166 hv1 hv2 hv3 hv4 hv5 h_w f_w
set_option maxRecDepth 100000 in
theorem rX7_isCocycle_h25 {F m : Nat} {E : (Int × zS) → (Int32 × gW) → Prop} {w0 : gW} {r : Int → Int → Int → Int → zS → Option (Int × zS)} {r' : Nat → Int32 → Int32 → Int32 → Int32 → gW → Option (Int32 × gW)} {k172 : Int → Int → Int → zS → Option (Int × zS)} {k172' : Nat → Int32 → Int32 → Int32 → gW → Option (Int32 × gW)} {v1 : Int} {v1' : Int32} {v2 : Int} {v2' : Int32} {v3 : Int} {v3' : Int32} {v4 : Int} {v4' : Int32} {w : zS} {w' : gW} (hr : ∀ (a2 : Int) (a3 : Int) (a4 : Int) (a5 : Int) (Z : zS) (b2 : Int32) (b3 : Int32) (b4 : Int32) (b5 : Int32) (w : gW), b2 = Int32.ofInt a2 → b3 = Int32.ofInt a3 → b4 = Int32.ofInt a4 → b5 = Int32.ofInt a5 → oAt 7 lyZ w m (cvZ Z) → wF m (m + 27) w0 w → zR E (r a2 a3 a4 a5 Z) (r' m b2 b3 b4 b5 w)) (hk172 : ∀ (a2 : Int) (a3 : Int) (a4 : Int) (Z : zS) (b2 : Int32) (b3 : Int32) (b4 : Int32) (w : gW), b2 = Int32.ofInt a2 → b3 = Int32.ofInt a3 → b4 = Int32.ofInt a4 → oAt 7 lyZ w m (cvZ Z) → wF m (m + 27) w0 w → zR E (k172 a2 a3 a4 Z) (k172' m b2 b3 b4 w)) (hv1 : v1' = Int32.ofInt v1) (hv2 : v2' = Int32.ofInt v2) (hv3 : v3' = Int32.ofInt v3) (hv4 : v4' = Int32.ofInt v4) (h_w : oAt 7 lyZ w' m (cvZ w)) (f_w : wF m (m + 27) w0 w') : zR E (zX7_isCocycle_h25 F r k172 v1 v2 v3 v4 w) (mX7_isCocycle_h25 F r' k172' m v1' v2' v3' v4' w') := by
  unfold zX7_isCocycle_h25 mX7_isCocycle_h25
  exact (R_FI h_w (k := 36) rfl (c := (zI w 36)) rfl (fun t28' ht28 =>
  (R_Le ht28 hv4
  (hk172 _ _ _ _ _ _ _ _ hv1 hv2 hv3 h_w f_w)
  (rX7_isCocycle_l37 (by exact (fun v1 v2 v3 v4 w v1' v2' v3' v4' w' hv1 hv2 hv3 hv4 h_w f_w =>
      (hr _ _ _ _ _ _ _ _ _ _ hv1 hv2 hv3 (eAdd hv4 (eL (by decide) : (1 : Int32) = Int32.ofInt (1 : Int))) h_w f_w))) F _ _ _ _ _ _ _ _ _ _ _ _ hv1 hv2 hv3 hv4 (eL (by decide) : (0 : Int32) = Int32.ofInt (0 : Int)) h_w f_w))))
set_option maxRecDepth 100000 in
theorem rX7_isCocycle_l25 {F m : Nat} {E : (Int × zS) → (Int32 × gW) → Prop} {w0 : gW} {k172 : Int → Int → Int → zS → Option (Int × zS)} {k172' : Nat → Int32 → Int32 → Int32 → gW → Option (Int32 × gW)} (hk172 : ∀ (a2 : Int) (a3 : Int) (a4 : Int) (Z : zS) (b2 : Int32) (b3 : Int32) (b4 : Int32) (w : gW), b2 = Int32.ofInt a2 → b3 = Int32.ofInt a3 → b4 = Int32.ofInt a4 → oAt 7 lyZ w m (cvZ Z) → wF m (m + 27) w0 w → zR E (k172 a2 a3 a4 Z) (k172' m b2 b3 b4 w)) : ∀ (n : Nat) (v1 : Int) (v2 : Int) (v3 : Int) (v4 : Int) (w : zS) (v1' : Int32) (v2' : Int32) (v3' : Int32) (v4' : Int32) (w' : gW), v1' = Int32.ofInt v1 → v2' = Int32.ofInt v2 → v3' = Int32.ofInt v3 → v4' = Int32.ofInt v4 → oAt 7 lyZ w' m (cvZ w) → wF m (m + 27) w0 w' → zR E (zX7_isCocycle_l25 F k172 n v1 v2 v3 v4 w) (mX7_isCocycle_l25 F k172' n m v1' v2' v3' v4' w') := by
  intro n
  induction n with
  | zero => intros; exact R_none
  | succ n ih =>
    intro v1 v2 v3 v4 w v1' v2' v3' v4' w' hv1 hv2 hv3 hv4 h_w f_w
    exact rX7_isCocycle_h25 ih hk172 hv1 hv2 hv3 hv4 h_w f_w
set_option maxRecDepth 100000 in
theorem rX7_isCocycle_h14 {F m : Nat} {E : (Int × zS) → (Int32 × gW) → Prop} {w0 : gW} {r : Int → Int → Int → zS → Option (Int × zS)} {r' : Nat → Int32 → Int32 → Int32 → gW → Option (Int32 × gW)} {k178 : Int → Int → zS → Option (Int × zS)} {k178' : Nat → Int32 → Int32 → gW → Option (Int32 × gW)} {v1 : Int} {v1' : Int32} {v2 : Int} {v2' : Int32} {v3 : Int} {v3' : Int32} {w : zS} {w' : gW} (hr : ∀ (a2 : Int) (a3 : Int) (a4 : Int) (Z : zS) (b2 : Int32) (b3 : Int32) (b4 : Int32) (w : gW), b2 = Int32.ofInt a2 → b3 = Int32.ofInt a3 → b4 = Int32.ofInt a4 → oAt 7 lyZ w m (cvZ Z) → wF m (m + 27) w0 w → zR E (r a2 a3 a4 Z) (r' m b2 b3 b4 w)) (hk178 : ∀ (a2 : Int) (a3 : Int) (Z : zS) (b2 : Int32) (b3 : Int32) (w : gW), b2 = Int32.ofInt a2 → b3 = Int32.ofInt a3 → oAt 7 lyZ w m (cvZ Z) → wF m (m + 27) w0 w → zR E (k178 a2 a3 Z) (k178' m b2 b3 w)) (hv1 : v1' = Int32.ofInt v1) (hv2 : v2' = Int32.ofInt v2) (hv3 : v3' = Int32.ofInt v3) (h_w : oAt 7 lyZ w' m (cvZ w)) (f_w : wF m (m + 27) w0 w') : zR E (zX7_isCocycle_h14 F r k178 v1 v2 v3 w) (mX7_isCocycle_h14 F r' k178' m v1' v2' v3' w') := by
  unfold zX7_isCocycle_h14 mX7_isCocycle_h14
  exact (R_FI h_w (k := 36) rfl (c := (zI w 36)) rfl (fun t16' ht16 =>
  (R_Le ht16 hv3
  (hk178 _ _ _ _ _ _ hv1 hv2 h_w f_w)
  (rX7_isCocycle_l25 (by exact (fun v1 v2 v3 w v1' v2' v3' w' hv1 hv2 hv3 h_w f_w =>
      (hr _ _ _ _ _ _ _ _ hv1 hv2 (eAdd hv3 (eL (by decide) : (1 : Int32) = Int32.ofInt (1 : Int))) h_w f_w))) F _ _ _ _ _ _ _ _ _ _ hv1 hv2 hv3 (eL (by decide) : (1 : Int32) = Int32.ofInt (1 : Int)) h_w f_w))))
set_option maxRecDepth 100000 in
theorem rX7_isCocycle_l14 {F m : Nat} {E : (Int × zS) → (Int32 × gW) → Prop} {w0 : gW} {k178 : Int → Int → zS → Option (Int × zS)} {k178' : Nat → Int32 → Int32 → gW → Option (Int32 × gW)} (hk178 : ∀ (a2 : Int) (a3 : Int) (Z : zS) (b2 : Int32) (b3 : Int32) (w : gW), b2 = Int32.ofInt a2 → b3 = Int32.ofInt a3 → oAt 7 lyZ w m (cvZ Z) → wF m (m + 27) w0 w → zR E (k178 a2 a3 Z) (k178' m b2 b3 w)) : ∀ (n : Nat) (v1 : Int) (v2 : Int) (v3 : Int) (w : zS) (v1' : Int32) (v2' : Int32) (v3' : Int32) (w' : gW), v1' = Int32.ofInt v1 → v2' = Int32.ofInt v2 → v3' = Int32.ofInt v3 → oAt 7 lyZ w' m (cvZ w) → wF m (m + 27) w0 w' → zR E (zX7_isCocycle_l14 F k178 n v1 v2 v3 w) (mX7_isCocycle_l14 F k178' n m v1' v2' v3' w') := by
  intro n
  induction n with
  | zero => intros; exact R_none
  | succ n ih =>
    intro v1 v2 v3 w v1' v2' v3' w' hv1 hv2 hv3 h_w f_w
    exact rX7_isCocycle_h14 ih hk178 hv1 hv2 hv3 h_w f_w
set_option maxRecDepth 100000 in
theorem rX7_isCocycle_h4 {F m : Nat} {w0 : gW} {r : Int → Int → zS → Option (Int × zS)} {r' : Nat → Int32 → Int32 → gW → Option (Int32 × gW)} {v1 : Int} {v1' : Int32} {v2 : Int} {v2' : Int32} {w : zS} {w' : gW} (hr : ∀ (a2 : Int) (a3 : Int) (Z : zS) (b2 : Int32) (b3 : Int32) (w : gW), b2 = Int32.ofInt a2 → b3 = Int32.ofInt a3 → oAt 7 lyZ w m (cvZ Z) → wF m (m + 27) w0 w → zR (E1 m w0) (r a2 a3 Z) (r' m b2 b3 w)) (hv1 : v1' = Int32.ofInt v1) (hv2 : v2' = Int32.ofInt v2) (h_w : oAt 7 lyZ w' m (cvZ w)) (f_w : wF m (m + 27) w0 w') : zR (E1 m w0) (zX7_isCocycle_h4 F r v1 v2 w) (mX7_isCocycle_h4 F r' m v1' v2' w') := by
  unfold zX7_isCocycle_h4 mX7_isCocycle_h4
  exact (R_FI h_w (k := 36) rfl (c := (zI w 36)) rfl (fun t6' ht6 =>
  (R_Le ht6 hv2
  (R_Bo hv1 (fun v v' hv =>
    (R_ret1 hv h_w f_w)))
  (rX7_isCocycle_l14 (by exact (fun v1 v2 w v1' v2' w' hv1 hv2 h_w f_w =>
      (hr _ _ _ _ _ _ hv1 (eAdd hv2 (eL (by decide) : (1 : Int32) = Int32.ofInt (1 : Int))) h_w f_w))) F _ _ _ _ _ _ _ _ hv1 hv2 (eL (by decide) : (1 : Int32) = Int32.ofInt (1 : Int)) h_w f_w))))
set_option maxRecDepth 100000 in
theorem rX7_isCocycle_l4 {F m : Nat} {w0 : gW}   : ∀ (n : Nat) (v1 : Int) (v2 : Int) (w : zS) (v1' : Int32) (v2' : Int32) (w' : gW), v1' = Int32.ofInt v1 → v2' = Int32.ofInt v2 → oAt 7 lyZ w' m (cvZ w) → wF m (m + 27) w0 w' → zR (E1 m w0) (zX7_isCocycle_l4 F  n v1 v2 w) (mX7_isCocycle_l4 F  n m v1' v2' w') := by
  intro n
  induction n with
  | zero => intros; exact R_none
  | succ n ih =>
    intro v1 v2 w v1' v2' w' hv1 hv2 h_w f_w
    exact rX7_isCocycle_h4 ih  hv1 hv2 h_w f_w
set_option maxRecDepth 100000 in
theorem rX7_isCocycle {F m : Nat} {w : zS} {w' : gW} (h_w : oAt 7 lyZ w' m (cvZ w)) : zR (E1 m w') (zX7_isCocycle F w) (mX7_isCocycle F m w') := by
  have f_w : wF m (m + 27) w' w' := wF.rf
  unfold zX7_isCocycle mX7_isCocycle
  exact (rX7_isCocycle_l4  F _ _ _ _ _ _ (eL (by decide) : (1 : Int32) = Int32.ofInt (1 : Int)) (eL (by decide) : (1 : Int32) = Int32.ofInt (1 : Int)) h_w f_w)
set_option maxRecDepth 100000 in
theorem rX7_isElement_b30 {F m : Nat} {w0 : gW} {w : zS} {w' : gW} (h_w : oAt 7 lyZ w' m (cvZ w)) (f_w : wF m (m + 27) w0 w') : zR (E1 m w0) (zX7_isElement_b30 F w) (mX7_isElement_b30 F w') := by
  unfold zX7_isElement_b30 mX7_isElement_b30
  exact (R_ret1 (eL (by decide) : (0 : Int32) = Int32.ofInt (0 : Int)) h_w f_w)
set_option maxRecDepth 100000 in
theorem rX7_isElement {F m : Nat} {v1 : Int} {v1' : Int32} {v2 : Int} {v2' : Int32} {w : zS} {w' : gW} (hv1 : v1' = Int32.ofInt v1) (hv2 : v2' = Int32.ofInt v2) (h_w : oAt 7 lyZ w' m (cvZ w)) : zR (E1 m w') (zX7_isElement F v1 v2 w) (mX7_isElement F m v1' v2' w') := by
  have f_w : wF m (m + 27) w' w' := wF.rf
  unfold zX7_isElement mX7_isElement
  exact (R_O h_w
  (R_C1 (rX7_isGroup hv1 h_w) f_w (fun q2_1 q2_2 q2_1' q2_2' hq2 h_q2_2 f_q2_2 =>
  (R_Eq hq2 (eL (by decide) : (0 : Int32) = Int32.ofInt (0 : Int))
  (rX7_isElement_b30 h_q2_2 f_q2_2)
  (R_FR h_q2_2 (k := 1) rfl
    (R_Ld h_q2_2 (k := 1) rfl (by decide) hv1 rfl (fun t16 t16' ht16 =>
    (R_C1 (rX7_in (congrArg Int32.toInt64 hv2) rfl (congrArg Int32.toInt64 (eSub ht16 (eL (by decide) : (1 : Int32) = Int32.ofInt (1 : Int)))) h_q2_2) f_q2_2 (fun q20_1 q20_2 q20_1' q20_2' hq20 h_q20_2 f_q20_2 =>
    (R_Eq hq20 (eL (by decide) : (0 : Int32) = Int32.ofInt (0 : Int))
    (rX7_isElement_b30 h_q20_2 f_q20_2)
    (R_ret1 (eL (by decide) : (1 : Int32) = Int32.ofInt (1 : Int)) h_q20_2 f_q20_2)))))))))))
set_option maxRecDepth 100000 in
theorem rX7_leastMakers_b388 {F m : Nat} {E : (Int × zS) → (Int32 × gW) → Prop} {w0 : gW} {r : Int → Int → Int → Int → Int → Int → Int64 → Int64 → Int → zS → Option (Int × zS)} {r' : Nat → Int32 → Int32 → Int32 → Int32 → Int32 → Int32 → Int64 → Int64 → Int32 → gW → Option (Int32 × gW)} {k394 : Int → Int → Int → Int → Int → Int → zS → Option (Int × zS)} {k394' : Nat → Int32 → Int32 → Int32 → Int32 → Int32 → Int32 → gW → Option (Int32 × gW)} {v1 : Int} {v1' : Int32} {v3 : Int} {v3' : Int32} {v4 : Int} {v4' : Int32} {v5 : Int} {v5' : Int32} {v6 : Int} {v6' : Int32} {v7 : Int} {v7' : Int32} {v8 : Int64} {v8' : Int64} {v10 : Int64} {v10' : Int64} {v12 : Int} {v12' : Int32} {w : zS} {w' : gW} (hr : ∀ (a2 : Int) (a3 : Int) (a4 : Int) (a5 : Int) (a6 : Int) (a7 : Int) (a8 : Int64) (a9 : Int64) (a10 : Int) (Z : zS) (b2 : Int32) (b3 : Int32) (b4 : Int32) (b5 : Int32) (b6 : Int32) (b7 : Int32) (b8 : Int64) (b9 : Int64) (b10 : Int32) (w : gW), b2 = Int32.ofInt a2 → b3 = Int32.ofInt a3 → b4 = Int32.ofInt a4 → b5 = Int32.ofInt a5 → b6 = Int32.ofInt a6 → b7 = Int32.ofInt a7 → b8 = a8 → b9 = a9 → b10 = Int32.ofInt a10 → oAt 7 lyZ w m (cvZ Z) → wF m (m + 27) w0 w → zR E (r a2 a3 a4 a5 a6 a7 a8 a9 a10 Z) (r' m b2 b3 b4 b5 b6 b7 b8 b9 b10 w)) (hk394 : ∀ (a2 : Int) (a3 : Int) (a4 : Int) (a5 : Int) (a6 : Int) (a7 : Int) (Z : zS) (b2 : Int32) (b3 : Int32) (b4 : Int32) (b5 : Int32) (b6 : Int32) (b7 : Int32) (w : gW), b2 = Int32.ofInt a2 → b3 = Int32.ofInt a3 → b4 = Int32.ofInt a4 → b5 = Int32.ofInt a5 → b6 = Int32.ofInt a6 → b7 = Int32.ofInt a7 → oAt 7 lyZ w m (cvZ Z) → wF m (m + 27) w0 w → zR E (k394 a2 a3 a4 a5 a6 a7 Z) (k394' m b2 b3 b4 b5 b6 b7 w)) (hv1 : v1' = Int32.ofInt v1) (hv3 : v3' = Int32.ofInt v3) (hv4 : v4' = Int32.ofInt v4) (hv5 : v5' = Int32.ofInt v5) (hv6 : v6' = Int32.ofInt v6) (hv7 : v7' = Int32.ofInt v7) (hv8 : v8' = v8) (hv10 : v10' = v10) (hv12 : v12' = Int32.ofInt v12) (h_w : oAt 7 lyZ w' m (cvZ w)) (f_w : wF m (m + 27) w0 w') : zR E (zX7_leastMakers_b388 F r k394 v1 v3 v4 v5 v6 v7 v8 v10 v12 w) (mX7_leastMakers_b388 F r' k394' m v1' v3' v4' v5' v6' v7' v8' v10' v12' w') := by
  unfold zX7_leastMakers_b388 mX7_leastMakers_b388
  exact (hr _ _ _ _ _ _ _ _ _ _ _ _ _ _ _ _ _ _ _ _ hv1 hv3 hv4 hv5 hv6 hv7 hv8 hv10 (eAdd hv12 (eL (by decide) : (1 : Int32) = Int32.ofInt (1 : Int))) h_w f_w)
set_option maxRecDepth 100000 in
theorem rX7_leastMakers_h172 {F m : Nat} {E : (Int × zS) → (Int32 × gW) → Prop} {w0 : gW} {r : Int → Int → Int → Int → Int → Int64 → Int64 → Int → Int → zS → Option (Int × zS)} {r' : Nat → Int32 → Int32 → Int32 → Int32 → Int32 → Int64 → Int64 → Int32 → Int32 → gW → Option (Int32 × gW)} {k205 : Int → Int → Int → Int → Int → Int64 → Int64 → Int → zS → Option (Int × zS)} {k205' : Nat → Int32 → Int32 → Int32 → Int32 → Int32 → Int64 → Int64 → Int32 → gW → Option (Int32 × gW)} {v1 : Int} {v1' : Int32} {v3 : Int} {v3' : Int32} {v4 : Int} {v4' : Int32} {v6 : Int} {v6' : Int32} {v7 : Int} {v7' : Int32} {v8 : Int64} {v8' : Int64} {v10 : Int64} {v10' : Int64} {v12 : Int} {v12' : Int32} {v14 : Int} {v14' : Int32} {w : zS} {w' : gW} (hr : ∀ (a2 : Int) (a3 : Int) (a4 : Int) (a5 : Int) (a6 : Int) (a7 : Int64) (a8 : Int64) (a9 : Int) (a10 : Int) (Z : zS) (b2 : Int32) (b3 : Int32) (b4 : Int32) (b5 : Int32) (b6 : Int32) (b7 : Int64) (b8 : Int64) (b9 : Int32) (b10 : Int32) (w : gW), b2 = Int32.ofInt a2 → b3 = Int32.ofInt a3 → b4 = Int32.ofInt a4 → b5 = Int32.ofInt a5 → b6 = Int32.ofInt a6 → b7 = a7 → b8 = a8 → b9 = Int32.ofInt a9 → b10 = Int32.ofInt a10 → oAt 7 lyZ w m (cvZ Z) → wF m (m + 27) w0 w → zR E (r a2 a3 a4 a5 a6 a7 a8 a9 a10 Z) (r' m b2 b3 b4 b5 b6 b7 b8 b9 b10 w)) (hk205 : ∀ (a2 : Int) (a3 : Int) (a4 : Int) (a5 : Int) (a6 : Int) (a7 : Int64) (a8 : Int64) (a9 : Int) (Z : zS) (b2 : Int32) (b3 : Int32) (b4 : Int32) (b5 : Int32) (b6 : Int32) (b7 : Int64) (b8 : Int64) (b9 : Int32) (w : gW), b2 = Int32.ofInt a2 → b3 = Int32.ofInt a3 → b4 = Int32.ofInt a4 → b5 = Int32.ofInt a5 → b6 = Int32.ofInt a6 → b7 = a7 → b8 = a8 → b9 = Int32.ofInt a9 → oAt 7 lyZ w m (cvZ Z) → wF m (m + 27) w0 w → zR E (k205 a2 a3 a4 a5 a6 a7 a8 a9 Z) (k205' m b2 b3 b4 b5 b6 b7 b8 b9 w)) (hv1 : v1' = Int32.ofInt v1) (hv3 : v3' = Int32.ofInt v3) (hv4 : v4' = Int32.ofInt v4) (hv6 : v6' = Int32.ofInt v6) (hv7 : v7' = Int32.ofInt v7) (hv8 : v8' = v8) (hv10 : v10' = v10) (hv12 : v12' = Int32.ofInt v12) (hv14 : v14' = Int32.ofInt v14) (h_w : oAt 7 lyZ w' m (cvZ w)) (f_w : wF m (m + 27) w0 w') : zR E (zX7_leastMakers_h172 F r k205 v1 v3 v4 v6 v7 v8 v10 v12 v14 w) (mX7_leastMakers_h172 F r' k205' m v1' v3' v4' v6' v7' v8' v10' v12' v14' w') := by
  unfold zX7_leastMakers_h172 mX7_leastMakers_h172
  exact (R_Le hv4 hv14
  (hk205 _ _ _ _ _ _ _ _ _ _ _ _ _ _ _ _ _ _ hv1 hv3 hv4 hv6 hv7 hv8 hv10 hv12 h_w f_w)
  (R_FR h_w (k := 12) rfl
    (R_FR h_w (k := 19) rfl
    (R_Ld h_w (k := 19) rfl (by decide) (eAdd (eMul (eL (by decide) : (8 : Int32) = Int32.ofInt (8 : Int)) hv7) hv14) rfl (fun t197 t197' ht197 =>
    (R_St h_w f_w (k := 12) rfl (by decide) hv14 ht197 (fun w198' h_w198 f_w198 =>
    (hr _ _ _ _ _ _ _ _ _ _ _ _ _ _ _ _ _ _ _ _ hv1 hv3 hv4 hv6 hv7 hv8 hv10 hv12 (eAdd hv14 (eL (by decide) : (1 : Int32) = Int32.ofInt (1 : Int))) h_w198 f_w198))))))))
set_option maxRecDepth 100000 in
theorem rX7_leastMakers_l172 {F m : Nat} {E : (Int × zS) → (Int32 × gW) → Prop} {w0 : gW} {k205 : Int → Int → Int → Int → Int → Int64 → Int64 → Int → zS → Option (Int × zS)} {k205' : Nat → Int32 → Int32 → Int32 → Int32 → Int32 → Int64 → Int64 → Int32 → gW → Option (Int32 × gW)} (hk205 : ∀ (a2 : Int) (a3 : Int) (a4 : Int) (a5 : Int) (a6 : Int) (a7 : Int64) (a8 : Int64) (a9 : Int) (Z : zS) (b2 : Int32) (b3 : Int32) (b4 : Int32) (b5 : Int32) (b6 : Int32) (b7 : Int64) (b8 : Int64) (b9 : Int32) (w : gW), b2 = Int32.ofInt a2 → b3 = Int32.ofInt a3 → b4 = Int32.ofInt a4 → b5 = Int32.ofInt a5 → b6 = Int32.ofInt a6 → b7 = a7 → b8 = a8 → b9 = Int32.ofInt a9 → oAt 7 lyZ w m (cvZ Z) → wF m (m + 27) w0 w → zR E (k205 a2 a3 a4 a5 a6 a7 a8 a9 Z) (k205' m b2 b3 b4 b5 b6 b7 b8 b9 w)) : ∀ (n : Nat) (v1 : Int) (v3 : Int) (v4 : Int) (v6 : Int) (v7 : Int) (v8 : Int64) (v10 : Int64) (v12 : Int) (v14 : Int) (w : zS) (v1' : Int32) (v3' : Int32) (v4' : Int32) (v6' : Int32) (v7' : Int32) (v8' : Int64) (v10' : Int64) (v12' : Int32) (v14' : Int32) (w' : gW), v1' = Int32.ofInt v1 → v3' = Int32.ofInt v3 → v4' = Int32.ofInt v4 → v6' = Int32.ofInt v6 → v7' = Int32.ofInt v7 → v8' = v8 → v10' = v10 → v12' = Int32.ofInt v12 → v14' = Int32.ofInt v14 → oAt 7 lyZ w' m (cvZ w) → wF m (m + 27) w0 w' → zR E (zX7_leastMakers_l172 F k205 n v1 v3 v4 v6 v7 v8 v10 v12 v14 w) (mX7_leastMakers_l172 F k205' n m v1' v3' v4' v6' v7' v8' v10' v12' v14' w') := by
  intro n
  induction n with
  | zero => intros; exact R_none
  | succ n ih =>
    intro v1 v3 v4 v6 v7 v8 v10 v12 v14 w v1' v3' v4' v6' v7' v8' v10' v12' v14' w' hv1 hv3 hv4 hv6 hv7 hv8 hv10 hv12 hv14 h_w f_w
    exact rX7_leastMakers_h172 ih hk205 hv1 hv3 hv4 hv6 hv7 hv8 hv10 hv12 hv14 h_w f_w
set_option maxRecDepth 100000 in
theorem rX7_leastMakers_b314 {F m : Nat} {E : (Int × zS) → (Int32 × gW) → Prop} {w0 : gW} {r : Int → Int → Int → Int → Int → Int → Int64 → Int64 → Int → Int → Int → zS → Option (Int × zS)} {r' : Nat → Int32 → Int32 → Int32 → Int32 → Int32 → Int32 → Int64 → Int64 → Int32 → Int32 → Int32 → gW → Option (Int32 × gW)} {k322 : Int → Int → Int → Int → Int → Int → Int64 → Int64 → Int → Int → zS → Option (Int × zS)} {k322' : Nat → Int32 → Int32 → Int32 → Int32 → Int32 → Int32 → Int64 → Int64 → Int32 → Int32 → gW → Option (Int32 × gW)} {v1 : Int} {v1' : Int32} {v3 : Int} {v3' : Int32} {v4 : Int} {v4' : Int32} {v5 : Int} {v5' : Int32} {v6 : Int} {v6' : Int32} {v7 : Int} {v7' : Int32} {v8 : Int64} {v8' : Int64} {v10 : Int64} {v10' : Int64} {v12 : Int} {v12' : Int32} {v15 : Int} {v15' : Int32} {s0 : Int} {s0' : Int32} {w : zS} {w' : gW} (hr : ∀ (a2 : Int) (a3 : Int) (a4 : Int) (a5 : Int) (a6 : Int) (a7 : Int) (a8 : Int64) (a9 : Int64) (a10 : Int) (a11 : Int) (a12 : Int) (Z : zS) (b2 : Int32) (b3 : Int32) (b4 : Int32) (b5 : Int32) (b6 : Int32) (b7 : Int32) (b8 : Int64) (b9 : Int64) (b10 : Int32) (b11 : Int32) (b12 : Int32) (w : gW), b2 = Int32.ofInt a2 → b3 = Int32.ofInt a3 → b4 = Int32.ofInt a4 → b5 = Int32.ofInt a5 → b6 = Int32.ofInt a6 → b7 = Int32.ofInt a7 → b8 = a8 → b9 = a9 → b10 = Int32.ofInt a10 → b11 = Int32.ofInt a11 → b12 = Int32.ofInt a12 → oAt 7 lyZ w m (cvZ Z) → wF m (m + 27) w0 w → zR E (r a2 a3 a4 a5 a6 a7 a8 a9 a10 a11 a12 Z) (r' m b2 b3 b4 b5 b6 b7 b8 b9 b10 b11 b12 w)) (hk322 : ∀ (a2 : Int) (a3 : Int) (a4 : Int) (a5 : Int) (a6 : Int) (a7 : Int) (a8 : Int64) (a9 : Int64) (a10 : Int) (a11 : Int) (Z : zS) (b2 : Int32) (b3 : Int32) (b4 : Int32) (b5 : Int32) (b6 : Int32) (b7 : Int32) (b8 : Int64) (b9 : Int64) (b10 : Int32) (b11 : Int32) (w : gW), b2 = Int32.ofInt a2 → b3 = Int32.ofInt a3 → b4 = Int32.ofInt a4 → b5 = Int32.ofInt a5 → b6 = Int32.ofInt a6 → b7 = Int32.ofInt a7 → b8 = a8 → b9 = a9 → b10 = Int32.ofInt a10 → b11 = Int32.ofInt a11 → oAt 7 lyZ w m (cvZ Z) → wF m (m + 27) w0 w → zR E (k322 a2 a3 a4 a5 a6 a7 a8 a9 a10 a11 Z) (k322' m b2 b3 b4 b5 b6 b7 b8 b9 b10 b11 w)) (hv1 : v1' = Int32.ofInt v1) (hv3 : v3' = Int32.ofInt v3) (hv4 : v4' = Int32.ofInt v4) (hv5 : v5' = Int32.ofInt v5) (hv6 : v6' = Int32.ofInt v6) (hv7 : v7' = Int32.ofInt v7) (hv8 : v8' = v8) (hv10 : v10' = v10) (hv12 : v12' = Int32.ofInt v12) (hv15 : v15' = Int32.ofInt v15) (hs0 : s0' = Int32.ofInt s0) (h_w : oAt 7 lyZ w' m (cvZ w)) (f_w : wF m (m + 27) w0 w') : zR E (zX7_leastMakers_b314 F r k322 v1 v3 v4 v5 v6 v7 v8 v10 v12 v15 s0 w) (mX7_leastMakers_b314 F r' k322' m v1' v3' v4' v5' v6' v7' v8' v10' v12' v15' s0' w') := by
  unfold zX7_leastMakers_b314 mX7_leastMakers_b314
  exact (hr _ _ _ _ _ _ _ _ _ _ _ _ _ _ _ _ _ _ _ _ _ _ _ _ hv1 hv3 hv4 hv5 hv6 hv7 hv8 hv10 hv12 hs0 (eAdd hv15 (eL (by decide) : (1 : Int32) = Int32.ofInt (1 : Int))) h_w f_w)
set_option maxRecDepth 100000 in
theorem rX7_leastMakers_b309 {F m : Nat} {E : (Int × zS) → (Int32 × gW) → Prop} {w0 : gW} {r : Int → Int → Int → Int → Int → Int → Int64 → Int64 → Int → Int → Int → zS → Option (Int × zS)} {r' : Nat → Int32 → Int32 → Int32 → Int32 → Int32 → Int32 → Int64 → Int64 → Int32 → Int32 → Int32 → gW → Option (Int32 × gW)} {k322 : Int → Int → Int → Int → Int → Int → Int64 → Int64 → Int → Int → zS → Option (Int × zS)} {k322' : Nat → Int32 → Int32 → Int32 → Int32 → Int32 → Int32 → Int64 → Int64 → Int32 → Int32 → gW → Option (Int32 × gW)} {v1 : Int} {v1' : Int32} {v3 : Int} {v3' : Int32} {v4 : Int} {v4' : Int32} {v5 : Int} {v5' : Int32} {v6 : Int} {v6' : Int32} {v7 : Int} {v7' : Int32} {v8 : Int64} {v8' : Int64} {v10 : Int64} {v10' : Int64} {v12 : Int} {v12' : Int32} {v15 : Int} {v15' : Int32} {w : zS} {w' : gW} (hr : ∀ (a2 : Int) (a3 : Int) (a4 : Int) (a5 : Int) (a6 : Int) (a7 : Int) (a8 : Int64) (a9 : Int64) (a10 : Int) (a11 : Int) (a12 : Int) (Z : zS) (b2 : Int32) (b3 : Int32) (b4 : Int32) (b5 : Int32) (b6 : Int32) (b7 : Int32) (b8 : Int64) (b9 : Int64) (b10 : Int32) (b11 : Int32) (b12 : Int32) (w : gW), b2 = Int32.ofInt a2 → b3 = Int32.ofInt a3 → b4 = Int32.ofInt a4 → b5 = Int32.ofInt a5 → b6 = Int32.ofInt a6 → b7 = Int32.ofInt a7 → b8 = a8 → b9 = a9 → b10 = Int32.ofInt a10 → b11 = Int32.ofInt a11 → b12 = Int32.ofInt a12 → oAt 7 lyZ w m (cvZ Z) → wF m (m + 27) w0 w → zR E (r a2 a3 a4 a5 a6 a7 a8 a9 a10 a11 a12 Z) (r' m b2 b3 b4 b5 b6 b7 b8 b9 b10 b11 b12 w)) (hk322 : ∀ (a2 : Int) (a3 : Int) (a4 : Int) (a5 : Int) (a6 : Int) (a7 : Int) (a8 : Int64) (a9 : Int64) (a10 : Int) (a11 : Int) (Z : zS) (b2 : Int32) (b3 : Int32) (b4 : Int32) (b5 : Int32) (b6 : Int32) (b7 : Int32) (b8 : Int64) (b9 : Int64) (b10 : Int32) (b11 : Int32) (w : gW), b2 = Int32.ofInt a2 → b3 = Int32.ofInt a3 → b4 = Int32.ofInt a4 → b5 = Int32.ofInt a5 → b6 = Int32.ofInt a6 → b7 = Int32.ofInt a7 → b8 = a8 → b9 = a9 → b10 = Int32.ofInt a10 → b11 = Int32.ofInt a11 → oAt 7 lyZ w m (cvZ Z) → wF m (m + 27) w0 w → zR E (k322 a2 a3 a4 a5 a6 a7 a8 a9 a10 a11 Z) (k322' m b2 b3 b4 b5 b6 b7 b8 b9 b10 b11 w)) (hv1 : v1' = Int32.ofInt v1) (hv3 : v3' = Int32.ofInt v3) (hv4 : v4' = Int32.ofInt v4) (hv5 : v5' = Int32.ofInt v5) (hv6 : v6' = Int32.ofInt v6) (hv7 : v7' = Int32.ofInt v7) (hv8 : v8' = v8) (hv10 : v10' = v10) (hv12 : v12' = Int32.ofInt v12) (hv15 : v15' = Int32.ofInt v15) (h_w : oAt 7 lyZ w' m (cvZ w)) (f_w : wF m (m + 27) w0 w') : zR E (zX7_leastMakers_b309 F r k322 v1 v3 v4 v5 v6 v7 v8 v10 v12 v15 w) (mX7_leastMakers_b309 F r' k322' m v1' v3' v4' v5' v6' v7' v8' v10' v12' v15' w') := by
  unfold zX7_leastMakers_b309 mX7_leastMakers_b309
  exact (rX7_leastMakers_b314 hr hk322 hv1 hv3 hv4 hv5 hv6 hv7 hv8 hv10 hv12 hv15 (eL (by decide) : (1 : Int32) = Int32.ofInt (1 : Int)) h_w f_w)
set_option maxRecDepth 100000 in
theorem rX7_leastMakers_b313 {F m : Nat} {E : (Int × zS) → (Int32 × gW) → Prop} {w0 : gW} {r : Int → Int → Int → Int → Int → Int → Int64 → Int64 → Int → Int → Int → zS → Option (Int × zS)} {r' : Nat → Int32 → Int32 → Int32 → Int32 → Int32 → Int32 → Int64 → Int64 → Int32 → Int32 → Int32 → gW → Option (Int32 × gW)} {k322 : Int → Int → Int → Int → Int → Int → Int64 → Int64 → Int → Int → zS → Option (Int × zS)} {k322' : Nat → Int32 → Int32 → Int32 → Int32 → Int32 → Int32 → Int64 → Int64 → Int32 → Int32 → gW → Option (Int32 × gW)} {v1 : Int} {v1' : Int32} {v3 : Int} {v3' : Int32} {v4 : Int} {v4' : Int32} {v5 : Int} {v5' : Int32} {v6 : Int} {v6' : Int32} {v7 : Int} {v7' : Int32} {v8 : Int64} {v8' : Int64} {v10 : Int64} {v10' : Int64} {v12 : Int} {v12' : Int32} {v15 : Int} {v15' : Int32} {w : zS} {w' : gW} (hr : ∀ (a2 : Int) (a3 : Int) (a4 : Int) (a5 : Int) (a6 : Int) (a7 : Int) (a8 : Int64) (a9 : Int64) (a10 : Int) (a11 : Int) (a12 : Int) (Z : zS) (b2 : Int32) (b3 : Int32) (b4 : Int32) (b5 : Int32) (b6 : Int32) (b7 : Int32) (b8 : Int64) (b9 : Int64) (b10 : Int32) (b11 : Int32) (b12 : Int32) (w : gW), b2 = Int32.ofInt a2 → b3 = Int32.ofInt a3 → b4 = Int32.ofInt a4 → b5 = Int32.ofInt a5 → b6 = Int32.ofInt a6 → b7 = Int32.ofInt a7 → b8 = a8 → b9 = a9 → b10 = Int32.ofInt a10 → b11 = Int32.ofInt a11 → b12 = Int32.ofInt a12 → oAt 7 lyZ w m (cvZ Z) → wF m (m + 27) w0 w → zR E (r a2 a3 a4 a5 a6 a7 a8 a9 a10 a11 a12 Z) (r' m b2 b3 b4 b5 b6 b7 b8 b9 b10 b11 b12 w)) (hk322 : ∀ (a2 : Int) (a3 : Int) (a4 : Int) (a5 : Int) (a6 : Int) (a7 : Int) (a8 : Int64) (a9 : Int64) (a10 : Int) (a11 : Int) (Z : zS) (b2 : Int32) (b3 : Int32) (b4 : Int32) (b5 : Int32) (b6 : Int32) (b7 : Int32) (b8 : Int64) (b9 : Int64) (b10 : Int32) (b11 : Int32) (w : gW), b2 = Int32.ofInt a2 → b3 = Int32.ofInt a3 → b4 = Int32.ofInt a4 → b5 = Int32.ofInt a5 → b6 = Int32.ofInt a6 → b7 = Int32.ofInt a7 → b8 = a8 → b9 = a9 → b10 = Int32.ofInt a10 → b11 = Int32.ofInt a11 → oAt 7 lyZ w m (cvZ Z) → wF m (m + 27) w0 w → zR E (k322 a2 a3 a4 a5 a6 a7 a8 a9 a10 a11 Z) (k322' m b2 b3 b4 b5 b6 b7 b8 b9 b10 b11 w)) (hv1 : v1' = Int32.ofInt v1) (hv3 : v3' = Int32.ofInt v3) (hv4 : v4' = Int32.ofInt v4) (hv5 : v5' = Int32.ofInt v5) (hv6 : v6' = Int32.ofInt v6) (hv7 : v7' = Int32.ofInt v7) (hv8 : v8' = v8) (hv10 : v10' = v10) (hv12 : v12' = Int32.ofInt v12) (hv15 : v15' = Int32.ofInt v15) (h_w : oAt 7 lyZ w' m (cvZ w)) (f_w : wF m (m + 27) w0 w') : zR E (zX7_leastMakers_b313 F r k322 v1 v3 v4 v5 v6 v7 v8 v10 v12 v15 w) (mX7_leastMakers_b313 F r' k322' m v1' v3' v4' v5' v6' v7' v8' v10' v12' v15' w') := by
  unfold zX7_leastMakers_b313 mX7_leastMakers_b313
  exact (rX7_leastMakers_b314 hr hk322 hv1 hv3 hv4 hv5 hv6 hv7 hv8 hv10 hv12 hv15 (eL (by decide) : (0 : Int32) = Int32.ofInt (0 : Int)) h_w f_w)
set_option maxRecDepth 100000 in
theorem rX7_leastMakers_h267 {F m : Nat} {E : (Int × zS) → (Int32 × gW) → Prop} {w0 : gW} {r : Int → Int → Int → Int → Int → Int → Int64 → Int64 → Int → Int → Int → zS → Option (Int × zS)} {r' : Nat → Int32 → Int32 → Int32 → Int32 → Int32 → Int32 → Int64 → Int64 → Int32 → Int32 → Int32 → gW → Option (Int32 × gW)} {k322 : Int → Int → Int → Int → Int → Int → Int64 → Int64 → Int → Int → zS → Option (Int × zS)} {k322' : Nat → Int32 → Int32 → Int32 → Int32 → Int32 → Int32 → Int64 → Int64 → Int32 → Int32 → gW → Option (Int32 × gW)} {v1 : Int} {v1' : Int32} {v3 : Int} {v3' : Int32} {v4 : Int} {v4' : Int32} {v5 : Int} {v5' : Int32} {v6 : Int} {v6' : Int32} {v7 : Int} {v7' : Int32} {v8 : Int64} {v8' : Int64} {v10 : Int64} {v10' : Int64} {v12 : Int} {v12' : Int32} {v14 : Int} {v14' : Int32} {v15 : Int} {v15' : Int32} {w : zS} {w' : gW} (hr : ∀ (a2 : Int) (a3 : Int) (a4 : Int) (a5 : Int) (a6 : Int) (a7 : Int) (a8 : Int64) (a9 : Int64) (a10 : Int) (a11 : Int) (a12 : Int) (Z : zS) (b2 : Int32) (b3 : Int32) (b4 : Int32) (b5 : Int32) (b6 : Int32) (b7 : Int32) (b8 : Int64) (b9 : Int64) (b10 : Int32) (b11 : Int32) (b12 : Int32) (w : gW), b2 = Int32.ofInt a2 → b3 = Int32.ofInt a3 → b4 = Int32.ofInt a4 → b5 = Int32.ofInt a5 → b6 = Int32.ofInt a6 → b7 = Int32.ofInt a7 → b8 = a8 → b9 = a9 → b10 = Int32.ofInt a10 → b11 = Int32.ofInt a11 → b12 = Int32.ofInt a12 → oAt 7 lyZ w m (cvZ Z) → wF m (m + 27) w0 w → zR E (r a2 a3 a4 a5 a6 a7 a8 a9 a10 a11 a12 Z) (r' m b2 b3 b4 b5 b6 b7 b8 b9 b10 b11 b12 w)) (hk322 : ∀ (a2 : Int) (a3 : Int) (a4 : Int) (a5 : Int) (a6 : Int) (a7 : Int) (a8 : Int64) (a9 : Int64) (a10 : Int) (a11 : Int) (Z : zS) (b2 : Int32) (b3 : Int32) (b4 : Int32) (b5 : Int32) (b6 : Int32) (b7 : Int32) (b8 : Int64) (b9 : Int64) (b10 : Int32) (b11 : Int32) (w : gW), b2 = Int32.ofInt a2 → b3 = Int32.ofInt a3 → b4 = Int32.ofInt a4 → b5 = Int32.ofInt a5 → b6 = Int32.ofInt a6 → b7 = Int32.ofInt a7 → b8 = a8 → b9 = a9 → b10 = Int32.ofInt a10 → b11 = Int32.ofInt a11 → oAt 7 lyZ w m (cvZ Z) → wF m (m + 27) w0 w → zR E (k322 a2 a3 a4 a5 a6 a7 a8 a9 a10 a11 Z) (k322' m b2 b3 b4 b5 b6 b7 b8 b9 b10 b11 w)) (hv1 : v1' = Int32.ofInt v1) (hv3 : v3' = Int32.ofInt v3) (hv4 : v4' = Int32.ofInt v4) (hv5 : v5' = Int32.ofInt v5) (hv6 : v6' = Int32.ofInt v6) (hv7 : v7' = Int32.ofInt v7) (hv8 : v8' = v8) (hv10 : v10' = v10) (hv12 : v12' = Int32.ofInt v12) (hv14 : v14' = Int32.ofInt v14) (hv15 : v15' = Int32.ofInt v15) (h_w : oAt 7 lyZ w' m (cvZ w)) (f_w : wF m (m + 27) w0 w') : zR E (zX7_leastMakers_h267 F r k322 v1 v3 v4 v5 v6 v7 v8 v10 v12 v14 v15 w) (mX7_leastMakers_h267 F r' k322' m v1' v3' v4' v5' v6' v7' v8' v10' v12' v14' v15' w') := by
  unfold zX7_leastMakers_h267 mX7_leastMakers_h267
  exact (R_Le hv6 hv15
  (hk322 _ _ _ _ _ _ _ _ _ _ _ _ _ _ _ _ _ _ _ _ _ _ hv1 hv3 hv4 hv5 hv6 hv7 hv8 hv10 hv12 hv14 h_w f_w)
  (R_Eq hv14 (eL (by decide) : (0 : Int32) = Int32.ofInt (0 : Int))
    (R_FRJ h_w (k := 17) rfl
      (R_LJ h_w (k := 17) rfl (by decide) hv15 rfl (fun t285 t285' ht285 =>
      (R_FL h_w (k := 15) rfl (c := (zJ w 15)) rfl (fun t287' ht287 =>
      (R_if (eBin (fun (x y : Int32) => x = y) (eBin lg_cmp ht285 ht287) rfl)
      (R_FRJ h_w (k := 18) rfl
        (R_LJ h_w (k := 18) rfl (by decide) hv15 rfl (fun t300 t300' ht300 =>
        (R_FL h_w (k := 16) rfl (c := (zJ w 16)) rfl (fun t302' ht302 =>
        (R_if (eBin (fun (x y : Int32) => x = y) (eBin lg_cmp ht300 ht302) rfl)
        (rX7_leastMakers_b309 hr hk322 hv1 hv3 hv4 hv5 hv6 hv7 hv8 hv10 hv12 hv15 h_w f_w)
        (rX7_leastMakers_b313 hr hk322 hv1 hv3 hv4 hv5 hv6 hv7 hv8 hv10 hv12 hv15 h_w f_w)))))))
      (rX7_leastMakers_b313 hr hk322 hv1 hv3 hv4 hv5 hv6 hv7 hv8 hv10 hv12 hv15 h_w f_w)))))))
    (rX7_leastMakers_b309 hr hk322 hv1 hv3 hv4 hv5 hv6 hv7 hv8 hv10 hv12 hv15 h_w f_w)))
set_option maxRecDepth 100000 in
theorem rX7_leastMakers_l267 {F m : Nat} {E : (Int × zS) → (Int32 × gW) → Prop} {w0 : gW} {k322 : Int → Int → Int → Int → Int → Int → Int64 → Int64 → Int → Int → zS → Option (Int × zS)} {k322' : Nat → Int32 → Int32 → Int32 → Int32 → Int32 → Int32 → Int64 → Int64 → Int32 → Int32 → gW → Option (Int32 × gW)} (hk322 : ∀ (a2 : Int) (a3 : Int) (a4 : Int) (a5 : Int) (a6 : Int) (a7 : Int) (a8 : Int64) (a9 : Int64) (a10 : Int) (a11 : Int) (Z : zS) (b2 : Int32) (b3 : Int32) (b4 : Int32) (b5 : Int32) (b6 : Int32) (b7 : Int32) (b8 : Int64) (b9 : Int64) (b10 : Int32) (b11 : Int32) (w : gW), b2 = Int32.ofInt a2 → b3 = Int32.ofInt a3 → b4 = Int32.ofInt a4 → b5 = Int32.ofInt a5 → b6 = Int32.ofInt a6 → b7 = Int32.ofInt a7 → b8 = a8 → b9 = a9 → b10 = Int32.ofInt a10 → b11 = Int32.ofInt a11 → oAt 7 lyZ w m (cvZ Z) → wF m (m + 27) w0 w → zR E (k322 a2 a3 a4 a5 a6 a7 a8 a9 a10 a11 Z) (k322' m b2 b3 b4 b5 b6 b7 b8 b9 b10 b11 w)) : ∀ (n : Nat) (v1 : Int) (v3 : Int) (v4 : Int) (v5 : Int) (v6 : Int) (v7 : Int) (v8 : Int64) (v10 : Int64) (v12 : Int) (v14 : Int) (v15 : Int) (w : zS) (v1' : Int32) (v3' : Int32) (v4' : Int32) (v5' : Int32) (v6' : Int32) (v7' : Int32) (v8' : Int64) (v10' : Int64) (v12' : Int32) (v14' : Int32) (v15' : Int32) (w' : gW), v1' = Int32.ofInt v1 → v3' = Int32.ofInt v3 → v4' = Int32.ofInt v4 → v5' = Int32.ofInt v5 → v6' = Int32.ofInt v6 → v7' = Int32.ofInt v7 → v8' = v8 → v10' = v10 → v12' = Int32.ofInt v12 → v14' = Int32.ofInt v14 → v15' = Int32.ofInt v15 → oAt 7 lyZ w' m (cvZ w) → wF m (m + 27) w0 w' → zR E (zX7_leastMakers_l267 F k322 n v1 v3 v4 v5 v6 v7 v8 v10 v12 v14 v15 w) (mX7_leastMakers_l267 F k322' n m v1' v3' v4' v5' v6' v7' v8' v10' v12' v14' v15' w') := by
  intro n
  induction n with
  | zero => intros; exact R_none
  | succ n ih =>
    intro v1 v3 v4 v5 v6 v7 v8 v10 v12 v14 v15 w v1' v3' v4' v5' v6' v7' v8' v10' v12' v14' v15' w' hv1 hv3 hv4 hv5 hv6 hv7 hv8 hv10 hv12 hv14 hv15 h_w f_w
    exact rX7_leastMakers_h267 ih hk322 hv1 hv3 hv4 hv5 hv6 hv7 hv8 hv10 hv12 hv14 hv15 h_w f_w
set_option maxRecDepth 100000 in
theorem rX7_leastMakers_h352 {F m : Nat} {E : (Int × zS) → (Int32 × gW) → Prop} {w0 : gW} {r : Int → Int → Int → Int → Int → Int → Int64 → Int64 → Int → Int → zS → Option (Int × zS)} {r' : Nat → Int32 → Int32 → Int32 → Int32 → Int32 → Int32 → Int64 → Int64 → Int32 → Int32 → gW → Option (Int32 × gW)} {k385 : Int → Int → Int → Int → Int → Int → Int64 → Int64 → Int → zS → Option (Int × zS)} {k385' : Nat → Int32 → Int32 → Int32 → Int32 → Int32 → Int32 → Int64 → Int64 → Int32 → gW → Option (Int32 × gW)} {v1 : Int} {v1' : Int32} {v3 : Int} {v3' : Int32} {v4 : Int} {v4' : Int32} {v5 : Int} {v5' : Int32} {v6 : Int} {v6' : Int32} {v7 : Int} {v7' : Int32} {v8 : Int64} {v8' : Int64} {v10 : Int64} {v10' : Int64} {v12 : Int} {v12' : Int32} {v15 : Int} {v15' : Int32} {w : zS} {w' : gW} (hr : ∀ (a2 : Int) (a3 : Int) (a4 : Int) (a5 : Int) (a6 : Int) (a7 : Int) (a8 : Int64) (a9 : Int64) (a10 : Int) (a11 : Int) (Z : zS) (b2 : Int32) (b3 : Int32) (b4 : Int32) (b5 : Int32) (b6 : Int32) (b7 : Int32) (b8 : Int64) (b9 : Int64) (b10 : Int32) (b11 : Int32) (w : gW), b2 = Int32.ofInt a2 → b3 = Int32.ofInt a3 → b4 = Int32.ofInt a4 → b5 = Int32.ofInt a5 → b6 = Int32.ofInt a6 → b7 = Int32.ofInt a7 → b8 = a8 → b9 = a9 → b10 = Int32.ofInt a10 → b11 = Int32.ofInt a11 → oAt 7 lyZ w m (cvZ Z) → wF m (m + 27) w0 w → zR E (r a2 a3 a4 a5 a6 a7 a8 a9 a10 a11 Z) (r' m b2 b3 b4 b5 b6 b7 b8 b9 b10 b11 w)) (hk385 : ∀ (a2 : Int) (a3 : Int) (a4 : Int) (a5 : Int) (a6 : Int) (a7 : Int) (a8 : Int64) (a9 : Int64) (a10 : Int) (Z : zS) (b2 : Int32) (b3 : Int32) (b4 : Int32) (b5 : Int32) (b6 : Int32) (b7 : Int32) (b8 : Int64) (b9 : Int64) (b10 : Int32) (w : gW), b2 = Int32.ofInt a2 → b3 = Int32.ofInt a3 → b4 = Int32.ofInt a4 → b5 = Int32.ofInt a5 → b6 = Int32.ofInt a6 → b7 = Int32.ofInt a7 → b8 = a8 → b9 = a9 → b10 = Int32.ofInt a10 → oAt 7 lyZ w m (cvZ Z) → wF m (m + 27) w0 w → zR E (k385 a2 a3 a4 a5 a6 a7 a8 a9 a10 Z) (k385' m b2 b3 b4 b5 b6 b7 b8 b9 b10 w)) (hv1 : v1' = Int32.ofInt v1) (hv3 : v3' = Int32.ofInt v3) (hv4 : v4' = Int32.ofInt v4) (hv5 : v5' = Int32.ofInt v5) (hv6 : v6' = Int32.ofInt v6) (hv7 : v7' = Int32.ofInt v7) (hv8 : v8' = v8) (hv10 : v10' = v10) (hv12 : v12' = Int32.ofInt v12) (hv15 : v15' = Int32.ofInt v15) (h_w : oAt 7 lyZ w' m (cvZ w)) (f_w : wF m (m + 27) w0 w') : zR E (zX7_leastMakers_h352 F r k385 v1 v3 v4 v5 v6 v7 v8 v10 v12 v15 w) (mX7_leastMakers_h352 F r' k385' m v1' v3' v4' v5' v6' v7' v8' v10' v12' v15' w') := by
  unfold zX7_leastMakers_h352 mX7_leastMakers_h352
  exact (R_Lt hv4 hv15
  (hk385 _ _ _ _ _ _ _ _ _ _ _ _ _ _ _ _ _ _ _ _ hv1 hv3 hv4 hv5 hv6 hv7 hv8 hv10 hv12 h_w f_w)
  (R_FR h_w (k := 19) rfl
    (R_FR h_w (k := 12) rfl
    (R_Ld h_w (k := 12) rfl (by decide) hv15 rfl (fun t377 t377' ht377 =>
    (R_St h_w f_w (k := 19) rfl (by decide) (eAdd (eMul (eL (by decide) : (8 : Int32) = Int32.ofInt (8 : Int)) hv6) hv15) ht377 (fun w378' h_w378 f_w378 =>
    (hr _ _ _ _ _ _ _ _ _ _ _ _ _ _ _ _ _ _ _ _ _ _ hv1 hv3 hv4 hv5 hv6 hv7 hv8 hv10 hv12 (eAdd hv15 (eL (by decide) : (1 : Int32) = Int32.ofInt (1 : Int))) h_w378 f_w378))))))))
set_option maxRecDepth 100000 in
theorem rX7_leastMakers_l352 {F m : Nat} {E : (Int × zS) → (Int32 × gW) → Prop} {w0 : gW} {k385 : Int → Int → Int → Int → Int → Int → Int64 → Int64 → Int → zS → Option (Int × zS)} {k385' : Nat → Int32 → Int32 → Int32 → Int32 → Int32 → Int32 → Int64 → Int64 → Int32 → gW → Option (Int32 × gW)} (hk385 : ∀ (a2 : Int) (a3 : Int) (a4 : Int) (a5 : Int) (a6 : Int) (a7 : Int) (a8 : Int64) (a9 : Int64) (a10 : Int) (Z : zS) (b2 : Int32) (b3 : Int32) (b4 : Int32) (b5 : Int32) (b6 : Int32) (b7 : Int32) (b8 : Int64) (b9 : Int64) (b10 : Int32) (w : gW), b2 = Int32.ofInt a2 → b3 = Int32.ofInt a3 → b4 = Int32.ofInt a4 → b5 = Int32.ofInt a5 → b6 = Int32.ofInt a6 → b7 = Int32.ofInt a7 → b8 = a8 → b9 = a9 → b10 = Int32.ofInt a10 → oAt 7 lyZ w m (cvZ Z) → wF m (m + 27) w0 w → zR E (k385 a2 a3 a4 a5 a6 a7 a8 a9 a10 Z) (k385' m b2 b3 b4 b5 b6 b7 b8 b9 b10 w)) : ∀ (n : Nat) (v1 : Int) (v3 : Int) (v4 : Int) (v5 : Int) (v6 : Int) (v7 : Int) (v8 : Int64) (v10 : Int64) (v12 : Int) (v15 : Int) (w : zS) (v1' : Int32) (v3' : Int32) (v4' : Int32) (v5' : Int32) (v6' : Int32) (v7' : Int32) (v8' : Int64) (v10' : Int64) (v12' : Int32) (v15' : Int32) (w' : gW), v1' = Int32.ofInt v1 → v3' = Int32.ofInt v3 → v4' = Int32.ofInt v4 → v5' = Int32.ofInt v5 → v6' = Int32.ofInt v6 → v7' = Int32.ofInt v7 → v8' = v8 → v10' = v10 → v12' = Int32.ofInt v12 → v15' = Int32.ofInt v15 → oAt 7 lyZ w' m (cvZ w) → wF m (m + 27) w0 w' → zR E (zX7_leastMakers_l352 F k385 n v1 v3 v4 v5 v6 v7 v8 v10 v12 v15 w) (mX7_leastMakers_l352 F k385' n m v1' v3' v4' v5' v6' v7' v8' v10' v12' v15' w') := by
  intro n
  induction n with
  | zero => intros; exact R_none
  | succ n ih =>
    intro v1 v3 v4 v5 v6 v7 v8 v10 v12 v15 w v1' v3' v4' v5' v6' v7' v8' v10' v12' v15' w' hv1 hv3 hv4 hv5 hv6 hv7 hv8 hv10 hv12 hv15 h_w f_w
    exact rX7_leastMakers_h352 ih hk385 hv1 hv3 hv4 hv5 hv6 hv7 hv8 hv10 hv12 hv15 h_w f_w
set_option maxRecDepth 100000 in
theorem rX7_leastMakers_b259 {F m : Nat} {E : (Int × zS) → (Int32 × gW) → Prop} {w0 : gW} {r : Int → Int → Int → Int → Int → Int → Int64 → Int64 → Int → zS → Option (Int × zS)} {r' : Nat → Int32 → Int32 → Int32 → Int32 → Int32 → Int32 → Int64 → Int64 → Int32 → gW → Option (Int32 × gW)} {k394 : Int → Int → Int → Int → Int → Int → zS → Option (Int × zS)} {k394' : Nat → Int32 → Int32 → Int32 → Int32 → Int32 → Int32 → gW → Option (Int32 × gW)} {v1 : Int} {v1' : Int32} {v3 : Int} {v3' : Int32} {v4 : Int} {v4' : Int32} {v6 : Int} {v6' : Int32} {v7 : Int} {v7' : Int32} {v8 : Int64} {v8' : Int64} {v10 : Int64} {v10' : Int64} {v12 : Int} {v12' : Int32} {s0 : Int} {s0' : Int32} {w : zS} {w' : gW} (hr : ∀ (a2 : Int) (a3 : Int) (a4 : Int) (a5 : Int) (a6 : Int) (a7 : Int) (a8 : Int64) (a9 : Int64) (a10 : Int) (Z : zS) (b2 : Int32) (b3 : Int32) (b4 : Int32) (b5 : Int32) (b6 : Int32) (b7 : Int32) (b8 : Int64) (b9 : Int64) (b10 : Int32) (w : gW), b2 = Int32.ofInt a2 → b3 = Int32.ofInt a3 → b4 = Int32.ofInt a4 → b5 = Int32.ofInt a5 → b6 = Int32.ofInt a6 → b7 = Int32.ofInt a7 → b8 = a8 → b9 = a9 → b10 = Int32.ofInt a10 → oAt 7 lyZ w m (cvZ Z) → wF m (m + 27) w0 w → zR E (r a2 a3 a4 a5 a6 a7 a8 a9 a10 Z) (r' m b2 b3 b4 b5 b6 b7 b8 b9 b10 w)) (hk394 : ∀ (a2 : Int) (a3 : Int) (a4 : Int) (a5 : Int) (a6 : Int) (a7 : Int) (Z : zS) (b2 : Int32) (b3 : Int32) (b4 : Int32) (b5 : Int32) (b6 : Int32) (b7 : Int32) (w : gW), b2 = Int32.ofInt a2 → b3 = Int32.ofInt a3 → b4 = Int32.ofInt a4 → b5 = Int32.ofInt a5 → b6 = Int32.ofInt a6 → b7 = Int32.ofInt a7 → oAt 7 lyZ w m (cvZ Z) → wF m (m + 27) w0 w → zR E (k394 a2 a3 a4 a5 a6 a7 Z) (k394' m b2 b3 b4 b5 b6 b7 w)) (hv1 : v1' = Int32.ofInt v1) (hv3 : v3' = Int32.ofInt v3) (hv4 : v4' = Int32.ofInt v4) (hv6 : v6' = Int32.ofInt v6) (hv7 : v7' = Int32.ofInt v7) (hv8 : v8' = v8) (hv10 : v10' = v10) (hv12 : v12' = Int32.ofInt v12) (hs0 : s0' = Int32.ofInt s0) (h_w : oAt 7 lyZ w' m (cvZ w)) (f_w : wF m (m + 27) w0 w') : zR E (zX7_leastMakers_b259 F r k394 v1 v3 v4 v6 v7 v8 v10 v12 s0 w) (mX7_leastMakers_b259 F r' k394' m v1' v3' v4' v6' v7' v8' v10' v12' s0' w') := by
  unfold zX7_leastMakers_b259 mX7_leastMakers_b259
  exact (rX7_leastMakers_l267 (by exact (fun v1 v3 v4 v5 v6 v7 v8 v10 v12 v14 w v1' v3' v4' v5' v6' v7' v8' v10' v12' v14' w' hv1 hv3 hv4 hv5 hv6 hv7 hv8 hv10 hv12 hv14 h_w f_w =>
    (R_Eq hv14 (eL (by decide) : (0 : Int32) = Int32.ofInt (0 : Int))
    (R_FRJ h_w (k := 17) rfl
      (R_FL h_w (k := 15) rfl (c := (zJ w 15)) rfl (fun t334' ht334 =>
      (R_SJ h_w f_w (k := 17) rfl (by decide) hv6 ht334 (fun w337' h_w337 f_w337 =>
      (R_FRJ h_w337 (k := 18) rfl
      (R_FL h_w337 (k := 16) rfl (c := (zJ w 16)) rfl (fun t345' ht345 =>
      (R_SJ h_w337 f_w337 (k := 18) rfl (by decide) hv6 ht345 (fun w348' h_w348 f_w348 =>
      (rX7_leastMakers_l352 (by exact (fun v1 v3 v4 v5 v6 v7 v8 v10 v12 w v1' v3' v4' v5' v6' v7' v8' v10' v12' w' hv1 hv3 hv4 hv5 hv6 hv7 hv8 hv10 hv12 h_w f_w =>
        (rX7_leastMakers_b388 hr hk394 hv1 hv3 hv4 hv5 (eAdd hv6 (eL (by decide) : (1 : Int32) = Int32.ofInt (1 : Int))) hv7 hv8 hv10 hv12 h_w f_w))) F _ _ _ _ _ _ _ _ _ _ _ _ _ _ _ _ _ _ _ _ _ _ hv1 hv3 hv4 hv5 hv6 hv7 hv8 hv10 hv12 (eL (by decide) : (0 : Int32) = Int32.ofInt (0 : Int)) h_w348 f_w348)))))))))))
    (rX7_leastMakers_b388 hr hk394 hv1 hv3 hv4 hv5 hv6 hv7 hv8 hv10 hv12 h_w f_w)))) F _ _ _ _ _ _ _ _ _ _ _ _ _ _ _ _ _ _ _ _ _ _ _ _ hv1 hv3 hv4 hs0 hv6 hv7 hv8 hv10 hv12 (eL (by decide) : (0 : Int32) = Int32.ofInt (0 : Int)) hv3 h_w f_w)
set_option maxRecDepth 100000 in
theorem rX7_leastMakers_b162 {F m : Nat} {E : (Int × zS) → (Int32 × gW) → Prop} {w0 : gW} {r : Int → Int → Int → Int → Int → Int → Int64 → Int64 → Int → zS → Option (Int × zS)} {r' : Nat → Int32 → Int32 → Int32 → Int32 → Int32 → Int32 → Int64 → Int64 → Int32 → gW → Option (Int32 × gW)} {k394 : Int → Int → Int → Int → Int → Int → zS → Option (Int × zS)} {k394' : Nat → Int32 → Int32 → Int32 → Int32 → Int32 → Int32 → gW → Option (Int32 × gW)} {v1 : Int} {v1' : Int32} {v3 : Int} {v3' : Int32} {v4 : Int} {v4' : Int32} {v5 : Int} {v5' : Int32} {v6 : Int} {v6' : Int32} {v7 : Int} {v7' : Int32} {v8 : Int64} {v8' : Int64} {v10 : Int64} {v10' : Int64} {v12 : Int} {v12' : Int32} {s0 : Int} {s0' : Int32} {w : zS} {w' : gW} (hr : ∀ (a2 : Int) (a3 : Int) (a4 : Int) (a5 : Int) (a6 : Int) (a7 : Int) (a8 : Int64) (a9 : Int64) (a10 : Int) (Z : zS) (b2 : Int32) (b3 : Int32) (b4 : Int32) (b5 : Int32) (b6 : Int32) (b7 : Int32) (b8 : Int64) (b9 : Int64) (b10 : Int32) (w : gW), b2 = Int32.ofInt a2 → b3 = Int32.ofInt a3 → b4 = Int32.ofInt a4 → b5 = Int32.ofInt a5 → b6 = Int32.ofInt a6 → b7 = Int32.ofInt a7 → b8 = a8 → b9 = a9 → b10 = Int32.ofInt a10 → oAt 7 lyZ w m (cvZ Z) → wF m (m + 27) w0 w → zR E (r a2 a3 a4 a5 a6 a7 a8 a9 a10 Z) (r' m b2 b3 b4 b5 b6 b7 b8 b9 b10 w)) (hk394 : ∀ (a2 : Int) (a3 : Int) (a4 : Int) (a5 : Int) (a6 : Int) (a7 : Int) (Z : zS) (b2 : Int32) (b3 : Int32) (b4 : Int32) (b5 : Int32) (b6 : Int32) (b7 : Int32) (w : gW), b2 = Int32.ofInt a2 → b3 = Int32.ofInt a3 → b4 = Int32.ofInt a4 → b5 = Int32.ofInt a5 → b6 = Int32.ofInt a6 → b7 = Int32.ofInt a7 → oAt 7 lyZ w m (cvZ Z) → wF m (m + 27) w0 w → zR E (k394 a2 a3 a4 a5 a6 a7 Z) (k394' m b2 b3 b4 b5 b6 b7 w)) (hv1 : v1' = Int32.ofInt v1) (hv3 : v3' = Int32.ofInt v3) (hv4 : v4' = Int32.ofInt v4) (hv5 : v5' = Int32.ofInt v5) (hv6 : v6' = Int32.ofInt v6) (hv7 : v7' = Int32.ofInt v7) (hv8 : v8' = v8) (hv10 : v10' = v10) (hv12 : v12' = Int32.ofInt v12) (hs0 : s0' = Int32.ofInt s0) (h_w : oAt 7 lyZ w' m (cvZ w)) (f_w : wF m (m + 27) w0 w') : zR E (zX7_leastMakers_b162 F r k394 v1 v3 v4 v5 v6 v7 v8 v10 v12 s0 w) (mX7_leastMakers_b162 F r' k394' m v1' v3' v4' v5' v6' v7' v8' v10' v12' s0' w') := by
  unfold zX7_leastMakers_b162 mX7_leastMakers_b162
  exact (R_Eq hs0 (eL (by decide) : (0 : Int32) = Int32.ofInt (0 : Int))
  (rX7_leastMakers_l172 (by exact (fun v1 v3 v4 v6 v7 v8 v10 v12 w v1' v3' v4' v6' v7' v8' v10' v12' w' hv1 hv3 hv4 hv6 hv7 hv8 hv10 hv12 h_w f_w =>
      (R_FR h_w (k := 12) rfl
      (R_St h_w f_w (k := 12) rfl (by decide) hv4 hv12 (fun w213' h_w213 f_w213 =>
      (R_O h_w213
      (R_C0 (rX7_makes hv1 (eAdd hv4 (eL (by decide) : (1 : Int32) = Int32.ofInt (1 : Int))) h_w213) f_w213 (fun q220 q220' h_q220 f_q220 =>
      (R_FL h_q220 (k := 15) rfl (c := (zJ q220 15)) rfl (fun t226' ht226 =>
      (R_FL h_q220 (k := 16) rfl (c := (zJ q220 16)) rfl (fun t235' ht235 =>
      (R_FI h_q220 (k := 14) rfl (c := (zI q220 14)) rfl (fun t242' ht242 =>
      (R_FR h_q220 (k := 1) rfl
      (R_Ld h_q220 (k := 1) rfl (by decide) hv1 rfl (fun t250 t250' ht250 =>
      (R_Eq ht242 ht250
      (rX7_leastMakers_b259 hr hk394 hv1 hv3 hv4 hv6 hv7 (eBin (fun (x y : Int64) => x ||| y) hv8 ht226) (eBin (fun (x y : Int64) => x ||| y) hv10 ht235) hv12 (eL (by decide) : (1 : Int32) = Int32.ofInt (1 : Int)) h_q220 f_q220)
      (rX7_leastMakers_b259 hr hk394 hv1 hv3 hv4 hv6 hv7 (eBin (fun (x y : Int64) => x ||| y) hv8 ht226) (eBin (fun (x y : Int64) => x ||| y) hv10 ht235) hv12 (eL (by decide) : (0 : Int32) = Int32.ofInt (0 : Int)) h_q220 f_q220))))))))))))))))))) F _ _ _ _ _ _ _ _ _ _ _ _ _ _ _ _ _ _ _ _ hv1 hv3 hv4 hv6 hv7 hv8 hv10 hv12 (eL (by decide) : (0 : Int32) = Int32.ofInt (0 : Int)) h_w f_w)
  (rX7_leastMakers_b388 hr hk394 hv1 hv3 hv4 hv5 hv6 hv7 hv8 hv10 hv12 h_w f_w))
set_option maxRecDepth 100000 in
theorem rX7_leastMakers_h99 {F m : Nat} {E : (Int × zS) → (Int32 × gW) → Prop} {w0 : gW} {r : Int → Int → Int → Int → Int → Int → Int64 → Int64 → Int → zS → Option (Int × zS)} {r' : Nat → Int32 → Int32 → Int32 → Int32 → Int32 → Int32 → Int64 → Int64 → Int32 → gW → Option (Int32 × gW)} {k394 : Int → Int → Int → Int → Int → Int → zS → Option (Int × zS)} {k394' : Nat → Int32 → Int32 → Int32 → Int32 → Int32 → Int32 → gW → Option (Int32 × gW)} {v1 : Int} {v1' : Int32} {v3 : Int} {v3' : Int32} {v4 : Int} {v4' : Int32} {v5 : Int} {v5' : Int32} {v6 : Int} {v6' : Int32} {v7 : Int} {v7' : Int32} {v8 : Int64} {v8' : Int64} {v10 : Int64} {v10' : Int64} {v12 : Int} {v12' : Int32} {w : zS} {w' : gW} (hr : ∀ (a2 : Int) (a3 : Int) (a4 : Int) (a5 : Int) (a6 : Int) (a7 : Int) (a8 : Int64) (a9 : Int64) (a10 : Int) (Z : zS) (b2 : Int32) (b3 : Int32) (b4 : Int32) (b5 : Int32) (b6 : Int32) (b7 : Int32) (b8 : Int64) (b9 : Int64) (b10 : Int32) (w : gW), b2 = Int32.ofInt a2 → b3 = Int32.ofInt a3 → b4 = Int32.ofInt a4 → b5 = Int32.ofInt a5 → b6 = Int32.ofInt a6 → b7 = Int32.ofInt a7 → b8 = a8 → b9 = a9 → b10 = Int32.ofInt a10 → oAt 7 lyZ w m (cvZ Z) → wF m (m + 27) w0 w → zR E (r a2 a3 a4 a5 a6 a7 a8 a9 a10 Z) (r' m b2 b3 b4 b5 b6 b7 b8 b9 b10 w)) (hk394 : ∀ (a2 : Int) (a3 : Int) (a4 : Int) (a5 : Int) (a6 : Int) (a7 : Int) (Z : zS) (b2 : Int32) (b3 : Int32) (b4 : Int32) (b5 : Int32) (b6 : Int32) (b7 : Int32) (w : gW), b2 = Int32.ofInt a2 → b3 = Int32.ofInt a3 → b4 = Int32.ofInt a4 → b5 = Int32.ofInt a5 → b6 = Int32.ofInt a6 → b7 = Int32.ofInt a7 → oAt 7 lyZ w m (cvZ Z) → wF m (m + 27) w0 w → zR E (k394 a2 a3 a4 a5 a6 a7 Z) (k394' m b2 b3 b4 b5 b6 b7 w)) (hv1 : v1' = Int32.ofInt v1) (hv3 : v3' = Int32.ofInt v3) (hv4 : v4' = Int32.ofInt v4) (hv5 : v5' = Int32.ofInt v5) (hv6 : v6' = Int32.ofInt v6) (hv7 : v7' = Int32.ofInt v7) (hv8 : v8' = v8) (hv10 : v10' = v10) (hv12 : v12' = Int32.ofInt v12) (h_w : oAt 7 lyZ w' m (cvZ w)) (f_w : wF m (m + 27) w0 w') : zR E (zX7_leastMakers_h99 F r k394 v1 v3 v4 v5 v6 v7 v8 v10 v12 w) (mX7_leastMakers_h99 F r' k394' m v1' v3' v4' v5' v6' v7' v8' v10' v12' w') := by
  unfold zX7_leastMakers_h99 mX7_leastMakers_h99
  exact (R_FR h_w (k := 1) rfl
  (R_Ld h_w (k := 1) rfl (by decide) hv1 rfl (fun t106 t106' ht106 =>
  (R_Le ht106 hv12
  (hk394 _ _ _ _ _ _ _ _ _ _ _ _ _ _ hv1 hv3 hv4 hv5 hv6 hv7 h_w f_w)
  (R_Eq hv5 (eL (by decide) : (0 : Int32) = Int32.ofInt (0 : Int))
    (R_Le (eL (by decide) : (64 : Int32) = Int32.ofInt (64 : Int)) hv12
      (R_if (eBin (fun (x y : Int32) => x = y) (eBin lg_cmp (eBin (fun (x y : Int64) => x &&& y) (eBin (fun (x y : Int64) => x >>> y) hv10 (eBin (fun (x y : Int64) => x &&& y) (congrArg Int32.toInt64 (eSub hv12 (eL (by decide) : (64 : Int32) = Int32.ofInt (64 : Int)))) rfl)) rfl) rfl) rfl)
        (rX7_leastMakers_b162 hr hk394 hv1 hv3 hv4 hv5 hv6 hv7 hv8 hv10 hv12 (eL (by decide) : (1 : Int32) = Int32.ofInt (1 : Int)) h_w f_w)
        (rX7_leastMakers_b162 hr hk394 hv1 hv3 hv4 hv5 hv6 hv7 hv8 hv10 hv12 (eL (by decide) : (0 : Int32) = Int32.ofInt (0 : Int)) h_w f_w))
      (R_if (eBin (fun (x y : Int32) => x = y) (eBin lg_cmp (eBin (fun (x y : Int64) => x &&& y) (eBin (fun (x y : Int64) => x >>> y) hv8 (eBin (fun (x y : Int64) => x &&& y) (congrArg Int32.toInt64 hv12) rfl)) rfl) rfl) rfl)
        (rX7_leastMakers_b162 hr hk394 hv1 hv3 hv4 hv5 hv6 hv7 hv8 hv10 hv12 (eL (by decide) : (1 : Int32) = Int32.ofInt (1 : Int)) h_w f_w)
        (rX7_leastMakers_b162 hr hk394 hv1 hv3 hv4 hv5 hv6 hv7 hv8 hv10 hv12 (eL (by decide) : (0 : Int32) = Int32.ofInt (0 : Int)) h_w f_w)))
    (hk394 _ _ _ _ _ _ _ _ _ _ _ _ _ _ hv1 hv3 hv4 hv5 hv6 hv7 h_w f_w))))))
set_option maxRecDepth 100000 in
theorem rX7_leastMakers_l99 {F m : Nat} {E : (Int × zS) → (Int32 × gW) → Prop} {w0 : gW} {k394 : Int → Int → Int → Int → Int → Int → zS → Option (Int × zS)} {k394' : Nat → Int32 → Int32 → Int32 → Int32 → Int32 → Int32 → gW → Option (Int32 × gW)} (hk394 : ∀ (a2 : Int) (a3 : Int) (a4 : Int) (a5 : Int) (a6 : Int) (a7 : Int) (Z : zS) (b2 : Int32) (b3 : Int32) (b4 : Int32) (b5 : Int32) (b6 : Int32) (b7 : Int32) (w : gW), b2 = Int32.ofInt a2 → b3 = Int32.ofInt a3 → b4 = Int32.ofInt a4 → b5 = Int32.ofInt a5 → b6 = Int32.ofInt a6 → b7 = Int32.ofInt a7 → oAt 7 lyZ w m (cvZ Z) → wF m (m + 27) w0 w → zR E (k394 a2 a3 a4 a5 a6 a7 Z) (k394' m b2 b3 b4 b5 b6 b7 w)) : ∀ (n : Nat) (v1 : Int) (v3 : Int) (v4 : Int) (v5 : Int) (v6 : Int) (v7 : Int) (v8 : Int64) (v10 : Int64) (v12 : Int) (w : zS) (v1' : Int32) (v3' : Int32) (v4' : Int32) (v5' : Int32) (v6' : Int32) (v7' : Int32) (v8' : Int64) (v10' : Int64) (v12' : Int32) (w' : gW), v1' = Int32.ofInt v1 → v3' = Int32.ofInt v3 → v4' = Int32.ofInt v4 → v5' = Int32.ofInt v5 → v6' = Int32.ofInt v6 → v7' = Int32.ofInt v7 → v8' = v8 → v10' = v10 → v12' = Int32.ofInt v12 → oAt 7 lyZ w' m (cvZ w) → wF m (m + 27) w0 w' → zR E (zX7_leastMakers_l99 F k394 n v1 v3 v4 v5 v6 v7 v8 v10 v12 w) (mX7_leastMakers_l99 F k394' n m v1' v3' v4' v5' v6' v7' v8' v10' v12' w') := by
  intro n
  induction n with
  | zero => intros; exact R_none
  | succ n ih =>
    intro v1 v3 v4 v5 v6 v7 v8 v10 v12 w v1' v3' v4' v5' v6' v7' v8' v10' v12' w' hv1 hv3 hv4 hv5 hv6 hv7 hv8 hv10 hv12 h_w f_w
    exact rX7_leastMakers_h99 ih hk394 hv1 hv3 hv4 hv5 hv6 hv7 hv8 hv10 hv12 h_w f_w
set_option maxRecDepth 100000 in
theorem rX7_leastMakers_b394 {F m : Nat} {E : (Int × zS) → (Int32 × gW) → Prop} {w0 : gW} {r : Int → Int → Int → Int → Int → Int → zS → Option (Int × zS)} {r' : Nat → Int32 → Int32 → Int32 → Int32 → Int32 → Int32 → gW → Option (Int32 × gW)} {k400 : Int → Int → Int → Int → Int → zS → Option (Int × zS)} {k400' : Nat → Int32 → Int32 → Int32 → Int32 → Int32 → gW → Option (Int32 × gW)} {v1 : Int} {v1' : Int32} {v3 : Int} {v3' : Int32} {v4 : Int} {v4' : Int32} {v5 : Int} {v5' : Int32} {v6 : Int} {v6' : Int32} {v7 : Int} {v7' : Int32} {w : zS} {w' : gW} (hr : ∀ (a2 : Int) (a3 : Int) (a4 : Int) (a5 : Int) (a6 : Int) (a7 : Int) (Z : zS) (b2 : Int32) (b3 : Int32) (b4 : Int32) (b5 : Int32) (b6 : Int32) (b7 : Int32) (w : gW), b2 = Int32.ofInt a2 → b3 = Int32.ofInt a3 → b4 = Int32.ofInt a4 → b5 = Int32.ofInt a5 → b6 = Int32.ofInt a6 → b7 = Int32.ofInt a7 → oAt 7 lyZ w m (cvZ Z) → wF m (m + 27) w0 w → zR E (r a2 a3 a4 a5 a6 a7 Z) (r' m b2 b3 b4 b5 b6 b7 w)) (hk400 : ∀ (a2 : Int) (a3 : Int) (a4 : Int) (a5 : Int) (a6 : Int) (Z : zS) (b2 : Int32) (b3 : Int32) (b4 : Int32) (b5 : Int32) (b6 : Int32) (w : gW), b2 = Int32.ofInt a2 → b3 = Int32.ofInt a3 → b4 = Int32.ofInt a4 → b5 = Int32.ofInt a5 → b6 = Int32.ofInt a6 → oAt 7 lyZ w m (cvZ Z) → wF m (m + 27) w0 w → zR E (k400 a2 a3 a4 a5 a6 Z) (k400' m b2 b3 b4 b5 b6 w)) (hv1 : v1' = Int32.ofInt v1) (hv3 : v3' = Int32.ofInt v3) (hv4 : v4' = Int32.ofInt v4) (hv5 : v5' = Int32.ofInt v5) (hv6 : v6' = Int32.ofInt v6) (hv7 : v7' = Int32.ofInt v7) (h_w : oAt 7 lyZ w' m (cvZ w)) (f_w : wF m (m + 27) w0 w') : zR E (zX7_leastMakers_b394 F r k400 v1 v3 v4 v5 v6 v7 w) (mX7_leastMakers_b394 F r' k400' m v1' v3' v4' v5' v6' v7' w') := by
  unfold zX7_leastMakers_b394 mX7_leastMakers_b394
  exact (hr _ _ _ _ _ _ _ _ _ _ _ _ _ _ hv1 hv3 hv4 hv5 hv6 (eAdd hv7 (eL (by decide) : (1 : Int32) = Int32.ofInt (1 : Int))) h_w f_w)
set_option maxRecDepth 100000 in
theorem rX7_leastMakers_h67 {F m : Nat} {E : (Int × zS) → (Int32 × gW) → Prop} {w0 : gW} {r : Int → Int → Int → Int → Int → Int → zS → Option (Int × zS)} {r' : Nat → Int32 → Int32 → Int32 → Int32 → Int32 → Int32 → gW → Option (Int32 × gW)} {k400 : Int → Int → Int → Int → Int → zS → Option (Int × zS)} {k400' : Nat → Int32 → Int32 → Int32 → Int32 → Int32 → gW → Option (Int32 × gW)} {v1 : Int} {v1' : Int32} {v3 : Int} {v3' : Int32} {v4 : Int} {v4' : Int32} {v5 : Int} {v5' : Int32} {v6 : Int} {v6' : Int32} {v7 : Int} {v7' : Int32} {w : zS} {w' : gW} (hr : ∀ (a2 : Int) (a3 : Int) (a4 : Int) (a5 : Int) (a6 : Int) (a7 : Int) (Z : zS) (b2 : Int32) (b3 : Int32) (b4 : Int32) (b5 : Int32) (b6 : Int32) (b7 : Int32) (w : gW), b2 = Int32.ofInt a2 → b3 = Int32.ofInt a3 → b4 = Int32.ofInt a4 → b5 = Int32.ofInt a5 → b6 = Int32.ofInt a6 → b7 = Int32.ofInt a7 → oAt 7 lyZ w m (cvZ Z) → wF m (m + 27) w0 w → zR E (r a2 a3 a4 a5 a6 a7 Z) (r' m b2 b3 b4 b5 b6 b7 w)) (hk400 : ∀ (a2 : Int) (a3 : Int) (a4 : Int) (a5 : Int) (a6 : Int) (Z : zS) (b2 : Int32) (b3 : Int32) (b4 : Int32) (b5 : Int32) (b6 : Int32) (w : gW), b2 = Int32.ofInt a2 → b3 = Int32.ofInt a3 → b4 = Int32.ofInt a4 → b5 = Int32.ofInt a5 → b6 = Int32.ofInt a6 → oAt 7 lyZ w m (cvZ Z) → wF m (m + 27) w0 w → zR E (k400 a2 a3 a4 a5 a6 Z) (k400' m b2 b3 b4 b5 b6 w)) (hv1 : v1' = Int32.ofInt v1) (hv3 : v3' = Int32.ofInt v3) (hv4 : v4' = Int32.ofInt v4) (hv5 : v5' = Int32.ofInt v5) (hv6 : v6' = Int32.ofInt v6) (hv7 : v7' = Int32.ofInt v7) (h_w : oAt 7 lyZ w' m (cvZ w)) (f_w : wF m (m + 27) w0 w') : zR E (zX7_leastMakers_h67 F r k400 v1 v3 v4 v5 v6 v7 w) (mX7_leastMakers_h67 F r' k400' m v1' v3' v4' v5' v6' v7' w') := by
  unfold zX7_leastMakers_h67 mX7_leastMakers_h67
  exact (R_Le hv3 hv7
  (hk400 _ _ _ _ _ _ _ _ _ _ _ _ hv1 hv3 hv4 hv5 hv6 h_w f_w)
  (R_Eq hv5 (eL (by decide) : (0 : Int32) = Int32.ofInt (0 : Int))
    (R_FRJ h_w (k := 17) rfl
      (R_LJ h_w (k := 17) rfl (by decide) hv7 rfl (fun t84 t84' ht84 =>
      (R_FRJ h_w (k := 18) rfl
      (R_LJ h_w (k := 18) rfl (by decide) hv7 rfl (fun t93 t93' ht93 =>
      (rX7_leastMakers_l99 (by exact (fun v1 v3 v4 v5 v6 v7 w v1' v3' v4' v5' v6' v7' w' hv1 hv3 hv4 hv5 hv6 hv7 h_w f_w =>
        (rX7_leastMakers_b394 hr hk400 hv1 hv3 hv4 hv5 hv6 hv7 h_w f_w))) F _ _ _ _ _ _ _ _ _ _ _ _ _ _ _ _ _ _ _ _ hv1 hv3 hv4 hv5 hv6 hv7 ht84 ht93 (eL (by decide) : (0 : Int32) = Int32.ofInt (0 : Int)) h_w f_w)))))))
    (hk400 _ _ _ _ _ _ _ _ _ _ _ _ hv1 hv3 hv4 hv5 hv6 h_w f_w)))
set_option maxRecDepth 100000 in
theorem rX7_leastMakers_l67 {F m : Nat} {E : (Int × zS) → (Int32 × gW) → Prop} {w0 : gW} {k400 : Int → Int → Int → Int → Int → zS → Option (Int × zS)} {k400' : Nat → Int32 → Int32 → Int32 → Int32 → Int32 → gW → Option (Int32 × gW)} (hk400 : ∀ (a2 : Int) (a3 : Int) (a4 : Int) (a5 : Int) (a6 : Int) (Z : zS) (b2 : Int32) (b3 : Int32) (b4 : Int32) (b5 : Int32) (b6 : Int32) (w : gW), b2 = Int32.ofInt a2 → b3 = Int32.ofInt a3 → b4 = Int32.ofInt a4 → b5 = Int32.ofInt a5 → b6 = Int32.ofInt a6 → oAt 7 lyZ w m (cvZ Z) → wF m (m + 27) w0 w → zR E (k400 a2 a3 a4 a5 a6 Z) (k400' m b2 b3 b4 b5 b6 w)) : ∀ (n : Nat) (v1 : Int) (v3 : Int) (v4 : Int) (v5 : Int) (v6 : Int) (v7 : Int) (w : zS) (v1' : Int32) (v3' : Int32) (v4' : Int32) (v5' : Int32) (v6' : Int32) (v7' : Int32) (w' : gW), v1' = Int32.ofInt v1 → v3' = Int32.ofInt v3 → v4' = Int32.ofInt v4 → v5' = Int32.ofInt v5 → v6' = Int32.ofInt v6 → v7' = Int32.ofInt v7 → oAt 7 lyZ w' m (cvZ w) → wF m (m + 27) w0 w' → zR E (zX7_leastMakers_l67 F k400 n v1 v3 v4 v5 v6 v7 w) (mX7_leastMakers_l67 F k400' n m v1' v3' v4' v5' v6' v7' w') := by
  intro n
  induction n with
  | zero => intros; exact R_none
  | succ n ih =>
    intro v1 v3 v4 v5 v6 v7 w v1' v3' v4' v5' v6' v7' w' hv1 hv3 hv4 hv5 hv6 hv7 h_w f_w
    exact rX7_leastMakers_h67 ih hk400 hv1 hv3 hv4 hv5 hv6 hv7 h_w f_w
set_option maxRecDepth 100000 in
theorem rX7_leastMakers_h445 {F m : Nat} {E : (Int × zS) → (Int32 × gW) → Prop} {w0 : gW} {r : Int → Int → Int → Int → Int → Int → Int → zS → Option (Int × zS)} {r' : Nat → Int32 → Int32 → Int32 → Int32 → Int32 → Int32 → Int32 → gW → Option (Int32 × gW)} {k486 : Int → Int → Int → Int → Int → Int → zS → Option (Int × zS)} {k486' : Nat → Int32 → Int32 → Int32 → Int32 → Int32 → Int32 → gW → Option (Int32 × gW)} {v1 : Int} {v1' : Int32} {v3 : Int} {v3' : Int32} {v4 : Int} {v4' : Int32} {v5 : Int} {v5' : Int32} {v6 : Int} {v6' : Int32} {v7 : Int} {v7' : Int32} {v8 : Int} {v8' : Int32} {w : zS} {w' : gW} (hr : ∀ (a2 : Int) (a3 : Int) (a4 : Int) (a5 : Int) (a6 : Int) (a7 : Int) (a8 : Int) (Z : zS) (b2 : Int32) (b3 : Int32) (b4 : Int32) (b5 : Int32) (b6 : Int32) (b7 : Int32) (b8 : Int32) (w : gW), b2 = Int32.ofInt a2 → b3 = Int32.ofInt a3 → b4 = Int32.ofInt a4 → b5 = Int32.ofInt a5 → b6 = Int32.ofInt a6 → b7 = Int32.ofInt a7 → b8 = Int32.ofInt a8 → oAt 7 lyZ w m (cvZ Z) → wF m (m + 27) w0 w → zR E (r a2 a3 a4 a5 a6 a7 a8 Z) (r' m b2 b3 b4 b5 b6 b7 b8 w)) (hk486 : ∀ (a2 : Int) (a3 : Int) (a4 : Int) (a5 : Int) (a6 : Int) (a7 : Int) (Z : zS) (b2 : Int32) (b3 : Int32) (b4 : Int32) (b5 : Int32) (b6 : Int32) (b7 : Int32) (w : gW), b2 = Int32.ofInt a2 → b3 = Int32.ofInt a3 → b4 = Int32.ofInt a4 → b5 = Int32.ofInt a5 → b6 = Int32.ofInt a6 → b7 = Int32.ofInt a7 → oAt 7 lyZ w m (cvZ Z) → wF m (m + 27) w0 w → zR E (k486 a2 a3 a4 a5 a6 a7 Z) (k486' m b2 b3 b4 b5 b6 b7 w)) (hv1 : v1' = Int32.ofInt v1) (hv3 : v3' = Int32.ofInt v3) (hv4 : v4' = Int32.ofInt v4) (hv5 : v5' = Int32.ofInt v5) (hv6 : v6' = Int32.ofInt v6) (hv7 : v7' = Int32.ofInt v7) (hv8 : v8' = Int32.ofInt v8) (h_w : oAt 7 lyZ w' m (cvZ w)) (f_w : wF m (m + 27) w0 w') : zR E (zX7_leastMakers_h445 F r k486 v1 v3 v4 v5 v6 v7 v8 w) (mX7_leastMakers_h445 F r' k486' m v1' v3' v4' v5' v6' v7' v8' w') := by
  unfold zX7_leastMakers_h445 mX7_leastMakers_h445
  exact (R_Le (eL (by decide) : (8 : Int32) = Int32.ofInt (8 : Int)) hv8
  (hk486 _ _ _ _ _ _ _ _ _ _ _ _ _ _ hv1 hv3 hv4 hv5 hv6 hv7 h_w f_w)
  (R_FR h_w (k := 19) rfl
    (R_FR h_w (k := 19) rfl
    (R_Ld h_w (k := 19) rfl (by decide) (eAdd (eMul (eL (by decide) : (8 : Int32) = Int32.ofInt (8 : Int)) hv7) hv8) rfl (fun t478 t478' ht478 =>
    (R_St h_w f_w (k := 19) rfl (by decide) (eAdd (eMul (eL (by decide) : (8 : Int32) = Int32.ofInt (8 : Int)) (eSub hv7 hv3)) hv8) ht478 (fun w479' h_w479 f_w479 =>
    (hr _ _ _ _ _ _ _ _ _ _ _ _ _ _ _ _ hv1 hv3 hv4 hv5 hv6 hv7 (eAdd hv8 (eL (by decide) : (1 : Int32) = Int32.ofInt (1 : Int))) h_w479 f_w479))))))))
set_option maxRecDepth 100000 in
theorem rX7_leastMakers_l445 {F m : Nat} {E : (Int × zS) → (Int32 × gW) → Prop} {w0 : gW} {k486 : Int → Int → Int → Int → Int → Int → zS → Option (Int × zS)} {k486' : Nat → Int32 → Int32 → Int32 → Int32 → Int32 → Int32 → gW → Option (Int32 × gW)} (hk486 : ∀ (a2 : Int) (a3 : Int) (a4 : Int) (a5 : Int) (a6 : Int) (a7 : Int) (Z : zS) (b2 : Int32) (b3 : Int32) (b4 : Int32) (b5 : Int32) (b6 : Int32) (b7 : Int32) (w : gW), b2 = Int32.ofInt a2 → b3 = Int32.ofInt a3 → b4 = Int32.ofInt a4 → b5 = Int32.ofInt a5 → b6 = Int32.ofInt a6 → b7 = Int32.ofInt a7 → oAt 7 lyZ w m (cvZ Z) → wF m (m + 27) w0 w → zR E (k486 a2 a3 a4 a5 a6 a7 Z) (k486' m b2 b3 b4 b5 b6 b7 w)) : ∀ (n : Nat) (v1 : Int) (v3 : Int) (v4 : Int) (v5 : Int) (v6 : Int) (v7 : Int) (v8 : Int) (w : zS) (v1' : Int32) (v3' : Int32) (v4' : Int32) (v5' : Int32) (v6' : Int32) (v7' : Int32) (v8' : Int32) (w' : gW), v1' = Int32.ofInt v1 → v3' = Int32.ofInt v3 → v4' = Int32.ofInt v4 → v5' = Int32.ofInt v5 → v6' = Int32.ofInt v6 → v7' = Int32.ofInt v7 → v8' = Int32.ofInt v8 → oAt 7 lyZ w' m (cvZ w) → wF m (m + 27) w0 w' → zR E (zX7_leastMakers_l445 F k486 n v1 v3 v4 v5 v6 v7 v8 w) (mX7_leastMakers_l445 F k486' n m v1' v3' v4' v5' v6' v7' v8' w') := by
  intro n
  induction n with
  | zero => intros; exact R_none
  | succ n ih =>
    intro v1 v3 v4 v5 v6 v7 v8 w v1' v3' v4' v5' v6' v7' v8' w' hv1 hv3 hv4 hv5 hv6 hv7 hv8 h_w f_w
    exact rX7_leastMakers_h445 ih hk486 hv1 hv3 hv4 hv5 hv6 hv7 hv8 h_w f_w
set_option maxRecDepth 100000 in
theorem rX7_leastMakers_h403 {F m : Nat} {E : (Int × zS) → (Int32 × gW) → Prop} {w0 : gW} {r : Int → Int → Int → Int → Int → Int → zS → Option (Int × zS)} {r' : Nat → Int32 → Int32 → Int32 → Int32 → Int32 → Int32 → gW → Option (Int32 × gW)} {k492 : Int → Int → Int → Int → Int → zS → Option (Int × zS)} {k492' : Nat → Int32 → Int32 → Int32 → Int32 → Int32 → gW → Option (Int32 × gW)} {v1 : Int} {v1' : Int32} {v3 : Int} {v3' : Int32} {v4 : Int} {v4' : Int32} {v5 : Int} {v5' : Int32} {v6 : Int} {v6' : Int32} {v7 : Int} {v7' : Int32} {w : zS} {w' : gW} (hr : ∀ (a2 : Int) (a3 : Int) (a4 : Int) (a5 : Int) (a6 : Int) (a7 : Int) (Z : zS) (b2 : Int32) (b3 : Int32) (b4 : Int32) (b5 : Int32) (b6 : Int32) (b7 : Int32) (w : gW), b2 = Int32.ofInt a2 → b3 = Int32.ofInt a3 → b4 = Int32.ofInt a4 → b5 = Int32.ofInt a5 → b6 = Int32.ofInt a6 → b7 = Int32.ofInt a7 → oAt 7 lyZ w m (cvZ Z) → wF m (m + 27) w0 w → zR E (r a2 a3 a4 a5 a6 a7 Z) (r' m b2 b3 b4 b5 b6 b7 w)) (hk492 : ∀ (a2 : Int) (a3 : Int) (a4 : Int) (a5 : Int) (a6 : Int) (Z : zS) (b2 : Int32) (b3 : Int32) (b4 : Int32) (b5 : Int32) (b6 : Int32) (w : gW), b2 = Int32.ofInt a2 → b3 = Int32.ofInt a3 → b4 = Int32.ofInt a4 → b5 = Int32.ofInt a5 → b6 = Int32.ofInt a6 → oAt 7 lyZ w m (cvZ Z) → wF m (m + 27) w0 w → zR E (k492 a2 a3 a4 a5 a6 Z) (k492' m b2 b3 b4 b5 b6 w)) (hv1 : v1' = Int32.ofInt v1) (hv3 : v3' = Int32.ofInt v3) (hv4 : v4' = Int32.ofInt v4) (hv5 : v5' = Int32.ofInt v5) (hv6 : v6' = Int32.ofInt v6) (hv7 : v7' = Int32.ofInt v7) (h_w : oAt 7 lyZ w' m (cvZ w)) (f_w : wF m (m + 27) w0 w') : zR E (zX7_leastMakers_h403 F r k492 v1 v3 v4 v5 v6 v7 w) (mX7_leastMakers_h403 F r' k492' m v1' v3' v4' v5' v6' v7' w') := by
  unfold zX7_leastMakers_h403 mX7_leastMakers_h403
  exact (R_Le hv6 hv7
  (hk492 _ _ _ _ _ _ _ _ _ _ _ _ hv1 hv3 hv4 hv5 hv6 h_w f_w)
  (R_FRJ h_w (k := 17) rfl
    (R_FRJ h_w (k := 17) rfl
    (R_LJ h_w (k := 17) rfl (by decide) hv7 rfl (fun t424 t424' ht424 =>
    (R_SJ h_w f_w (k := 17) rfl (by decide) (eSub hv7 hv3) ht424 (fun w425' h_w425 f_w425 =>
    (R_FRJ h_w425 (k := 18) rfl
    (R_FRJ h_w425 (k := 18) rfl
    (R_LJ h_w425 (k := 18) rfl (by decide) hv7 rfl (fun t440 t440' ht440 =>
    (R_SJ h_w425 f_w425 (k := 18) rfl (by decide) (eSub hv7 hv3) ht440 (fun w441' h_w441 f_w441 =>
    (rX7_leastMakers_l445 (by exact (fun v1 v3 v4 v5 v6 v7 w v1' v3' v4' v5' v6' v7' w' hv1 hv3 hv4 hv5 hv6 hv7 h_w f_w =>
      (hr _ _ _ _ _ _ _ _ _ _ _ _ _ _ hv1 hv3 hv4 hv5 hv6 (eAdd hv7 (eL (by decide) : (1 : Int32) = Int32.ofInt (1 : Int))) h_w f_w))) F _ _ _ _ _ _ _ _ _ _ _ _ _ _ _ _ hv1 hv3 hv4 hv5 hv6 hv7 (eL (by decide) : (0 : Int32) = Int32.ofInt (0 : Int)) h_w441 f_w441))))))))))))))
set_option maxRecDepth 100000 in
theorem rX7_leastMakers_l403 {F m : Nat} {E : (Int × zS) → (Int32 × gW) → Prop} {w0 : gW} {k492 : Int → Int → Int → Int → Int → zS → Option (Int × zS)} {k492' : Nat → Int32 → Int32 → Int32 → Int32 → Int32 → gW → Option (Int32 × gW)} (hk492 : ∀ (a2 : Int) (a3 : Int) (a4 : Int) (a5 : Int) (a6 : Int) (Z : zS) (b2 : Int32) (b3 : Int32) (b4 : Int32) (b5 : Int32) (b6 : Int32) (w : gW), b2 = Int32.ofInt a2 → b3 = Int32.ofInt a3 → b4 = Int32.ofInt a4 → b5 = Int32.ofInt a5 → b6 = Int32.ofInt a6 → oAt 7 lyZ w m (cvZ Z) → wF m (m + 27) w0 w → zR E (k492 a2 a3 a4 a5 a6 Z) (k492' m b2 b3 b4 b5 b6 w)) : ∀ (n : Nat) (v1 : Int) (v3 : Int) (v4 : Int) (v5 : Int) (v6 : Int) (v7 : Int) (w : zS) (v1' : Int32) (v3' : Int32) (v4' : Int32) (v5' : Int32) (v6' : Int32) (v7' : Int32) (w' : gW), v1' = Int32.ofInt v1 → v3' = Int32.ofInt v3 → v4' = Int32.ofInt v4 → v5' = Int32.ofInt v5 → v6' = Int32.ofInt v6 → v7' = Int32.ofInt v7 → oAt 7 lyZ w' m (cvZ w) → wF m (m + 27) w0 w' → zR E (zX7_leastMakers_l403 F k492 n v1 v3 v4 v5 v6 v7 w) (mX7_leastMakers_l403 F k492' n m v1' v3' v4' v5' v6' v7' w') := by
  intro n
  induction n with
  | zero => intros; exact R_none
  | succ n ih =>
    intro v1 v3 v4 v5 v6 v7 w v1' v3' v4' v5' v6' v7' w' hv1 hv3 hv4 hv5 hv6 hv7 h_w f_w
    exact rX7_leastMakers_h403 ih hk492 hv1 hv3 hv4 hv5 hv6 hv7 h_w f_w
set_option maxRecDepth 100000 in
theorem rX7_leastMakers_b400 {F m : Nat} {E : (Int × zS) → (Int32 × gW) → Prop} {w0 : gW} {r : Int → Int → Int → Int → Int → zS → Option (Int × zS)} {r' : Nat → Int32 → Int32 → Int32 → Int32 → Int32 → gW → Option (Int32 × gW)} {k505 : Int → Int → zS → Option (Int × zS)} {k505' : Nat → Int32 → Int32 → gW → Option (Int32 × gW)} {v1 : Int} {v1' : Int32} {v3 : Int} {v3' : Int32} {v4 : Int} {v4' : Int32} {v5 : Int} {v5' : Int32} {v6 : Int} {v6' : Int32} {w : zS} {w' : gW} (hr : ∀ (a2 : Int) (a3 : Int) (a4 : Int) (a5 : Int) (a6 : Int) (Z : zS) (b2 : Int32) (b3 : Int32) (b4 : Int32) (b5 : Int32) (b6 : Int32) (w : gW), b2 = Int32.ofInt a2 → b3 = Int32.ofInt a3 → b4 = Int32.ofInt a4 → b5 = Int32.ofInt a5 → b6 = Int32.ofInt a6 → oAt 7 lyZ w m (cvZ Z) → wF m (m + 27) w0 w → zR E (r a2 a3 a4 a5 a6 Z) (r' m b2 b3 b4 b5 b6 w)) (hk505 : ∀ (a2 : Int) (a3 : Int) (Z : zS) (b2 : Int32) (b3 : Int32) (w : gW), b2 = Int32.ofInt a2 → b3 = Int32.ofInt a3 → oAt 7 lyZ w m (cvZ Z) → wF m (m + 27) w0 w → zR E (k505 a2 a3 Z) (k505' m b2 b3 w)) (hv1 : v1' = Int32.ofInt v1) (hv3 : v3' = Int32.ofInt v3) (hv4 : v4' = Int32.ofInt v4) (hv5 : v5' = Int32.ofInt v5) (hv6 : v6' = Int32.ofInt v6) (h_w : oAt 7 lyZ w' m (cvZ w)) (f_w : wF m (m + 27) w0 w') : zR E (zX7_leastMakers_b400 F r k505 v1 v3 v4 v5 v6 w) (mX7_leastMakers_b400 F r' k505' m v1' v3' v4' v5' v6' w') := by
  unfold zX7_leastMakers_b400 mX7_leastMakers_b400
  exact (rX7_leastMakers_l403 (by exact (fun v1 v3 v4 v5 v6 w v1' v3' v4' v5' v6' w' hv1 hv3 hv4 hv5 hv6 h_w f_w =>
    (hr _ _ _ _ _ _ _ _ _ _ _ _ hv1 (eL (by decide) : (0 : Int32) = Int32.ofInt (0 : Int)) (eSub hv6 hv3) (eAdd hv4 (eL (by decide) : (1 : Int32) = Int32.ofInt (1 : Int))) hv5 h_w f_w))) F _ _ _ _ _ _ _ _ _ _ _ _ _ _ hv1 hv3 hv4 hv5 hv6 hv3 h_w f_w)
set_option maxRecDepth 100000 in
theorem rX7_leastMakers_h56 {F m : Nat} {E : (Int × zS) → (Int32 × gW) → Prop} {w0 : gW} {r : Int → Int → Int → Int → Int → zS → Option (Int × zS)} {r' : Nat → Int32 → Int32 → Int32 → Int32 → Int32 → gW → Option (Int32 × gW)} {k505 : Int → Int → zS → Option (Int × zS)} {k505' : Nat → Int32 → Int32 → gW → Option (Int32 × gW)} {v1 : Int} {v1' : Int32} {v2 : Int} {v2' : Int32} {v3 : Int} {v3' : Int32} {v4 : Int} {v4' : Int32} {v5 : Int} {v5' : Int32} {w : zS} {w' : gW} (hr : ∀ (a2 : Int) (a3 : Int) (a4 : Int) (a5 : Int) (a6 : Int) (Z : zS) (b2 : Int32) (b3 : Int32) (b4 : Int32) (b5 : Int32) (b6 : Int32) (w : gW), b2 = Int32.ofInt a2 → b3 = Int32.ofInt a3 → b4 = Int32.ofInt a4 → b5 = Int32.ofInt a5 → b6 = Int32.ofInt a6 → oAt 7 lyZ w m (cvZ Z) → wF m (m + 27) w0 w → zR E (r a2 a3 a4 a5 a6 Z) (r' m b2 b3 b4 b5 b6 w)) (hk505 : ∀ (a2 : Int) (a3 : Int) (Z : zS) (b2 : Int32) (b3 : Int32) (w : gW), b2 = Int32.ofInt a2 → b3 = Int32.ofInt a3 → oAt 7 lyZ w m (cvZ Z) → wF m (m + 27) w0 w → zR E (k505 a2 a3 Z) (k505' m b2 b3 w)) (hv1 : v1' = Int32.ofInt v1) (hv2 : v2' = Int32.ofInt v2) (hv3 : v3' = Int32.ofInt v3) (hv4 : v4' = Int32.ofInt v4) (hv5 : v5' = Int32.ofInt v5) (h_w : oAt 7 lyZ w' m (cvZ w)) (f_w : wF m (m + 27) w0 w') : zR E (zX7_leastMakers_h56 F r k505 v1 v2 v3 v4 v5 w) (mX7_leastMakers_h56 F r' k505' m v1' v2' v3' v4' v5' w') := by
  unfold zX7_leastMakers_h56 mX7_leastMakers_h56
  exact (R_Eq hv5 (eL (by decide) : (0 : Int32) = Int32.ofInt (0 : Int))
  (rX7_leastMakers_l67 (by exact (fun v1 v3 v4 v5 v6 w v1' v3' v4' v5' v6' w' hv1 hv3 hv4 hv5 hv6 h_w f_w =>
      (rX7_leastMakers_b400 hr hk505 hv1 hv3 hv4 hv5 hv6 h_w f_w))) F _ _ _ _ _ _ _ _ _ _ _ _ _ _ hv1 hv3 hv4 hv5 hv3 hv2 h_w f_w)
  (hk505 _ _ _ _ _ _ hv1 hv4 h_w f_w))
set_option maxRecDepth 100000 in
theorem rX7_leastMakers_l56 {F m : Nat} {E : (Int × zS) → (Int32 × gW) → Prop} {w0 : gW} {k505 : Int → Int → zS → Option (Int × zS)} {k505' : Nat → Int32 → Int32 → gW → Option (Int32 × gW)} (hk505 : ∀ (a2 : Int) (a3 : Int) (Z : zS) (b2 : Int32) (b3 : Int32) (w : gW), b2 = Int32.ofInt a2 → b3 = Int32.ofInt a3 → oAt 7 lyZ w m (cvZ Z) → wF m (m + 27) w0 w → zR E (k505 a2 a3 Z) (k505' m b2 b3 w)) : ∀ (n : Nat) (v1 : Int) (v2 : Int) (v3 : Int) (v4 : Int) (v5 : Int) (w : zS) (v1' : Int32) (v2' : Int32) (v3' : Int32) (v4' : Int32) (v5' : Int32) (w' : gW), v1' = Int32.ofInt v1 → v2' = Int32.ofInt v2 → v3' = Int32.ofInt v3 → v4' = Int32.ofInt v4 → v5' = Int32.ofInt v5 → oAt 7 lyZ w' m (cvZ w) → wF m (m + 27) w0 w' → zR E (zX7_leastMakers_l56 F k505 n v1 v2 v3 v4 v5 w) (mX7_leastMakers_l56 F k505' n m v1' v2' v3' v4' v5' w') := by
  intro n
  induction n with
  | zero => intros; exact R_none
  | succ n ih =>
    intro v1 v2 v3 v4 v5 w v1' v2' v3' v4' v5' w' hv1 hv2 hv3 hv4 hv5 h_w f_w
    exact rX7_leastMakers_h56 ih hk505 hv1 hv2 hv3 hv4 hv5 h_w f_w
set_option maxRecDepth 100000 in
theorem rX7_leastMakers_b54 {F m : Nat} {w0 : gW} {v1 : Int} {v1' : Int32} {v2 : Int} {v2' : Int32} {v3 : Int} {v3' : Int32} {v4 : Int} {v4' : Int32} {s0 : Int} {s0' : Int32} {w : zS} {w' : gW} (hv1 : v1' = Int32.ofInt v1) (hv2 : v2' = Int32.ofInt v2) (hv3 : v3' = Int32.ofInt v3) (hv4 : v4' = Int32.ofInt v4) (hs0 : s0' = Int32.ofInt s0) (h_w : oAt 7 lyZ w' m (cvZ w)) (f_w : wF m (m + 27) w0 w') : zR (E1 m w0) (zX7_leastMakers_b54 F v1 v2 v3 v4 s0 w) (mX7_leastMakers_b54 F m v1' v2' v3' v4' s0' w') := by
  unfold zX7_leastMakers_b54 mX7_leastMakers_b54
  exact (rX7_leastMakers_l56 (by exact (fun v1 v4 w v1' v4' w' hv1 hv4 h_w f_w =>
    (R_FR h_w (k := 3) rfl
    (R_St h_w f_w (k := 3) rfl (by decide) hv1 hv4 (fun w512' h_w512 f_w512 =>
    (R_ret1 hv4 h_w512 f_w512)))))) F _ _ _ _ _ _ _ _ _ _ _ _ hv1 hv2 hv3 hv4 hs0 h_w f_w)
set_option maxRecDepth 100000 in
theorem rX7_leastMakers {F m : Nat} {v1 : Int} {v1' : Int32} {w : zS} {w' : gW} (hv1 : v1' = Int32.ofInt v1) (h_w : oAt 7 lyZ w' m (cvZ w)) : zR (E1 m w') (zX7_leastMakers F v1 w) (mX7_leastMakers F m v1' w') := by
  have f_w : wF m (m + 27) w' w' := wF.rf
  unfold zX7_leastMakers mX7_leastMakers
  exact (R_FR h_w (k := 3) rfl
  (R_Ld h_w (k := 3) rfl (by decide) hv1 rfl (fun t5 t5' ht5 =>
  (R_Eq ht5 (eL (by decide) : (-4 : Int32) = Int32.ofInt (-4 : Int))
  (R_FRJ h_w (k := 17) rfl
    (R_SJ h_w f_w (k := 17) rfl (by decide) (eL (by decide) : (0 : Int32) = Int32.ofInt (0 : Int)) rfl (fun w28' h_w28 f_w28 =>
    (R_FRJ h_w28 (k := 18) rfl
    (R_SJ h_w28 f_w28 (k := 18) rfl (by decide) (eL (by decide) : (0 : Int32) = Int32.ofInt (0 : Int)) rfl (fun w35' h_w35 f_w35 =>
    (R_FR h_w35 (k := 1) rfl
    (R_Ld h_w35 (k := 1) rfl (by decide) hv1 rfl (fun t44 t44' ht44 =>
    (R_Eq ht44 (eL (by decide) : (1 : Int32) = Int32.ofInt (1 : Int))
    (rX7_leastMakers_b54 hv1 (eL (by decide) : (0 : Int32) = Int32.ofInt (0 : Int)) (eL (by decide) : (1 : Int32) = Int32.ofInt (1 : Int)) (eL (by decide) : (0 : Int32) = Int32.ofInt (0 : Int)) (eL (by decide) : (1 : Int32) = Int32.ofInt (1 : Int)) h_w35 f_w35)
    (rX7_leastMakers_b54 hv1 (eL (by decide) : (0 : Int32) = Int32.ofInt (0 : Int)) (eL (by decide) : (1 : Int32) = Int32.ofInt (1 : Int)) (eL (by decide) : (0 : Int32) = Int32.ofInt (0 : Int)) (eL (by decide) : (0 : Int32) = Int32.ofInt (0 : Int)) h_w35 f_w35)))))))))))
  (R_FR h_w (k := 3) rfl
    (R_Ld h_w (k := 3) rfl (by decide) hv1 rfl (fun t16 t16' ht16 =>
    (R_ret1 ht16 h_w f_w))))))))
set_option maxRecDepth 100000 in
theorem rX7_leastRow_h28 {F m : Nat} {E : zS → gW → Prop} {w0 : gW} {r : Int → Int → Int → Int → Int → zS → Option zS} {r' : Nat → Int32 → Int32 → Int32 → Int32 → Int32 → gW → Option (gW)} {k54 : Int → Int → Int → Int → zS → Option zS} {k54' : Nat → Int32 → Int32 → Int32 → Int32 → gW → Option (gW)} {v1 : Int} {v1' : Int32} {v2 : Int} {v2' : Int32} {v3 : Int} {v3' : Int32} {v4 : Int} {v4' : Int32} {v5 : Int} {v5' : Int32} {w : zS} {w' : gW} (hr : ∀ (a2 : Int) (a3 : Int) (a4 : Int) (a5 : Int) (a6 : Int) (Z : zS) (b2 : Int32) (b3 : Int32) (b4 : Int32) (b5 : Int32) (b6 : Int32) (w : gW), b2 = Int32.ofInt a2 → b3 = Int32.ofInt a3 → b4 = Int32.ofInt a4 → b5 = Int32.ofInt a5 → b6 = Int32.ofInt a6 → oAt 7 lyZ w m (cvZ Z) → wF m (m + 27) w0 w → zR E (r a2 a3 a4 a5 a6 Z) (r' m b2 b3 b4 b5 b6 w)) (hk54 : ∀ (a2 : Int) (a3 : Int) (a4 : Int) (a5 : Int) (Z : zS) (b2 : Int32) (b3 : Int32) (b4 : Int32) (b5 : Int32) (w : gW), b2 = Int32.ofInt a2 → b3 = Int32.ofInt a3 → b4 = Int32.ofInt a4 → b5 = Int32.ofInt a5 → oAt 7 lyZ w m (cvZ Z) → wF m (m + 27) w0 w → zR E (k54 a2 a3 a4 a5 Z) (k54' m b2 b3 b4 b5 w)) (hv1 : v1' = Int32.ofInt v1) (hv2 : v2' = Int32.ofInt v2) (hv3 : v3' = Int32.ofInt v3) (hv4 : v4' = Int32.ofInt v4) (hv5 : v5' = Int32.ofInt v5) (h_w : oAt 7 lyZ w' m (cvZ w)) (f_w : wF m (m + 27) w0 w') : zR E (zX7_leastRow_h28 F r k54 v1 v2 v3 v4 v5 w) (mX7_leastRow_h28 F r' k54' m v1' v2' v3' v4' v5' w') := by
  unfold zX7_leastRow_h28 mX7_leastRow_h28
  exact (R_Le hv3 hv5
  (hk54 _ _ _ _ _ _ _ _ _ _ hv1 hv2 hv3 hv4 h_w f_w)
  (R_FR h_w (k := 12) rfl
    (R_FR h_w (k := 20) rfl
    (R_Ld h_w (k := 20) rfl (by decide) hv5 rfl (fun t46 t46' ht46 =>
    (R_St h_w f_w (k := 12) rfl (by decide) hv5 ht46 (fun w47' h_w47 f_w47 =>
    (hr _ _ _ _ _ _ _ _ _ _ _ _ hv1 hv2 hv3 hv4 (eAdd hv5 (eL (by decide) : (1 : Int32) = Int32.ofInt (1 : Int))) h_w47 f_w47))))))))
set_option maxRecDepth 100000 in
theorem rX7_leastRow_l28 {F m : Nat} {E : zS → gW → Prop} {w0 : gW} {k54 : Int → Int → Int → Int → zS → Option zS} {k54' : Nat → Int32 → Int32 → Int32 → Int32 → gW → Option (gW)} (hk54 : ∀ (a2 : Int) (a3 : Int) (a4 : Int) (a5 : Int) (Z : zS) (b2 : Int32) (b3 : Int32) (b4 : Int32) (b5 : Int32) (w : gW), b2 = Int32.ofInt a2 → b3 = Int32.ofInt a3 → b4 = Int32.ofInt a4 → b5 = Int32.ofInt a5 → oAt 7 lyZ w m (cvZ Z) → wF m (m + 27) w0 w → zR E (k54 a2 a3 a4 a5 Z) (k54' m b2 b3 b4 b5 w)) : ∀ (n : Nat) (v1 : Int) (v2 : Int) (v3 : Int) (v4 : Int) (v5 : Int) (w : zS) (v1' : Int32) (v2' : Int32) (v3' : Int32) (v4' : Int32) (v5' : Int32) (w' : gW), v1' = Int32.ofInt v1 → v2' = Int32.ofInt v2 → v3' = Int32.ofInt v3 → v4' = Int32.ofInt v4 → v5' = Int32.ofInt v5 → oAt 7 lyZ w' m (cvZ w) → wF m (m + 27) w0 w' → zR E (zX7_leastRow_l28 F k54 n v1 v2 v3 v4 v5 w) (mX7_leastRow_l28 F k54' n m v1' v2' v3' v4' v5' w') := by
  intro n
  induction n with
  | zero => intros; exact R_none
  | succ n ih =>
    intro v1 v2 v3 v4 v5 w v1' v2' v3' v4' v5' w' hv1 hv2 hv3 hv4 hv5 h_w f_w
    exact rX7_leastRow_h28 ih hk54 hv1 hv2 hv3 hv4 hv5 h_w f_w
set_option maxRecDepth 100000 in
theorem rX7_leastRow_h68 {F m : Nat} {E : zS → gW → Prop} {w0 : gW} {r : Int → Int → Int → Int → Int → zS → Option zS} {r' : Nat → Int32 → Int32 → Int32 → Int32 → Int32 → gW → Option (gW)} {k94 : Int → Int → Int → Int → Int → zS → Option zS} {k94' : Nat → Int32 → Int32 → Int32 → Int32 → Int32 → gW → Option (gW)} {v1 : Int} {v1' : Int32} {v2 : Int} {v2' : Int32} {v3 : Int} {v3' : Int32} {v4 : Int} {v4' : Int32} {v5 : Int} {v5' : Int32} {w : zS} {w' : gW} (hr : ∀ (a2 : Int) (a3 : Int) (a4 : Int) (a5 : Int) (a6 : Int) (Z : zS) (b2 : Int32) (b3 : Int32) (b4 : Int32) (b5 : Int32) (b6 : Int32) (w : gW), b2 = Int32.ofInt a2 → b3 = Int32.ofInt a3 → b4 = Int32.ofInt a4 → b5 = Int32.ofInt a5 → b6 = Int32.ofInt a6 → oAt 7 lyZ w m (cvZ Z) → wF m (m + 27) w0 w → zR E (r a2 a3 a4 a5 a6 Z) (r' m b2 b3 b4 b5 b6 w)) (hk94 : ∀ (a2 : Int) (a3 : Int) (a4 : Int) (a5 : Int) (a6 : Int) (Z : zS) (b2 : Int32) (b3 : Int32) (b4 : Int32) (b5 : Int32) (b6 : Int32) (w : gW), b2 = Int32.ofInt a2 → b3 = Int32.ofInt a3 → b4 = Int32.ofInt a4 → b5 = Int32.ofInt a5 → b6 = Int32.ofInt a6 → oAt 7 lyZ w m (cvZ Z) → wF m (m + 27) w0 w → zR E (k94 a2 a3 a4 a5 a6 Z) (k94' m b2 b3 b4 b5 b6 w)) (hv1 : v1' = Int32.ofInt v1) (hv2 : v2' = Int32.ofInt v2) (hv3 : v3' = Int32.ofInt v3) (hv4 : v4' = Int32.ofInt v4) (hv5 : v5' = Int32.ofInt v5) (h_w : oAt 7 lyZ w' m (cvZ w)) (f_w : wF m (m + 27) w0 w') : zR E (zX7_leastRow_h68 F r k94 v1 v2 v3 v4 v5 w) (mX7_leastRow_h68 F r' k94' m v1' v2' v3' v4' v5' w') := by
  unfold zX7_leastRow_h68 mX7_leastRow_h68
  exact (R_FR h_w (k := 1) rfl
  (R_Ld h_w (k := 1) rfl (by decide) hv1 rfl (fun t75 t75' ht75 =>
  (R_Le ht75 hv5
  (hk94 _ _ _ _ _ _ _ _ _ _ _ _ hv1 hv2 hv3 hv4 hv5 h_w f_w)
  (R_O h_w
    (R_C1 (rX7_isMade hv5 h_w) f_w (fun q82_1 q82_2 q82_1' q82_2' hq82 h_q82_2 f_q82_2 =>
    (R_Eq hq82 (eL (by decide) : (0 : Int32) = Int32.ofInt (0 : Int))
    (hk94 _ _ _ _ _ _ _ _ _ _ _ _ hv1 hv2 hv3 hv4 hv5 h_q82_2 f_q82_2)
    (hr _ _ _ _ _ _ _ _ _ _ _ _ hv1 hv2 hv3 hv4 (eAdd hv5 (eL (by decide) : (1 : Int32) = Int32.ofInt (1 : Int))) h_q82_2 f_q82_2)))))))))
set_option maxRecDepth 100000 in
theorem rX7_leastRow_l68 {F m : Nat} {E : zS → gW → Prop} {w0 : gW} {k94 : Int → Int → Int → Int → Int → zS → Option zS} {k94' : Nat → Int32 → Int32 → Int32 → Int32 → Int32 → gW → Option (gW)} (hk94 : ∀ (a2 : Int) (a3 : Int) (a4 : Int) (a5 : Int) (a6 : Int) (Z : zS) (b2 : Int32) (b3 : Int32) (b4 : Int32) (b5 : Int32) (b6 : Int32) (w : gW), b2 = Int32.ofInt a2 → b3 = Int32.ofInt a3 → b4 = Int32.ofInt a4 → b5 = Int32.ofInt a5 → b6 = Int32.ofInt a6 → oAt 7 lyZ w m (cvZ Z) → wF m (m + 27) w0 w → zR E (k94 a2 a3 a4 a5 a6 Z) (k94' m b2 b3 b4 b5 b6 w)) : ∀ (n : Nat) (v1 : Int) (v2 : Int) (v3 : Int) (v4 : Int) (v5 : Int) (w : zS) (v1' : Int32) (v2' : Int32) (v3' : Int32) (v4' : Int32) (v5' : Int32) (w' : gW), v1' = Int32.ofInt v1 → v2' = Int32.ofInt v2 → v3' = Int32.ofInt v3 → v4' = Int32.ofInt v4 → v5' = Int32.ofInt v5 → oAt 7 lyZ w' m (cvZ w) → wF m (m + 27) w0 w' → zR E (zX7_leastRow_l68 F k94 n v1 v2 v3 v4 v5 w) (mX7_leastRow_l68 F k94' n m v1' v2' v3' v4' v5' w') := by
  intro n
  induction n with
  | zero => intros; exact R_none
  | succ n ih =>
    intro v1 v2 v3 v4 v5 w v1' v2' v3' v4' v5' w' hv1 hv2 hv3 hv4 hv5 h_w f_w
    exact rX7_leastRow_h68 ih hk94 hv1 hv2 hv3 hv4 hv5 h_w f_w
set_option maxRecDepth 100000 in
theorem rX7_leastRow_b221 {F m : Nat} {E : zS → gW → Prop} {w0 : gW} {r : Int → Int → Int → Int → zS → Option zS} {r' : Nat → Int32 → Int32 → Int32 → Int32 → gW → Option (gW)} {v1 : Int} {v1' : Int32} {v2 : Int} {v2' : Int32} {v3 : Int} {v3' : Int32} {v4 : Int} {v4' : Int32} {w : zS} {w' : gW} (hr : ∀ (a2 : Int) (a3 : Int) (a4 : Int) (a5 : Int) (Z : zS) (b2 : Int32) (b3 : Int32) (b4 : Int32) (b5 : Int32) (w : gW), b2 = Int32.ofInt a2 → b3 = Int32.ofInt a3 → b4 = Int32.ofInt a4 → b5 = Int32.ofInt a5 → oAt 7 lyZ w m (cvZ Z) → wF m (m + 27) w0 w → zR E (r a2 a3 a4 a5 Z) (r' m b2 b3 b4 b5 w)) (hv1 : v1' = Int32.ofInt v1) (hv2 : v2' = Int32.ofInt v2) (hv3 : v3' = Int32.ofInt v3) (hv4 : v4' = Int32.ofInt v4) (h_w : oAt 7 lyZ w' m (cvZ w)) (f_w : wF m (m + 27) w0 w') : zR E (zX7_leastRow_b221 F r v1 v2 v3 v4 w) (mX7_leastRow_b221 F r' m v1' v2' v3' v4' w') := by
  unfold zX7_leastRow_b221 mX7_leastRow_b221
  exact (hr _ _ _ _ _ _ _ _ _ _ hv1 hv2 hv3 hv4 h_w f_w)
set_option maxRecDepth 100000 in
theorem rX7_leastRow_b206 {F m : Nat} {E : zS → gW → Prop} {w0 : gW} {r : Int → Int → Int → Int → zS → Option zS} {r' : Nat → Int32 → Int32 → Int32 → Int32 → gW → Option (gW)} {v1 : Int} {v1' : Int32} {v2 : Int} {v2' : Int32} {v3 : Int} {v3' : Int32} {v4 : Int} {v4' : Int32} {w : zS} {w' : gW} (hr : ∀ (a2 : Int) (a3 : Int) (a4 : Int) (a5 : Int) (Z : zS) (b2 : Int32) (b3 : Int32) (b4 : Int32) (b5 : Int32) (w : gW), b2 = Int32.ofInt a2 → b3 = Int32.ofInt a3 → b4 = Int32.ofInt a4 → b5 = Int32.ofInt a5 → oAt 7 lyZ w m (cvZ Z) → wF m (m + 27) w0 w → zR E (r a2 a3 a4 a5 Z) (r' m b2 b3 b4 b5 w)) (hv1 : v1' = Int32.ofInt v1) (hv2 : v2' = Int32.ofInt v2) (hv3 : v3' = Int32.ofInt v3) (hv4 : v4' = Int32.ofInt v4) (h_w : oAt 7 lyZ w' m (cvZ w)) (f_w : wF m (m + 27) w0 w') : zR E (zX7_leastRow_b206 F r v1 v2 v3 v4 w) (mX7_leastRow_b206 F r' m v1' v2' v3' v4' w') := by
  unfold zX7_leastRow_b206 mX7_leastRow_b206
  exact (R_Eq hv4 (eL (by decide) : (0 : Int32) = Int32.ofInt (0 : Int))
  (R_FR h_w (k := 20) rfl
    (R_Ld h_w (k := 20) rfl (by decide) hv3 rfl (fun t217 t217' ht217 =>
    (R_St h_w f_w (k := 20) rfl (by decide) hv3 (eAdd ht217 (eL (by decide) : (1 : Int32) = Int32.ofInt (1 : Int))) (fun w220' h_w220 f_w220 =>
    (rX7_leastRow_b221 hr hv1 hv2 hv3 hv4 h_w220 f_w220))))))
  (rX7_leastRow_b221 hr hv1 hv2 hv3 hv4 h_w f_w))
set_option maxRecDepth 100000 in
theorem rX7_leastRow_b172 {F m : Nat} {E : zS → gW → Prop} {w0 : gW} {r : Int → Int → Int → Int → zS → Option zS} {r' : Nat → Int32 → Int32 → Int32 → Int32 → gW → Option (gW)} {v1 : Int} {v1' : Int32} {v2 : Int} {v2' : Int32} {v3 : Int} {v3' : Int32} {v4 : Int} {v4' : Int32} {w : zS} {w' : gW} (hr : ∀ (a2 : Int) (a3 : Int) (a4 : Int) (a5 : Int) (Z : zS) (b2 : Int32) (b3 : Int32) (b4 : Int32) (b5 : Int32) (w : gW), b2 = Int32.ofInt a2 → b3 = Int32.ofInt a3 → b4 = Int32.ofInt a4 → b5 = Int32.ofInt a5 → oAt 7 lyZ w m (cvZ Z) → wF m (m + 27) w0 w → zR E (r a2 a3 a4 a5 Z) (r' m b2 b3 b4 b5 w)) (hv1 : v1' = Int32.ofInt v1) (hv2 : v2' = Int32.ofInt v2) (hv3 : v3' = Int32.ofInt v3) (hv4 : v4' = Int32.ofInt v4) (h_w : oAt 7 lyZ w' m (cvZ w)) (f_w : wF m (m + 27) w0 w') : zR E (zX7_leastRow_b172 F r v1 v2 v3 v4 w) (mX7_leastRow_b172 F r' m v1' v2' v3' v4' w') := by
  unfold zX7_leastRow_b172 mX7_leastRow_b172
  exact (R_Eq hv4 (eL (by decide) : (0 : Int32) = Int32.ofInt (0 : Int))
  (R_Le hv2 (eAdd hv3 (eL (by decide) : (1 : Int32) = Int32.ofInt (1 : Int)))
    (rX7_leastRow_b206 hr hv1 hv2 hv3 hv4 h_w f_w)
    (R_FR h_w (k := 20) rfl
      (R_FR h_w (k := 20) rfl
      (R_Ld h_w (k := 20) rfl (by decide) (eSub (eAdd hv3 (eL (by decide) : (1 : Int32) = Int32.ofInt (1 : Int))) (eL (by decide) : (1 : Int32) = Int32.ofInt (1 : Int))) rfl (fun t199 t199' ht199 =>
      (R_St h_w f_w (k := 20) rfl (by decide) (eAdd hv3 (eL (by decide) : (1 : Int32) = Int32.ofInt (1 : Int))) (eAdd ht199 (eL (by decide) : (1 : Int32) = Int32.ofInt (1 : Int))) (fun w202' h_w202 f_w202 =>
      (rX7_leastRow_b221 hr hv1 hv2 (eAdd hv3 (eL (by decide) : (1 : Int32) = Int32.ofInt (1 : Int))) hv4 h_w202 f_w202))))))))
  (rX7_leastRow_b206 hr hv1 hv2 hv3 hv4 h_w f_w))
set_option maxRecDepth 100000 in
theorem rX7_leastRow_b170 {F m : Nat} {E : zS → gW → Prop} {w0 : gW} {r : Int → Int → Int → Int → zS → Option zS} {r' : Nat → Int32 → Int32 → Int32 → Int32 → gW → Option (gW)} {v1 : Int} {v1' : Int32} {v2 : Int} {v2' : Int32} {v3 : Int} {v3' : Int32} {s0 : Int} {s0' : Int32} {w : zS} {w' : gW} (hr : ∀ (a2 : Int) (a3 : Int) (a4 : Int) (a5 : Int) (Z : zS) (b2 : Int32) (b3 : Int32) (b4 : Int32) (b5 : Int32) (w : gW), b2 = Int32.ofInt a2 → b3 = Int32.ofInt a3 → b4 = Int32.ofInt a4 → b5 = Int32.ofInt a5 → oAt 7 lyZ w m (cvZ Z) → wF m (m + 27) w0 w → zR E (r a2 a3 a4 a5 Z) (r' m b2 b3 b4 b5 w)) (hv1 : v1' = Int32.ofInt v1) (hv2 : v2' = Int32.ofInt v2) (hv3 : v3' = Int32.ofInt v3) (hs0 : s0' = Int32.ofInt s0) (h_w : oAt 7 lyZ w' m (cvZ w)) (f_w : wF m (m + 27) w0 w') : zR E (zX7_leastRow_b170 F r v1 v2 v3 s0 w) (mX7_leastRow_b170 F r' m v1' v2' v3' s0' w') := by
  unfold zX7_leastRow_b170 mX7_leastRow_b170
  exact (rX7_leastRow_b172 hr hv1 hv2 hv3 hs0 h_w f_w)
set_option maxRecDepth 100000 in
theorem rX7_leastRow_b94 {F m : Nat} {E : zS → gW → Prop} {w0 : gW} {r : Int → Int → Int → Int → zS → Option zS} {r' : Nat → Int32 → Int32 → Int32 → Int32 → gW → Option (gW)} {v1 : Int} {v1' : Int32} {v2 : Int} {v2' : Int32} {v3 : Int} {v3' : Int32} {v4 : Int} {v4' : Int32} {v5 : Int} {v5' : Int32} {w : zS} {w' : gW} (hr : ∀ (a2 : Int) (a3 : Int) (a4 : Int) (a5 : Int) (Z : zS) (b2 : Int32) (b3 : Int32) (b4 : Int32) (b5 : Int32) (w : gW), b2 = Int32.ofInt a2 → b3 = Int32.ofInt a3 → b4 = Int32.ofInt a4 → b5 = Int32.ofInt a5 → oAt 7 lyZ w m (cvZ Z) → wF m (m + 27) w0 w → zR E (r a2 a3 a4 a5 Z) (r' m b2 b3 b4 b5 w)) (hv1 : v1' = Int32.ofInt v1) (hv2 : v2' = Int32.ofInt v2) (hv3 : v3' = Int32.ofInt v3) (hv4 : v4' = Int32.ofInt v4) (hv5 : v5' = Int32.ofInt v5) (h_w : oAt 7 lyZ w' m (cvZ w)) (f_w : wF m (m + 27) w0 w') : zR E (zX7_leastRow_b94 F r v1 v2 v3 v4 v5 w) (mX7_leastRow_b94 F r' m v1' v2' v3' v4' v5' w') := by
  unfold zX7_leastRow_b94 mX7_leastRow_b94
  exact (R_FR h_w (k := 1) rfl
  (R_Ld h_w (k := 1) rfl (by decide) hv1 rfl (fun t101 t101' ht101 =>
  (R_Eq hv5 ht101
  (R_FR h_w (k := 20) rfl
    (R_Ld h_w (k := 20) rfl (by decide) (eAdd hv3 (eL (by decide) : (-1 : Int32) = Int32.ofInt (-1 : Int))) rfl (fun t114 t114' ht114 =>
    (R_St h_w f_w (k := 20) rfl (by decide) (eAdd hv3 (eL (by decide) : (-1 : Int32) = Int32.ofInt (-1 : Int))) (eAdd ht114 (eL (by decide) : (1 : Int32) = Int32.ofInt (1 : Int))) (fun w117' h_w117 f_w117 =>
    (rX7_leastRow_b221 hr hv1 hv2 (eAdd hv3 (eL (by decide) : (-1 : Int32) = Int32.ofInt (-1 : Int))) hv4 h_w117 f_w117))))))
  (R_FR h_w (k := 20) rfl
    (R_St h_w f_w (k := 20) rfl (by decide) hv3 hv5 (fun w128' h_w128 f_w128 =>
    (R_FR h_w128 (k := 12) rfl
    (R_St h_w128 f_w128 (k := 12) rfl (by decide) hv3 hv5 (fun w136' h_w136 f_w136 =>
    (R_O h_w136
    (R_C0 (rX7_makes hv1 (eAdd hv3 (eL (by decide) : (1 : Int32) = Int32.ofInt (1 : Int))) h_w136) f_w136 (fun q142 q142' h_q142 f_q142 =>
    (R_FI h_q142 (k := 14) rfl (c := (zI q142 14)) rfl (fun t146' ht146 =>
    (R_FR h_q142 (k := 1) rfl
    (R_Ld h_q142 (k := 1) rfl (by decide) hv1 rfl (fun t154 t154' ht154 =>
    (R_Eq ht146 ht154
    (R_Eq (eAdd hv3 (eL (by decide) : (1 : Int32) = Int32.ofInt (1 : Int))) hv2
      (rX7_leastRow_b170 hr hv1 hv2 hv3 (eL (by decide) : (1 : Int32) = Int32.ofInt (1 : Int)) h_q142 f_q142)
      (rX7_leastRow_b170 hr hv1 hv2 hv3 (eL (by decide) : (0 : Int32) = Int32.ofInt (0 : Int)) h_q142 f_q142))
    (rX7_leastRow_b172 hr hv1 hv2 hv3 hv4 h_q142 f_q142))))))))))))))))))))
set_option maxRecDepth 100000 in
theorem rX7_leastRow_h20 {F m : Nat} {w0 : gW} {r : Int → Int → Int → Int → zS → Option zS} {r' : Nat → Int32 → Int32 → Int32 → Int32 → gW → Option (gW)} {v1 : Int} {v1' : Int32} {v2 : Int} {v2' : Int32} {v3 : Int} {v3' : Int32} {v4 : Int} {v4' : Int32} {w : zS} {w' : gW} (hr : ∀ (a2 : Int) (a3 : Int) (a4 : Int) (a5 : Int) (Z : zS) (b2 : Int32) (b3 : Int32) (b4 : Int32) (b5 : Int32) (w : gW), b2 = Int32.ofInt a2 → b3 = Int32.ofInt a3 → b4 = Int32.ofInt a4 → b5 = Int32.ofInt a5 → oAt 7 lyZ w m (cvZ Z) → wF m (m + 27) w0 w → zR (E0 m w0) (r a2 a3 a4 a5 Z) (r' m b2 b3 b4 b5 w)) (hv1 : v1' = Int32.ofInt v1) (hv2 : v2' = Int32.ofInt v2) (hv3 : v3' = Int32.ofInt v3) (hv4 : v4' = Int32.ofInt v4) (h_w : oAt 7 lyZ w' m (cvZ w)) (f_w : wF m (m + 27) w0 w') : zR (E0 m w0) (zX7_leastRow_h20 F r v1 v2 v3 v4 w) (mX7_leastRow_h20 F r' m v1' v2' v3' v4' w') := by
  unfold zX7_leastRow_h20 mX7_leastRow_h20
  exact (R_Eq hv4 (eL (by decide) : (0 : Int32) = Int32.ofInt (0 : Int))
  (rX7_leastRow_l28 (by exact (fun v1 v2 v3 v4 w v1' v2' v3' v4' w' hv1 hv2 hv3 hv4 h_w f_w =>
      (R_O h_w
      (R_C0 (rX7_makes hv1 hv3 h_w) f_w (fun q57 q57' h_q57 f_q57 =>
      (R_FR h_q57 (k := 20) rfl
      (R_Ld h_q57 (k := 20) rfl (by decide) hv3 rfl (fun t65 t65' ht65 =>
      (rX7_leastRow_l68 (by exact (fun v1 v2 v3 v4 v5 w v1' v2' v3' v4' v5' w' hv1 hv2 hv3 hv4 hv5 h_w f_w =>
        (rX7_leastRow_b94 hr hv1 hv2 hv3 hv4 hv5 h_w f_w))) F _ _ _ _ _ _ _ _ _ _ _ _ hv1 hv2 hv3 hv4 ht65 h_q57 f_q57))))))))) F _ _ _ _ _ _ _ _ _ _ _ _ hv1 hv2 hv3 hv4 (eL (by decide) : (0 : Int32) = Int32.ofInt (0 : Int)) h_w f_w)
  (R_ret0 h_w f_w))
set_option maxRecDepth 100000 in
theorem rX7_leastRow_l20 {F m : Nat} {w0 : gW}   : ∀ (n : Nat) (v1 : Int) (v2 : Int) (v3 : Int) (v4 : Int) (w : zS) (v1' : Int32) (v2' : Int32) (v3' : Int32) (v4' : Int32) (w' : gW), v1' = Int32.ofInt v1 → v2' = Int32.ofInt v2 → v3' = Int32.ofInt v3 → v4' = Int32.ofInt v4 → oAt 7 lyZ w' m (cvZ w) → wF m (m + 27) w0 w' → zR (E0 m w0) (zX7_leastRow_l20 F  n v1 v2 v3 v4 w) (mX7_leastRow_l20 F  n m v1' v2' v3' v4' w') := by
  intro n
  induction n with
  | zero => intros; exact R_none
  | succ n ih =>
    intro v1 v2 v3 v4 w v1' v2' v3' v4' w' hv1 hv2 hv3 hv4 h_w f_w
    exact rX7_leastRow_h20 ih  hv1 hv2 hv3 hv4 h_w f_w
set_option maxRecDepth 100000 in
theorem rX7_leastRow_b18 {F m : Nat} {w0 : gW} {v1 : Int} {v1' : Int32} {v2 : Int} {v2' : Int32} {v3 : Int} {v3' : Int32} {s0 : Int} {s0' : Int32} {w : zS} {w' : gW} (hv1 : v1' = Int32.ofInt v1) (hv2 : v2' = Int32.ofInt v2) (hv3 : v3' = Int32.ofInt v3) (hs0 : s0' = Int32.ofInt s0) (h_w : oAt 7 lyZ w' m (cvZ w)) (f_w : wF m (m + 27) w0 w') : zR (E0 m w0) (zX7_leastRow_b18 F v1 v2 v3 s0 w) (mX7_leastRow_b18 F m v1' v2' v3' s0' w') := by
  unfold zX7_leastRow_b18 mX7_leastRow_b18
  exact (rX7_leastRow_l20  F _ _ _ _ _ _ _ _ _ _ hv1 hv2 hv3 hs0 h_w f_w)
set_option maxRecDepth 100000 in
theorem rX7_leastRow {F m : Nat} {v1 : Int} {v1' : Int32} {v2 : Int} {v2' : Int32} {w : zS} {w' : gW} (hv1 : v1' = Int32.ofInt v1) (hv2 : v2' = Int32.ofInt v2) (h_w : oAt 7 lyZ w' m (cvZ w)) : zR (E0 m w') (zX7_leastRow F v1 v2 w) (mX7_leastRow F m v1' v2' w') := by
  have f_w : wF m (m + 27) w' w' := wF.rf
  unfold zX7_leastRow mX7_leastRow
  exact (R_FR h_w (k := 20) rfl
  (R_St h_w f_w (k := 20) rfl (by decide) (eL (by decide) : (0 : Int32) = Int32.ofInt (0 : Int)) (eL (by decide) : (0 : Int32) = Int32.ofInt (0 : Int)) (fun w8' h_w8 f_w8 =>
  (R_Eq hv2 (eL (by decide) : (0 : Int32) = Int32.ofInt (0 : Int))
  (rX7_leastRow_b18 hv1 hv2 (eL (by decide) : (0 : Int32) = Int32.ofInt (0 : Int)) (eL (by decide) : (1 : Int32) = Int32.ofInt (1 : Int)) h_w8 f_w8)
  (rX7_leastRow_b18 hv1 hv2 (eL (by decide) : (0 : Int32) = Int32.ofInt (0 : Int)) (eL (by decide) : (0 : Int32) = Int32.ofInt (0 : Int)) h_w8 f_w8)))))
set_option maxRecDepth 100000 in
theorem rX7_leastTurned_b50 {F m : Nat} {E : (Int × zS) → (Int32 × gW) → Prop} {w0 : gW} {r : Int → Int → Int → Int → zS → Option (Int × zS)} {r' : Nat → Int32 → Int32 → Int32 → Int32 → gW → Option (Int32 × gW)} {v1 : Int} {v1' : Int32} {v2 : Int} {v2' : Int32} {v4 : Int} {v4' : Int32} {s0 : Int} {s0' : Int32} {w : zS} {w' : gW} (hr : ∀ (a2 : Int) (a3 : Int) (a4 : Int) (a5 : Int) (Z : zS) (b2 : Int32) (b3 : Int32) (b4 : Int32) (b5 : Int32) (w : gW), b2 = Int32.ofInt a2 → b3 = Int32.ofInt a3 → b4 = Int32.ofInt a4 → b5 = Int32.ofInt a5 → oAt 7 lyZ w m (cvZ Z) → wF m (m + 27) w0 w → zR E (r a2 a3 a4 a5 Z) (r' m b2 b3 b4 b5 w)) (hv1 : v1' = Int32.ofInt v1) (hv2 : v2' = Int32.ofInt v2) (hv4 : v4' = Int32.ofInt v4) (hs0 : s0' = Int32.ofInt s0) (h_w : oAt 7 lyZ w' m (cvZ w)) (f_w : wF m (m + 27) w0 w') : zR E (zX7_leastTurned_b50 F r v1 v2 v4 s0 w) (mX7_leastTurned_b50 F r' m v1' v2' v4' s0' w') := by
  unfold zX7_leastTurned_b50 mX7_leastTurned_b50
  exact (hr _ _ _ _ _ _ _ _ _ _ hv1 hv2 hs0 (eAdd hv4 (eL (by decide) : (1 : Int32) = Int32.ofInt (1 : Int))) h_w f_w)
set_option maxRecDepth 100000 in
theorem rX7_leastTurned_h5 {F m : Nat} {w0 : gW} {r : Int → Int → Int → Int → zS → Option (Int × zS)} {r' : Nat → Int32 → Int32 → Int32 → Int32 → gW → Option (Int32 × gW)} {v1 : Int} {v1' : Int32} {v2 : Int} {v2' : Int32} {v3 : Int} {v3' : Int32} {v4 : Int} {v4' : Int32} {w : zS} {w' : gW} (hr : ∀ (a2 : Int) (a3 : Int) (a4 : Int) (a5 : Int) (Z : zS) (b2 : Int32) (b3 : Int32) (b4 : Int32) (b5 : Int32) (w : gW), b2 = Int32.ofInt a2 → b3 = Int32.ofInt a3 → b4 = Int32.ofInt a4 → b5 = Int32.ofInt a5 → oAt 7 lyZ w m (cvZ Z) → wF m (m + 27) w0 w → zR (E1 m w0) (r a2 a3 a4 a5 Z) (r' m b2 b3 b4 b5 w)) (hv1 : v1' = Int32.ofInt v1) (hv2 : v2' = Int32.ofInt v2) (hv3 : v3' = Int32.ofInt v3) (hv4 : v4' = Int32.ofInt v4) (h_w : oAt 7 lyZ w' m (cvZ w)) (f_w : wF m (m + 27) w0 w') : zR (E1 m w0) (zX7_leastTurned_h5 F r v1 v2 v3 v4 w) (mX7_leastTurned_h5 F r' m v1' v2' v3' v4' w') := by
  unfold zX7_leastTurned_h5 mX7_leastTurned_h5
  exact (R_FR h_w (k := 1) rfl
  (R_Ld h_w (k := 1) rfl (by decide) hv1 rfl (fun t12 t12' ht12 =>
  (R_Le ht12 hv4
  (R_ret1 hv3 h_w f_w)
  (R_O h_w
    (R_C1 (rX7_prod hv1 hv4 hv2 h_w) f_w (fun q23_1 q23_2 q23_1' q23_2' hq23 h_q23_2 f_q23_2 =>
    (R_O h_q23_2
    (R_C1 (rX7_inverse hv1 hv4 h_q23_2) f_q23_2 (fun q30_1 q30_2 q30_1' q30_2' hq30 h_q30_2 f_q30_2 =>
    (R_O h_q30_2
    (R_C1 (rX7_prod hv1 hq23 hq30 h_q30_2) f_q30_2 (fun q33_1 q33_2 q33_1' q33_2' hq33 h_q33_2 f_q33_2 =>
    (R_Le hv3 hq33
    (rX7_leastTurned_b50 hr hv1 hv2 hv4 hv3 h_q33_2 f_q33_2)
    (rX7_leastTurned_b50 hr hv1 hv2 hv4 hq33 h_q33_2 f_q33_2)))))))))))))))
set_option maxRecDepth 100000 in
theorem rX7_leastTurned_l5 {F m : Nat} {w0 : gW}   : ∀ (n : Nat) (v1 : Int) (v2 : Int) (v3 : Int) (v4 : Int) (w : zS) (v1' : Int32) (v2' : Int32) (v3' : Int32) (v4' : Int32) (w' : gW), v1' = Int32.ofInt v1 → v2' = Int32.ofInt v2 → v3' = Int32.ofInt v3 → v4' = Int32.ofInt v4 → oAt 7 lyZ w' m (cvZ w) → wF m (m + 27) w0 w' → zR (E1 m w0) (zX7_leastTurned_l5 F  n v1 v2 v3 v4 w) (mX7_leastTurned_l5 F  n m v1' v2' v3' v4' w') := by
  intro n
  induction n with
  | zero => intros; exact R_none
  | succ n ih =>
    intro v1 v2 v3 v4 w v1' v2' v3' v4' w' hv1 hv2 hv3 hv4 h_w f_w
    exact rX7_leastTurned_h5 ih  hv1 hv2 hv3 hv4 h_w f_w
set_option maxRecDepth 100000 in
theorem rX7_leastTurned {F m : Nat} {v1 : Int} {v1' : Int32} {v2 : Int} {v2' : Int32} {w : zS} {w' : gW} (hv1 : v1' = Int32.ofInt v1) (hv2 : v2' = Int32.ofInt v2) (h_w : oAt 7 lyZ w' m (cvZ w)) : zR (E1 m w') (zX7_leastTurned F v1 v2 w) (mX7_leastTurned F m v1' v2' w') := by
  have f_w : wF m (m + 27) w' w' := wF.rf
  unfold zX7_leastTurned mX7_leastTurned
  exact (rX7_leastTurned_l5  F _ _ _ _ _ _ _ _ _ _ hv1 hv2 hv2 (eL (by decide) : (0 : Int32) = Int32.ofInt (0 : Int)) h_w f_w)
set_option maxRecDepth 100000 in
theorem rX7_module_b137 {F m : Nat} {E : (Int × zS) → (Int32 × gW) → Prop} {w0 : gW} {r : Int → Int → Int → zS → Option (Int × zS)} {r' : Nat → Int32 → Int32 → Int32 → gW → Option (Int32 × gW)} {k144 : Int → zS → Option (Int × zS)} {k144' : Nat → Int32 → gW → Option (Int32 × gW)} {v3 : Int} {v3' : Int32} {v4 : Int} {v4' : Int32} {v5 : Int} {v5' : Int32} {s1 : Int} {s1' : Int32} {s2 : Int} {s2' : Int32} {w : zS} {w' : gW} (hr : ∀ (a2 : Int) (a3 : Int) (a4 : Int) (Z : zS) (b2 : Int32) (b3 : Int32) (b4 : Int32) (w : gW), b2 = Int32.ofInt a2 → b3 = Int32.ofInt a3 → b4 = Int32.ofInt a4 → oAt 7 lyZ w m (cvZ Z) → wF m (m + 27) w0 w → zR E (r a2 a3 a4 Z) (r' m b2 b3 b4 w)) (hk144 : ∀ (a2 : Int) (Z : zS) (b2 : Int32) (w : gW), b2 = Int32.ofInt a2 → oAt 7 lyZ w m (cvZ Z) → wF m (m + 27) w0 w → zR E (k144 a2 Z) (k144' m b2 w)) (hv3 : v3' = Int32.ofInt v3) (hv4 : v4' = Int32.ofInt v4) (hv5 : v5' = Int32.ofInt v5) (hs1 : s1' = Int32.ofInt s1) (hs2 : s2' = Int32.ofInt s2) (h_w : oAt 7 lyZ w' m (cvZ w)) (f_w : wF m (m + 27) w0 w') : zR E (zX7_module_b137 F r k144 v3 v4 v5 s1 s2 w) (mX7_module_b137 F r' k144' m v3' v4' v5' (some (m + 10)) s1' s2' w') := by
  unfold zX7_module_b137 mX7_module_b137
  exact (R_St h_w f_w (k := 11) rfl (by decide) hs1 hs2 (fun w137' h_w137 f_w137 =>
  (hr _ _ _ _ _ _ _ _ hv3 hv4 (eAdd hv5 (eL (by decide) : (1 : Int32) = Int32.ofInt (1 : Int))) h_w137 f_w137)))
set_option maxRecDepth 100000 in
theorem rX7_module_b132 {F m : Nat} {E : (Int × zS) → (Int32 × gW) → Prop} {w0 : gW} {r : Int → Int → Int → zS → Option (Int × zS)} {r' : Nat → Int32 → Int32 → Int32 → gW → Option (Int32 × gW)} {k144 : Int → zS → Option (Int × zS)} {k144' : Nat → Int32 → gW → Option (Int32 × gW)} {v3 : Int} {v3' : Int32} {v4 : Int} {v4' : Int32} {v5 : Int} {v5' : Int32} {s1 : Int} {s1' : Int32} {w : zS} {w' : gW} (hr : ∀ (a2 : Int) (a3 : Int) (a4 : Int) (Z : zS) (b2 : Int32) (b3 : Int32) (b4 : Int32) (w : gW), b2 = Int32.ofInt a2 → b3 = Int32.ofInt a3 → b4 = Int32.ofInt a4 → oAt 7 lyZ w m (cvZ Z) → wF m (m + 27) w0 w → zR E (r a2 a3 a4 Z) (r' m b2 b3 b4 w)) (hk144 : ∀ (a2 : Int) (Z : zS) (b2 : Int32) (w : gW), b2 = Int32.ofInt a2 → oAt 7 lyZ w m (cvZ Z) → wF m (m + 27) w0 w → zR E (k144 a2 Z) (k144' m b2 w)) (hv3 : v3' = Int32.ofInt v3) (hv4 : v4' = Int32.ofInt v4) (hv5 : v5' = Int32.ofInt v5) (hs1 : s1' = Int32.ofInt s1) (h_w : oAt 7 lyZ w' m (cvZ w)) (f_w : wF m (m + 27) w0 w') : zR E (zX7_module_b132 F r k144 v3 v4 v5 s1 w) (mX7_module_b132 F r' k144' m v3' v4' v5' (some (m + 10)) s1' w') := by
  unfold zX7_module_b132 mX7_module_b132
  exact (rX7_module_b137 hr hk144 hv3 hv4 hv5 hs1 (eL (by decide) : (1 : Int32) = Int32.ofInt (1 : Int)) h_w f_w)
set_option maxRecDepth 100000 in
theorem rX7_module_b136 {F m : Nat} {E : (Int × zS) → (Int32 × gW) → Prop} {w0 : gW} {r : Int → Int → Int → zS → Option (Int × zS)} {r' : Nat → Int32 → Int32 → Int32 → gW → Option (Int32 × gW)} {k144 : Int → zS → Option (Int × zS)} {k144' : Nat → Int32 → gW → Option (Int32 × gW)} {v3 : Int} {v3' : Int32} {v4 : Int} {v4' : Int32} {v5 : Int} {v5' : Int32} {s1 : Int} {s1' : Int32} {w : zS} {w' : gW} (hr : ∀ (a2 : Int) (a3 : Int) (a4 : Int) (Z : zS) (b2 : Int32) (b3 : Int32) (b4 : Int32) (w : gW), b2 = Int32.ofInt a2 → b3 = Int32.ofInt a3 → b4 = Int32.ofInt a4 → oAt 7 lyZ w m (cvZ Z) → wF m (m + 27) w0 w → zR E (r a2 a3 a4 Z) (r' m b2 b3 b4 w)) (hk144 : ∀ (a2 : Int) (Z : zS) (b2 : Int32) (w : gW), b2 = Int32.ofInt a2 → oAt 7 lyZ w m (cvZ Z) → wF m (m + 27) w0 w → zR E (k144 a2 Z) (k144' m b2 w)) (hv3 : v3' = Int32.ofInt v3) (hv4 : v4' = Int32.ofInt v4) (hv5 : v5' = Int32.ofInt v5) (hs1 : s1' = Int32.ofInt s1) (h_w : oAt 7 lyZ w' m (cvZ w)) (f_w : wF m (m + 27) w0 w') : zR E (zX7_module_b136 F r k144 v3 v4 v5 s1 w) (mX7_module_b136 F r' k144' m v3' v4' v5' (some (m + 10)) s1' w') := by
  unfold zX7_module_b136 mX7_module_b136
  exact (rX7_module_b137 hr hk144 hv3 hv4 hv5 hs1 (eL (by decide) : (0 : Int32) = Int32.ofInt (0 : Int)) h_w f_w)
set_option maxRecDepth 100000 in
theorem rX7_module_h93 {F m : Nat} {E : (Int × zS) → (Int32 × gW) → Prop} {w0 : gW} {r : Int → Int → Int → zS → Option (Int × zS)} {r' : Nat → Int32 → Int32 → Int32 → gW → Option (Int32 × gW)} {k144 : Int → zS → Option (Int × zS)} {k144' : Nat → Int32 → gW → Option (Int32 × gW)} {v3 : Int} {v3' : Int32} {v4 : Int} {v4' : Int32} {v5 : Int} {v5' : Int32} {w : zS} {w' : gW} (hr : ∀ (a2 : Int) (a3 : Int) (a4 : Int) (Z : zS) (b2 : Int32) (b3 : Int32) (b4 : Int32) (w : gW), b2 = Int32.ofInt a2 → b3 = Int32.ofInt a3 → b4 = Int32.ofInt a4 → oAt 7 lyZ w m (cvZ Z) → wF m (m + 27) w0 w → zR E (r a2 a3 a4 Z) (r' m b2 b3 b4 w)) (hk144 : ∀ (a2 : Int) (Z : zS) (b2 : Int32) (w : gW), b2 = Int32.ofInt a2 → oAt 7 lyZ w m (cvZ Z) → wF m (m + 27) w0 w → zR E (k144 a2 Z) (k144' m b2 w)) (hv3 : v3' = Int32.ofInt v3) (hv4 : v4' = Int32.ofInt v4) (hv5 : v5' = Int32.ofInt v5) (h_w : oAt 7 lyZ w' m (cvZ w)) (f_w : wF m (m + 27) w0 w') : zR E (zX7_module_h93 F r k144 v3 v4 v5 w) (mX7_module_h93 F r' k144' m v3' v4' v5' w') := by
  unfold zX7_module_h93 mX7_module_h93
  exact (R_Le (eL (by decide) : (32 : Int32) = Int32.ofInt (32 : Int)) hv5
  (hk144 _ _ _ _ hv4 h_w f_w)
  (R_FR h_w (k := 11) rfl
    (R_Rem hv5 (eL (by decide) : (4 : Int32) = Int32.ofInt (4 : Int)) (fun t115 t115' ht115 =>
    (R_Eq ht115 (eL (by decide) : (0 : Int32) = Int32.ofInt (0 : Int))
    (rX7_module_b132 hr hk144 hv3 hv4 hv5 (eAdd (eMul (eL (by decide) : (32 : Int32) = Int32.ofInt (32 : Int)) hv4) hv5) h_w f_w)
    (R_Rem hv5 (eL (by decide) : (4 : Int32) = Int32.ofInt (4 : Int)) (fun t122 t122' ht122 =>
      (R_Eq ht122 (eL (by decide) : (3 : Int32) = Int32.ofInt (3 : Int))
      (R_Eq hv3 (eL (by decide) : (2 : Int32) = Int32.ofInt (2 : Int))
        (rX7_module_b132 hr hk144 hv3 hv4 hv5 (eAdd (eMul (eL (by decide) : (32 : Int32) = Int32.ofInt (32 : Int)) hv4) hv5) h_w f_w)
        (rX7_module_b136 hr hk144 hv3 hv4 hv5 (eAdd (eMul (eL (by decide) : (32 : Int32) = Int32.ofInt (32 : Int)) hv4) hv5) h_w f_w))
      (rX7_module_b136 hr hk144 hv3 hv4 hv5 (eAdd (eMul (eL (by decide) : (32 : Int32) = Int32.ofInt (32 : Int)) hv4) hv5) h_w f_w)))))))))
set_option maxRecDepth 100000 in
theorem rX7_module_l93 {F m : Nat} {E : (Int × zS) → (Int32 × gW) → Prop} {w0 : gW} {k144 : Int → zS → Option (Int × zS)} {k144' : Nat → Int32 → gW → Option (Int32 × gW)} (hk144 : ∀ (a2 : Int) (Z : zS) (b2 : Int32) (w : gW), b2 = Int32.ofInt a2 → oAt 7 lyZ w m (cvZ Z) → wF m (m + 27) w0 w → zR E (k144 a2 Z) (k144' m b2 w)) : ∀ (n : Nat) (v3 : Int) (v4 : Int) (v5 : Int) (w : zS) (v3' : Int32) (v4' : Int32) (v5' : Int32) (w' : gW), v3' = Int32.ofInt v3 → v4' = Int32.ofInt v4 → v5' = Int32.ofInt v5 → oAt 7 lyZ w' m (cvZ w) → wF m (m + 27) w0 w' → zR E (zX7_module_l93 F k144 n v3 v4 v5 w) (mX7_module_l93 F k144' n m v3' v4' v5' w') := by
  intro n
  induction n with
  | zero => intros; exact R_none
  | succ n ih =>
    intro v3 v4 v5 w v3' v4' v5' w' hv3 hv4 hv5 h_w f_w
    exact rX7_module_h93 ih hk144 hv3 hv4 hv5 h_w f_w
set_option maxRecDepth 100000 in
theorem rX7_module_b34 {F m : Nat} {w0 : gW} {v1 : Int} {v1' : Int32} {v2 : Int} {v2' : Int32} {v3 : Int} {v3' : Int32} {w : zS} {w' : gW} (hv1 : v1' = Int32.ofInt v1) (hv2 : v2' = Int32.ofInt v2) (hv3 : v3' = Int32.ofInt v3) (h_w : oAt 7 lyZ w' m (cvZ w)) (f_w : wF m (m + 27) w0 w') : zR (E1 m w0) (zX7_module_b34 F v1 v2 v3 w) (mX7_module_b34 F m v1' v2' v3' w') := by
  unfold zX7_module_b34 mX7_module_b34
  exact (R_C1 (rX7_in (congrArg Int32.toInt64 hv3) rfl rfl h_w) f_w (fun q40_1 q40_2 q40_1' q40_2' hq40 h_q40_2 f_q40_2 =>
  (R_Eq hq40 (eL (by decide) : (0 : Int32) = Int32.ofInt (0 : Int))
  (R_ret1 (eL (by decide) : (-1 : Int32) = Int32.ofInt (-1 : Int)) h_q40_2 f_q40_2)
  (R_FI h_q40_2 (k := 7) rfl (c := (zI q40_2 7)) rfl (fun t49' ht49 =>
    (R_Eq ht49 (eL (by decide) : (6 : Int32) = Int32.ofInt (6 : Int))
    (R_ret1 (eL (by decide) : (-3 : Int32) = Int32.ofInt (-3 : Int)) h_q40_2 f_q40_2)
    (R_FI h_q40_2 (k := 7) rfl (c := (zI q40_2 7)) rfl (fun t61' ht61 =>
      (R_FR h_q40_2 (k := 8) rfl
      (R_St h_q40_2 f_q40_2 (k := 8) rfl (by decide) ht61 hv1 (fun w73' h_w73 f_w73 =>
      (R_FR h_w73 (k := 9) rfl
      (R_St h_w73 f_w73 (k := 9) rfl (by decide) ht61 hv2 (fun w81' h_w81 f_w81 =>
      (R_FR h_w81 (k := 10) rfl
      (R_St h_w81 f_w81 (k := 10) rfl (by decide) ht61 hv3 (fun w89' h_w89 f_w89 =>
      (rX7_module_l93 (by exact (fun v4 w v4' w' hv4 h_w f_w =>
        (R_PI h_w f_w (k := 29) rfl (eL (by decide) : (-4 : Int32) = Int32.ofInt (-4 : Int)) (fun w147' h_w147 f_w147 =>
        (R_FI h_w147 (k := 7) rfl (c := (zI w 7)) rfl (fun t152' ht152 =>
        (R_PI h_w147 f_w147 (k := 7) rfl (eAdd ht152 (eL (by decide) : (1 : Int32) = Int32.ofInt (1 : Int))) (fun w157' h_w157 f_w157 =>
        (R_ret1 hv4 h_w157 f_w157))))))))) F _ _ _ _ _ _ _ _ hv3 ht61 (eL (by decide) : (0 : Int32) = Int32.ofInt (0 : Int)) h_w89 f_w89))))))))))))))))))
set_option maxRecDepth 100000 in
theorem rX7_module {F m : Nat} {v1 : Int} {v1' : Int32} {v2 : Int} {v2' : Int32} {v3 : Int} {v3' : Int32} {w : zS} {w' : gW} (hv1 : v1' = Int32.ofInt v1) (hv2 : v2' = Int32.ofInt v2) (hv3 : v3' = Int32.ofInt v3) (h_w : oAt 7 lyZ w' m (cvZ w)) : zR (E1 m w') (zX7_module F v1 v2 v3 w) (mX7_module F m v1' v2' v3' w') := by
  have f_w : wF m (m + 27) w' w' := wF.rf
  unfold zX7_module mX7_module
  exact (R_O h_w
  (R_C1 (rX7_isGroup hv1 h_w) f_w (fun q2_1 q2_2 q2_1' q2_2' hq2 h_q2_2 f_q2_2 =>
  (R_Eq hq2 (eL (by decide) : (0 : Int32) = Int32.ofInt (0 : Int))
  (R_ret1 (eL (by decide) : (-1 : Int32) = Int32.ofInt (-1 : Int)) h_q2_2 f_q2_2)
  (R_FR h_q2_2 (k := 1) rfl
    (R_Ld h_q2_2 (k := 1) rfl (by decide) hv1 rfl (fun t13 t13' ht13 =>
    (R_Lt (eL (by decide) : (8 : Int32) = Int32.ofInt (8 : Int)) ht13
    (R_ret1 (eL (by decide) : (-1 : Int32) = Int32.ofInt (-1 : Int)) h_q2_2 f_q2_2)
    (R_Eq hv2 (eL (by decide) : (2 : Int32) = Int32.ofInt (2 : Int))
      (rX7_module_b34 hv1 hv2 hv3 h_q2_2 f_q2_2)
      (R_Eq hv2 (eL (by decide) : (3 : Int32) = Int32.ofInt (3 : Int))
        (rX7_module_b34 hv1 hv2 hv3 h_q2_2 f_q2_2)
        (R_Eq hv2 (eL (by decide) : (5 : Int32) = Int32.ofInt (5 : Int))
          (rX7_module_b34 hv1 hv2 hv3 h_q2_2 f_q2_2)
          (R_ret1 (eL (by decide) : (-1 : Int32) = Int32.ofInt (-1 : Int)) h_q2_2 f_q2_2))))))))))))
set_option maxRecDepth 100000 in
theorem rX7_nextLike_h17 {F m : Nat} {w0 : gW} {r : Int → Int → Int → zS → Option (Int × zS)} {r' : Nat → Int32 → Int32 → Int32 → gW → Option (Int32 × gW)} {v2 : Int} {v2' : Int32} {v5 : Int} {v5' : Int32} {v6 : Int} {v6' : Int32} {w : zS} {w' : gW} (hr : ∀ (a2 : Int) (a3 : Int) (a4 : Int) (Z : zS) (b2 : Int32) (b3 : Int32) (b4 : Int32) (w : gW), b2 = Int32.ofInt a2 → b3 = Int32.ofInt a3 → b4 = Int32.ofInt a4 → oAt 7 lyZ w m (cvZ Z) → wF m (m + 27) w0 w → zR (E1 m w0) (r a2 a3 a4 Z) (r' m b2 b3 b4 w)) (hv2 : v2' = Int32.ofInt v2) (hv5 : v5' = Int32.ofInt v5) (hv6 : v6' = Int32.ofInt v6) (h_w : oAt 7 lyZ w' m (cvZ w)) (f_w : wF m (m + 27) w0 w') : zR (E1 m w0) (zX7_nextLike_h17 F r v2 v5 v6 w) (mX7_nextLike_h17 F r' m v2' v5' v6' w') := by
  unfold zX7_nextLike_h17 mX7_nextLike_h17
  exact (R_FR h_w (k := 1) rfl
  (R_Ld h_w (k := 1) rfl (by decide) hv2 rfl (fun t24 t24' ht24 =>
  (R_Le ht24 hv5
  (R_ret1 hv5 h_w f_w)
  (R_O h_w
    (R_C1 (rX7_orderOf hv2 hv5 h_w) f_w (fun q32_1 q32_2 q32_1' q32_2' hq32 h_q32_2 f_q32_2 =>
    (R_Eq hq32 hv6
    (R_ret1 hv5 h_q32_2 f_q32_2)
    (hr _ _ _ _ _ _ _ _ hv2 (eAdd hv5 (eL (by decide) : (1 : Int32) = Int32.ofInt (1 : Int))) hv6 h_q32_2 f_q32_2)))))))))
set_option maxRecDepth 100000 in
theorem rX7_nextLike_l17 {F m : Nat} {w0 : gW}   : ∀ (n : Nat) (v2 : Int) (v5 : Int) (v6 : Int) (w : zS) (v2' : Int32) (v5' : Int32) (v6' : Int32) (w' : gW), v2' = Int32.ofInt v2 → v5' = Int32.ofInt v5 → v6' = Int32.ofInt v6 → oAt 7 lyZ w' m (cvZ w) → wF m (m + 27) w0 w' → zR (E1 m w0) (zX7_nextLike_l17 F  n v2 v5 v6 w) (mX7_nextLike_l17 F  n m v2' v5' v6' w') := by
  intro n
  induction n with
  | zero => intros; exact R_none
  | succ n ih =>
    intro v2 v5 v6 w v2' v5' v6' w' hv2 hv5 hv6 h_w f_w
    exact rX7_nextLike_h17 ih  hv2 hv5 hv6 h_w f_w
set_option maxRecDepth 100000 in
theorem rX7_nextLike {F m : Nat} {v1 : Int} {v1' : Int32} {v2 : Int} {v2' : Int32} {v3 : Int} {v3' : Int32} {v4 : Int} {v4' : Int32} {w : zS} {w' : gW} (hv1 : v1' = Int32.ofInt v1) (hv2 : v2' = Int32.ofInt v2) (hv3 : v3' = Int32.ofInt v3) (hv4 : v4' = Int32.ofInt v4) (h_w : oAt 7 lyZ w' m (cvZ w)) : zR (E1 m w') (zX7_nextLike F v1 v2 v3 v4 w) (mX7_nextLike F m v1' v2' v3' v4' w') := by
  have f_w : wF m (m + 27) w' w' := wF.rf
  unfold zX7_nextLike mX7_nextLike
  exact (R_FR h_w (k := 20) rfl
  (R_Ld h_w (k := 20) rfl (by decide) hv3 rfl (fun t11 t11' ht11 =>
  (R_O h_w
  (R_C1 (rX7_orderOf hv1 ht11 h_w) f_w (fun q12_1 q12_2 q12_1' q12_2' hq12 h_q12_2 f_q12_2 =>
  (rX7_nextLike_l17  F _ _ _ _ _ _ _ _ hv2 hv4 hq12 h_q12_2 f_q12_2)))))))
set_option maxRecDepth 100000 in
theorem rX7_ofOrder_b33 {F m : Nat} {E : (Int × zS) → (Int32 × gW) → Prop} {w0 : gW} {r : Int → Int → Int → Int → zS → Option (Int × zS)} {r' : Nat → Int32 → Int32 → Int32 → Int32 → gW → Option (Int32 × gW)} {v1 : Int} {v1' : Int32} {v2 : Int} {v2' : Int32} {v4 : Int} {v4' : Int32} {s0 : Int} {s0' : Int32} {s1 : Int} {s1' : Int32} {w : zS} {w' : gW} (hr : ∀ (a2 : Int) (a3 : Int) (a4 : Int) (a5 : Int) (Z : zS) (b2 : Int32) (b3 : Int32) (b4 : Int32) (b5 : Int32) (w : gW), b2 = Int32.ofInt a2 → b3 = Int32.ofInt a3 → b4 = Int32.ofInt a4 → b5 = Int32.ofInt a5 → oAt 7 lyZ w m (cvZ Z) → wF m (m + 27) w0 w → zR E (r a2 a3 a4 a5 Z) (r' m b2 b3 b4 b5 w)) (hv1 : v1' = Int32.ofInt v1) (hv2 : v2' = Int32.ofInt v2) (hv4 : v4' = Int32.ofInt v4) (hs0 : s0' = Int32.ofInt s0) (hs1 : s1' = Int32.ofInt s1) (h_w : oAt 7 lyZ w' m (cvZ w)) (f_w : wF m (m + 27) w0 w') : zR E (zX7_ofOrder_b33 F r v1 v2 v4 s0 s1 w) (mX7_ofOrder_b33 F r' m v1' v2' v4' s0' s1' w') := by
  unfold zX7_ofOrder_b33 mX7_ofOrder_b33
  exact (hr _ _ _ _ _ _ _ _ _ _ hv1 hv2 (eAdd hs0 hs1) (eAdd hv4 (eL (by decide) : (1 : Int32) = Int32.ofInt (1 : Int))) h_w f_w)
set_option maxRecDepth 100000 in
theorem rX7_ofOrder_h5 {F m : Nat} {w0 : gW} {r : Int → Int → Int → Int → zS → Option (Int × zS)} {r' : Nat → Int32 → Int32 → Int32 → Int32 → gW → Option (Int32 × gW)} {v1 : Int} {v1' : Int32} {v2 : Int} {v2' : Int32} {v3 : Int} {v3' : Int32} {v4 : Int} {v4' : Int32} {w : zS} {w' : gW} (hr : ∀ (a2 : Int) (a3 : Int) (a4 : Int) (a5 : Int) (Z : zS) (b2 : Int32) (b3 : Int32) (b4 : Int32) (b5 : Int32) (w : gW), b2 = Int32.ofInt a2 → b3 = Int32.ofInt a3 → b4 = Int32.ofInt a4 → b5 = Int32.ofInt a5 → oAt 7 lyZ w m (cvZ Z) → wF m (m + 27) w0 w → zR (E1 m w0) (r a2 a3 a4 a5 Z) (r' m b2 b3 b4 b5 w)) (hv1 : v1' = Int32.ofInt v1) (hv2 : v2' = Int32.ofInt v2) (hv3 : v3' = Int32.ofInt v3) (hv4 : v4' = Int32.ofInt v4) (h_w : oAt 7 lyZ w' m (cvZ w)) (f_w : wF m (m + 27) w0 w') : zR (E1 m w0) (zX7_ofOrder_h5 F r v1 v2 v3 v4 w) (mX7_ofOrder_h5 F r' m v1' v2' v3' v4' w') := by
  unfold zX7_ofOrder_h5 mX7_ofOrder_h5
  exact (R_FR h_w (k := 1) rfl
  (R_Ld h_w (k := 1) rfl (by decide) hv1 rfl (fun t12 t12' ht12 =>
  (R_Le ht12 hv4
  (R_ret1 hv3 h_w f_w)
  (R_O h_w
    (R_C1 (rX7_orderOf hv1 hv4 h_w) f_w (fun q21_1 q21_2 q21_1' q21_2' hq21 h_q21_2 f_q21_2 =>
    (R_Eq hq21 hv2
    (rX7_ofOrder_b33 hr hv1 hv2 hv4 hv3 (eL (by decide) : (1 : Int32) = Int32.ofInt (1 : Int)) h_q21_2 f_q21_2)
    (rX7_ofOrder_b33 hr hv1 hv2 hv4 hv3 (eL (by decide) : (0 : Int32) = Int32.ofInt (0 : Int)) h_q21_2 f_q21_2)))))))))
set_option maxRecDepth 100000 in
theorem rX7_ofOrder_l5 {F m : Nat} {w0 : gW}   : ∀ (n : Nat) (v1 : Int) (v2 : Int) (v3 : Int) (v4 : Int) (w : zS) (v1' : Int32) (v2' : Int32) (v3' : Int32) (v4' : Int32) (w' : gW), v1' = Int32.ofInt v1 → v2' = Int32.ofInt v2 → v3' = Int32.ofInt v3 → v4' = Int32.ofInt v4 → oAt 7 lyZ w' m (cvZ w) → wF m (m + 27) w0 w' → zR (E1 m w0) (zX7_ofOrder_l5 F  n v1 v2 v3 v4 w) (mX7_ofOrder_l5 F  n m v1' v2' v3' v4' w') := by
  intro n
  induction n with
  | zero => intros; exact R_none
  | succ n ih =>
    intro v1 v2 v3 v4 w v1' v2' v3' v4' w' hv1 hv2 hv3 hv4 h_w f_w
    exact rX7_ofOrder_h5 ih  hv1 hv2 hv3 hv4 h_w f_w
set_option maxRecDepth 100000 in
theorem rX7_ofOrder {F m : Nat} {v1 : Int} {v1' : Int32} {v2 : Int} {v2' : Int32} {w : zS} {w' : gW} (hv1 : v1' = Int32.ofInt v1) (hv2 : v2' = Int32.ofInt v2) (h_w : oAt 7 lyZ w' m (cvZ w)) : zR (E1 m w') (zX7_ofOrder F v1 v2 w) (mX7_ofOrder F m v1' v2' w') := by
  have f_w : wF m (m + 27) w' w' := wF.rf
  unfold zX7_ofOrder mX7_ofOrder
  exact (rX7_ofOrder_l5  F _ _ _ _ _ _ _ _ _ _ hv1 hv2 (eL (by decide) : (0 : Int32) = Int32.ofInt (0 : Int)) (eL (by decide) : (0 : Int32) = Int32.ofInt (0 : Int)) h_w f_w)
set_option maxRecDepth 100000 in
theorem rX7_order {F m : Nat} {v1 : Int} {v1' : Int32} {w : zS} {w' : gW} (hv1 : v1' = Int32.ofInt v1) (h_w : oAt 7 lyZ w' m (cvZ w)) : zR (E1 m w') (zX7_order F v1 w) (mX7_order F m v1' w') := by
  have f_w : wF m (m + 27) w' w' := wF.rf
  unfold zX7_order mX7_order
  exact (R_O h_w
  (R_C1 (rX7_isGroup hv1 h_w) f_w (fun q2_1 q2_2 q2_1' q2_2' hq2 h_q2_2 f_q2_2 =>
  (R_Eq hq2 (eL (by decide) : (0 : Int32) = Int32.ofInt (0 : Int))
  (R_ret1 (eL (by decide) : (-1 : Int32) = Int32.ofInt (-1 : Int)) h_q2_2 f_q2_2)
  (R_FR h_q2_2 (k := 1) rfl
    (R_Ld h_q2_2 (k := 1) rfl (by decide) hv1 rfl (fun t13 t13' ht13 =>
    (R_ret1 ht13 h_q2_2 f_q2_2))))))))
set_option maxRecDepth 100000 in
theorem rX7_pair_h69 {F m : Nat} {E : (Int × zS) → (Int32 × gW) → Prop} {w0 : gW} {r : Int → Int → Int → Int → Int → Int → zS → Option (Int × zS)} {r' : Nat → Int32 → Int32 → Int32 → Int32 → Int32 → Int32 → gW → Option (Int32 × gW)} {k126 : Int → Int → Int → Int → Int → zS → Option (Int × zS)} {k126' : Nat → Int32 → Int32 → Int32 → Int32 → Int32 → gW → Option (Int32 × gW)} {v1 : Int} {v1' : Int32} {v2 : Int} {v2' : Int32} {v3 : Int} {v3' : Int32} {v4 : Int} {v4' : Int32} {v5 : Int} {v5' : Int32} {v6 : Int} {v6' : Int32} {w : zS} {w' : gW} (hr : ∀ (a2 : Int) (a3 : Int) (a4 : Int) (a5 : Int) (a6 : Int) (a7 : Int) (Z : zS) (b2 : Int32) (b3 : Int32) (b4 : Int32) (b5 : Int32) (b6 : Int32) (b7 : Int32) (w : gW), b2 = Int32.ofInt a2 → b3 = Int32.ofInt a3 → b4 = Int32.ofInt a4 → b5 = Int32.ofInt a5 → b6 = Int32.ofInt a6 → b7 = Int32.ofInt a7 → oAt 7 lyZ w m (cvZ Z) → wF m (m + 27) w0 w → zR E (r a2 a3 a4 a5 a6 a7 Z) (r' m b2 b3 b4 b5 b6 b7 w)) (hk126 : ∀ (a2 : Int) (a3 : Int) (a4 : Int) (a5 : Int) (a6 : Int) (Z : zS) (b2 : Int32) (b3 : Int32) (b4 : Int32) (b5 : Int32) (b6 : Int32) (w : gW), b2 = Int32.ofInt a2 → b3 = Int32.ofInt a3 → b4 = Int32.ofInt a4 → b5 = Int32.ofInt a5 → b6 = Int32.ofInt a6 → oAt 7 lyZ w m (cvZ Z) → wF m (m + 27) w0 w → zR E (k126 a2 a3 a4 a5 a6 Z) (k126' m b2 b3 b4 b5 b6 w)) (hv1 : v1' = Int32.ofInt v1) (hv2 : v2' = Int32.ofInt v2) (hv3 : v3' = Int32.ofInt v3) (hv4 : v4' = Int32.ofInt v4) (hv5 : v5' = Int32.ofInt v5) (hv6 : v6' = Int32.ofInt v6) (h_w : oAt 7 lyZ w' m (cvZ w)) (f_w : wF m (m + 27) w0 w') : zR E (zX7_pair_h69 F r k126 v1 v2 v3 v4 v5 v6 w) (mX7_pair_h69 F r' k126' m v1' v2' v3' v4' v5' v6' w') := by
  unfold zX7_pair_h69 mX7_pair_h69
  exact (R_Le (eMul hv3 hv4) hv6
  (hk126 _ _ _ _ _ _ _ _ _ _ _ _ hv1 hv2 hv3 hv4 hv5 h_w f_w)
  (R_Div hv5 hv4 (fun t91 t91' ht91 =>
    (R_Div hv6 hv4 (fun t96 t96' ht96 =>
    (R_O h_w
    (R_C1 (rX7_prod hv1 ht91 ht96 h_w) f_w (fun q97_1 q97_2 q97_1' q97_2' hq97 h_q97_2 f_q97_2 =>
    (R_Rem hv5 hv4 (fun t107 t107' ht107 =>
    (R_Rem hv6 hv4 (fun t112 t112' ht112 =>
    (R_O h_q97_2
    (R_C1 (rX7_prod hv2 ht107 ht112 h_q97_2) f_q97_2 (fun q113_1 q113_2 q113_1' q113_2' hq113 h_q113_2 f_q113_2 =>
    (R_O h_q113_2
    (R_C0 (rX7_set hv5 hv6 (eAdd (eMul hv4 hq97) hq113) h_q113_2) f_q113_2 (fun q117 q117' h_q117 f_q117 =>
    (hr _ _ _ _ _ _ _ _ _ _ _ _ _ _ hv1 hv2 hv3 hv4 hv5 (eAdd hv6 (eL (by decide) : (1 : Int32) = Int32.ofInt (1 : Int))) h_q117 f_q117)))))))))))))))))))
set_option maxRecDepth 100000 in
theorem rX7_pair_l69 {F m : Nat} {E : (Int × zS) → (Int32 × gW) → Prop} {w0 : gW} {k126 : Int → Int → Int → Int → Int → zS → Option (Int × zS)} {k126' : Nat → Int32 → Int32 → Int32 → Int32 → Int32 → gW → Option (Int32 × gW)} (hk126 : ∀ (a2 : Int) (a3 : Int) (a4 : Int) (a5 : Int) (a6 : Int) (Z : zS) (b2 : Int32) (b3 : Int32) (b4 : Int32) (b5 : Int32) (b6 : Int32) (w : gW), b2 = Int32.ofInt a2 → b3 = Int32.ofInt a3 → b4 = Int32.ofInt a4 → b5 = Int32.ofInt a5 → b6 = Int32.ofInt a6 → oAt 7 lyZ w m (cvZ Z) → wF m (m + 27) w0 w → zR E (k126 a2 a3 a4 a5 a6 Z) (k126' m b2 b3 b4 b5 b6 w)) : ∀ (n : Nat) (v1 : Int) (v2 : Int) (v3 : Int) (v4 : Int) (v5 : Int) (v6 : Int) (w : zS) (v1' : Int32) (v2' : Int32) (v3' : Int32) (v4' : Int32) (v5' : Int32) (v6' : Int32) (w' : gW), v1' = Int32.ofInt v1 → v2' = Int32.ofInt v2 → v3' = Int32.ofInt v3 → v4' = Int32.ofInt v4 → v5' = Int32.ofInt v5 → v6' = Int32.ofInt v6 → oAt 7 lyZ w' m (cvZ w) → wF m (m + 27) w0 w' → zR E (zX7_pair_l69 F k126 n v1 v2 v3 v4 v5 v6 w) (mX7_pair_l69 F k126' n m v1' v2' v3' v4' v5' v6' w') := by
  intro n
  induction n with
  | zero => intros; exact R_none
  | succ n ih =>
    intro v1 v2 v3 v4 v5 v6 w v1' v2' v3' v4' v5' v6' w' hv1 hv2 hv3 hv4 hv5 hv6 h_w f_w
    exact rX7_pair_h69 ih hk126 hv1 hv2 hv3 hv4 hv5 hv6 h_w f_w
set_option maxRecDepth 100000 in
theorem rX7_pair_h57 {F m : Nat} {E : (Int × zS) → (Int32 × gW) → Prop} {w0 : gW} {r : Int → Int → Int → Int → Int → zS → Option (Int × zS)} {r' : Nat → Int32 → Int32 → Int32 → Int32 → Int32 → gW → Option (Int32 × gW)} {k132 : Int → Int → zS → Option (Int × zS)} {k132' : Nat → Int32 → Int32 → gW → Option (Int32 × gW)} {v1 : Int} {v1' : Int32} {v2 : Int} {v2' : Int32} {v3 : Int} {v3' : Int32} {v4 : Int} {v4' : Int32} {v5 : Int} {v5' : Int32} {w : zS} {w' : gW} (hr : ∀ (a2 : Int) (a3 : Int) (a4 : Int) (a5 : Int) (a6 : Int) (Z : zS) (b2 : Int32) (b3 : Int32) (b4 : Int32) (b5 : Int32) (b6 : Int32) (w : gW), b2 = Int32.ofInt a2 → b3 = Int32.ofInt a3 → b4 = Int32.ofInt a4 → b5 = Int32.ofInt a5 → b6 = Int32.ofInt a6 → oAt 7 lyZ w m (cvZ Z) → wF m (m + 27) w0 w → zR E (r a2 a3 a4 a5 a6 Z) (r' m b2 b3 b4 b5 b6 w)) (hk132 : ∀ (a2 : Int) (a3 : Int) (Z : zS) (b2 : Int32) (b3 : Int32) (w : gW), b2 = Int32.ofInt a2 → b3 = Int32.ofInt a3 → oAt 7 lyZ w m (cvZ Z) → wF m (m + 27) w0 w → zR E (k132 a2 a3 Z) (k132' m b2 b3 w)) (hv1 : v1' = Int32.ofInt v1) (hv2 : v2' = Int32.ofInt v2) (hv3 : v3' = Int32.ofInt v3) (hv4 : v4' = Int32.ofInt v4) (hv5 : v5' = Int32.ofInt v5) (h_w : oAt 7 lyZ w' m (cvZ w)) (f_w : wF m (m + 27) w0 w') : zR E (zX7_pair_h57 F r k132 v1 v2 v3 v4 v5 w) (mX7_pair_h57 F r' k132' m v1' v2' v3' v4' v5' w') := by
  unfold zX7_pair_h57 mX7_pair_h57
  exact (R_Le (eMul hv3 hv4) hv5
  (hk132 _ _ _ _ _ _ hv3 hv4 h_w f_w)
  (rX7_pair_l69 (by exact (fun v1 v2 v3 v4 v5 w v1' v2' v3' v4' v5' w' hv1 hv2 hv3 hv4 hv5 h_w f_w =>
      (hr _ _ _ _ _ _ _ _ _ _ _ _ hv1 hv2 hv3 hv4 (eAdd hv5 (eL (by decide) : (1 : Int32) = Int32.ofInt (1 : Int))) h_w f_w))) F _ _ _ _ _ _ _ _ _ _ _ _ _ _ hv1 hv2 hv3 hv4 hv5 (eL (by decide) : (0 : Int32) = Int32.ofInt (0 : Int)) h_w f_w))
set_option maxRecDepth 100000 in
theorem rX7_pair_l57 {F m : Nat} {E : (Int × zS) → (Int32 × gW) → Prop} {w0 : gW} {k132 : Int → Int → zS → Option (Int × zS)} {k132' : Nat → Int32 → Int32 → gW → Option (Int32 × gW)} (hk132 : ∀ (a2 : Int) (a3 : Int) (Z : zS) (b2 : Int32) (b3 : Int32) (w : gW), b2 = Int32.ofInt a2 → b3 = Int32.ofInt a3 → oAt 7 lyZ w m (cvZ Z) → wF m (m + 27) w0 w → zR E (k132 a2 a3 Z) (k132' m b2 b3 w)) : ∀ (n : Nat) (v1 : Int) (v2 : Int) (v3 : Int) (v4 : Int) (v5 : Int) (w : zS) (v1' : Int32) (v2' : Int32) (v3' : Int32) (v4' : Int32) (v5' : Int32) (w' : gW), v1' = Int32.ofInt v1 → v2' = Int32.ofInt v2 → v3' = Int32.ofInt v3 → v4' = Int32.ofInt v4 → v5' = Int32.ofInt v5 → oAt 7 lyZ w' m (cvZ w) → wF m (m + 27) w0 w' → zR E (zX7_pair_l57 F k132 n v1 v2 v3 v4 v5 w) (mX7_pair_l57 F k132' n m v1' v2' v3' v4' v5' w') := by
  intro n
  induction n with
  | zero => intros; exact R_none
  | succ n ih =>
    intro v1 v2 v3 v4 v5 w v1' v2' v3' v4' v5' w' hv1 hv2 hv3 hv4 hv5 h_w f_w
    exact rX7_pair_h57 ih hk132 hv1 hv2 hv3 hv4 hv5 h_w f_w
set_option maxRecDepth 100000 in
theorem rX7_pair {F m : Nat} {v1 : Int} {v1' : Int32} {v2 : Int} {v2' : Int32} {w : zS} {w' : gW} (hv1 : v1' = Int32.ofInt v1) (hv2 : v2' = Int32.ofInt v2) (h_w : oAt 7 lyZ w' m (cvZ w)) : zR (E1 m w') (zX7_pair F v1 v2 w) (mX7_pair F m v1' v2' w') := by
  have f_w : wF m (m + 27) w' w' := wF.rf
  unfold zX7_pair mX7_pair
  exact (R_O h_w
  (R_C1 (rX7_isGroup hv1 h_w) f_w (fun q2_1 q2_2 q2_1' q2_2' hq2 h_q2_2 f_q2_2 =>
  (R_Eq hq2 (eL (by decide) : (0 : Int32) = Int32.ofInt (0 : Int))
  (R_ret1 (eL (by decide) : (-1 : Int32) = Int32.ofInt (-1 : Int)) h_q2_2 f_q2_2)
  (R_O h_q2_2
    (R_C1 (rX7_isGroup hv2 h_q2_2) f_q2_2 (fun q10_1 q10_2 q10_1' q10_2' hq10 h_q10_2 f_q10_2 =>
    (R_Eq hq10 (eL (by decide) : (0 : Int32) = Int32.ofInt (0 : Int))
    (R_ret1 (eL (by decide) : (-1 : Int32) = Int32.ofInt (-1 : Int)) h_q10_2 f_q10_2)
    (R_FR h_q10_2 (k := 1) rfl
      (R_Ld h_q10_2 (k := 1) rfl (by decide) hv1 rfl (fun t23 t23' ht23 =>
      (R_FR h_q10_2 (k := 1) rfl
      (R_Ld h_q10_2 (k := 1) rfl (by decide) hv2 rfl (fun t30 t30' ht30 =>
      (R_FI h_q10_2 (k := 0) rfl (c := (zI q10_2 0)) rfl (fun t34' ht34 =>
      (R_Eq ht34 (eL (by decide) : (8 : Int32) = Int32.ofInt (8 : Int))
      (R_ret1 (eL (by decide) : (-3 : Int32) = Int32.ofInt (-3 : Int)) h_q10_2 f_q10_2)
      (R_Le (eMul ht23 ht30) (eL (by decide) : (48 : Int32) = Int32.ofInt (48 : Int))
        (rX7_pair_l57 (by exact (fun v3 v4 w v3' v4' w' hv3 hv4 h_w f_w =>
            (R_O h_w
            (R_C1 (rX7_added (eMul hv3 hv4) h_w) f_w (fun q137_1 q137_2 q137_1' q137_2' hq137 h_q137_2 f_q137_2 =>
            (R_ret1 hq137 h_q137_2 f_q137_2)))))) F _ _ _ _ _ _ _ _ _ _ _ _ hv1 hv2 ht23 ht30 (eL (by decide) : (0 : Int32) = Int32.ofInt (0 : Int)) h_q10_2 f_q10_2)
        (R_ret1 (eL (by decide) : (-3 : Int32) = Int32.ofInt (-3 : Int)) h_q10_2 f_q10_2)))))))))))))))))))
set_option maxRecDepth 100000 in
theorem rX7_pairs_h60 {F m : Nat} {E : zS → gW → Prop} {w0 : gW} {r : Int → Int → Int → Int → zS → Option zS} {r' : Nat → Int32 → Int32 → Int32 → Int32 → gW → Option (gW)} {k88 : Int → Int → Int → zS → Option zS} {k88' : Nat → Int32 → Int32 → Int32 → gW → Option (gW)} {v1 : Int} {v1' : Int32} {v2 : Int} {v2' : Int32} {v3 : Int} {v3' : Int32} {v4 : Int} {v4' : Int32} {w : zS} {w' : gW} (hr : ∀ (a2 : Int) (a3 : Int) (a4 : Int) (a5 : Int) (Z : zS) (b2 : Int32) (b3 : Int32) (b4 : Int32) (b5 : Int32) (w : gW), b2 = Int32.ofInt a2 → b3 = Int32.ofInt a3 → b4 = Int32.ofInt a4 → b5 = Int32.ofInt a5 → oAt 7 lyZ w m (cvZ Z) → wF m (m + 27) w0 w → zR E (r a2 a3 a4 a5 Z) (r' m b2 b3 b4 b5 w)) (hk88 : ∀ (a2 : Int) (a3 : Int) (a4 : Int) (Z : zS) (b2 : Int32) (b3 : Int32) (b4 : Int32) (w : gW), b2 = Int32.ofInt a2 → b3 = Int32.ofInt a3 → b4 = Int32.ofInt a4 → oAt 7 lyZ w m (cvZ Z) → wF m (m + 27) w0 w → zR E (k88 a2 a3 a4 Z) (k88' m b2 b3 b4 w)) (hv1 : v1' = Int32.ofInt v1) (hv2 : v2' = Int32.ofInt v2) (hv3 : v3' = Int32.ofInt v3) (hv4 : v4' = Int32.ofInt v4) (h_w : oAt 7 lyZ w' m (cvZ w)) (f_w : wF m (m + 27) w0 w') : zR E (zX7_pairs_h60 F r k88 v1 v2 v3 v4 w) (mX7_pairs_h60 F r' k88' m v1' v2' v3' v4' w') := by
  unfold zX7_pairs_h60 mX7_pairs_h60
  exact (R_FI h_w (k := 37) rfl (c := (zI w 37)) rfl (fun t63' ht63 =>
  (R_Le ht63 hv4
  (hk88 _ _ _ _ _ _ _ _ hv1 hv2 hv3 h_w f_w)
  (R_O h_w
    (R_C0 (rX7_equation hv1 hv2 hv3 hv4 h_w) f_w (fun q75 q75' h_q75 f_q75 =>
    (R_O h_q75
    (R_C0 (rX7_settles h_q75) f_q75 (fun q79 q79' h_q79 f_q79 =>
    (hr _ _ _ _ _ _ _ _ _ _ hv1 hv2 hv3 (eAdd hv4 (eL (by decide) : (1 : Int32) = Int32.ofInt (1 : Int))) h_q79 f_q79))))))))))
set_option maxRecDepth 100000 in
theorem rX7_pairs_l60 {F m : Nat} {E : zS → gW → Prop} {w0 : gW} {k88 : Int → Int → Int → zS → Option zS} {k88' : Nat → Int32 → Int32 → Int32 → gW → Option (gW)} (hk88 : ∀ (a2 : Int) (a3 : Int) (a4 : Int) (Z : zS) (b2 : Int32) (b3 : Int32) (b4 : Int32) (w : gW), b2 = Int32.ofInt a2 → b3 = Int32.ofInt a3 → b4 = Int32.ofInt a4 → oAt 7 lyZ w m (cvZ Z) → wF m (m + 27) w0 w → zR E (k88 a2 a3 a4 Z) (k88' m b2 b3 b4 w)) : ∀ (n : Nat) (v1 : Int) (v2 : Int) (v3 : Int) (v4 : Int) (w : zS) (v1' : Int32) (v2' : Int32) (v3' : Int32) (v4' : Int32) (w' : gW), v1' = Int32.ofInt v1 → v2' = Int32.ofInt v2 → v3' = Int32.ofInt v3 → v4' = Int32.ofInt v4 → oAt 7 lyZ w' m (cvZ w) → wF m (m + 27) w0 w' → zR E (zX7_pairs_l60 F k88 n v1 v2 v3 v4 w) (mX7_pairs_l60 F k88' n m v1' v2' v3' v4' w') := by
  intro n
  induction n with
  | zero => intros; exact R_none
  | succ n ih =>
    intro v1 v2 v3 v4 w v1' v2' v3' v4' w' hv1 hv2 hv3 hv4 h_w f_w
    exact rX7_pairs_h60 ih hk88 hv1 hv2 hv3 hv4 h_w f_w
set_option maxRecDepth 100000 in
theorem rX7_pairs_h49 {F m : Nat} {E : zS → gW → Prop} {w0 : gW} {r : Int → Int → Int → zS → Option zS} {r' : Nat → Int32 → Int32 → Int32 → gW → Option (gW)} {k94 : Int → Int → zS → Option zS} {k94' : Nat → Int32 → Int32 → gW → Option (gW)} {v1 : Int} {v1' : Int32} {v2 : Int} {v2' : Int32} {v3 : Int} {v3' : Int32} {w : zS} {w' : gW} (hr : ∀ (a2 : Int) (a3 : Int) (a4 : Int) (Z : zS) (b2 : Int32) (b3 : Int32) (b4 : Int32) (w : gW), b2 = Int32.ofInt a2 → b3 = Int32.ofInt a3 → b4 = Int32.ofInt a4 → oAt 7 lyZ w m (cvZ Z) → wF m (m + 27) w0 w → zR E (r a2 a3 a4 Z) (r' m b2 b3 b4 w)) (hk94 : ∀ (a2 : Int) (a3 : Int) (Z : zS) (b2 : Int32) (b3 : Int32) (w : gW), b2 = Int32.ofInt a2 → b3 = Int32.ofInt a3 → oAt 7 lyZ w m (cvZ Z) → wF m (m + 27) w0 w → zR E (k94 a2 a3 Z) (k94' m b2 b3 w)) (hv1 : v1' = Int32.ofInt v1) (hv2 : v2' = Int32.ofInt v2) (hv3 : v3' = Int32.ofInt v3) (h_w : oAt 7 lyZ w' m (cvZ w)) (f_w : wF m (m + 27) w0 w') : zR E (zX7_pairs_h49 F r k94 v1 v2 v3 w) (mX7_pairs_h49 F r' k94' m v1' v2' v3' w') := by
  unfold zX7_pairs_h49 mX7_pairs_h49
  exact (R_FI h_w (k := 36) rfl (c := (zI w 36)) rfl (fun t51' ht51 =>
  (R_Le ht51 hv3
  (hk94 _ _ _ _ _ _ hv1 hv2 h_w f_w)
  (rX7_pairs_l60 (by exact (fun v1 v2 v3 w v1' v2' v3' w' hv1 hv2 hv3 h_w f_w =>
      (hr _ _ _ _ _ _ _ _ hv1 hv2 (eAdd hv3 (eL (by decide) : (1 : Int32) = Int32.ofInt (1 : Int))) h_w f_w))) F _ _ _ _ _ _ _ _ _ _ hv1 hv2 hv3 (eL (by decide) : (0 : Int32) = Int32.ofInt (0 : Int)) h_w f_w))))
set_option maxRecDepth 100000 in
theorem rX7_pairs_l49 {F m : Nat} {E : zS → gW → Prop} {w0 : gW} {k94 : Int → Int → zS → Option zS} {k94' : Nat → Int32 → Int32 → gW → Option (gW)} (hk94 : ∀ (a2 : Int) (a3 : Int) (Z : zS) (b2 : Int32) (b3 : Int32) (w : gW), b2 = Int32.ofInt a2 → b3 = Int32.ofInt a3 → oAt 7 lyZ w m (cvZ Z) → wF m (m + 27) w0 w → zR E (k94 a2 a3 Z) (k94' m b2 b3 w)) : ∀ (n : Nat) (v1 : Int) (v2 : Int) (v3 : Int) (w : zS) (v1' : Int32) (v2' : Int32) (v3' : Int32) (w' : gW), v1' = Int32.ofInt v1 → v2' = Int32.ofInt v2 → v3' = Int32.ofInt v3 → oAt 7 lyZ w' m (cvZ w) → wF m (m + 27) w0 w' → zR E (zX7_pairs_l49 F k94 n v1 v2 v3 w) (mX7_pairs_l49 F k94' n m v1' v2' v3' w') := by
  intro n
  induction n with
  | zero => intros; exact R_none
  | succ n ih =>
    intro v1 v2 v3 w v1' v2' v3' w' hv1 hv2 hv3 h_w f_w
    exact rX7_pairs_h49 ih hk94 hv1 hv2 hv3 h_w f_w
set_option maxRecDepth 100000 in
theorem rX7_pairs_h39 {F m : Nat} {E : zS → gW → Prop} {w0 : gW} {r : Int → Int → zS → Option zS} {r' : Nat → Int32 → Int32 → gW → Option (gW)} {k100 : Int → zS → Option zS} {k100' : Nat → Int32 → gW → Option (gW)} {v1 : Int} {v1' : Int32} {v2 : Int} {v2' : Int32} {w : zS} {w' : gW} (hr : ∀ (a2 : Int) (a3 : Int) (Z : zS) (b2 : Int32) (b3 : Int32) (w : gW), b2 = Int32.ofInt a2 → b3 = Int32.ofInt a3 → oAt 7 lyZ w m (cvZ Z) → wF m (m + 27) w0 w → zR E (r a2 a3 Z) (r' m b2 b3 w)) (hk100 : ∀ (a2 : Int) (Z : zS) (b2 : Int32) (w : gW), b2 = Int32.ofInt a2 → oAt 7 lyZ w m (cvZ Z) → wF m (m + 27) w0 w → zR E (k100 a2 Z) (k100' m b2 w)) (hv1 : v1' = Int32.ofInt v1) (hv2 : v2' = Int32.ofInt v2) (h_w : oAt 7 lyZ w' m (cvZ w)) (f_w : wF m (m + 27) w0 w') : zR E (zX7_pairs_h39 F r k100 v1 v2 w) (mX7_pairs_h39 F r' k100' m v1' v2' w') := by
  unfold zX7_pairs_h39 mX7_pairs_h39
  exact (R_FI h_w (k := 36) rfl (c := (zI w 36)) rfl (fun t41' ht41 =>
  (R_Le ht41 hv2
  (hk100 _ _ _ _ hv1 h_w f_w)
  (rX7_pairs_l49 (by exact (fun v1 v2 w v1' v2' w' hv1 hv2 h_w f_w =>
      (hr _ _ _ _ _ _ hv1 (eAdd hv2 (eL (by decide) : (1 : Int32) = Int32.ofInt (1 : Int))) h_w f_w))) F _ _ _ _ _ _ _ _ hv1 hv2 (eL (by decide) : (1 : Int32) = Int32.ofInt (1 : Int)) h_w f_w))))
set_option maxRecDepth 100000 in
theorem rX7_pairs_l39 {F m : Nat} {E : zS → gW → Prop} {w0 : gW} {k100 : Int → zS → Option zS} {k100' : Nat → Int32 → gW → Option (gW)} (hk100 : ∀ (a2 : Int) (Z : zS) (b2 : Int32) (w : gW), b2 = Int32.ofInt a2 → oAt 7 lyZ w m (cvZ Z) → wF m (m + 27) w0 w → zR E (k100 a2 Z) (k100' m b2 w)) : ∀ (n : Nat) (v1 : Int) (v2 : Int) (w : zS) (v1' : Int32) (v2' : Int32) (w' : gW), v1' = Int32.ofInt v1 → v2' = Int32.ofInt v2 → oAt 7 lyZ w' m (cvZ w) → wF m (m + 27) w0 w' → zR E (zX7_pairs_l39 F k100 n v1 v2 w) (mX7_pairs_l39 F k100' n m v1' v2' w') := by
  intro n
  induction n with
  | zero => intros; exact R_none
  | succ n ih =>
    intro v1 v2 w v1' v2' w' hv1 hv2 h_w f_w
    exact rX7_pairs_h39 ih hk100 hv1 hv2 h_w f_w
set_option maxRecDepth 100000 in
theorem rX7_pairs_h29 {F m : Nat} {E : zS → gW → Prop} {w0 : gW} {r : Int → zS → Option zS} {r' : Nat → Int32 → gW → Option (gW)} {k106 : zS → Option zS} {k106' : Nat → gW → Option (gW)} {v1 : Int} {v1' : Int32} {w : zS} {w' : gW} (hr : ∀ (a2 : Int) (Z : zS) (b2 : Int32) (w : gW), b2 = Int32.ofInt a2 → oAt 7 lyZ w m (cvZ Z) → wF m (m + 27) w0 w → zR E (r a2 Z) (r' m b2 w)) (hk106 : ∀ (Z : zS) (w : gW), oAt 7 lyZ w m (cvZ Z) → wF m (m + 27) w0 w → zR E (k106 Z) (k106' m w)) (hv1 : v1' = Int32.ofInt v1) (h_w : oAt 7 lyZ w' m (cvZ w)) (f_w : wF m (m + 27) w0 w') : zR E (zX7_pairs_h29 F r k106 v1 w) (mX7_pairs_h29 F r' k106' m v1' w') := by
  unfold zX7_pairs_h29 mX7_pairs_h29
  exact (R_FI h_w (k := 36) rfl (c := (zI w 36)) rfl (fun t31' ht31 =>
  (R_Le ht31 hv1
  (hk106 _ _ h_w f_w)
  (rX7_pairs_l39 (by exact (fun v1 w v1' w' hv1 h_w f_w =>
      (hr _ _ _ _ (eAdd hv1 (eL (by decide) : (1 : Int32) = Int32.ofInt (1 : Int))) h_w f_w))) F _ _ _ _ _ _ hv1 (eL (by decide) : (1 : Int32) = Int32.ofInt (1 : Int)) h_w f_w))))
set_option maxRecDepth 100000 in
theorem rX7_pairs_l29 {F m : Nat} {E : zS → gW → Prop} {w0 : gW} {k106 : zS → Option zS} {k106' : Nat → gW → Option (gW)} (hk106 : ∀ (Z : zS) (w : gW), oAt 7 lyZ w m (cvZ Z) → wF m (m + 27) w0 w → zR E (k106 Z) (k106' m w)) : ∀ (n : Nat) (v1 : Int) (w : zS) (v1' : Int32) (w' : gW), v1' = Int32.ofInt v1 → oAt 7 lyZ w' m (cvZ w) → wF m (m + 27) w0 w' → zR E (zX7_pairs_l29 F k106 n v1 w) (mX7_pairs_l29 F k106' n m v1' w') := by
  intro n
  induction n with
  | zero => intros; exact R_none
  | succ n ih =>
    intro v1 w v1' w' hv1 h_w f_w
    exact rX7_pairs_h29 ih hk106 hv1 h_w f_w
set_option maxRecDepth 100000 in
theorem rX7_pairs_b178 {F m : Nat} {E : zS → gW → Prop} {w0 : gW} {r : Int → Int → Int → Int → zS → Option zS} {r' : Nat → Int32 → Int32 → Int32 → Int32 → gW → Option (gW)} {k185 : Int → Int → Int → zS → Option zS} {k185' : Nat → Int32 → Int32 → Int32 → gW → Option (gW)} {v1 : Int} {v1' : Int32} {v2 : Int} {v2' : Int32} {v3 : Int} {v3' : Int32} {v4 : Int} {v4' : Int32} {s1 : Int} {s1' : Int32} {s2 : Int} {s2' : Int32} {w : zS} {w' : gW} (hr : ∀ (a2 : Int) (a3 : Int) (a4 : Int) (a5 : Int) (Z : zS) (b2 : Int32) (b3 : Int32) (b4 : Int32) (b5 : Int32) (w : gW), b2 = Int32.ofInt a2 → b3 = Int32.ofInt a3 → b4 = Int32.ofInt a4 → b5 = Int32.ofInt a5 → oAt 7 lyZ w m (cvZ Z) → wF m (m + 27) w0 w → zR E (r a2 a3 a4 a5 Z) (r' m b2 b3 b4 b5 w)) (hk185 : ∀ (a2 : Int) (a3 : Int) (a4 : Int) (Z : zS) (b2 : Int32) (b3 : Int32) (b4 : Int32) (w : gW), b2 = Int32.ofInt a2 → b3 = Int32.ofInt a3 → b4 = Int32.ofInt a4 → oAt 7 lyZ w m (cvZ Z) → wF m (m + 27) w0 w → zR E (k185 a2 a3 a4 Z) (k185' m b2 b3 b4 w)) (hv1 : v1' = Int32.ofInt v1) (hv2 : v2' = Int32.ofInt v2) (hv3 : v3' = Int32.ofInt v3) (hv4 : v4' = Int32.ofInt v4) (hs1 : s1' = Int32.ofInt s1) (hs2 : s2' = Int32.ofInt s2) (h_w : oAt 7 lyZ w' m (cvZ w)) (f_w : wF m (m + 27) w0 w') : zR E (zX7_pairs_b178 F r k185 v1 v2 v3 v4 s1 s2 w) (mX7_pairs_b178 F r' k185' m v1' v2' v3' v4' (some (m + 26)) s1' s2' w') := by
  unfold zX7_pairs_b178 mX7_pairs_b178
  exact (R_St h_w f_w (k := 34) rfl (by decide) hs1 hs2 (fun w178' h_w178 f_w178 =>
  (hr _ _ _ _ _ _ _ _ _ _ hv1 hv2 hv3 (eAdd hv4 (eL (by decide) : (1 : Int32) = Int32.ofInt (1 : Int))) h_w178 f_w178)))
set_option maxRecDepth 100000 in
theorem rX7_pairs_h147 {F m : Nat} {E : zS → gW → Prop} {w0 : gW} {r : Int → Int → Int → Int → zS → Option zS} {r' : Nat → Int32 → Int32 → Int32 → Int32 → gW → Option (gW)} {k185 : Int → Int → Int → zS → Option zS} {k185' : Nat → Int32 → Int32 → Int32 → gW → Option (gW)} {v1 : Int} {v1' : Int32} {v2 : Int} {v2' : Int32} {v3 : Int} {v3' : Int32} {v4 : Int} {v4' : Int32} {w : zS} {w' : gW} (hr : ∀ (a2 : Int) (a3 : Int) (a4 : Int) (a5 : Int) (Z : zS) (b2 : Int32) (b3 : Int32) (b4 : Int32) (b5 : Int32) (w : gW), b2 = Int32.ofInt a2 → b3 = Int32.ofInt a3 → b4 = Int32.ofInt a4 → b5 = Int32.ofInt a5 → oAt 7 lyZ w m (cvZ Z) → wF m (m + 27) w0 w → zR E (r a2 a3 a4 a5 Z) (r' m b2 b3 b4 b5 w)) (hk185 : ∀ (a2 : Int) (a3 : Int) (a4 : Int) (Z : zS) (b2 : Int32) (b3 : Int32) (b4 : Int32) (w : gW), b2 = Int32.ofInt a2 → b3 = Int32.ofInt a3 → b4 = Int32.ofInt a4 → oAt 7 lyZ w m (cvZ Z) → wF m (m + 27) w0 w → zR E (k185 a2 a3 a4 Z) (k185' m b2 b3 b4 w)) (hv1 : v1' = Int32.ofInt v1) (hv2 : v2' = Int32.ofInt v2) (hv3 : v3' = Int32.ofInt v3) (hv4 : v4' = Int32.ofInt v4) (h_w : oAt 7 lyZ w' m (cvZ w)) (f_w : wF m (m + 27) w0 w') : zR E (zX7_pairs_h147 F r k185 v1 v2 v3 v4 w) (mX7_pairs_h147 F r' k185' m v1' v2' v3' v4' w') := by
  unfold zX7_pairs_h147 mX7_pairs_h147
  exact (R_FI h_w (k := 24) rfl (c := (zI w 24)) rfl (fun t150' ht150 =>
  (R_Le ht150 hv4
  (hk185 _ _ _ _ _ _ _ _ hv1 hv2 hv3 h_w f_w)
  (R_FR h_w (k := 34) rfl
    (R_Eq hv4 hv3
    (rX7_pairs_b178 hr hk185 hv1 hv2 hv3 hv4 (eAdd (eMul (eL (by decide) : (98 : Int32) = Int32.ofInt (98 : Int)) hv1) hv4) (eL (by decide) : (1 : Int32) = Int32.ofInt (1 : Int)) h_w f_w)
    (rX7_pairs_b178 hr hk185 hv1 hv2 hv3 hv4 (eAdd (eMul (eL (by decide) : (98 : Int32) = Int32.ofInt (98 : Int)) hv1) hv4) (eL (by decide) : (0 : Int32) = Int32.ofInt (0 : Int)) h_w f_w))))))
set_option maxRecDepth 100000 in
theorem rX7_pairs_l147 {F m : Nat} {E : zS → gW → Prop} {w0 : gW} {k185 : Int → Int → Int → zS → Option zS} {k185' : Nat → Int32 → Int32 → Int32 → gW → Option (gW)} (hk185 : ∀ (a2 : Int) (a3 : Int) (a4 : Int) (Z : zS) (b2 : Int32) (b3 : Int32) (b4 : Int32) (w : gW), b2 = Int32.ofInt a2 → b3 = Int32.ofInt a3 → b4 = Int32.ofInt a4 → oAt 7 lyZ w m (cvZ Z) → wF m (m + 27) w0 w → zR E (k185 a2 a3 a4 Z) (k185' m b2 b3 b4 w)) : ∀ (n : Nat) (v1 : Int) (v2 : Int) (v3 : Int) (v4 : Int) (w : zS) (v1' : Int32) (v2' : Int32) (v3' : Int32) (v4' : Int32) (w' : gW), v1' = Int32.ofInt v1 → v2' = Int32.ofInt v2 → v3' = Int32.ofInt v3 → v4' = Int32.ofInt v4 → oAt 7 lyZ w' m (cvZ w) → wF m (m + 27) w0 w' → zR E (zX7_pairs_l147 F k185 n v1 v2 v3 v4 w) (mX7_pairs_l147 F k185' n m v1' v2' v3' v4' w') := by
  intro n
  induction n with
  | zero => intros; exact R_none
  | succ n ih =>
    intro v1 v2 v3 v4 w v1' v2' v3' v4' w' hv1 hv2 hv3 hv4 h_w f_w
    exact rX7_pairs_h147 ih hk185 hv1 hv2 hv3 hv4 h_w f_w
set_option maxRecDepth 100000 in
theorem rX7_pairs_h188 {F m : Nat} {E : zS → gW → Prop} {w0 : gW} {r : Int → Int → Int → Int → zS → Option zS} {r' : Nat → Int32 → Int32 → Int32 → Int32 → gW → Option (gW)} {k242 : Int → Int → Int → zS → Option zS} {k242' : Nat → Int32 → Int32 → Int32 → gW → Option (gW)} {v1 : Int} {v1' : Int32} {v2 : Int} {v2' : Int32} {v3 : Int} {v3' : Int32} {v4 : Int} {v4' : Int32} {w : zS} {w' : gW} (hr : ∀ (a2 : Int) (a3 : Int) (a4 : Int) (a5 : Int) (Z : zS) (b2 : Int32) (b3 : Int32) (b4 : Int32) (b5 : Int32) (w : gW), b2 = Int32.ofInt a2 → b3 = Int32.ofInt a3 → b4 = Int32.ofInt a4 → b5 = Int32.ofInt a5 → oAt 7 lyZ w m (cvZ Z) → wF m (m + 27) w0 w → zR E (r a2 a3 a4 a5 Z) (r' m b2 b3 b4 b5 w)) (hk242 : ∀ (a2 : Int) (a3 : Int) (a4 : Int) (Z : zS) (b2 : Int32) (b3 : Int32) (b4 : Int32) (w : gW), b2 = Int32.ofInt a2 → b3 = Int32.ofInt a3 → b4 = Int32.ofInt a4 → oAt 7 lyZ w m (cvZ Z) → wF m (m + 27) w0 w → zR E (k242 a2 a3 a4 Z) (k242' m b2 b3 b4 w)) (hv1 : v1' = Int32.ofInt v1) (hv2 : v2' = Int32.ofInt v2) (hv3 : v3' = Int32.ofInt v3) (hv4 : v4' = Int32.ofInt v4) (h_w : oAt 7 lyZ w' m (cvZ w)) (f_w : wF m (m + 27) w0 w') : zR E (zX7_pairs_h188 F r k242 v1 v2 v3 v4 w) (mX7_pairs_h188 F r' k242' m v1' v2' v3' v4' w') := by
  unfold zX7_pairs_h188 mX7_pairs_h188
  exact (R_FI h_w (k := 28) rfl (c := (zI w 28)) rfl (fun t191' ht191 =>
  (R_Le ht191 hv4
  (hk242 _ _ _ _ _ _ _ _ hv1 hv2 hv3 h_w f_w)
  (R_FR h_w (k := 34) rfl
    (R_FR h_w (k := 27) rfl
    (R_Ld h_w (k := 27) rfl (by decide) hv4 rfl (fun t211 t211' ht211 =>
    (R_FI h_w (k := 23) rfl (c := (zI w 23)) rfl (fun t214' ht214 =>
    (R_FR h_w (k := 26) rfl
    (R_Ld h_w (k := 26) rfl (by decide) (eAdd (eMul (eL (by decide) : (98 : Int32) = Int32.ofInt (98 : Int)) hv4) hv3) rfl (fun t228 t228' ht228 =>
    (R_FI h_w (k := 23) rfl (c := (zI w 23)) rfl (fun t231' ht231 =>
    (R_Rem (eSub ht214 ht228) ht231 (fun t234 t234' ht234 =>
    (R_St h_w f_w (k := 34) rfl (by decide) (eAdd (eMul (eL (by decide) : (98 : Int32) = Int32.ofInt (98 : Int)) hv1) ht211) ht234 (fun w235' h_w235 f_w235 =>
    (hr _ _ _ _ _ _ _ _ _ _ hv1 hv2 hv3 (eAdd hv4 (eL (by decide) : (1 : Int32) = Int32.ofInt (1 : Int))) h_w235 f_w235)))))))))))))))))))
set_option maxRecDepth 100000 in
theorem rX7_pairs_l188 {F m : Nat} {E : zS → gW → Prop} {w0 : gW} {k242 : Int → Int → Int → zS → Option zS} {k242' : Nat → Int32 → Int32 → Int32 → gW → Option (gW)} (hk242 : ∀ (a2 : Int) (a3 : Int) (a4 : Int) (Z : zS) (b2 : Int32) (b3 : Int32) (b4 : Int32) (w : gW), b2 = Int32.ofInt a2 → b3 = Int32.ofInt a3 → b4 = Int32.ofInt a4 → oAt 7 lyZ w m (cvZ Z) → wF m (m + 27) w0 w → zR E (k242 a2 a3 a4 Z) (k242' m b2 b3 b4 w)) : ∀ (n : Nat) (v1 : Int) (v2 : Int) (v3 : Int) (v4 : Int) (w : zS) (v1' : Int32) (v2' : Int32) (v3' : Int32) (v4' : Int32) (w' : gW), v1' = Int32.ofInt v1 → v2' = Int32.ofInt v2 → v3' = Int32.ofInt v3 → v4' = Int32.ofInt v4 → oAt 7 lyZ w' m (cvZ w) → wF m (m + 27) w0 w' → zR E (zX7_pairs_l188 F k242 n v1 v2 v3 v4 w) (mX7_pairs_l188 F k242' n m v1' v2' v3' v4' w') := by
  intro n
  induction n with
  | zero => intros; exact R_none
  | succ n ih =>
    intro v1 v2 v3 v4 w v1' v2' v3' v4' w' hv1 hv2 hv3 hv4 h_w f_w
    exact rX7_pairs_h188 ih hk242 hv1 hv2 hv3 hv4 h_w f_w
set_option maxRecDepth 100000 in
theorem rX7_pairs_b245 {F m : Nat} {E : zS → gW → Prop} {w0 : gW} {r : Int → Int → Int → zS → Option zS} {r' : Nat → Int32 → Int32 → Int32 → gW → Option (gW)} {k251 : Int → zS → Option zS} {k251' : Nat → Int32 → gW → Option (gW)} {v1 : Int} {v1' : Int32} {v2 : Int} {v2' : Int32} {v3 : Int} {v3' : Int32} {w : zS} {w' : gW} (hr : ∀ (a2 : Int) (a3 : Int) (a4 : Int) (Z : zS) (b2 : Int32) (b3 : Int32) (b4 : Int32) (w : gW), b2 = Int32.ofInt a2 → b3 = Int32.ofInt a3 → b4 = Int32.ofInt a4 → oAt 7 lyZ w m (cvZ Z) → wF m (m + 27) w0 w → zR E (r a2 a3 a4 Z) (r' m b2 b3 b4 w)) (hk251 : ∀ (a2 : Int) (Z : zS) (b2 : Int32) (w : gW), b2 = Int32.ofInt a2 → oAt 7 lyZ w m (cvZ Z) → wF m (m + 27) w0 w → zR E (k251 a2 Z) (k251' m b2 w)) (hv1 : v1' = Int32.ofInt v1) (hv2 : v2' = Int32.ofInt v2) (hv3 : v3' = Int32.ofInt v3) (h_w : oAt 7 lyZ w' m (cvZ w)) (f_w : wF m (m + 27) w0 w') : zR E (zX7_pairs_b245 F r k251 v1 v2 v3 w) (mX7_pairs_b245 F r' k251' m v1' v2' v3' w') := by
  unfold zX7_pairs_b245 mX7_pairs_b245
  exact (hr _ _ _ _ _ _ _ _ hv1 hv2 (eAdd hv3 (eL (by decide) : (1 : Int32) = Int32.ofInt (1 : Int))) h_w f_w)
set_option maxRecDepth 100000 in
theorem rX7_pairs_b144 {F m : Nat} {E : zS → gW → Prop} {w0 : gW} {r : Int → Int → Int → zS → Option zS} {r' : Nat → Int32 → Int32 → Int32 → gW → Option (gW)} {k251 : Int → zS → Option zS} {k251' : Nat → Int32 → gW → Option (gW)} {v1 : Int} {v1' : Int32} {v2 : Int} {v2' : Int32} {v3 : Int} {v3' : Int32} {w : zS} {w' : gW} (hr : ∀ (a2 : Int) (a3 : Int) (a4 : Int) (Z : zS) (b2 : Int32) (b3 : Int32) (b4 : Int32) (w : gW), b2 = Int32.ofInt a2 → b3 = Int32.ofInt a3 → b4 = Int32.ofInt a4 → oAt 7 lyZ w m (cvZ Z) → wF m (m + 27) w0 w → zR E (r a2 a3 a4 Z) (r' m b2 b3 b4 w)) (hk251 : ∀ (a2 : Int) (Z : zS) (b2 : Int32) (w : gW), b2 = Int32.ofInt a2 → oAt 7 lyZ w m (cvZ Z) → wF m (m + 27) w0 w → zR E (k251 a2 Z) (k251' m b2 w)) (hv1 : v1' = Int32.ofInt v1) (hv2 : v2' = Int32.ofInt v2) (hv3 : v3' = Int32.ofInt v3) (h_w : oAt 7 lyZ w' m (cvZ w)) (f_w : wF m (m + 27) w0 w') : zR E (zX7_pairs_b144 F r k251 v1 v2 v3 w) (mX7_pairs_b144 F r' k251' m v1' v2' v3' w') := by
  unfold zX7_pairs_b144 mX7_pairs_b144
  exact (rX7_pairs_l147 (by exact (fun v1 v2 v3 w v1' v2' v3' w' hv1 hv2 hv3 h_w f_w =>
    (rX7_pairs_l188 (by exact (fun v1 v2 v3 w v1' v2' v3' w' hv1 hv2 hv3 h_w f_w =>
      (rX7_pairs_b245 hr hk251 (eAdd hv1 (eL (by decide) : (1 : Int32) = Int32.ofInt (1 : Int))) hv2 hv3 h_w f_w))) F _ _ _ _ _ _ _ _ _ _ hv1 hv2 hv3 (eL (by decide) : (0 : Int32) = Int32.ofInt (0 : Int)) h_w f_w))) F _ _ _ _ _ _ _ _ _ _ hv1 hv2 hv3 (eL (by decide) : (0 : Int32) = Int32.ofInt (0 : Int)) h_w f_w)
set_option maxRecDepth 100000 in
theorem rX7_pairs_h112 {F m : Nat} {E : zS → gW → Prop} {w0 : gW} {r : Int → Int → Int → zS → Option zS} {r' : Nat → Int32 → Int32 → Int32 → gW → Option (gW)} {k251 : Int → zS → Option zS} {k251' : Nat → Int32 → gW → Option (gW)} {v1 : Int} {v1' : Int32} {v2 : Int} {v2' : Int32} {v3 : Int} {v3' : Int32} {w : zS} {w' : gW} (hr : ∀ (a2 : Int) (a3 : Int) (a4 : Int) (Z : zS) (b2 : Int32) (b3 : Int32) (b4 : Int32) (w : gW), b2 = Int32.ofInt a2 → b3 = Int32.ofInt a3 → b4 = Int32.ofInt a4 → oAt 7 lyZ w m (cvZ Z) → wF m (m + 27) w0 w → zR E (r a2 a3 a4 Z) (r' m b2 b3 b4 w)) (hk251 : ∀ (a2 : Int) (Z : zS) (b2 : Int32) (w : gW), b2 = Int32.ofInt a2 → oAt 7 lyZ w m (cvZ Z) → wF m (m + 27) w0 w → zR E (k251 a2 Z) (k251' m b2 w)) (hv1 : v1' = Int32.ofInt v1) (hv2 : v2' = Int32.ofInt v2) (hv3 : v3' = Int32.ofInt v3) (h_w : oAt 7 lyZ w' m (cvZ w)) (f_w : wF m (m + 27) w0 w') : zR E (zX7_pairs_h112 F r k251 v1 v2 v3 w) (mX7_pairs_h112 F r' k251' m v1' v2' v3' w') := by
  unfold zX7_pairs_h112 mX7_pairs_h112
  exact (R_FI h_w (k := 24) rfl (c := (zI w 24)) rfl (fun t114' ht114 =>
  (R_Le ht114 hv3
  (hk251 _ _ _ _ hv1 h_w f_w)
  (R_FI h_w (k := 28) rfl (c := (zI w 28)) rfl (fun t122' ht122 =>
    (R_Le ht122 hv2
    (rX7_pairs_b144 hr hk251 hv1 hv2 hv3 h_w f_w)
    (R_FR h_w (k := 27) rfl
      (R_Ld h_w (k := 27) rfl (by decide) hv2 rfl (fun t133 t133' ht133 =>
      (R_Eq ht133 hv3
      (rX7_pairs_b245 hr hk251 hv1 (eAdd hv2 (eL (by decide) : (1 : Int32) = Int32.ofInt (1 : Int))) hv3 h_w f_w)
      (rX7_pairs_b144 hr hk251 hv1 hv2 hv3 h_w f_w)))))))))))
set_option maxRecDepth 100000 in
theorem rX7_pairs_l112 {F m : Nat} {E : zS → gW → Prop} {w0 : gW} {k251 : Int → zS → Option zS} {k251' : Nat → Int32 → gW → Option (gW)} (hk251 : ∀ (a2 : Int) (Z : zS) (b2 : Int32) (w : gW), b2 = Int32.ofInt a2 → oAt 7 lyZ w m (cvZ Z) → wF m (m + 27) w0 w → zR E (k251 a2 Z) (k251' m b2 w)) : ∀ (n : Nat) (v1 : Int) (v2 : Int) (v3 : Int) (w : zS) (v1' : Int32) (v2' : Int32) (v3' : Int32) (w' : gW), v1' = Int32.ofInt v1 → v2' = Int32.ofInt v2 → v3' = Int32.ofInt v3 → oAt 7 lyZ w' m (cvZ w) → wF m (m + 27) w0 w' → zR E (zX7_pairs_l112 F k251 n v1 v2 v3 w) (mX7_pairs_l112 F k251' n m v1' v2' v3' w') := by
  intro n
  induction n with
  | zero => intros; exact R_none
  | succ n ih =>
    intro v1 v2 v3 w v1' v2' v3' w' hv1 hv2 hv3 h_w f_w
    exact rX7_pairs_h112 ih hk251 hv1 hv2 hv3 h_w f_w
set_option maxRecDepth 100000 in
theorem rX7_pairs {F m : Nat} {w : zS} {w' : gW} (h_w : oAt 7 lyZ w' m (cvZ w)) : zR (E0 m w') (zX7_pairs F w) (mX7_pairs F m w') := by
  have f_w : wF m (m + 27) w' w' := wF.rf
  unfold zX7_pairs mX7_pairs
  exact (R_PI h_w f_w (k := 28) rfl (eL (by decide) : (0 : Int32) = Int32.ofInt (0 : Int)) (fun w2' h_w2 f_w2 =>
  (R_FI h_w2 (k := 36) rfl (c := (zI w 36)) rfl (fun t7' ht7 =>
  (R_FI h_w2 (k := 36) rfl (c := (zI w 36)) rfl (fun t13' ht13 =>
  (R_FI h_w2 (k := 37) rfl (c := (zI w 37)) rfl (fun t20' ht20 =>
  (R_PI h_w2 f_w2 (k := 24) rfl (eMul (eMul (eSub ht7 (eL (by decide) : (1 : Int32) = Int32.ofInt (1 : Int))) (eSub ht13 (eL (by decide) : (1 : Int32) = Int32.ofInt (1 : Int)))) ht20) (fun w24' h_w24 f_w24 =>
  (rX7_pairs_l29 (by exact (fun w w' h_w f_w =>
    (rX7_pairs_l112 (by exact (fun v1 w v1' w' hv1 h_w f_w =>
      (R_FR h_w (k := 30) rfl
      (R_St h_w f_w (k := 30) rfl (by decide) (eL (by decide) : (3 : Int32) = Int32.ofInt (3 : Int)) hv1 (fun w257' h_w257 f_w257 =>
      (R_ret0 h_w257 f_w257)))))) F _ _ _ _ _ _ _ _ (eL (by decide) : (0 : Int32) = Int32.ofInt (0 : Int)) (eL (by decide) : (0 : Int32) = Int32.ofInt (0 : Int)) (eL (by decide) : (0 : Int32) = Int32.ofInt (0 : Int)) h_w f_w))) F _ _ _ _ (eL (by decide) : (1 : Int32) = Int32.ofInt (1 : Int)) h_w24 f_w24)))))))))))
set_option maxRecDepth 100000 in
theorem rX7_sound_b64 {F m : Nat} {w0 : gW} {r : Int → Int → Int → Int → Int → zS → Option (Int × zS)} {r' : Nat → Int32 → Int32 → Int32 → Int32 → Int32 → gW → Option (Int32 × gW)} {k77 : Int → Int → Int → Int → zS → Option (Int × zS)} {k77' : Nat → Int32 → Int32 → Int32 → Int32 → gW → Option (Int32 × gW)} {v1 : Int} {v1' : Int32} {v2 : Int} {v2' : Int32} {v3 : Int} {v3' : Int32} {v4 : Int} {v4' : Int32} {v5 : Int} {v5' : Int32} {s0 : Int} {s0' : Int32} {s1 : Int} {s1' : Int32} {w : zS} {w' : gW} (hr : ∀ (a2 : Int) (a3 : Int) (a4 : Int) (a5 : Int) (a6 : Int) (Z : zS) (b2 : Int32) (b3 : Int32) (b4 : Int32) (b5 : Int32) (b6 : Int32) (w : gW), b2 = Int32.ofInt a2 → b3 = Int32.ofInt a3 → b4 = Int32.ofInt a4 → b5 = Int32.ofInt a5 → b6 = Int32.ofInt a6 → oAt 7 lyZ w m (cvZ Z) → wF m (m + 27) w0 w → zR (E1 m w0) (r a2 a3 a4 a5 a6 Z) (r' m b2 b3 b4 b5 b6 w)) (hk77 : ∀ (a2 : Int) (a3 : Int) (a4 : Int) (a5 : Int) (Z : zS) (b2 : Int32) (b3 : Int32) (b4 : Int32) (b5 : Int32) (w : gW), b2 = Int32.ofInt a2 → b3 = Int32.ofInt a3 → b4 = Int32.ofInt a4 → b5 = Int32.ofInt a5 → oAt 7 lyZ w m (cvZ Z) → wF m (m + 27) w0 w → zR (E1 m w0) (k77 a2 a3 a4 a5 Z) (k77' m b2 b3 b4 b5 w)) (hv1 : v1' = Int32.ofInt v1) (hv2 : v2' = Int32.ofInt v2) (hv3 : v3' = Int32.ofInt v3) (hv4 : v4' = Int32.ofInt v4) (hv5 : v5' = Int32.ofInt v5) (hs0 : s0' = Int32.ofInt s0) (hs1 : s1' = Int32.ofInt s1) (h_w : oAt 7 lyZ w' m (cvZ w)) (f_w : wF m (m + 27) w0 w') : zR (E1 m w0) (zX7_sound_b64 F r k77 v1 v2 v3 v4 v5 s0 s1 w) (mX7_sound_b64 F r' k77' m v1' v2' v3' v4' v5' s0' s1' w') := by
  unfold zX7_sound_b64 mX7_sound_b64
  exact (R_Eq hs0 hs1
  (hr _ _ _ _ _ _ _ _ _ _ _ _ hv1 hv2 hv3 hv4 (eAdd hv5 (eL (by decide) : (1 : Int32) = Int32.ofInt (1 : Int))) h_w f_w)
  (R_ret1 (eL (by decide) : (1000 : Int32) = Int32.ofInt (1000 : Int)) h_w f_w))
