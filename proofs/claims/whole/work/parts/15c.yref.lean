/-! .. and that the m-functions do what they say (laid by a program of mine) -/
set_option maxRecDepth 100000 in
theorem rJ9_floorMod_7cf53 {F : Nat} {C : yC} {v0 : Int} {v0' : Int32} {v1 : Int} {v1' : Int32} {w : zO} {w' : gW} (hC : oSep C) (hF : fF F) (hv0 : v0' = Int32.ofInt v0) (hv1 : v1' = Int32.ofInt v1) (h_w : oRep C w w') : zR (Y1 C w') (zJ9_floorMod_7cf53 F C v0 v1 w) (mJ9_floorMod_7cf53 F v0' v1' w') := by
  have f_w : oFr C w' w' := oFr.rf
  unfold zJ9_floorMod_7cf53 mJ9_floorMod_7cf53
  exact (R_Rem hv0 hv1 (fun t2 t2' ht2 =>
  (R_Le (eL (by decide) : (0 : Int32) = Int32.ofInt (0 : Int)) (eBit (fun x y => x ^^^ y) hv0 hv1)
  (S_ret1 ht2 h_w f_w)
  (R_Eq ht2 (eL (by decide) : (0 : Int32) = Int32.ofInt (0 : Int))
    (S_ret1 ht2 h_w f_w)
    (S_ret1 (eAdd ht2 hv1) h_w f_w)))))
set_option maxRecDepth 100000 in
theorem rX0_entry {F : Nat} {C : yC} {v0 : Nat} {v1 : Int} {v1' : Int32} {v2 : Int} {v2' : Int32} {v3 : Int} {v3' : Int32} {w : zO} {w' : gW} (hC : oSep C) (hF : fF F) (hv1 : v1' = Int32.ofInt v1) (hv2 : v2' = Int32.ofInt v2) (hv3 : v3' = Int32.ofInt v3) (h_w : oRep C w w') : zR (Y1 C w') (zX0_entry F C v0 v1 v2 v3 w) (mX0_entry F v0 v1' v2' v3' w') := by
  have f_w : oFr C w' w' := oFr.rf
  unfold zX0_entry mX0_entry
  exact (S_AR h_w rfl (c := 0) (k := 0) (off := 1) ay0_0 (fun t1' ht1 =>
  (S_Ld h_w ht1 (c := 0) (k := 0) dy0_0 (by decide) (eAdd (eMul (eAdd (eMul hv1 (eL (by decide) : (2 : Int32) = Int32.ofInt (2 : Int))) hv2) (eL (by decide) : (2 : Int32) = Int32.ofInt (2 : Int))) hv3) (fun t13 t13' ht13 =>
  (S_ret1 ht13 h_w f_w)))))
set_option maxRecDepth 100000 in
theorem rX0_isNumber_b16 {F : Nat} {C : yC} {w0 : gW} {w : zO} {w' : gW} (hC : oSep C) (hF : fF F) (h_w : oRep C w w') (f_w : oFr C w0 w') : zR (Y1 C w0) (zX0_isNumber_b16 F C w) (mX0_isNumber_b16 F w') := by
  unfold zX0_isNumber_b16 mX0_isNumber_b16
  exact (S_ret1 (eL (by decide) : (0 : Int32) = Int32.ofInt (0 : Int)) h_w f_w)
set_option maxRecDepth 100000 in
theorem rX0_isNumber {F : Nat} {C : yC} {v0 : Nat} {v1 : Int} {v1' : Int32} {w : zO} {w' : gW} (hC : oSep C) (hF : fF F) (hv1 : v1' = Int32.ofInt v1) (h_w : oRep C w w') : zR (Y1 C w') (zX0_isNumber F C v0 v1 w) (mX0_isNumber F v0 v1' w') := by
  have f_w : oFr C w' w' := oFr.rf
  unfold zX0_isNumber mX0_isNumber
  exact (R_Lt hv1 (eL (by decide) : (0 : Int32) = Int32.ofInt (0 : Int))
  (rX0_isNumber_b16 hC hF h_w f_w)
  (S_FI h_w rfl (c := 0) (k := 3) iy0_3 (fun t6 t6' ht6 =>
    (R_Le ht6 hv1
    (rX0_isNumber_b16 hC hF h_w f_w)
    (S_ret1 (eL (by decide) : (1 : Int32) = Int32.ofInt (1 : Int)) h_w f_w)))))
set_option maxRecDepth 100000 in
theorem rX0_place {F : Nat} {C : yC} {v0 : Nat} {v1 : Int} {v1' : Int32} {v2 : Int} {v2' : Int32} {v3 : Int} {v3' : Int32} {w : zO} {w' : gW} (hC : oSep C) (hF : fF F) (hv1 : v1' = Int32.ofInt v1) (hv2 : v2' = Int32.ofInt v2) (hv3 : v3' = Int32.ofInt v3) (h_w : oRep C w w') : zR (Y1 C w') (zX0_place F C v0 v1 v2 v3 w) (mX0_place F v0 v1' v2' v3' w') := by
  have f_w : oFr C w' w' := oFr.rf
  unfold zX0_place mX0_place
  exact (S_FR h_w rfl (c := 0) (k := 2) ry0_2 (fun t4 t4' ht4 =>
  (S_FI h_w ht4 (c := 2) (k := 7) iy2_7 (fun t7 t7' ht7 =>
  (S_FI h_w rfl (c := 0) (k := 4) iy0_4 (fun t18 t18' ht18 =>
  (S_ret1 (eAdd (eMul (eSub (eAdd (eMul (eSub hv1 (eL (by decide) : (1 : Int32) = Int32.ofInt (1 : Int))) (eSub ht7 (eL (by decide) : (1 : Int32) = Int32.ofInt (1 : Int)))) hv2) (eL (by decide) : (1 : Int32) = Int32.ofInt (1 : Int))) ht18) hv3) h_w f_w)))))))
set_option maxRecDepth 100000 in
theorem rX0_places {F : Nat} {C : yC} {v0 : Nat} {w : zO} {w' : gW} (hC : oSep C) (hF : fF F) (h_w : oRep C w w') : zR (Y1 C w') (zX0_places F C v0 w) (mX0_places F v0 w') := by
  have f_w : oFr C w' w' := oFr.rf
  unfold zX0_places mX0_places
  exact (S_FR h_w rfl (c := 0) (k := 2) ry0_2 (fun t1 t1' ht1 =>
  (S_FI h_w ht1 (c := 2) (k := 7) iy2_7 (fun t4 t4' ht4 =>
  (S_FR h_w rfl (c := 0) (k := 2) ry0_2 (fun t10 t10' ht10 =>
  (S_FI h_w ht10 (c := 2) (k := 7) iy2_7 (fun t13 t13' ht13 =>
  (S_FI h_w rfl (c := 0) (k := 4) iy0_4 (fun t20 t20' ht20 =>
  (S_ret1 (eMul (eMul (eSub ht4 (eL (by decide) : (1 : Int32) = Int32.ofInt (1 : Int))) (eSub ht13 (eL (by decide) : (1 : Int32) = Int32.ofInt (1 : Int)))) ht20) h_w f_w)))))))))))
set_option maxRecDepth 100000 in
theorem rX0_put {F : Nat} {C : yC} {v0 : Nat} {v1 : Int} {v1' : Int32} {v2 : Int} {v2' : Int32} {v3 : Int} {v3' : Int32} {v4 : Int} {v4' : Int32} {v5 : Int} {v5' : Int32} {w : zO} {w' : gW} (hC : oSep C) (hF : fF F) (hv1 : v1' = Int32.ofInt v1) (hv2 : v2' = Int32.ofInt v2) (hv3 : v3' = Int32.ofInt v3) (hv4 : v4' = Int32.ofInt v4) (hv5 : v5' = Int32.ofInt v5) (h_w : oRep C w w') : zR (Y0 C w') (zX0_put F C v0 v1 v2 v3 v4 v5 w) (mX0_put F v0 v1' v2' v3' v4' v5' w') := by
  have f_w : oFr C w' w' := oFr.rf
  unfold zX0_put mX0_put
  exact (S_AR h_w rfl (c := 0) (k := 0) (off := 1) ay0_0 (fun t8' ht8 =>
  (S_St h_w f_w hC ht8 (c := 0) (k := 0) dy0_0 (by decide) (eMul (eMul hv1 (eL (by decide) : (2 : Int32) = Int32.ofInt (2 : Int))) (eL (by decide) : (2 : Int32) = Int32.ofInt (2 : Int))) hv2 (fun w14 w14' h_w14 f_w14 =>
  (S_AR h_w14 rfl (c := 0) (k := 0) (off := 1) ay0_0 (fun t16' ht16 =>
  (S_St h_w14 f_w14 hC ht16 (c := 0) (k := 0) dy0_0 (by decide) (eAdd (eMul (eMul hv1 (eL (by decide) : (2 : Int32) = Int32.ofInt (2 : Int))) (eL (by decide) : (2 : Int32) = Int32.ofInt (2 : Int))) (eL (by decide) : (1 : Int32) = Int32.ofInt (1 : Int))) hv3 (fun w24 w24' h_w24 f_w24 =>
  (S_AR h_w24 rfl (c := 0) (k := 0) (off := 1) ay0_0 (fun t26' ht26 =>
  (S_St h_w24 f_w24 hC ht26 (c := 0) (k := 0) dy0_0 (by decide) (eAdd (eMul (eMul hv1 (eL (by decide) : (2 : Int32) = Int32.ofInt (2 : Int))) (eL (by decide) : (2 : Int32) = Int32.ofInt (2 : Int))) (eL (by decide) : (2 : Int32) = Int32.ofInt (2 : Int))) hv4 (fun w35 w35' h_w35 f_w35 =>
  (S_AR h_w35 rfl (c := 0) (k := 0) (off := 1) ay0_0 (fun t37' ht37 =>
  (S_St h_w35 f_w35 hC ht37 (c := 0) (k := 0) dy0_0 (by decide) (eAdd (eMul (eMul hv1 (eL (by decide) : (2 : Int32) = Int32.ofInt (2 : Int))) (eL (by decide) : (2 : Int32) = Int32.ofInt (2 : Int))) (eL (by decide) : (3 : Int32) = Int32.ofInt (3 : Int))) hv5 (fun w46 w46' h_w46 f_w46 =>
  (S_PI h_w46 f_w46 hC rfl (c := 0) (k := 6) iy0_6 (eL (by decide) : (0 : Int32) = Int32.ofInt (0 : Int)) (fun w49 w49' h_w49 f_w49 =>
  (S_ret0 h_w49 f_w49)))))))))))))))))))
set_option maxRecDepth 100000 in
theorem rX1_firstNotZero_h2 {F : Nat} {C : yC} {w0 : gW} {r : Nat → Option Nat → Int → zO → Option (Int × zO)} {r' : Nat → (Option Nat) → Int32 → gW → Option (Int32 × gW)} {v0 : Nat} {v1 : Option Nat} {v1' : Option Nat} {v2 : Int} {v2' : Int32} {w : zO} {w' : gW} (hC : oSep C) (hF : fF F) (hr : ∀ (a1 : Nat) (a2 : Option Nat) (a3 : Int) (Z : zO) (b2 : (Option Nat)) (b3 : Int32) (w : gW), b2 = oar 1 a2 → b3 = Int32.ofInt a3 → oRep C Z w → oFr C w0 w → zR (Y1 C w0) (r a1 a2 a3 Z) (r' a1 b2 b3 w)) (hv1 : v1' = oar 1 v1) (hv2 : v2' = Int32.ofInt v2) (h_w : oRep C w w') (f_w : oFr C w0 w') : zR (Y1 C w0) (zX1_firstNotZero_h2 F C r v0 v1 v2 w) (mX1_firstNotZero_h2 F r' v0 v1' v2' w') := by
  unfold zX1_firstNotZero_h2 mX1_firstNotZero_h2
  exact (S_FI h_w rfl (c := 1) (k := 3) iy1_3 (fun t4 t4' ht4 =>
  (R_Le ht4 hv2
  (S_ret1 (eL (by decide) : (-1 : Int32) = Int32.ofInt (-1 : Int)) h_w f_w)
  (S_Ld h_w hv1 (c := 5) (k := 0) dy5_0 (by decide) hv2 (fun t12 t12' ht12 =>
    (R_Eq ht12 (eL (by decide) : (0 : Int32) = Int32.ofInt (0 : Int))
    (hr _ _ _ _ _ _ _ hv1 (eAdd hv2 (eL (by decide) : (1 : Int32) = Int32.ofInt (1 : Int))) h_w f_w)
    (S_ret1 hv2 h_w f_w)))))))
set_option maxRecDepth 100000 in
theorem rX1_firstNotZero_l2 {F : Nat} {C : yC} {w0 : gW}  (hC : oSep C) (hF : fF F)  : ∀ (n : Nat) (v0 : Nat) (v1 : Option Nat) (v2 : Int) (w : zO) (v1' : (Option Nat)) (v2' : Int32) (w' : gW), v1' = oar 1 v1 → v2' = Int32.ofInt v2 → oRep C w w' → oFr C w0 w' → zR (Y1 C w0) (zX1_firstNotZero_l2 F C  n v0 v1 v2 w) (mX1_firstNotZero_l2 F  n v0 v1' v2' w') := by
  intro n
  induction n with
  | zero => intros; exact R_none
  | succ n ih =>
    intro v0 v1 v2 w v1' v2' w' hv1 hv2 h_w f_w
    exact rX1_firstNotZero_h2 hC hF ih  hv1 hv2 h_w f_w
set_option maxRecDepth 100000 in
theorem rX1_firstNotZero {F : Nat} {C : yC} {v0 : Nat} {v1 : Option Nat} {v1' : Option Nat} {w : zO} {w' : gW} (hC : oSep C) (hF : fF F) (hv1 : v1' = oar 1 v1) (h_w : oRep C w w') : zR (Y1 C w') (zX1_firstNotZero F C v0 v1 w) (mX1_firstNotZero F v0 v1' w') := by
  have f_w : oFr C w' w' := oFr.rf
  unfold zX1_firstNotZero mX1_firstNotZero
  exact (rX1_firstNotZero_l2 hC hF F _ _ _ _ _ _ _ hv1 (eL (by decide) : (0 : Int32) = Int32.ofInt (0 : Int)) h_w f_w)
set_option maxRecDepth 100000 in
theorem rX1_leadOf {F : Nat} {C : yC} {v0 : Nat} {v1 : Int} {v1' : Int32} {w : zO} {w' : gW} (hC : oSep C) (hF : fF F) (hv1 : v1' = Int32.ofInt v1) (h_w : oRep C w w') : zR (Y1 C w') (zX1_leadOf F C v0 v1 w) (mX1_leadOf F v0 v1' w') := by
  have f_w : oFr C w' w' := oFr.rf
  unfold zX1_leadOf mX1_leadOf
  exact (S_AR h_w rfl (c := 1) (k := 1) (off := 3) ay1_1 (fun t1' ht1 =>
  (S_LE h_w hC ht1 (c := 1) (k := 1) ey1_1 hv1 (fun t5 t5' ht5 =>
  (S_ret1 ht5 h_w f_w)))))
set_option maxRecDepth 100000 in
theorem rX1_leadsAt {F : Nat} {C : yC} {v0 : Nat} {v1 : Int} {v1' : Int32} {w : zO} {w' : gW} (hC : oSep C) (hF : fF F) (hv1 : v1' = Int32.ofInt v1) (h_w : oRep C w w') : zR (Y1 C w') (zX1_leadsAt F C v0 v1 w) (mX1_leadsAt F v0 v1' w') := by
  have f_w : oFr C w' w' := oFr.rf
  unfold zX1_leadsAt mX1_leadsAt
  exact (S_AR h_w rfl (c := 1) (k := 2) (off := 1) ay1_2 (fun t1' ht1 =>
  (S_Ld h_w ht1 (c := 1) (k := 2) dy1_2 (by decide) hv1 (fun t5 t5' ht5 =>
  (R_Lt ht5 (eL (by decide) : (0 : Int32) = Int32.ofInt (0 : Int))
  (S_ret1 (eL (by decide) : (0 : Int32) = Int32.ofInt (0 : Int)) h_w f_w)
  (S_ret1 (eL (by decide) : (1 : Int32) = Int32.ofInt (1 : Int)) h_w f_w))))))
set_option maxRecDepth 100000 in
theorem rX1_number {F : Nat} {C : yC} {v0 : Nat} {v1 : Int} {v1' : Int32} {v2 : Int} {v2' : Int32} {w : zO} {w' : gW} (hC : oSep C) (hF : fF F) (hv1 : v1' = Int32.ofInt v1) (hv2 : v2' = Int32.ofInt v2) (h_w : oRep C w w') : zR (Y1 C w') (zX1_number F C v0 v1 v2 w) (mX1_number F v0 v1' v2' w') := by
  have f_w : oFr C w' w' := oFr.rf
  unfold zX1_number mX1_number
  exact (S_AR h_w rfl (c := 1) (k := 0) (off := 2) ay1_0 (fun t1' ht1 =>
  (S_LE h_w hC ht1 (c := 1) (k := 0) ey1_0 (eAdd (eMul hv1 (eL (by decide) : (98 : Int32) = Int32.ofInt (98 : Int))) hv2) (fun t10 t10' ht10 =>
  (S_ret1 ht10 h_w f_w)))))
set_option maxRecDepth 100000 in
theorem rX2_has_b16 {F : Nat} {C : yC} {w0 : gW} {w : zO} {w' : gW} (hC : oSep C) (hF : fF F) (h_w : oRep C w w') (f_w : oFr C w0 w') : zR (Y1 C w0) (zX2_has_b16 F C w) (mX2_has_b16 F w') := by
  unfold zX2_has_b16 mX2_has_b16
  exact (S_ret1 (eL (by decide) : (0 : Int32) = Int32.ofInt (0 : Int)) h_w f_w)
set_option maxRecDepth 100000 in
theorem rX2_has {F : Nat} {C : yC} {v0 : Nat} {v1 : Int} {v1' : Int32} {w : zO} {w' : gW} (hC : oSep C) (hF : fF F) (hv1 : v1' = Int32.ofInt v1) (h_w : oRep C w w') : zR (Y1 C w') (zX2_has F C v0 v1 w) (mX2_has F v0 v1' w') := by
  have f_w : oFr C w' w' := oFr.rf
  unfold zX2_has mX2_has
  exact (R_Lt hv1 (eL (by decide) : (0 : Int32) = Int32.ofInt (0 : Int))
  (rX2_has_b16 hC hF h_w f_w)
  (S_FI h_w rfl (c := 2) (k := 7) iy2_7 (fun t6 t6' ht6 =>
    (R_Le ht6 hv1
    (rX2_has_b16 hC hF h_w f_w)
    (S_ret1 (eL (by decide) : (1 : Int32) = Int32.ofInt (1 : Int)) h_w f_w)))))
set_option maxRecDepth 100000 in
theorem rX2_mul {F : Nat} {C : yC} {v0 : Nat} {v1 : Int} {v1' : Int32} {v2 : Int} {v2' : Int32} {w : zO} {w' : gW} (hC : oSep C) (hF : fF F) (hv1 : v1' = Int32.ofInt v1) (hv2 : v2' = Int32.ofInt v2) (h_w : oRep C w w') : zR (Y1 C w') (zX2_mul F C v0 v1 v2 w) (mX2_mul F v0 v1' v2' w') := by
  have f_w : oFr C w' w' := oFr.rf
  unfold zX2_mul mX2_mul
  exact (S_AR h_w rfl (c := 2) (k := 0) (off := 1) ay2_0 (fun t1' ht1 =>
  (S_Ld h_w ht1 (c := 2) (k := 0) dy2_0 (by decide) (eAdd (eMul hv1 (eL (by decide) : (48 : Int32) = Int32.ofInt (48 : Int))) hv2) (fun t10 t10' ht10 =>
  (S_ret1 ht10 h_w f_w)))))
set_option maxRecDepth 100000 in
theorem rX2_set {F : Nat} {C : yC} {v0 : Nat} {v1 : Int} {v1' : Int32} {v2 : Int} {v2' : Int32} {v3 : Int} {v3' : Int32} {w : zO} {w' : gW} (hC : oSep C) (hF : fF F) (hv1 : v1' = Int32.ofInt v1) (hv2 : v2' = Int32.ofInt v2) (hv3 : v3' = Int32.ofInt v3) (h_w : oRep C w w') : zR (Y0 C w') (zX2_set F C v0 v1 v2 v3 w) (mX2_set F v0 v1' v2' v3' w') := by
  have f_w : oFr C w' w' := oFr.rf
  unfold zX2_set mX2_set
  exact (S_AR h_w rfl (c := 2) (k := 0) (off := 1) ay2_0 (fun t1' ht1 =>
  (S_St h_w f_w hC ht1 (c := 2) (k := 0) dy2_0 (by decide) (eAdd (eMul hv1 (eL (by decide) : (48 : Int32) = Int32.ofInt (48 : Int))) hv2) hv3 (fun w11 w11' h_w11 f_w11 =>
  (S_ret0 h_w11 f_w11)))))
set_option maxRecDepth 100000 in
theorem rX3_nextOfPeriod_h3 {F : Nat} {C : yC} {w0 : gW} {r : Option Nat → Int → Int → zO → Option (Int × zO)} {r' : (Option Nat) → Int32 → Int32 → gW → Option (Int32 × gW)} {v1 : Option Nat} {v1' : Option Nat} {v2 : Int} {v2' : Int32} {v4 : Int} {v4' : Int32} {w : zO} {w' : gW} (hC : oSep C) (hF : fF F) (hr : ∀ (a1 : Option Nat) (a2 : Int) (a3 : Int) (Z : zO) (b1 : (Option Nat)) (b2 : Int32) (b3 : Int32) (w : gW), b1 = a1 → b2 = Int32.ofInt a2 → b3 = Int32.ofInt a3 → oRep C Z w → oFr C w0 w → zR (Y1 C w0) (r a1 a2 a3 Z) (r' b1 b2 b3 w)) (hv1 : v1' = v1) (hv2 : v2' = Int32.ofInt v2) (hv4 : v4' = Int32.ofInt v4) (h_w : oRep C w w') (f_w : oFr C w0 w') : zR (Y1 C w0) (zX3_nextOfPeriod_h3 F C r v1 v2 v4 w) (mX3_nextOfPeriod_h3 F r' v1' v2' v4' w') := by
  unfold zX3_nextOfPeriod_h3 mX3_nextOfPeriod_h3
  exact (S_FI h_w hv1 (c := 2) (k := 7) iy2_7 (fun t6 t6' ht6 =>
  (R_Le ht6 hv4
  (S_ret1 (eL (by decide) : (-1 : Int32) = Int32.ofInt (-1 : Int)) h_w f_w)
  (S_AR h_w hv1 (c := 2) (k := 4) (off := 5) ay2_4 (fun t13' ht13 =>
    (S_Ld h_w ht13 (c := 2) (k := 4) dy2_4 (by decide) hv4 (fun t18 t18' ht18 =>
    (R_Eq ht18 hv2
    (S_ret1 hv4 h_w f_w)
    (hr _ _ _ _ _ _ _ _ hv1 hv2 (eAdd hv4 (eL (by decide) : (1 : Int32) = Int32.ofInt (1 : Int))) h_w f_w)))))))))
set_option maxRecDepth 100000 in
theorem rX3_nextOfPeriod_l3 {F : Nat} {C : yC} {w0 : gW}  (hC : oSep C) (hF : fF F)  : ∀ (n : Nat) (v1 : Option Nat) (v2 : Int) (v4 : Int) (w : zO) (v1' : (Option Nat)) (v2' : Int32) (v4' : Int32) (w' : gW), v1' = v1 → v2' = Int32.ofInt v2 → v4' = Int32.ofInt v4 → oRep C w w' → oFr C w0 w' → zR (Y1 C w0) (zX3_nextOfPeriod_l3 F C  n v1 v2 v4 w) (mX3_nextOfPeriod_l3 F  n v1' v2' v4' w') := by
  intro n
  induction n with
  | zero => intros; exact R_none
  | succ n ih =>
    intro v1 v2 v4 w v1' v2' v4' w' hv1 hv2 hv4 h_w f_w
    exact rX3_nextOfPeriod_h3 hC hF ih  hv1 hv2 hv4 h_w f_w
set_option maxRecDepth 100000 in
theorem rX3_nextOfPeriod {F : Nat} {C : yC} {v0 : Nat} {v1 : Option Nat} {v1' : Option Nat} {v2 : Int} {v2' : Int32} {v3 : Int} {v3' : Int32} {w : zO} {w' : gW} (hC : oSep C) (hF : fF F) (hv1 : v1' = v1) (hv2 : v2' = Int32.ofInt v2) (hv3 : v3' = Int32.ofInt v3) (h_w : oRep C w w') : zR (Y1 C w') (zX3_nextOfPeriod F C v0 v1 v2 v3 w) (mX3_nextOfPeriod F v0 v1' v2' v3' w') := by
  have f_w : oFr C w' w' := oFr.rf
  unfold zX3_nextOfPeriod mX3_nextOfPeriod
  exact (rX3_nextOfPeriod_l3 hC hF F _ _ _ _ _ _ _ _ hv1 hv2 hv3 h_w f_w)
set_option maxRecDepth 100000 in
theorem rX4_faultOfReading {F : Nat} {C : yC} {v0 : Nat} {v1 : Int} {v1' : Int32} {v2 : Int} {v2' : Int32} {w : zO} {w' : gW} (hC : oSep C) (hF : fF F) (hv1 : v1' = Int32.ofInt v1) (hv2 : v2' = Int32.ofInt v2) (h_w : oRep C w w') : zR (Y1 C w') (zX4_faultOfReading F C v0 v1 v2 w) (mX4_faultOfReading F v0 v1' v2' w') := by
  have f_w : oFr C w' w' := oFr.rf
  unfold zX4_faultOfReading mX4_faultOfReading
  exact (S_FI h_w rfl (c := 4) (k := 1) iy4_1 (fun t1 t1' ht1 =>
  (R_Eq ht1 (eL (by decide) : (-1 : Int32) = Int32.ofInt (-1 : Int))
  (S_ret1 (eL (by decide) : (1 : Int32) = Int32.ofInt (1 : Int)) h_w f_w)
  (S_FI h_w rfl (c := 4) (k := 1) iy4_1 (fun t11 t11' ht11 =>
    (R_Eq ht11 hv1
    (S_FI h_w rfl (c := 4) (k := 2) iy4_2 (fun t21 t21' ht21 =>
      (R_Le hv2 ht21
      (S_ret1 (eL (by decide) : (0 : Int32) = Int32.ofInt (0 : Int)) h_w f_w)
      (S_ret1 (eL (by decide) : (2 : Int32) = Int32.ofInt (2 : Int)) h_w f_w))))
    (S_ret1 (eL (by decide) : (3 : Int32) = Int32.ofInt (3 : Int)) h_w f_w)))))))
set_option maxRecDepth 100000 in
theorem rX4_put_b18 {F : Nat} {C : yC} {w0 : gW} {s0 : Option Nat} {s0' : Option Nat} {s1 : Int} {s1' : Int32} {s2 : Int} {s2' : Int32} {w : zO} {w' : gW} (hC : oSep C) (hF : fF F) (hs0 : s0' = oar 1 s0) (hs1 : s1' = Int32.ofInt s1) (hs2 : s2' = Int32.ofInt s2) (h_w : oRep C w w') (f_w : oFr C w0 w') : zR (Y0 C w0) (zX4_put_b18 F C s0 s1 s2 w) (mX4_put_b18 F s0' s1' s2' w') := by
  unfold zX4_put_b18 mX4_put_b18
  exact (S_St h_w f_w hC hs0 (c := 4) (k := 0) dy4_0 (by decide) hs1 hs2 (fun w18 w18' h_w18 f_w18 =>
  (S_ret0 h_w18 f_w18)))
set_option maxRecDepth 100000 in
theorem rX4_put {F : Nat} {C : yC} {v0 : Nat} {v1 : Int} {v1' : Int32} {v2 : Int} {v2' : Int32} {w : zO} {w' : gW} (hC : oSep C) (hF : fF F) (hv1 : v1' = Int32.ofInt v1) (hv2 : v2' = Int32.ofInt v2) (h_w : oRep C w w') : zR (Y0 C w') (zX4_put F C v0 v1 v2 w) (mX4_put F v0 v1' v2' w') := by
  have f_w : oFr C w' w' := oFr.rf
  unfold zX4_put mX4_put
  exact (S_AR h_w rfl (c := 4) (k := 0) (off := 1) ay4_0 (fun t1' ht1 =>
  (S_FI h_w rfl (c := 4) (k := 1) iy4_1 (fun t6 t6' ht6 =>
  (R_Eq ht6 (eL (by decide) : (0 : Int32) = Int32.ofInt (0 : Int))
  (rX4_put_b18 hC hF ht1 hv1 (eCv (fun x => (x).toInt8.toInt32) hv2) h_w f_w)
  (rX4_put_b18 hC hF ht1 hv1 hv2 h_w f_w))))))
set_option maxRecDepth 100000 in
theorem rX5_dimensionOf {F : Nat} {C : yC} {v0 : Nat} {v1 : Int} {v1' : Int32} {w : zO} {w' : gW} (hC : oSep C) (hF : fF F) (hv1 : v1' = Int32.ofInt v1) (h_w : oRep C w w') : zR (Y1 C w') (zX5_dimensionOf F C v0 v1 w) (mX5_dimensionOf F v0 v1' w') := by
  have f_w : oFr C w' w' := oFr.rf
  unfold zX5_dimensionOf mX5_dimensionOf
  exact (R_Eq hv1 (eL (by decide) : (0 : Int32) = Int32.ofInt (0 : Int))
  (S_FI h_w rfl (c := 5) (k := 3) iy5_3 (fun t41 t41' ht41 =>
    (S_ret1 ht41 h_w f_w)))
  (R_Eq hv1 (eL (by decide) : (1 : Int32) = Int32.ofInt (1 : Int))
    (S_FI h_w rfl (c := 5) (k := 5) iy5_5 (fun t46 t46' ht46 =>
      (S_FR h_w rfl (c := 5) (k := 1) ry5_1 (fun t50 t50' ht50 =>
      (S_FI h_w ht50 (c := 1) (k := 5) iy1_5 (fun t53 t53' ht53 =>
      (S_ret1 (eSub ht46 ht53) h_w f_w)))))))
    (R_Eq hv1 (eL (by decide) : (2 : Int32) = Int32.ofInt (2 : Int))
      (S_FI h_w rfl (c := 5) (k := 4) iy5_4 (fun t59 t59' ht59 =>
        (S_ret1 ht59 h_w f_w)))
      (R_Eq hv1 (eL (by decide) : (3 : Int32) = Int32.ofInt (3 : Int))
        (S_FR h_w rfl (c := 5) (k := 1) ry5_1 (fun t64 t64' ht64 =>
          (S_FI h_w ht64 (c := 1) (k := 5) iy1_5 (fun t67 t67' ht67 =>
          (S_FR h_w rfl (c := 5) (k := 2) ry5_2 (fun t71 t71' ht71 =>
          (S_FI h_w ht71 (c := 1) (k := 5) iy1_5 (fun t74 t74' ht74 =>
          (S_ret1 (eAdd ht67 ht74) h_w f_w)))))))))
        (R_Eq hv1 (eL (by decide) : (4 : Int32) = Int32.ofInt (4 : Int))
          (S_FR h_w rfl (c := 5) (k := 1) ry5_1 (fun t80 t80' ht80 =>
            (S_FI h_w ht80 (c := 1) (k := 5) iy1_5 (fun t83 t83' ht83 =>
            (S_ret1 ht83 h_w f_w)))))
          (R_Eq hv1 (eL (by decide) : (5 : Int32) = Int32.ofInt (5 : Int))
            (S_FR h_w rfl (c := 5) (k := 2) ry5_2 (fun t88 t88' ht88 =>
              (S_FI h_w ht88 (c := 1) (k := 5) iy1_5 (fun t91 t91' ht91 =>
              (S_ret1 ht91 h_w f_w)))))
            (S_FI h_w rfl (c := 5) (k := 5) iy5_5 (fun t96 t96' ht96 =>
              (S_FR h_w rfl (c := 5) (k := 1) ry5_1 (fun t100 t100' ht100 =>
              (S_FI h_w ht100 (c := 1) (k := 5) iy1_5 (fun t103 t103' ht103 =>
              (S_FI h_w rfl (c := 5) (k := 4) iy5_4 (fun t108 t108' ht108 =>
              (S_ret1 (eSub (eSub ht96 ht103) ht108) h_w f_w)))))))))))))))
set_option maxRecDepth 100000 in
theorem rX6_isLane_b9 {F : Nat} {C : yC} {w0 : gW} {w : zO} {w' : gW} (hC : oSep C) (hF : fF F) (h_w : oRep C w w') (f_w : oFr C w0 w') : zR (Y1 C w0) (zX6_isLane_b9 F C w) (mX6_isLane_b9 F w') := by
  unfold zX6_isLane_b9 mX6_isLane_b9
  exact (S_ret1 (eL (by decide) : (1 : Int32) = Int32.ofInt (1 : Int)) h_w f_w)
set_option maxRecDepth 100000 in
theorem rX6_isLane {F : Nat} {C : yC} {v0 : Int} {v0' : Int32} {w : zO} {w' : gW} (hC : oSep C) (hF : fF F) (hv0 : v0' = Int32.ofInt v0) (h_w : oRep C w w') : zR (Y1 C w') (zX6_isLane F C v0 w) (mX6_isLane F v0' w') := by
  have f_w : oFr C w' w' := oFr.rf
  unfold zX6_isLane mX6_isLane
  exact (R_Eq hv0 (eL (by decide) : (0 : Int32) = Int32.ofInt (0 : Int))
  (rX6_isLane_b9 hC hF h_w f_w)
  (R_Eq hv0 (eL (by decide) : (1 : Int32) = Int32.ofInt (1 : Int))
    (rX6_isLane_b9 hC hF h_w f_w)
    (S_ret1 (eL (by decide) : (0 : Int32) = Int32.ofInt (0 : Int)) h_w f_w)))
set_option maxRecDepth 100000 in
theorem rX6_power_h4 {F : Nat} {C : yC} {w0 : gW} {r : Int → Int → Int → Int → zO → Option (Int × zO)} {r' : Int32 → Int32 → Int32 → Int32 → gW → Option (Int32 × gW)} {v0 : Int} {v0' : Int32} {v1 : Int} {v1' : Int32} {v2 : Int} {v2' : Int32} {v3 : Int} {v3' : Int32} {w : zO} {w' : gW} (hC : oSep C) (hF : fF F) (hr : ∀ (a1 : Int) (a2 : Int) (a3 : Int) (a4 : Int) (Z : zO) (b1 : Int32) (b2 : Int32) (b3 : Int32) (b4 : Int32) (w : gW), b1 = Int32.ofInt a1 → b2 = Int32.ofInt a2 → b3 = Int32.ofInt a3 → b4 = Int32.ofInt a4 → oRep C Z w → oFr C w0 w → zR (Y1 C w0) (r a1 a2 a3 a4 Z) (r' b1 b2 b3 b4 w)) (hv0 : v0' = Int32.ofInt v0) (hv1 : v1' = Int32.ofInt v1) (hv2 : v2' = Int32.ofInt v2) (hv3 : v3' = Int32.ofInt v3) (h_w : oRep C w w') (f_w : oFr C w0 w') : zR (Y1 C w0) (zX6_power_h4 F C r v0 v1 v2 v3 w) (mX6_power_h4 F r' v0' v1' v2' v3' w') := by
  unfold zX6_power_h4 mX6_power_h4
  exact (R_Le hv1 hv3
  (S_ret1 hv2 h_w f_w)
  (hr _ _ _ _ _ _ _ _ _ _ hv0 hv1 (eMul hv2 hv0) (eAdd hv3 (eL (by decide) : (1 : Int32) = Int32.ofInt (1 : Int))) h_w f_w))
set_option maxRecDepth 100000 in
theorem rX6_power_l4 {F : Nat} {C : yC} {w0 : gW}  (hC : oSep C) (hF : fF F)  : ∀ (n : Nat) (v0 : Int) (v1 : Int) (v2 : Int) (v3 : Int) (w : zO) (v0' : Int32) (v1' : Int32) (v2' : Int32) (v3' : Int32) (w' : gW), v0' = Int32.ofInt v0 → v1' = Int32.ofInt v1 → v2' = Int32.ofInt v2 → v3' = Int32.ofInt v3 → oRep C w w' → oFr C w0 w' → zR (Y1 C w0) (zX6_power_l4 F C  n v0 v1 v2 v3 w) (mX6_power_l4 F  n v0' v1' v2' v3' w') := by
  intro n
  induction n with
  | zero => intros; exact R_none
  | succ n ih =>
    intro v0 v1 v2 v3 w v0' v1' v2' v3' w' hv0 hv1 hv2 hv3 h_w f_w
    exact rX6_power_h4 hC hF ih  hv0 hv1 hv2 hv3 h_w f_w
set_option maxRecDepth 100000 in
theorem rX6_power {F : Nat} {C : yC} {v0 : Int} {v0' : Int32} {v1 : Int} {v1' : Int32} {w : zO} {w' : gW} (hC : oSep C) (hF : fF F) (hv0 : v0' = Int32.ofInt v0) (hv1 : v1' = Int32.ofInt v1) (h_w : oRep C w w') : zR (Y1 C w') (zX6_power F C v0 v1 w) (mX6_power F v0' v1' w') := by
  have f_w : oFr C w' w' := oFr.rf
  unfold zX6_power mX6_power
  exact (rX6_power_l4 hC hF F _ _ _ _ _ _ _ _ _ _ hv0 hv1 (eL (by decide) : (1 : Int32) = Int32.ofInt (1 : Int)) (eL (by decide) : (0 : Int32) = Int32.ofInt (0 : Int)) h_w f_w)
set_option maxRecDepth 100000 in
theorem rX6_quotient {F : Nat} {C : yC} {v0 : Int} {v0' : Int32} {v1 : Int} {v1' : Int32} {w : zO} {w' : gW} (hC : oSep C) (hF : fF F) (hv0 : v0' = Int32.ofInt v0) (hv1 : v1' = Int32.ofInt v1) (h_w : oRep C w w') : zR (Y1 C w') (zX6_quotient F C v0 v1 w) (mX6_quotient F v0' v1' w') := by
  have f_w : oFr C w' w' := oFr.rf
  unfold zX6_quotient mX6_quotient
  exact (R_Le hv1 (eL (by decide) : (0 : Int32) = Int32.ofInt (0 : Int))
  (S_ret1 (eL (by decide) : (0 : Int32) = Int32.ofInt (0 : Int)) h_w f_w)
  (R_Div hv0 hv1 (fun t6 t6' ht6 =>
    (S_ret1 ht6 h_w f_w))))
set_option maxRecDepth 100000 in
theorem rX6_refusalOf {F : Nat} {C : yC} {v0 : Option Nat} {v0' : Option Nat} {v1 : Int} {v1' : Int32} {w : zO} {w' : gW} (hC : oSep C) (hF : fF F) (hv0 : v0' = v0) (hv1 : v1' = Int32.ofInt v1) (h_w : oRep C w w') : zR (Y1 C w') (zX6_refusalOf F C v0 v1 w) (mX6_refusalOf F v0' v1' w') := by
  have f_w : oFr C w' w' := oFr.rf
  unfold zX6_refusalOf mX6_refusalOf
  exact (R_Le (eL (by decide) : (0 : Int32) = Int32.ofInt (0 : Int)) hv1
  (S_FI h_w hv0 (c := 0) (k := 6) iy0_6 (fun t7 t7' ht7 =>
    (R_Eq ht7 (eL (by decide) : (0 : Int32) = Int32.ofInt (0 : Int))
    (S_ret1 (eL (by decide) : (-2 : Int32) = Int32.ofInt (-2 : Int)) h_w f_w)
    (S_FR h_w hv0 (c := 0) (k := 1) ry0_1 (fun t18 t18' ht18 =>
      (S_FI h_w ht18 (c := 5) (k := 6) iy5_6 (fun t21 t21' ht21 =>
      (R_Le ht21 hv1
      (S_ret1 (eL (by decide) : (-1 : Int32) = Int32.ofInt (-1 : Int)) h_w f_w)
      (S_ret1 (eL (by decide) : (0 : Int32) = Int32.ofInt (0 : Int)) h_w f_w)))))))))
  (S_ret1 (eL (by decide) : (-1 : Int32) = Int32.ofInt (-1 : Int)) h_w f_w))
set_option maxRecDepth 100000 in
theorem rX1_begin {F : Nat} {C : yC} {v0 : Nat} {v1 : Int} {v1' : Int32} {v2 : Int} {v2' : Int32} {w : zO} {w' : gW} (hC : oSep C) (hF : fF F) (hv1 : v1' = Int32.ofInt v1) (hv2 : v2' = Int32.ofInt v2) (h_w : oRep C w w') : zR (Y0 C w') (zX1_begin F C v0 v1 v2 w) (mX1_begin F v0 v1' v2' w') := by
  have f_w : oFr C w' w' := oFr.rf
  unfold zX1_begin mX1_begin
  exact (S_PI h_w f_w hC rfl (c := 1) (k := 3) iy1_3 hv1 (fun w2 w2' h_w2 f_w2 =>
  (S_PI h_w2 f_w2 hC rfl (c := 1) (k := 4) iy1_4 hv2 (fun w7 w7' h_w7 f_w7 =>
  (S_PI h_w7 f_w7 hC rfl (c := 1) (k := 5) iy1_5 (eL (by decide) : (0 : Int32) = Int32.ofInt (0 : Int)) (fun w12 w12' h_w12 f_w12 =>
  (S_AR h_w12 rfl (c := 1) (k := 2) (off := 1) ay1_2 (fun t16' ht16 =>
  (S_Fill h_w12 f_w12 hC ht16 (c := 1) (k := 2) dy1_2 (by decide) (eL (by decide) : (-1 : Int32) = Int32.ofInt (-1 : Int)) (fun q20 q20' h_q20 f_q20 =>
  (S_ret0 h_q20 f_q20)) hF)))))))))
set_option maxRecDepth 100000 in
theorem rX1_leadingNumber {F : Nat} {C : yC} {v0 : Nat} {v1 : Int} {v1' : Int32} {v2 : Int} {v2' : Int32} {w : zO} {w' : gW} (hC : oSep C) (hF : fF F) (hv1 : v1' = Int32.ofInt v1) (hv2 : v2' = Int32.ofInt v2) (h_w : oRep C w w') : zR (Y1 C w') (zX1_leadingNumber F C v0 v1 v2 w) (mX1_leadingNumber F v0 v1' v2' w') := by
  have f_w : oFr C w' w' := oFr.rf
  unfold zX1_leadingNumber mX1_leadingNumber
  exact (S_AR h_w rfl (c := 1) (k := 2) (off := 1) ay1_2 (fun t2' ht2 =>
  (S_Ld h_w ht2 (c := 1) (k := 2) dy1_2 (by decide) hv1 (fun t6 t6' ht6 =>
  (S_O h_w rfl (fun a8 ea8 =>
  (S_C1 (rX1_number hC hF ht6 hv2 h_w) f_w (fun q8_1 q8_2 q8_1' q8_2' hq8 h_q8_2 f_q8_2 =>
  (S_ret1 hq8 h_q8_2 f_q8_2)))))))))
set_option maxRecDepth 100000 in
theorem rX3_goesWithProducts_h17 {F : Nat} {C : yC} {w0 : gW} {r : Nat → Option Nat → Option Nat → Int → Int → zO → Option (Int × zO)} {r' : Nat → (Option Nat) → (Option Nat) → Int32 → Int32 → gW → Option (Int32 × gW)} {k97 : Nat → Option Nat → Option Nat → zO → Option (Int × zO)} {k97' : Nat → (Option Nat) → (Option Nat) → gW → Option (Int32 × gW)} {v0 : Nat} {v1 : Option Nat} {v1' : Option Nat} {v2 : Option Nat} {v2' : Option Nat} {v3 : Int} {v3' : Int32} {v4 : Int} {v4' : Int32} {w : zO} {w' : gW} (hC : oSep C) (hF : fF F) (hr : ∀ (a1 : Nat) (a2 : Option Nat) (a3 : Option Nat) (a4 : Int) (a5 : Int) (Z : zO) (b2 : (Option Nat)) (b3 : (Option Nat)) (b4 : Int32) (b5 : Int32) (w : gW), b2 = a2 → b3 = a3 → b4 = Int32.ofInt a4 → b5 = Int32.ofInt a5 → oRep C Z w → oFr C w0 w → zR (Y1 C w0) (r a1 a2 a3 a4 a5 Z) (r' a1 b2 b3 b4 b5 w)) (hk97 : ∀ (a1 : Nat) (a2 : Option Nat) (a3 : Option Nat) (Z : zO) (b2 : (Option Nat)) (b3 : (Option Nat)) (w : gW), b2 = a2 → b3 = a3 → oRep C Z w → oFr C w0 w → zR (Y1 C w0) (k97 a1 a2 a3 Z) (k97' a1 b2 b3 w)) (hv1 : v1' = v1) (hv2 : v2' = v2) (hv3 : v3' = Int32.ofInt v3) (hv4 : v4' = Int32.ofInt v4) (h_w : oRep C w w') (f_w : oFr C w0 w') : zR (Y1 C w0) (zX3_goesWithProducts_h17 F C r k97 v0 v1 v2 v3 v4 w) (mX3_goesWithProducts_h17 F r' k97' v0 v1' v2' v3' v4' w') := by
  unfold zX3_goesWithProducts_h17 mX3_goesWithProducts_h17
  exact (S_FI h_w hv1 (c := 2) (k := 7) iy2_7 (fun t20 t20' ht20 =>
  (R_Le ht20 hv4
  (hk97 _ _ _ _ _ _ _ hv1 hv2 h_w f_w)
  (S_AR h_w rfl (c := 3) (k := 3) (off := 4) ay3_3 (fun t28' ht28 =>
    (S_AR h_w rfl (c := 3) (k := 1) (off := 2) ay3_1 (fun t32' ht32 =>
    (S_Ld h_w ht32 (c := 3) (k := 1) dy3_1 (by decide) hv4 (fun t37 t37' ht37 =>
    (S_Ld h_w ht28 (c := 3) (k := 3) dy3_3 (by decide) ht37 (fun t38 t38' ht38 =>
    (S_AR h_w rfl (c := 3) (k := 5) (off := 6) ay3_5 (fun t40' ht40 =>
    (S_AR h_w rfl (c := 3) (k := 2) (off := 3) ay3_2 (fun t44' ht44 =>
    (S_Ld h_w ht44 (c := 3) (k := 2) dy3_2 (by decide) hv4 (fun t49 t49' ht49 =>
    (S_Ld h_w ht40 (c := 3) (k := 5) dy3_5 (by decide) ht49 (fun t50 t50' ht50 =>
    (S_O h_w hv2 (fun a51 ea51 =>
    (S_C1 (rX2_mul hC hF ht38 ht50 h_w) f_w (fun q51_1 q51_2 q51_1' q51_2' hq51 h_q51_2 f_q51_2 =>
    (S_AR h_q51_2 rfl (c := 3) (k := 4) (off := 5) ay3_4 (fun t57' ht57 =>
    (S_Ld h_q51_2 ht57 (c := 3) (k := 4) dy3_4 (by decide) hq51 (fun t62 t62' ht62 =>
    (R_Eq ht62 hv3
    (S_ret1 (eL (by decide) : (0 : Int32) = Int32.ofInt (0 : Int)) h_q51_2 f_q51_2)
    (S_AR h_q51_2 rfl (c := 3) (k := 4) (off := 5) ay3_4 (fun t70' ht70 =>
      (S_St h_q51_2 f_q51_2 hC ht70 (c := 3) (k := 4) dy3_4 (by decide) hq51 hv3 (fun w76 w76' h_w76 f_w76 =>
      (S_AR h_w76 rfl (c := 3) (k := 3) (off := 4) ay3_3 (fun t78' ht78 =>
      (S_AR h_w76 rfl (c := 3) (k := 0) (off := 1) ay3_0 (fun t82' ht82 =>
      (S_Ld h_w76 ht82 (c := 3) (k := 0) dy3_0 (by decide) hv4 (fun t87 t87' ht87 =>
      (S_St h_w76 f_w76 hC ht78 (c := 3) (k := 3) dy3_3 (by decide) ht87 hq51 (fun w90 w90' h_w90 f_w90 =>
      (hr _ _ _ _ _ _ _ _ _ _ _ hv1 hv2 hv3 (eAdd hv4 (eL (by decide) : (1 : Int32) = Int32.ofInt (1 : Int))) h_w90 f_w90)))))))))))))))))))))))))))))))))))))))))
set_option maxRecDepth 100000 in
theorem rX3_goesWithProducts_l17 {F : Nat} {C : yC} {w0 : gW} {k97 : Nat → Option Nat → Option Nat → zO → Option (Int × zO)} {k97' : Nat → (Option Nat) → (Option Nat) → gW → Option (Int32 × gW)} (hC : oSep C) (hF : fF F) (hk97 : ∀ (a1 : Nat) (a2 : Option Nat) (a3 : Option Nat) (Z : zO) (b2 : (Option Nat)) (b3 : (Option Nat)) (w : gW), b2 = a2 → b3 = a3 → oRep C Z w → oFr C w0 w → zR (Y1 C w0) (k97 a1 a2 a3 Z) (k97' a1 b2 b3 w)) : ∀ (n : Nat) (v0 : Nat) (v1 : Option Nat) (v2 : Option Nat) (v3 : Int) (v4 : Int) (w : zO) (v1' : (Option Nat)) (v2' : (Option Nat)) (v3' : Int32) (v4' : Int32) (w' : gW), v1' = v1 → v2' = v2 → v3' = Int32.ofInt v3 → v4' = Int32.ofInt v4 → oRep C w w' → oFr C w0 w' → zR (Y1 C w0) (zX3_goesWithProducts_l17 F C k97 n v0 v1 v2 v3 v4 w) (mX3_goesWithProducts_l17 F k97' n v0 v1' v2' v3' v4' w') := by
  intro n
  induction n with
  | zero => intros; exact R_none
  | succ n ih =>
    intro v0 v1 v2 v3 v4 w v1' v2' v3' v4' w' hv1 hv2 hv3 hv4 h_w f_w
    exact rX3_goesWithProducts_h17 hC hF ih hk97 hv1 hv2 hv3 hv4 h_w f_w
set_option maxRecDepth 100000 in
theorem rX3_goesWithProducts_h112 {F : Nat} {C : yC} {w0 : gW} {r : Nat → Option Nat → Option Nat → Int → Int → zO → Option (Int × zO)} {r' : Nat → (Option Nat) → (Option Nat) → Int32 → Int32 → gW → Option (Int32 × gW)} {k168 : Nat → Option Nat → Option Nat → Int → zO → Option (Int × zO)} {k168' : Nat → (Option Nat) → (Option Nat) → Int32 → gW → Option (Int32 × gW)} {v0 : Nat} {v1 : Option Nat} {v1' : Option Nat} {v2 : Option Nat} {v2' : Option Nat} {v4 : Int} {v4' : Int32} {v5 : Int} {v5' : Int32} {w : zO} {w' : gW} (hC : oSep C) (hF : fF F) (hr : ∀ (a1 : Nat) (a2 : Option Nat) (a3 : Option Nat) (a4 : Int) (a5 : Int) (Z : zO) (b2 : (Option Nat)) (b3 : (Option Nat)) (b4 : Int32) (b5 : Int32) (w : gW), b2 = a2 → b3 = a3 → b4 = Int32.ofInt a4 → b5 = Int32.ofInt a5 → oRep C Z w → oFr C w0 w → zR (Y1 C w0) (r a1 a2 a3 a4 a5 Z) (r' a1 b2 b3 b4 b5 w)) (hk168 : ∀ (a1 : Nat) (a2 : Option Nat) (a3 : Option Nat) (a4 : Int) (Z : zO) (b2 : (Option Nat)) (b3 : (Option Nat)) (b4 : Int32) (w : gW), b2 = a2 → b3 = a3 → b4 = Int32.ofInt a4 → oRep C Z w → oFr C w0 w → zR (Y1 C w0) (k168 a1 a2 a3 a4 Z) (k168' a1 b2 b3 b4 w)) (hv1 : v1' = v1) (hv2 : v2' = v2) (hv4 : v4' = Int32.ofInt v4) (hv5 : v5' = Int32.ofInt v5) (h_w : oRep C w w') (f_w : oFr C w0 w') : zR (Y1 C w0) (zX3_goesWithProducts_h112 F C r k168 v0 v1 v2 v4 v5 w) (mX3_goesWithProducts_h112 F r' k168' v0 v1' v2' v4' v5' w') := by
  unfold zX3_goesWithProducts_h112 mX3_goesWithProducts_h112
  exact (S_FI h_w rfl (c := 3) (k := 7) iy3_7 (fun t115 t115' ht115 =>
  (R_Le ht115 hv5
  (hk168 _ _ _ _ _ _ _ _ _ hv1 hv2 hv4 h_w f_w)
  (S_AR h_w rfl (c := 3) (k := 3) (off := 4) ay3_3 (fun t123' ht123 =>
    (S_Ld h_w ht123 (c := 3) (k := 3) dy3_3 (by decide) hv4 (fun t128 t128' ht128 =>
    (S_AR h_w rfl (c := 3) (k := 5) (off := 6) ay3_5 (fun t130' ht130 =>
    (S_Ld h_w ht130 (c := 3) (k := 5) dy3_5 (by decide) hv5 (fun t135 t135' ht135 =>
    (S_O h_w hv2 (fun a136 ea136 =>
    (S_C1 (rX2_mul hC hF ht128 ht135 h_w) f_w (fun q136_1 q136_2 q136_1' q136_2' hq136 h_q136_2 f_q136_2 =>
    (S_AR h_q136_2 rfl (c := 3) (k := 3) (off := 4) ay3_3 (fun t140' ht140 =>
    (S_AR h_q136_2 hv1 (c := 2) (k := 5) (off := 6) ay2_5 (fun t147' ht147 =>
    (S_Ld h_q136_2 ht147 (c := 2) (k := 5) dy2_5 (by decide) hv5 (fun t152 t152' ht152 =>
    (S_O h_q136_2 hv1 (fun a153 ea153 =>
    (S_C1 (rX2_mul hC hF hv4 ht152 h_q136_2) f_q136_2 (fun q153_1 q153_2 q153_1' q153_2' hq153 h_q153_2 f_q153_2 =>
    (S_Ld h_q153_2 ht140 (c := 3) (k := 3) dy3_3 (by decide) hq153 (fun t156 t156' ht156 =>
    (R_Eq hq136 ht156
    (hr _ _ _ _ _ _ _ _ _ _ _ hv1 hv2 hv4 (eAdd hv5 (eL (by decide) : (1 : Int32) = Int32.ofInt (1 : Int))) h_q153_2 f_q153_2)
    (S_ret1 (eL (by decide) : (0 : Int32) = Int32.ofInt (0 : Int)) h_q153_2 f_q153_2)))))))))))))))))))))))))))))
set_option maxRecDepth 100000 in
theorem rX3_goesWithProducts_l112 {F : Nat} {C : yC} {w0 : gW} {k168 : Nat → Option Nat → Option Nat → Int → zO → Option (Int × zO)} {k168' : Nat → (Option Nat) → (Option Nat) → Int32 → gW → Option (Int32 × gW)} (hC : oSep C) (hF : fF F) (hk168 : ∀ (a1 : Nat) (a2 : Option Nat) (a3 : Option Nat) (a4 : Int) (Z : zO) (b2 : (Option Nat)) (b3 : (Option Nat)) (b4 : Int32) (w : gW), b2 = a2 → b3 = a3 → b4 = Int32.ofInt a4 → oRep C Z w → oFr C w0 w → zR (Y1 C w0) (k168 a1 a2 a3 a4 Z) (k168' a1 b2 b3 b4 w)) : ∀ (n : Nat) (v0 : Nat) (v1 : Option Nat) (v2 : Option Nat) (v4 : Int) (v5 : Int) (w : zO) (v1' : (Option Nat)) (v2' : (Option Nat)) (v4' : Int32) (v5' : Int32) (w' : gW), v1' = v1 → v2' = v2 → v4' = Int32.ofInt v4 → v5' = Int32.ofInt v5 → oRep C w w' → oFr C w0 w' → zR (Y1 C w0) (zX3_goesWithProducts_l112 F C k168 n v0 v1 v2 v4 v5 w) (mX3_goesWithProducts_l112 F k168' n v0 v1' v2' v4' v5' w') := by
  intro n
  induction n with
  | zero => intros; exact R_none
  | succ n ih =>
    intro v0 v1 v2 v4 v5 w v1' v2' v4' v5' w' hv1 hv2 hv4 hv5 h_w f_w
    exact rX3_goesWithProducts_h112 hC hF ih hk168 hv1 hv2 hv4 hv5 h_w f_w
set_option maxRecDepth 100000 in
theorem rX3_goesWithProducts_h100 {F : Nat} {C : yC} {w0 : gW} {r : Nat → Option Nat → Option Nat → Int → zO → Option (Int × zO)} {r' : Nat → (Option Nat) → (Option Nat) → Int32 → gW → Option (Int32 × gW)} {v0 : Nat} {v1 : Option Nat} {v1' : Option Nat} {v2 : Option Nat} {v2' : Option Nat} {v4 : Int} {v4' : Int32} {w : zO} {w' : gW} (hC : oSep C) (hF : fF F) (hr : ∀ (a1 : Nat) (a2 : Option Nat) (a3 : Option Nat) (a4 : Int) (Z : zO) (b2 : (Option Nat)) (b3 : (Option Nat)) (b4 : Int32) (w : gW), b2 = a2 → b3 = a3 → b4 = Int32.ofInt a4 → oRep C Z w → oFr C w0 w → zR (Y1 C w0) (r a1 a2 a3 a4 Z) (r' a1 b2 b3 b4 w)) (hv1 : v1' = v1) (hv2 : v2' = v2) (hv4 : v4' = Int32.ofInt v4) (h_w : oRep C w w') (f_w : oFr C w0 w') : zR (Y1 C w0) (zX3_goesWithProducts_h100 F C r v0 v1 v2 v4 w) (mX3_goesWithProducts_h100 F r' v0 v1' v2' v4' w') := by
  unfold zX3_goesWithProducts_h100 mX3_goesWithProducts_h100
  exact (S_FI h_w hv1 (c := 2) (k := 7) iy2_7 (fun t103 t103' ht103 =>
  (R_Le ht103 hv4
  (S_ret1 (eL (by decide) : (1 : Int32) = Int32.ofInt (1 : Int)) h_w f_w)
  (rX3_goesWithProducts_l112 hC hF (by exact (fun v0 v1 v2 v4 w v1' v2' v4' w' hv1 hv2 hv4 h_w f_w =>
      (hr _ _ _ _ _ _ _ _ _ hv1 hv2 (eAdd hv4 (eL (by decide) : (1 : Int32) = Int32.ofInt (1 : Int))) h_w f_w))) F _ _ _ _ _ _ _ _ _ _ _ hv1 hv2 hv4 (eL (by decide) : (0 : Int32) = Int32.ofInt (0 : Int)) h_w f_w))))
set_option maxRecDepth 100000 in
theorem rX3_goesWithProducts_l100 {F : Nat} {C : yC} {w0 : gW}  (hC : oSep C) (hF : fF F)  : ∀ (n : Nat) (v0 : Nat) (v1 : Option Nat) (v2 : Option Nat) (v4 : Int) (w : zO) (v1' : (Option Nat)) (v2' : (Option Nat)) (v4' : Int32) (w' : gW), v1' = v1 → v2' = v2 → v4' = Int32.ofInt v4 → oRep C w w' → oFr C w0 w' → zR (Y1 C w0) (zX3_goesWithProducts_l100 F C  n v0 v1 v2 v4 w) (mX3_goesWithProducts_l100 F  n v0 v1' v2' v4' w') := by
  intro n
  induction n with
  | zero => intros; exact R_none
  | succ n ih =>
    intro v0 v1 v2 v4 w v1' v2' v4' w' hv1 hv2 hv4 h_w f_w
    exact rX3_goesWithProducts_h100 hC hF ih  hv1 hv2 hv4 h_w f_w
set_option maxRecDepth 100000 in
theorem rX3_goesWithProducts {F : Nat} {C : yC} {v0 : Nat} {v1 : Option Nat} {v1' : Option Nat} {v2 : Option Nat} {v2' : Option Nat} {v3 : Int} {v3' : Int32} {w : zO} {w' : gW} (hC : oSep C) (hF : fF F) (hv1 : v1' = v1) (hv2 : v2' = v2) (hv3 : v3' = Int32.ofInt v3) (h_w : oRep C w w') : zR (Y1 C w') (zX3_goesWithProducts F C v0 v1 v2 v3 w) (mX3_goesWithProducts F v0 v1' v2' v3' w') := by
  have f_w : oFr C w' w' := oFr.rf
  unfold zX3_goesWithProducts mX3_goesWithProducts
  exact (S_AR h_w rfl (c := 3) (k := 3) (off := 4) ay3_3 (fun t1' ht1 =>
  (S_St h_w f_w hC ht1 (c := 3) (k := 3) dy3_3 (by decide) (eL (by decide) : (0 : Int32) = Int32.ofInt (0 : Int)) (eL (by decide) : (0 : Int32) = Int32.ofInt (0 : Int)) (fun w6 w6' h_w6 f_w6 =>
  (S_AR h_w6 rfl (c := 3) (k := 4) (off := 5) ay3_4 (fun t8' ht8 =>
  (S_St h_w6 f_w6 hC ht8 (c := 3) (k := 4) dy3_4 (by decide) (eL (by decide) : (0 : Int32) = Int32.ofInt (0 : Int)) hv3 (fun w13 w13' h_w13 f_w13 =>
  (rX3_goesWithProducts_l17 hC hF (by exact (fun v0 v1 v2 w v1' v2' w' hv1 hv2 h_w f_w =>
    (rX3_goesWithProducts_l100 hC hF F _ _ _ _ _ _ _ _ _ hv1 hv2 (eL (by decide) : (0 : Int32) = Int32.ofInt (0 : Int)) h_w f_w))) F _ _ _ _ _ _ _ _ _ _ _ hv1 hv2 hv3 (eL (by decide) : (1 : Int32) = Int32.ofInt (1 : Int)) h_w13 f_w13)))))))))
set_option maxRecDepth 100000 in
theorem rX3_layPaths_b125 {F : Nat} {C : yC} {E : zO → gW → Prop} {w0 : gW} {r : Nat → Option Nat → Int64 → Int → Int → Int → zO → Option zO} {r' : Nat → (Option Nat) → Int64 → Int32 → Int32 → Int32 → gW → Option (gW)} {k131 : Nat → Option Nat → Int64 → Int → Int → zO → Option zO} {k131' : Nat → (Option Nat) → Int64 → Int32 → Int32 → gW → Option (gW)} {v0 : Nat} {v1 : Option Nat} {v1' : Option Nat} {v2 : Int64} {v2' : Int64} {v4 : Int} {v4' : Int32} {v5 : Int} {v5' : Int32} {v6 : Int} {v6' : Int32} {w : zO} {w' : gW} (hC : oSep C) (hF : fF F) (hr : ∀ (a1 : Nat) (a2 : Option Nat) (a3 : Int64) (a4 : Int) (a5 : Int) (a6 : Int) (Z : zO) (b2 : (Option Nat)) (b3 : Int64) (b4 : Int32) (b5 : Int32) (b6 : Int32) (w : gW), b2 = a2 → b3 = a3 → b4 = Int32.ofInt a4 → b5 = Int32.ofInt a5 → b6 = Int32.ofInt a6 → oRep C Z w → oFr C w0 w → zR E (r a1 a2 a3 a4 a5 a6 Z) (r' a1 b2 b3 b4 b5 b6 w)) (hk131 : ∀ (a1 : Nat) (a2 : Option Nat) (a3 : Int64) (a4 : Int) (a5 : Int) (Z : zO) (b2 : (Option Nat)) (b3 : Int64) (b4 : Int32) (b5 : Int32) (w : gW), b2 = a2 → b3 = a3 → b4 = Int32.ofInt a4 → b5 = Int32.ofInt a5 → oRep C Z w → oFr C w0 w → zR E (k131 a1 a2 a3 a4 a5 Z) (k131' a1 b2 b3 b4 b5 w)) (hv1 : v1' = v1) (hv2 : v2' = v2) (hv4 : v4' = Int32.ofInt v4) (hv5 : v5' = Int32.ofInt v5) (hv6 : v6' = Int32.ofInt v6) (h_w : oRep C w w') (f_w : oFr C w0 w') : zR E (zX3_layPaths_b125 F C r k131 v0 v1 v2 v4 v5 v6 w) (mX3_layPaths_b125 F r' k131' v0 v1' v2' v4' v5' v6' w') := by
  unfold zX3_layPaths_b125 mX3_layPaths_b125
  exact (hr _ _ _ _ _ _ _ _ _ _ _ _ _ hv1 hv2 hv4 hv5 (eAdd hv6 (eL (by decide) : (1 : Int32) = Int32.ofInt (1 : Int))) h_w f_w)
set_option maxRecDepth 100000 in
theorem rX3_layPaths_h34 {F : Nat} {C : yC} {E : zO → gW → Prop} {w0 : gW} {r : Nat → Option Nat → Int64 → Int → Int → Int → zO → Option zO} {r' : Nat → (Option Nat) → Int64 → Int32 → Int32 → Int32 → gW → Option (gW)} {k131 : Nat → Option Nat → Int64 → Int → Int → zO → Option zO} {k131' : Nat → (Option Nat) → Int64 → Int32 → Int32 → gW → Option (gW)} {v0 : Nat} {v1 : Option Nat} {v1' : Option Nat} {v2 : Int64} {v2' : Int64} {v4 : Int} {v4' : Int32} {v5 : Int} {v5' : Int32} {v6 : Int} {v6' : Int32} {w : zO} {w' : gW} (hC : oSep C) (hF : fF F) (hr : ∀ (a1 : Nat) (a2 : Option Nat) (a3 : Int64) (a4 : Int) (a5 : Int) (a6 : Int) (Z : zO) (b2 : (Option Nat)) (b3 : Int64) (b4 : Int32) (b5 : Int32) (b6 : Int32) (w : gW), b2 = a2 → b3 = a3 → b4 = Int32.ofInt a4 → b5 = Int32.ofInt a5 → b6 = Int32.ofInt a6 → oRep C Z w → oFr C w0 w → zR E (r a1 a2 a3 a4 a5 a6 Z) (r' a1 b2 b3 b4 b5 b6 w)) (hk131 : ∀ (a1 : Nat) (a2 : Option Nat) (a3 : Int64) (a4 : Int) (a5 : Int) (Z : zO) (b2 : (Option Nat)) (b3 : Int64) (b4 : Int32) (b5 : Int32) (w : gW), b2 = a2 → b3 = a3 → b4 = Int32.ofInt a4 → b5 = Int32.ofInt a5 → oRep C Z w → oFr C w0 w → zR E (k131 a1 a2 a3 a4 a5 Z) (k131' a1 b2 b3 b4 b5 w)) (hv1 : v1' = v1) (hv2 : v2' = v2) (hv4 : v4' = Int32.ofInt v4) (hv5 : v5' = Int32.ofInt v5) (hv6 : v6' = Int32.ofInt v6) (h_w : oRep C w w') (f_w : oFr C w0 w') : zR E (zX3_layPaths_h34 F C r k131 v0 v1 v2 v4 v5 v6 w) (mX3_layPaths_h34 F r' k131' v0 v1' v2' v4' v5' v6' w') := by
  unfold zX3_layPaths_h34 mX3_layPaths_h34
  exact (S_FI h_w rfl (c := 3) (k := 7) iy3_7 (fun t37 t37' ht37 =>
  (R_Le ht37 hv6
  (hk131 _ _ _ _ _ _ _ _ _ _ _ hv1 hv2 hv4 hv5 h_w f_w)
  (S_AR h_w rfl (c := 3) (k := 0) (off := 1) ay3_0 (fun t45' ht45 =>
    (S_Ld h_w ht45 (c := 3) (k := 0) dy3_0 (by decide) hv5 (fun t50 t50' ht50 =>
    (S_AR h_w hv1 (c := 2) (k := 5) (off := 6) ay2_5 (fun t52' ht52 =>
    (S_Ld h_w ht52 (c := 2) (k := 5) dy2_5 (by decide) hv6 (fun t57 t57' ht57 =>
    (S_O h_w hv1 (fun a58 ea58 =>
    (S_C1 (rX2_mul hC hF ht50 ht57 h_w) f_w (fun q58_1 q58_2 q58_1' q58_2' hq58 h_q58_2 f_q58_2 =>
    (R_if (eBin (fun (x y : Int32) => x = y) (eBin lg_cmp (eBin (fun (x y : Int64) => x &&& y) (eBin (fun (x y : Int64) => x >>> y) hv2 (eBin (fun (x y : Int64) => x &&& y) (congrArg Int32.toInt64 hq58) rfl)) rfl) rfl) rfl)
    (S_FI h_q58_2 hv1 (c := 2) (k := 7) iy2_7 (fun t77 t77' ht77 =>
      (R_Le ht77 hv4
      (rX3_layPaths_b125 hC hF hr hk131 hv1 hv2 hv4 hv5 hv6 h_q58_2 f_q58_2)
      (S_AR h_q58_2 rfl (c := 3) (k := 0) (off := 1) ay3_0 (fun t91' ht91 =>
        (S_St h_q58_2 f_q58_2 hC ht91 (c := 3) (k := 0) dy3_0 (by decide) hv4 hq58 (fun w98 w98' h_w98 f_w98 =>
        (S_AR h_w98 rfl (c := 3) (k := 1) (off := 2) ay3_1 (fun t100' ht100 =>
        (S_AR h_w98 rfl (c := 3) (k := 0) (off := 1) ay3_0 (fun t106' ht106 =>
        (S_Ld h_w98 ht106 (c := 3) (k := 0) dy3_0 (by decide) hv5 (fun t111 t111' ht111 =>
        (S_St h_w98 f_w98 hC ht100 (c := 3) (k := 1) dy3_1 (by decide) hv4 ht111 (fun w112 w112' h_w112 f_w112 =>
        (S_AR h_w112 rfl (c := 3) (k := 2) (off := 3) ay3_2 (fun t114' ht114 =>
        (S_St h_w112 f_w112 hC ht114 (c := 3) (k := 2) dy3_2 (by decide) hv4 hv6 (fun w121 w121' h_w121 f_w121 =>
        (rX3_layPaths_b125 hC hF hr hk131 hv1 (eBin (fun (x y : Int64) => x ||| y) hv2 (eBin (fun (x y : Int64) => x <<< y) rfl (eBin (fun (x y : Int64) => x &&& y) (congrArg Int32.toInt64 hq58) rfl))) (eAdd hv4 (eL (by decide) : (1 : Int32) = Int32.ofInt (1 : Int))) hv5 hv6 h_w121 f_w121))))))))))))))))))))
    (rX3_layPaths_b125 hC hF hr hk131 hv1 hv2 hv4 hv5 hv6 h_q58_2 f_q58_2)))))))))))))))))
set_option maxRecDepth 100000 in
theorem rX3_layPaths_l34 {F : Nat} {C : yC} {E : zO → gW → Prop} {w0 : gW} {k131 : Nat → Option Nat → Int64 → Int → Int → zO → Option zO} {k131' : Nat → (Option Nat) → Int64 → Int32 → Int32 → gW → Option (gW)} (hC : oSep C) (hF : fF F) (hk131 : ∀ (a1 : Nat) (a2 : Option Nat) (a3 : Int64) (a4 : Int) (a5 : Int) (Z : zO) (b2 : (Option Nat)) (b3 : Int64) (b4 : Int32) (b5 : Int32) (w : gW), b2 = a2 → b3 = a3 → b4 = Int32.ofInt a4 → b5 = Int32.ofInt a5 → oRep C Z w → oFr C w0 w → zR E (k131 a1 a2 a3 a4 a5 Z) (k131' a1 b2 b3 b4 b5 w)) : ∀ (n : Nat) (v0 : Nat) (v1 : Option Nat) (v2 : Int64) (v4 : Int) (v5 : Int) (v6 : Int) (w : zO) (v1' : (Option Nat)) (v2' : Int64) (v4' : Int32) (v5' : Int32) (v6' : Int32) (w' : gW), v1' = v1 → v2' = v2 → v4' = Int32.ofInt v4 → v5' = Int32.ofInt v5 → v6' = Int32.ofInt v6 → oRep C w w' → oFr C w0 w' → zR E (zX3_layPaths_l34 F C k131 n v0 v1 v2 v4 v5 v6 w) (mX3_layPaths_l34 F k131' n v0 v1' v2' v4' v5' v6' w') := by
  intro n
  induction n with
  | zero => intros; exact R_none
  | succ n ih =>
    intro v0 v1 v2 v4 v5 v6 w v1' v2' v4' v5' v6' w' hv1 hv2 hv4 hv5 hv6 h_w f_w
    exact rX3_layPaths_h34 hC hF ih hk131 hv1 hv2 hv4 hv5 hv6 h_w f_w
set_option maxRecDepth 100000 in
theorem rX3_layPaths_h15 {F : Nat} {C : yC} {w0 : gW} {r : Nat → Option Nat → Int64 → Int → Int → zO → Option zO} {r' : Nat → (Option Nat) → Int64 → Int32 → Int32 → gW → Option (gW)} {v0 : Nat} {v1 : Option Nat} {v1' : Option Nat} {v2 : Int64} {v2' : Int64} {v4 : Int} {v4' : Int32} {v5 : Int} {v5' : Int32} {w : zO} {w' : gW} (hC : oSep C) (hF : fF F) (hr : ∀ (a1 : Nat) (a2 : Option Nat) (a3 : Int64) (a4 : Int) (a5 : Int) (Z : zO) (b2 : (Option Nat)) (b3 : Int64) (b4 : Int32) (b5 : Int32) (w : gW), b2 = a2 → b3 = a3 → b4 = Int32.ofInt a4 → b5 = Int32.ofInt a5 → oRep C Z w → oFr C w0 w → zR (Y0 C w0) (r a1 a2 a3 a4 a5 Z) (r' a1 b2 b3 b4 b5 w)) (hv1 : v1' = v1) (hv2 : v2' = v2) (hv4 : v4' = Int32.ofInt v4) (hv5 : v5' = Int32.ofInt v5) (h_w : oRep C w w') (f_w : oFr C w0 w') : zR (Y0 C w0) (zX3_layPaths_h15 F C r v0 v1 v2 v4 v5 w) (mX3_layPaths_h15 F r' v0 v1' v2' v4' v5' w') := by
  unfold zX3_layPaths_h15 mX3_layPaths_h15
  exact (R_Le hv4 hv5
  (S_ret0 h_w f_w)
  (S_FI h_w hv1 (c := 2) (k := 7) iy2_7 (fun t25 t25' ht25 =>
    (R_Le ht25 hv5
    (S_ret0 h_w f_w)
    (rX3_layPaths_l34 hC hF (by exact (fun v0 v1 v2 v4 v5 w v1' v2' v4' v5' w' hv1 hv2 hv4 hv5 h_w f_w =>
        (hr _ _ _ _ _ _ _ _ _ _ _ hv1 hv2 hv4 (eAdd hv5 (eL (by decide) : (1 : Int32) = Int32.ofInt (1 : Int))) h_w f_w))) F _ _ _ _ _ _ _ _ _ _ _ _ _ hv1 hv2 hv4 hv5 (eL (by decide) : (0 : Int32) = Int32.ofInt (0 : Int)) h_w f_w)))))
set_option maxRecDepth 100000 in
theorem rX3_layPaths_l15 {F : Nat} {C : yC} {w0 : gW}  (hC : oSep C) (hF : fF F)  : ∀ (n : Nat) (v0 : Nat) (v1 : Option Nat) (v2 : Int64) (v4 : Int) (v5 : Int) (w : zO) (v1' : (Option Nat)) (v2' : Int64) (v4' : Int32) (v5' : Int32) (w' : gW), v1' = v1 → v2' = v2 → v4' = Int32.ofInt v4 → v5' = Int32.ofInt v5 → oRep C w w' → oFr C w0 w' → zR (Y0 C w0) (zX3_layPaths_l15 F C  n v0 v1 v2 v4 v5 w) (mX3_layPaths_l15 F  n v0 v1' v2' v4' v5' w') := by
  intro n
  induction n with
  | zero => intros; exact R_none
  | succ n ih =>
    intro v0 v1 v2 v4 v5 w v1' v2' v4' v5' w' hv1 hv2 hv4 hv5 h_w f_w
    exact rX3_layPaths_h15 hC hF ih  hv1 hv2 hv4 hv5 h_w f_w
set_option maxRecDepth 100000 in
theorem rX3_layPaths {F : Nat} {C : yC} {v0 : Nat} {v1 : Option Nat} {v1' : Option Nat} {w : zO} {w' : gW} (hC : oSep C) (hF : fF F) (hv1 : v1' = v1) (h_w : oRep C w w') : zR (Y0 C w') (zX3_layPaths F C v0 v1 w) (mX3_layPaths F v0 v1' w') := by
  have f_w : oFr C w' w' := oFr.rf
  unfold zX3_layPaths mX3_layPaths
  exact (S_AR h_w rfl (c := 3) (k := 0) (off := 1) ay3_0 (fun t6' ht6 =>
  (S_St h_w f_w hC ht6 (c := 3) (k := 0) dy3_0 (by decide) (eL (by decide) : (0 : Int32) = Int32.ofInt (0 : Int)) (eL (by decide) : (0 : Int32) = Int32.ofInt (0 : Int)) (fun w11 w11' h_w11 f_w11 =>
  (rX3_layPaths_l15 hC hF F _ _ _ _ _ _ _ _ _ _ _ hv1 rfl (eL (by decide) : (1 : Int32) = Int32.ofInt (1 : Int)) (eL (by decide) : (0 : Int32) = Int32.ofInt (0 : Int)) h_w11 f_w11)))))
set_option maxRecDepth 100000 in
theorem rX3_stepGiven_h7 {F : Nat} {C : yC} {w0 : gW} {r : Nat → Option Nat → Option Nat → Int → zO → Option (Int × zO)} {r' : Nat → (Option Nat) → (Option Nat) → Int32 → gW → Option (Int32 × gW)} {k46 : Nat → Int → Int → zO → Option (Int × zO)} {k46' : Nat → Int32 → Int32 → gW → Option (Int32 × gW)} {v0 : Nat} {v1 : Option Nat} {v1' : Option Nat} {v2 : Option Nat} {v2' : Option Nat} {v3 : Int} {v3' : Int32} {w : zO} {w' : gW} (hC : oSep C) (hF : fF F) (hr : ∀ (a1 : Nat) (a2 : Option Nat) (a3 : Option Nat) (a4 : Int) (Z : zO) (b2 : (Option Nat)) (b3 : (Option Nat)) (b4 : Int32) (w : gW), b2 = a2 → b3 = a3 → b4 = Int32.ofInt a4 → oRep C Z w → oFr C w0 w → zR (Y1 C w0) (r a1 a2 a3 a4 Z) (r' a1 b2 b3 b4 w)) (hk46 : ∀ (a1 : Nat) (a2 : Int) (a3 : Int) (Z : zO) (b2 : Int32) (b3 : Int32) (w : gW), b2 = Int32.ofInt a2 → b3 = Int32.ofInt a3 → oRep C Z w → oFr C w0 w → zR (Y1 C w0) (k46 a1 a2 a3 Z) (k46' a1 b2 b3 w)) (hv1 : v1' = v1) (hv2 : v2' = v2) (hv3 : v3' = Int32.ofInt v3) (h_w : oRep C w w') (f_w : oFr C w0 w') : zR (Y1 C w0) (zX3_stepGiven_h7 F C r k46 v0 v1 v2 v3 w) (mX3_stepGiven_h7 F r' k46' v0 v1' v2' v3' w') := by
  unfold zX3_stepGiven_h7 mX3_stepGiven_h7
  exact (R_Lt hv3 (eL (by decide) : (0 : Int32) = Int32.ofInt (0 : Int))
  (S_ret1 (eL (by decide) : (0 : Int32) = Int32.ofInt (0 : Int)) h_w f_w)
  (S_AR h_w hv1 (c := 2) (k := 4) (off := 5) ay2_4 (fun t12' ht12 =>
    (S_AR h_w hv1 (c := 2) (k := 5) (off := 6) ay2_5 (fun t16' ht16 =>
    (S_Ld h_w ht16 (c := 2) (k := 5) dy2_5 (by decide) hv3 (fun t20 t20' ht20 =>
    (S_Ld h_w ht12 (c := 2) (k := 4) dy2_4 (by decide) ht20 (fun t21 t21' ht21 =>
    (S_AR h_w rfl (c := 3) (k := 5) (off := 6) ay3_5 (fun t29' ht29 =>
    (S_Ld h_w ht29 (c := 3) (k := 5) dy3_5 (by decide) hv3 (fun t33 t33' ht33 =>
    (S_O h_w rfl (fun a36 ea36 =>
    (S_C1 (rX3_nextOfPeriod hC hF hv2 ht21 (eAdd ht33 (eL (by decide) : (1 : Int32) = Int32.ofInt (1 : Int))) h_w) f_w (fun q36_1 q36_2 q36_1' q36_2' hq36 h_q36_2 f_q36_2 =>
    (R_Lt hq36 (eL (by decide) : (0 : Int32) = Int32.ofInt (0 : Int))
    (S_AR h_q36_2 rfl (c := 3) (k := 5) (off := 6) ay3_5 (fun t57' ht57 =>
      (S_O h_q36_2 rfl (fun a66 ea66 =>
      (S_C1 (rX3_nextOfPeriod hC hF hv2 ht21 (eL (by decide) : (0 : Int32) = Int32.ofInt (0 : Int)) h_q36_2) f_q36_2 (fun q66_1 q66_2 q66_1' q66_2' hq66 h_q66_2 f_q66_2 =>
      (S_St h_q66_2 f_q66_2 hC ht57 (c := 3) (k := 5) dy3_5 (by decide) hv3 hq66 (fun w69 w69' h_w69 f_w69 =>
      (hr _ _ _ _ _ _ _ _ _ hv1 hv2 (eAdd hv3 (eL (by decide) : (-1 : Int32) = Int32.ofInt (-1 : Int))) h_w69 f_w69)))))))))
    (hk46 _ _ _ _ _ _ _ hv3 hq36 h_q36_2 f_q36_2)))))))))))))))))))
set_option maxRecDepth 100000 in
theorem rX3_stepGiven_l7 {F : Nat} {C : yC} {w0 : gW} {k46 : Nat → Int → Int → zO → Option (Int × zO)} {k46' : Nat → Int32 → Int32 → gW → Option (Int32 × gW)} (hC : oSep C) (hF : fF F) (hk46 : ∀ (a1 : Nat) (a2 : Int) (a3 : Int) (Z : zO) (b2 : Int32) (b3 : Int32) (w : gW), b2 = Int32.ofInt a2 → b3 = Int32.ofInt a3 → oRep C Z w → oFr C w0 w → zR (Y1 C w0) (k46 a1 a2 a3 Z) (k46' a1 b2 b3 w)) : ∀ (n : Nat) (v0 : Nat) (v1 : Option Nat) (v2 : Option Nat) (v3 : Int) (w : zO) (v1' : (Option Nat)) (v2' : (Option Nat)) (v3' : Int32) (w' : gW), v1' = v1 → v2' = v2 → v3' = Int32.ofInt v3 → oRep C w w' → oFr C w0 w' → zR (Y1 C w0) (zX3_stepGiven_l7 F C k46 n v0 v1 v2 v3 w) (mX3_stepGiven_l7 F k46' n v0 v1' v2' v3' w') := by
  intro n
  induction n with
  | zero => intros; exact R_none
  | succ n ih =>
    intro v0 v1 v2 v3 w v1' v2' v3' w' hv1 hv2 hv3 h_w f_w
    exact rX3_stepGiven_h7 hC hF ih hk46 hv1 hv2 hv3 h_w f_w
set_option maxRecDepth 100000 in
theorem rX3_stepGiven {F : Nat} {C : yC} {v0 : Nat} {v1 : Option Nat} {v1' : Option Nat} {v2 : Option Nat} {v2' : Option Nat} {w : zO} {w' : gW} (hC : oSep C) (hF : fF F) (hv1 : v1' = v1) (hv2 : v2' = v2) (h_w : oRep C w w') : zR (Y1 C w') (zX3_stepGiven F C v0 v1 v2 w) (mX3_stepGiven F v0 v1' v2' w') := by
  have f_w : oFr C w' w' := oFr.rf
  unfold zX3_stepGiven mX3_stepGiven
  exact (S_FI h_w rfl (c := 3) (k := 7) iy3_7 (fun t1 t1' ht1 =>
  (rX3_stepGiven_l7 hC hF (by exact (fun v0 v3 v5 w v3' v5' w' hv3 hv5 h_w f_w =>
    (S_AR h_w rfl (c := 3) (k := 5) (off := 6) ay3_5 (fun t47' ht47 =>
    (S_St h_w f_w hC ht47 (c := 3) (k := 5) dy3_5 (by decide) hv3 hv5 (fun w53 w53' h_w53 f_w53 =>
    (S_ret1 (eL (by decide) : (1 : Int32) = Int32.ofInt (1 : Int)) h_w53 f_w53))))))) F _ _ _ _ _ _ _ _ _ hv1 hv2 (eSub ht1 (eL (by decide) : (1 : Int32) = Int32.ofInt (1 : Int))) h_w f_w)))
set_option maxRecDepth 100000 in
theorem rX4_renew {F : Nat} {C : yC} {v0 : Nat} {v1 : Int} {v1' : Int32} {v2 : Int} {v2' : Int32} {w : zO} {w' : gW} (hC : oSep C) (hF : fF F) (hv1 : v1' = Int32.ofInt v1) (hv2 : v2' = Int32.ofInt v2) (h_w : oRep C w w') : zR (Y0 C w') (zX4_renew F C v0 v1 v2 w) (mX4_renew F v0 v1' v2' w') := by
  have f_w : oFr C w' w' := oFr.rf
  unfold zX4_renew mX4_renew
  exact (S_PI h_w f_w hC rfl (c := 4) (k := 1) iy4_1 hv1 (fun w2 w2' h_w2 f_w2 =>
  (S_PI h_w2 f_w2 hC rfl (c := 4) (k := 2) iy4_2 hv2 (fun w7 w7' h_w7 f_w7 =>
  (S_AR h_w7 rfl (c := 4) (k := 0) (off := 1) ay4_0 (fun t11' ht11 =>
  (S_Fill h_w7 f_w7 hC ht11 (c := 4) (k := 0) dy4_0 (by decide) (eL (by decide) : (0 : Int32) = Int32.ofInt (0 : Int)) (fun q15 q15' h_q15 f_q15 =>
  (S_ret0 h_q15 f_q15)) hF)))))))
set_option maxRecDepth 100000 in
theorem rX5_writeBound_h95 {F : Nat} {C : yC} {E : zO → gW → Prop} {w0 : gW} {r : Nat → Option Nat → Int → Int → Int → Int → Int → zO → Option zO} {r' : Nat → (Option Nat) → Int32 → Int32 → Int32 → Int32 → Int32 → gW → Option (gW)} {k143 : Nat → Option Nat → Int → Int → Int → Int → zO → Option zO} {k143' : Nat → (Option Nat) → Int32 → Int32 → Int32 → Int32 → gW → Option (gW)} {v0 : Nat} {v1 : Option Nat} {v1' : Option Nat} {v2 : Int} {v2' : Int32} {v3 : Int} {v3' : Int32} {v4 : Int} {v4' : Int32} {v5 : Int} {v5' : Int32} {v7 : Int} {v7' : Int32} {w : zO} {w' : gW} (hC : oSep C) (hF : fF F) (hr : ∀ (a1 : Nat) (a2 : Option Nat) (a3 : Int) (a4 : Int) (a5 : Int) (a6 : Int) (a7 : Int) (Z : zO) (b2 : (Option Nat)) (b3 : Int32) (b4 : Int32) (b5 : Int32) (b6 : Int32) (b7 : Int32) (w : gW), b2 = a2 → b3 = Int32.ofInt a3 → b4 = Int32.ofInt a4 → b5 = Int32.ofInt a5 → b6 = Int32.ofInt a6 → b7 = Int32.ofInt a7 → oRep C Z w → oFr C w0 w → zR E (r a1 a2 a3 a4 a5 a6 a7 Z) (r' a1 b2 b3 b4 b5 b6 b7 w)) (hk143 : ∀ (a1 : Nat) (a2 : Option Nat) (a3 : Int) (a4 : Int) (a5 : Int) (a6 : Int) (Z : zO) (b2 : (Option Nat)) (b3 : Int32) (b4 : Int32) (b5 : Int32) (b6 : Int32) (w : gW), b2 = a2 → b3 = Int32.ofInt a3 → b4 = Int32.ofInt a4 → b5 = Int32.ofInt a5 → b6 = Int32.ofInt a6 → oRep C Z w → oFr C w0 w → zR E (k143 a1 a2 a3 a4 a5 a6 Z) (k143' a1 b2 b3 b4 b5 b6 w)) (hv1 : v1' = v1) (hv2 : v2' = Int32.ofInt v2) (hv3 : v3' = Int32.ofInt v3) (hv4 : v4' = Int32.ofInt v4) (hv5 : v5' = Int32.ofInt v5) (hv7 : v7' = Int32.ofInt v7) (h_w : oRep C w w') (f_w : oFr C w0 w') : zR E (zX5_writeBound_h95 F C r k143 v0 v1 v2 v3 v4 v5 v7 w) (mX5_writeBound_h95 F r' k143' v0 v1' v2' v3' v4' v5' v7' w') := by
  unfold zX5_writeBound_h95 mX5_writeBound_h95
  exact (S_FI h_w hv1 (c := 0) (k := 4) iy0_4 (fun t98 t98' ht98 =>
  (R_Le ht98 hv7
  (hk143 _ _ _ _ _ _ _ _ _ _ _ _ _ hv1 hv2 hv3 hv4 hv5 h_w f_w)
  (R_Eq hv5 hv2
    (S_AR h_w rfl (c := 5) (k := 0) (off := 1) ay5_0 (fun t111' ht111 =>
      (S_O h_w hv1 (fun a121 ea121 =>
      (S_C1 (rX0_place hC hF hv4 hv5 hv7 h_w) f_w (fun q121_1 q121_2 q121_1' q121_2' hq121 h_q121_2 f_q121_2 =>
      (S_Ld h_q121_2 ht111 (c := 5) (k := 0) dy5_0 (by decide) hq121 (fun t125 t125' ht125 =>
      (S_O h_q121_2 hv1 (fun a132 ea132 =>
      (S_C1 (rX0_entry hC hF hv4 hv7 hv3 h_q121_2) f_q121_2 (fun q132_1 q132_2 q132_1' q132_2' hq132 h_q132_2 f_q132_2 =>
      (S_St h_q132_2 f_q132_2 hC ht111 (c := 5) (k := 0) dy5_0 (by decide) hq121 (eAdd ht125 hq132) (fun w136 w136' h_w136 f_w136 =>
      (hr _ _ _ _ _ _ _ _ _ _ _ _ _ _ _ hv1 hv2 hv3 hv4 hv5 (eAdd hv7 (eL (by decide) : (1 : Int32) = Int32.ofInt (1 : Int))) h_w136 f_w136)))))))))))))))
    (hk143 _ _ _ _ _ _ _ _ _ _ _ _ _ hv1 hv2 hv3 hv4 hv5 h_w f_w)))))
set_option maxRecDepth 100000 in
theorem rX5_writeBound_l95 {F : Nat} {C : yC} {E : zO → gW → Prop} {w0 : gW} {k143 : Nat → Option Nat → Int → Int → Int → Int → zO → Option zO} {k143' : Nat → (Option Nat) → Int32 → Int32 → Int32 → Int32 → gW → Option (gW)} (hC : oSep C) (hF : fF F) (hk143 : ∀ (a1 : Nat) (a2 : Option Nat) (a3 : Int) (a4 : Int) (a5 : Int) (a6 : Int) (Z : zO) (b2 : (Option Nat)) (b3 : Int32) (b4 : Int32) (b5 : Int32) (b6 : Int32) (w : gW), b2 = a2 → b3 = Int32.ofInt a3 → b4 = Int32.ofInt a4 → b5 = Int32.ofInt a5 → b6 = Int32.ofInt a6 → oRep C Z w → oFr C w0 w → zR E (k143 a1 a2 a3 a4 a5 a6 Z) (k143' a1 b2 b3 b4 b5 b6 w)) : ∀ (n : Nat) (v0 : Nat) (v1 : Option Nat) (v2 : Int) (v3 : Int) (v4 : Int) (v5 : Int) (v7 : Int) (w : zO) (v1' : (Option Nat)) (v2' : Int32) (v3' : Int32) (v4' : Int32) (v5' : Int32) (v7' : Int32) (w' : gW), v1' = v1 → v2' = Int32.ofInt v2 → v3' = Int32.ofInt v3 → v4' = Int32.ofInt v4 → v5' = Int32.ofInt v5 → v7' = Int32.ofInt v7 → oRep C w w' → oFr C w0 w' → zR E (zX5_writeBound_l95 F C k143 n v0 v1 v2 v3 v4 v5 v7 w) (mX5_writeBound_l95 F k143' n v0 v1' v2' v3' v4' v5' v7' w') := by
  intro n
  induction n with
  | zero => intros; exact R_none
  | succ n ih =>
    intro v0 v1 v2 v3 v4 v5 v7 w v1' v2' v3' v4' v5' v7' w' hv1 hv2 hv3 hv4 hv5 hv7 h_w f_w
    exact rX5_writeBound_h95 hC hF ih hk143 hv1 hv2 hv3 hv4 hv5 hv7 h_w f_w
set_option maxRecDepth 100000 in
theorem rX5_writeBound_b143 {F : Nat} {C : yC} {E : zO → gW → Prop} {w0 : gW} {r : Nat → Option Nat → Int → Int → Int → Int → zO → Option zO} {r' : Nat → (Option Nat) → Int32 → Int32 → Int32 → Int32 → gW → Option (gW)} {k149 : Nat → Option Nat → Int → Int → Int → zO → Option zO} {k149' : Nat → (Option Nat) → Int32 → Int32 → Int32 → gW → Option (gW)} {v0 : Nat} {v1 : Option Nat} {v1' : Option Nat} {v2 : Int} {v2' : Int32} {v3 : Int} {v3' : Int32} {v4 : Int} {v4' : Int32} {v5 : Int} {v5' : Int32} {w : zO} {w' : gW} (hC : oSep C) (hF : fF F) (hr : ∀ (a1 : Nat) (a2 : Option Nat) (a3 : Int) (a4 : Int) (a5 : Int) (a6 : Int) (Z : zO) (b2 : (Option Nat)) (b3 : Int32) (b4 : Int32) (b5 : Int32) (b6 : Int32) (w : gW), b2 = a2 → b3 = Int32.ofInt a3 → b4 = Int32.ofInt a4 → b5 = Int32.ofInt a5 → b6 = Int32.ofInt a6 → oRep C Z w → oFr C w0 w → zR E (r a1 a2 a3 a4 a5 a6 Z) (r' a1 b2 b3 b4 b5 b6 w)) (hk149 : ∀ (a1 : Nat) (a2 : Option Nat) (a3 : Int) (a4 : Int) (a5 : Int) (Z : zO) (b2 : (Option Nat)) (b3 : Int32) (b4 : Int32) (b5 : Int32) (w : gW), b2 = a2 → b3 = Int32.ofInt a3 → b4 = Int32.ofInt a4 → b5 = Int32.ofInt a5 → oRep C Z w → oFr C w0 w → zR E (k149 a1 a2 a3 a4 a5 Z) (k149' a1 b2 b3 b4 b5 w)) (hv1 : v1' = v1) (hv2 : v2' = Int32.ofInt v2) (hv3 : v3' = Int32.ofInt v3) (hv4 : v4' = Int32.ofInt v4) (hv5 : v5' = Int32.ofInt v5) (h_w : oRep C w w') (f_w : oFr C w0 w') : zR E (zX5_writeBound_b143 F C r k149 v0 v1 v2 v3 v4 v5 w) (mX5_writeBound_b143 F r' k149' v0 v1' v2' v3' v4' v5' w') := by
  unfold zX5_writeBound_b143 mX5_writeBound_b143
  exact (hr _ _ _ _ _ _ _ _ _ _ _ _ _ hv1 hv2 hv3 hv4 (eAdd hv5 (eL (by decide) : (1 : Int32) = Int32.ofInt (1 : Int))) h_w f_w)
set_option maxRecDepth 100000 in
theorem rX5_writeBound_b92 {F : Nat} {C : yC} {E : zO → gW → Prop} {w0 : gW} {r : Nat → Option Nat → Int → Int → Int → Int → zO → Option zO} {r' : Nat → (Option Nat) → Int32 → Int32 → Int32 → Int32 → gW → Option (gW)} {k149 : Nat → Option Nat → Int → Int → Int → zO → Option zO} {k149' : Nat → (Option Nat) → Int32 → Int32 → Int32 → gW → Option (gW)} {v0 : Nat} {v1 : Option Nat} {v1' : Option Nat} {v2 : Int} {v2' : Int32} {v3 : Int} {v3' : Int32} {v4 : Int} {v4' : Int32} {v5 : Int} {v5' : Int32} {w : zO} {w' : gW} (hC : oSep C) (hF : fF F) (hr : ∀ (a1 : Nat) (a2 : Option Nat) (a3 : Int) (a4 : Int) (a5 : Int) (a6 : Int) (Z : zO) (b2 : (Option Nat)) (b3 : Int32) (b4 : Int32) (b5 : Int32) (b6 : Int32) (w : gW), b2 = a2 → b3 = Int32.ofInt a3 → b4 = Int32.ofInt a4 → b5 = Int32.ofInt a5 → b6 = Int32.ofInt a6 → oRep C Z w → oFr C w0 w → zR E (r a1 a2 a3 a4 a5 a6 Z) (r' a1 b2 b3 b4 b5 b6 w)) (hk149 : ∀ (a1 : Nat) (a2 : Option Nat) (a3 : Int) (a4 : Int) (a5 : Int) (Z : zO) (b2 : (Option Nat)) (b3 : Int32) (b4 : Int32) (b5 : Int32) (w : gW), b2 = a2 → b3 = Int32.ofInt a3 → b4 = Int32.ofInt a4 → b5 = Int32.ofInt a5 → oRep C Z w → oFr C w0 w → zR E (k149 a1 a2 a3 a4 a5 Z) (k149' a1 b2 b3 b4 b5 w)) (hv1 : v1' = v1) (hv2 : v2' = Int32.ofInt v2) (hv3 : v3' = Int32.ofInt v3) (hv4 : v4' = Int32.ofInt v4) (hv5 : v5' = Int32.ofInt v5) (h_w : oRep C w w') (f_w : oFr C w0 w') : zR E (zX5_writeBound_b92 F C r k149 v0 v1 v2 v3 v4 v5 w) (mX5_writeBound_b92 F r' k149' v0 v1' v2' v3' v4' v5' w') := by
  unfold zX5_writeBound_b92 mX5_writeBound_b92
  exact (rX5_writeBound_l95 hC hF (by exact (fun v0 v1 v2 v3 v4 v5 w v1' v2' v3' v4' v5' w' hv1 hv2 hv3 hv4 hv5 h_w f_w =>
    (rX5_writeBound_b143 hC hF hr hk149 hv1 hv2 hv3 hv4 hv5 h_w f_w))) F _ _ _ _ _ _ _ _ _ _ _ _ _ _ _ hv1 hv2 hv3 hv4 hv5 (eL (by decide) : (0 : Int32) = Int32.ofInt (0 : Int)) h_w f_w)
set_option maxRecDepth 100000 in
theorem rX5_writeBound_b66 {F : Nat} {C : yC} {E : zO → gW → Prop} {w0 : gW} {r : Nat → Option Nat → Int → Int → Int → Int → zO → Option zO} {r' : Nat → (Option Nat) → Int32 → Int32 → Int32 → Int32 → gW → Option (gW)} {k149 : Nat → Option Nat → Int → Int → Int → zO → Option zO} {k149' : Nat → (Option Nat) → Int32 → Int32 → Int32 → gW → Option (gW)} {v0 : Nat} {v1 : Option Nat} {v1' : Option Nat} {v2 : Int} {v2' : Int32} {v3 : Int} {v3' : Int32} {v4 : Int} {v4' : Int32} {v5 : Int} {v5' : Int32} {v6 : Int} {v6' : Int32} {w : zO} {w' : gW} (hC : oSep C) (hF : fF F) (hr : ∀ (a1 : Nat) (a2 : Option Nat) (a3 : Int) (a4 : Int) (a5 : Int) (a6 : Int) (Z : zO) (b2 : (Option Nat)) (b3 : Int32) (b4 : Int32) (b5 : Int32) (b6 : Int32) (w : gW), b2 = a2 → b3 = Int32.ofInt a3 → b4 = Int32.ofInt a4 → b5 = Int32.ofInt a5 → b6 = Int32.ofInt a6 → oRep C Z w → oFr C w0 w → zR E (r a1 a2 a3 a4 a5 a6 Z) (r' a1 b2 b3 b4 b5 b6 w)) (hk149 : ∀ (a1 : Nat) (a2 : Option Nat) (a3 : Int) (a4 : Int) (a5 : Int) (Z : zO) (b2 : (Option Nat)) (b3 : Int32) (b4 : Int32) (b5 : Int32) (w : gW), b2 = a2 → b3 = Int32.ofInt a3 → b4 = Int32.ofInt a4 → b5 = Int32.ofInt a5 → oRep C Z w → oFr C w0 w → zR E (k149 a1 a2 a3 a4 a5 Z) (k149' a1 b2 b3 b4 b5 w)) (hv1 : v1' = v1) (hv2 : v2' = Int32.ofInt v2) (hv3 : v3' = Int32.ofInt v3) (hv4 : v4' = Int32.ofInt v4) (hv5 : v5' = Int32.ofInt v5) (hv6 : v6' = Int32.ofInt v6) (h_w : oRep C w w') (f_w : oFr C w0 w') : zR E (zX5_writeBound_b66 F C r k149 v0 v1 v2 v3 v4 v5 v6 w) (mX5_writeBound_b66 F r' k149' v0 v1' v2' v3' v4' v5' v6' w') := by
  unfold zX5_writeBound_b66 mX5_writeBound_b66
  exact (S_FR h_w hv1 (c := 0) (k := 2) ry0_2 (fun t67 t67' ht67 =>
  (S_O h_w ht67 (fun a74 ea74 =>
  (S_C1 (rX2_mul hC hF hv4 hv5 h_w) f_w (fun q74_1 q74_2 q74_1' q74_2' hq74 h_q74_2 f_q74_2 =>
  (R_Eq hq74 hv2
  (S_AR h_q74_2 rfl (c := 5) (k := 0) (off := 1) ay5_0 (fun t82' ht82 =>
    (S_Ld h_q74_2 ht82 (c := 5) (k := 0) dy5_0 (by decide) hv6 (fun t88 t88' ht88 =>
    (S_St h_q74_2 f_q74_2 hC ht82 (c := 5) (k := 0) dy5_0 (by decide) hv6 (eSub ht88 (eL (by decide) : (1 : Int32) = Int32.ofInt (1 : Int))) (fun w91 w91' h_w91 f_w91 =>
    (rX5_writeBound_b92 hC hF hr hk149 hv1 hv2 hv3 hv4 hv5 h_w91 f_w91)))))))
  (rX5_writeBound_b92 hC hF hr hk149 hv1 hv2 hv3 hv4 hv5 h_q74_2 f_q74_2))))))))
set_option maxRecDepth 100000 in
theorem rX5_writeBound_h26 {F : Nat} {C : yC} {E : zO → gW → Prop} {w0 : gW} {r : Nat → Option Nat → Int → Int → Int → Int → zO → Option zO} {r' : Nat → (Option Nat) → Int32 → Int32 → Int32 → Int32 → gW → Option (gW)} {k149 : Nat → Option Nat → Int → Int → Int → zO → Option zO} {k149' : Nat → (Option Nat) → Int32 → Int32 → Int32 → gW → Option (gW)} {v0 : Nat} {v1 : Option Nat} {v1' : Option Nat} {v2 : Int} {v2' : Int32} {v3 : Int} {v3' : Int32} {v4 : Int} {v4' : Int32} {v5 : Int} {v5' : Int32} {w : zO} {w' : gW} (hC : oSep C) (hF : fF F) (hr : ∀ (a1 : Nat) (a2 : Option Nat) (a3 : Int) (a4 : Int) (a5 : Int) (a6 : Int) (Z : zO) (b2 : (Option Nat)) (b3 : Int32) (b4 : Int32) (b5 : Int32) (b6 : Int32) (w : gW), b2 = a2 → b3 = Int32.ofInt a3 → b4 = Int32.ofInt a4 → b5 = Int32.ofInt a5 → b6 = Int32.ofInt a6 → oRep C Z w → oFr C w0 w → zR E (r a1 a2 a3 a4 a5 a6 Z) (r' a1 b2 b3 b4 b5 b6 w)) (hk149 : ∀ (a1 : Nat) (a2 : Option Nat) (a3 : Int) (a4 : Int) (a5 : Int) (Z : zO) (b2 : (Option Nat)) (b3 : Int32) (b4 : Int32) (b5 : Int32) (w : gW), b2 = a2 → b3 = Int32.ofInt a3 → b4 = Int32.ofInt a4 → b5 = Int32.ofInt a5 → oRep C Z w → oFr C w0 w → zR E (k149 a1 a2 a3 a4 a5 Z) (k149' a1 b2 b3 b4 b5 w)) (hv1 : v1' = v1) (hv2 : v2' = Int32.ofInt v2) (hv3 : v3' = Int32.ofInt v3) (hv4 : v4' = Int32.ofInt v4) (hv5 : v5' = Int32.ofInt v5) (h_w : oRep C w w') (f_w : oFr C w0 w') : zR E (zX5_writeBound_h26 F C r k149 v0 v1 v2 v3 v4 v5 w) (mX5_writeBound_h26 F r' k149' v0 v1' v2' v3' v4' v5' w') := by
  unfold zX5_writeBound_h26 mX5_writeBound_h26
  exact (S_FR h_w hv1 (c := 0) (k := 2) ry0_2 (fun t29 t29' ht29 =>
  (S_FI h_w ht29 (c := 2) (k := 7) iy2_7 (fun t32 t32' ht32 =>
  (R_Le ht32 hv5
  (hk149 _ _ _ _ _ _ _ _ _ _ _ hv1 hv2 hv3 hv4 h_w f_w)
  (S_O h_w hv1 (fun a44 ea44 =>
    (S_C1 (rX0_place hC hF hv4 hv5 hv3 h_w) f_w (fun q44_1 q44_2 q44_1' q44_2' hq44 h_q44_2 f_q44_2 =>
    (R_Eq hv4 hv2
    (S_AR h_q44_2 rfl (c := 5) (k := 0) (off := 1) ay5_0 (fun t56' ht56 =>
      (S_Ld h_q44_2 ht56 (c := 5) (k := 0) dy5_0 (by decide) hq44 (fun t62 t62' ht62 =>
      (S_St h_q44_2 f_q44_2 hC ht56 (c := 5) (k := 0) dy5_0 (by decide) hq44 (eAdd ht62 (eL (by decide) : (1 : Int32) = Int32.ofInt (1 : Int))) (fun w65 w65' h_w65 f_w65 =>
      (rX5_writeBound_b66 hC hF hr hk149 hv1 hv2 hv3 hv4 hv5 hq44 h_w65 f_w65)))))))
    (rX5_writeBound_b66 hC hF hr hk149 hv1 hv2 hv3 hv4 hv5 hq44 h_q44_2 f_q44_2)))))))))))
set_option maxRecDepth 100000 in
theorem rX5_writeBound_l26 {F : Nat} {C : yC} {E : zO → gW → Prop} {w0 : gW} {k149 : Nat → Option Nat → Int → Int → Int → zO → Option zO} {k149' : Nat → (Option Nat) → Int32 → Int32 → Int32 → gW → Option (gW)} (hC : oSep C) (hF : fF F) (hk149 : ∀ (a1 : Nat) (a2 : Option Nat) (a3 : Int) (a4 : Int) (a5 : Int) (Z : zO) (b2 : (Option Nat)) (b3 : Int32) (b4 : Int32) (b5 : Int32) (w : gW), b2 = a2 → b3 = Int32.ofInt a3 → b4 = Int32.ofInt a4 → b5 = Int32.ofInt a5 → oRep C Z w → oFr C w0 w → zR E (k149 a1 a2 a3 a4 a5 Z) (k149' a1 b2 b3 b4 b5 w)) : ∀ (n : Nat) (v0 : Nat) (v1 : Option Nat) (v2 : Int) (v3 : Int) (v4 : Int) (v5 : Int) (w : zO) (v1' : (Option Nat)) (v2' : Int32) (v3' : Int32) (v4' : Int32) (v5' : Int32) (w' : gW), v1' = v1 → v2' = Int32.ofInt v2 → v3' = Int32.ofInt v3 → v4' = Int32.ofInt v4 → v5' = Int32.ofInt v5 → oRep C w w' → oFr C w0 w' → zR E (zX5_writeBound_l26 F C k149 n v0 v1 v2 v3 v4 v5 w) (mX5_writeBound_l26 F k149' n v0 v1' v2' v3' v4' v5' w') := by
  intro n
  induction n with
  | zero => intros; exact R_none
  | succ n ih =>
    intro v0 v1 v2 v3 v4 v5 w v1' v2' v3' v4' v5' w' hv1 hv2 hv3 hv4 hv5 h_w f_w
    exact rX5_writeBound_h26 hC hF ih hk149 hv1 hv2 hv3 hv4 hv5 h_w f_w
set_option maxRecDepth 100000 in
theorem rX5_writeBound_h11 {F : Nat} {C : yC} {w0 : gW} {r : Nat → Option Nat → Int → Int → Int → zO → Option zO} {r' : Nat → (Option Nat) → Int32 → Int32 → Int32 → gW → Option (gW)} {v0 : Nat} {v1 : Option Nat} {v1' : Option Nat} {v2 : Int} {v2' : Int32} {v3 : Int} {v3' : Int32} {v4 : Int} {v4' : Int32} {w : zO} {w' : gW} (hC : oSep C) (hF : fF F) (hr : ∀ (a1 : Nat) (a2 : Option Nat) (a3 : Int) (a4 : Int) (a5 : Int) (Z : zO) (b2 : (Option Nat)) (b3 : Int32) (b4 : Int32) (b5 : Int32) (w : gW), b2 = a2 → b3 = Int32.ofInt a3 → b4 = Int32.ofInt a4 → b5 = Int32.ofInt a5 → oRep C Z w → oFr C w0 w → zR (Y0 C w0) (r a1 a2 a3 a4 a5 Z) (r' a1 b2 b3 b4 b5 w)) (hv1 : v1' = v1) (hv2 : v2' = Int32.ofInt v2) (hv3 : v3' = Int32.ofInt v3) (hv4 : v4' = Int32.ofInt v4) (h_w : oRep C w w') (f_w : oFr C w0 w') : zR (Y0 C w0) (zX5_writeBound_h11 F C r v0 v1 v2 v3 v4 w) (mX5_writeBound_h11 F r' v0 v1' v2' v3' v4' w') := by
  unfold zX5_writeBound_h11 mX5_writeBound_h11
  exact (S_FR h_w hv1 (c := 0) (k := 2) ry0_2 (fun t14 t14' ht14 =>
  (S_FI h_w ht14 (c := 2) (k := 7) iy2_7 (fun t17 t17' ht17 =>
  (R_Le ht17 hv4
  (S_ret0 h_w f_w)
  (rX5_writeBound_l26 hC hF (by exact (fun v0 v1 v2 v3 v4 w v1' v2' v3' v4' w' hv1 hv2 hv3 hv4 h_w f_w =>
      (hr _ _ _ _ _ _ _ _ _ _ _ hv1 hv2 hv3 (eAdd hv4 (eL (by decide) : (1 : Int32) = Int32.ofInt (1 : Int))) h_w f_w))) F _ _ _ _ _ _ _ _ _ _ _ _ _ hv1 hv2 hv3 hv4 (eL (by decide) : (1 : Int32) = Int32.ofInt (1 : Int)) h_w f_w))))))
set_option maxRecDepth 100000 in
theorem rX5_writeBound_l11 {F : Nat} {C : yC} {w0 : gW}  (hC : oSep C) (hF : fF F)  : ∀ (n : Nat) (v0 : Nat) (v1 : Option Nat) (v2 : Int) (v3 : Int) (v4 : Int) (w : zO) (v1' : (Option Nat)) (v2' : Int32) (v3' : Int32) (v4' : Int32) (w' : gW), v1' = v1 → v2' = Int32.ofInt v2 → v3' = Int32.ofInt v3 → v4' = Int32.ofInt v4 → oRep C w w' → oFr C w0 w' → zR (Y0 C w0) (zX5_writeBound_l11 F C  n v0 v1 v2 v3 v4 w) (mX5_writeBound_l11 F  n v0 v1' v2' v3' v4' w') := by
  intro n
  induction n with
  | zero => intros; exact R_none
  | succ n ih =>
    intro v0 v1 v2 v3 v4 w v1' v2' v3' v4' w' hv1 hv2 hv3 hv4 h_w f_w
    exact rX5_writeBound_h11 hC hF ih  hv1 hv2 hv3 hv4 h_w f_w
set_option maxRecDepth 100000 in
theorem rX5_writeBound {F : Nat} {C : yC} {v0 : Nat} {v1 : Option Nat} {v1' : Option Nat} {v2 : Int} {v2' : Int32} {v3 : Int} {v3' : Int32} {w : zO} {w' : gW} (hC : oSep C) (hF : fF F) (hv1 : v1' = v1) (hv2 : v2' = Int32.ofInt v2) (hv3 : v3' = Int32.ofInt v3) (h_w : oRep C w w') : zR (Y0 C w') (zX5_writeBound F C v0 v1 v2 v3 w) (mX5_writeBound F v0 v1' v2' v3' w') := by
  have f_w : oFr C w' w' := oFr.rf
  unfold zX5_writeBound mX5_writeBound
  exact (S_AR h_w rfl (c := 5) (k := 0) (off := 1) ay5_0 (fun t1' ht1 =>
  (S_Fill h_w f_w hC ht1 (c := 5) (k := 0) dy5_0 (by decide) (eL (by decide) : (0 : Int32) = Int32.ofInt (0 : Int)) (fun q5 q5' h_q5 f_q5 =>
  (rX5_writeBound_l11 hC hF F _ _ _ _ _ _ _ _ _ _ _ hv1 hv2 hv3 (eL (by decide) : (1 : Int32) = Int32.ofInt (1 : Int)) h_q5 f_q5)) hF)))
set_option maxRecDepth 100000 in
theorem rX5_writeCocycleRule_h42 {F : Nat} {C : yC} {E : zO → gW → Prop} {w0 : gW} {r : Nat → Option Nat → Int → Int → Int → Int → Int → Int → Int → Int → zO → Option zO} {r' : Nat → (Option Nat) → Int32 → Int32 → Int32 → Int32 → Int32 → Int32 → Int32 → Int32 → gW → Option (gW)} {k86 : Nat → Option Nat → Int → Int → Int → Int → Int → Int → Int → zO → Option zO} {k86' : Nat → (Option Nat) → Int32 → Int32 → Int32 → Int32 → Int32 → Int32 → Int32 → gW → Option (gW)} {v0 : Nat} {v1 : Option Nat} {v1' : Option Nat} {v2 : Int} {v2' : Int32} {v3 : Int} {v3' : Int32} {v4 : Int} {v4' : Int32} {v5 : Int} {v5' : Int32} {v6 : Int} {v6' : Int32} {v7 : Int} {v7' : Int32} {v8 : Int} {v8' : Int32} {v9 : Int} {v9' : Int32} {w : zO} {w' : gW} (hC : oSep C) (hF : fF F) (hr : ∀ (a1 : Nat) (a2 : Option Nat) (a3 : Int) (a4 : Int) (a5 : Int) (a6 : Int) (a7 : Int) (a8 : Int) (a9 : Int) (a10 : Int) (Z : zO) (b2 : (Option Nat)) (b3 : Int32) (b4 : Int32) (b5 : Int32) (b6 : Int32) (b7 : Int32) (b8 : Int32) (b9 : Int32) (b10 : Int32) (w : gW), b2 = a2 → b3 = Int32.ofInt a3 → b4 = Int32.ofInt a4 → b5 = Int32.ofInt a5 → b6 = Int32.ofInt a6 → b7 = Int32.ofInt a7 → b8 = Int32.ofInt a8 → b9 = Int32.ofInt a9 → b10 = Int32.ofInt a10 → oRep C Z w → oFr C w0 w → zR E (r a1 a2 a3 a4 a5 a6 a7 a8 a9 a10 Z) (r' a1 b2 b3 b4 b5 b6 b7 b8 b9 b10 w)) (hk86 : ∀ (a1 : Nat) (a2 : Option Nat) (a3 : Int) (a4 : Int) (a5 : Int) (a6 : Int) (a7 : Int) (a8 : Int) (a9 : Int) (Z : zO) (b2 : (Option Nat)) (b3 : Int32) (b4 : Int32) (b5 : Int32) (b6 : Int32) (b7 : Int32) (b8 : Int32) (b9 : Int32) (w : gW), b2 = a2 → b3 = Int32.ofInt a3 → b4 = Int32.ofInt a4 → b5 = Int32.ofInt a5 → b6 = Int32.ofInt a6 → b7 = Int32.ofInt a7 → b8 = Int32.ofInt a8 → b9 = Int32.ofInt a9 → oRep C Z w → oFr C w0 w → zR E (k86 a1 a2 a3 a4 a5 a6 a7 a8 a9 Z) (k86' a1 b2 b3 b4 b5 b6 b7 b8 b9 w)) (hv1 : v1' = v1) (hv2 : v2' = Int32.ofInt v2) (hv3 : v3' = Int32.ofInt v3) (hv4 : v4' = Int32.ofInt v4) (hv5 : v5' = Int32.ofInt v5) (hv6 : v6' = Int32.ofInt v6) (hv7 : v7' = Int32.ofInt v7) (hv8 : v8' = Int32.ofInt v8) (hv9 : v9' = Int32.ofInt v9) (h_w : oRep C w w') (f_w : oFr C w0 w') : zR E (zX5_writeCocycleRule_h42 F C r k86 v0 v1 v2 v3 v4 v5 v6 v7 v8 v9 w) (mX5_writeCocycleRule_h42 F r' k86' v0 v1' v2' v3' v4' v5' v6' v7' v8' v9' w') := by
  unfold zX5_writeCocycleRule_h42 mX5_writeCocycleRule_h42
  exact (S_FI h_w hv1 (c := 0) (k := 4) iy0_4 (fun t45 t45' ht45 =>
  (R_Le ht45 hv9
  (hk86 _ _ _ _ _ _ _ _ _ _ _ _ _ _ _ _ _ _ _ hv1 hv2 hv3 hv4 hv5 hv6 hv7 hv8 h_w f_w)
  (S_AR h_w rfl (c := 5) (k := 0) (off := 1) ay5_0 (fun t52' ht52 =>
    (S_O h_w hv1 (fun a63 ea63 =>
    (S_C1 (rX0_place hC hF hv3 hv4 hv9 h_w) f_w (fun q63_1 q63_2 q63_1' q63_2' hq63 h_q63_2 f_q63_2 =>
    (S_Ld h_q63_2 ht52 (c := 5) (k := 0) dy5_0 (by decide) (eSub hv6 hq63) (fun t68 t68' ht68 =>
    (S_O h_q63_2 hv1 (fun a75 ea75 =>
    (S_C1 (rX0_entry hC hF hv2 hv5 hv9 h_q63_2) f_q63_2 (fun q75_1 q75_2 q75_1' q75_2' hq75 h_q75_2 f_q75_2 =>
    (S_St h_q75_2 f_q75_2 hC ht52 (c := 5) (k := 0) dy5_0 (by decide) (eSub hv6 hq63) (eAdd ht68 hq75) (fun w79 w79' h_w79 f_w79 =>
    (hr _ _ _ _ _ _ _ _ _ _ _ _ _ _ _ _ _ _ _ _ _ hv1 hv2 hv3 hv4 hv5 hv6 hv7 hv8 (eAdd hv9 (eL (by decide) : (1 : Int32) = Int32.ofInt (1 : Int))) h_w79 f_w79))))))))))))))))))
set_option maxRecDepth 100000 in
theorem rX5_writeCocycleRule_l42 {F : Nat} {C : yC} {E : zO → gW → Prop} {w0 : gW} {k86 : Nat → Option Nat → Int → Int → Int → Int → Int → Int → Int → zO → Option zO} {k86' : Nat → (Option Nat) → Int32 → Int32 → Int32 → Int32 → Int32 → Int32 → Int32 → gW → Option (gW)} (hC : oSep C) (hF : fF F) (hk86 : ∀ (a1 : Nat) (a2 : Option Nat) (a3 : Int) (a4 : Int) (a5 : Int) (a6 : Int) (a7 : Int) (a8 : Int) (a9 : Int) (Z : zO) (b2 : (Option Nat)) (b3 : Int32) (b4 : Int32) (b5 : Int32) (b6 : Int32) (b7 : Int32) (b8 : Int32) (b9 : Int32) (w : gW), b2 = a2 → b3 = Int32.ofInt a3 → b4 = Int32.ofInt a4 → b5 = Int32.ofInt a5 → b6 = Int32.ofInt a6 → b7 = Int32.ofInt a7 → b8 = Int32.ofInt a8 → b9 = Int32.ofInt a9 → oRep C Z w → oFr C w0 w → zR E (k86 a1 a2 a3 a4 a5 a6 a7 a8 a9 Z) (k86' a1 b2 b3 b4 b5 b6 b7 b8 b9 w)) : ∀ (n : Nat) (v0 : Nat) (v1 : Option Nat) (v2 : Int) (v3 : Int) (v4 : Int) (v5 : Int) (v6 : Int) (v7 : Int) (v8 : Int) (v9 : Int) (w : zO) (v1' : (Option Nat)) (v2' : Int32) (v3' : Int32) (v4' : Int32) (v5' : Int32) (v6' : Int32) (v7' : Int32) (v8' : Int32) (v9' : Int32) (w' : gW), v1' = v1 → v2' = Int32.ofInt v2 → v3' = Int32.ofInt v3 → v4' = Int32.ofInt v4 → v5' = Int32.ofInt v5 → v6' = Int32.ofInt v6 → v7' = Int32.ofInt v7 → v8' = Int32.ofInt v8 → v9' = Int32.ofInt v9 → oRep C w w' → oFr C w0 w' → zR E (zX5_writeCocycleRule_l42 F C k86 n v0 v1 v2 v3 v4 v5 v6 v7 v8 v9 w) (mX5_writeCocycleRule_l42 F k86' n v0 v1' v2' v3' v4' v5' v6' v7' v8' v9' w') := by
  intro n
  induction n with
  | zero => intros; exact R_none
  | succ n ih =>
    intro v0 v1 v2 v3 v4 v5 v6 v7 v8 v9 w v1' v2' v3' v4' v5' v6' v7' v8' v9' w' hv1 hv2 hv3 hv4 hv5 hv6 hv7 hv8 hv9 h_w f_w
    exact rX5_writeCocycleRule_h42 hC hF ih hk86 hv1 hv2 hv3 hv4 hv5 hv6 hv7 hv8 hv9 h_w f_w
set_option maxRecDepth 100000 in
theorem rX5_writeCocycleRule_b139 {F : Nat} {C : yC} {w0 : gW} {v0 : Nat} {v1 : Option Nat} {v1' : Option Nat} {v2 : Int} {v2' : Int32} {v3 : Int} {v3' : Int32} {v5 : Int} {v5' : Int32} {v6 : Int} {v6' : Int32} {w : zO} {w' : gW} (hC : oSep C) (hF : fF F) (hv1 : v1' = v1) (hv2 : v2' = Int32.ofInt v2) (hv3 : v3' = Int32.ofInt v3) (hv5 : v5' = Int32.ofInt v5) (hv6 : v6' = Int32.ofInt v6) (h_w : oRep C w w') (f_w : oFr C w0 w') : zR (Y0 C w0) (zX5_writeCocycleRule_b139 F C v0 v1 v2 v3 v5 v6 w) (mX5_writeCocycleRule_b139 F v0 v1' v2' v3' v5' v6' w') := by
  unfold zX5_writeCocycleRule_b139 mX5_writeCocycleRule_b139
  exact (S_AR h_w rfl (c := 5) (k := 0) (off := 1) ay5_0 (fun t140' ht140 =>
  (S_O h_w hv1 (fun a150 ea150 =>
  (S_C1 (rX0_place hC hF hv2 hv3 hv5 h_w) f_w (fun q150_1 q150_2 q150_1' q150_2' hq150 h_q150_2 f_q150_2 =>
  (S_Ld h_q150_2 ht140 (c := 5) (k := 0) dy5_0 (by decide) (eSub hv6 hq150) (fun t155 t155' ht155 =>
  (S_St h_q150_2 f_q150_2 hC ht140 (c := 5) (k := 0) dy5_0 (by decide) (eSub hv6 hq150) (eSub ht155 (eL (by decide) : (1 : Int32) = Int32.ofInt (1 : Int))) (fun w158 w158' h_w158 f_w158 =>
  (S_ret0 h_w158 f_w158)))))))))))
set_option maxRecDepth 100000 in
theorem rX5_writeCocycleRule_b112 {F : Nat} {C : yC} {w0 : gW} {v0 : Nat} {v1 : Option Nat} {v1' : Option Nat} {v2 : Int} {v2' : Int32} {v3 : Int} {v3' : Int32} {v4 : Int} {v4' : Int32} {v5 : Int} {v5' : Int32} {v6 : Int} {v6' : Int32} {v7 : Int} {v7' : Int32} {w : zO} {w' : gW} (hC : oSep C) (hF : fF F) (hv1 : v1' = v1) (hv2 : v2' = Int32.ofInt v2) (hv3 : v3' = Int32.ofInt v3) (hv4 : v4' = Int32.ofInt v4) (hv5 : v5' = Int32.ofInt v5) (hv6 : v6' = Int32.ofInt v6) (hv7 : v7' = Int32.ofInt v7) (h_w : oRep C w w') (f_w : oFr C w0 w') : zR (Y0 C w0) (zX5_writeCocycleRule_b112 F C v0 v1 v2 v3 v4 v5 v6 v7 w) (mX5_writeCocycleRule_b112 F v0 v1' v2' v3' v4' v5' v6' v7' w') := by
  unfold zX5_writeCocycleRule_b112 mX5_writeCocycleRule_b112
  exact (R_Eq hv7 (eL (by decide) : (0 : Int32) = Int32.ofInt (0 : Int))
  (rX5_writeCocycleRule_b139 hC hF hv1 hv2 hv3 hv5 hv6 h_w f_w)
  (S_AR h_w rfl (c := 5) (k := 0) (off := 1) ay5_0 (fun t118' ht118 =>
    (S_O h_w hv1 (fun a130 ea130 =>
    (S_C1 (rX0_place hC hF hv7 hv4 hv5 h_w) f_w (fun q130_1 q130_2 q130_1' q130_2' hq130 h_q130_2 f_q130_2 =>
    (S_Ld h_q130_2 ht118 (c := 5) (k := 0) dy5_0 (by decide) (eSub hv6 hq130) (fun t135 t135' ht135 =>
    (S_St h_q130_2 f_q130_2 hC ht118 (c := 5) (k := 0) dy5_0 (by decide) (eSub hv6 hq130) (eSub ht135 (eL (by decide) : (1 : Int32) = Int32.ofInt (1 : Int))) (fun w138 w138' h_w138 f_w138 =>
    (rX5_writeCocycleRule_b139 hC hF hv1 hv2 hv3 hv5 hv6 h_w138 f_w138))))))))))))
set_option maxRecDepth 100000 in
theorem rX5_writeCocycleRule {F : Nat} {C : yC} {v0 : Nat} {v1 : Option Nat} {v1' : Option Nat} {v2 : Int} {v2' : Int32} {v3 : Int} {v3' : Int32} {v4 : Int} {v4' : Int32} {v5 : Int} {v5' : Int32} {w : zO} {w' : gW} (hC : oSep C) (hF : fF F) (hv1 : v1' = v1) (hv2 : v2' = Int32.ofInt v2) (hv3 : v3' = Int32.ofInt v3) (hv4 : v4' = Int32.ofInt v4) (hv5 : v5' = Int32.ofInt v5) (h_w : oRep C w w') : zR (Y0 C w') (zX5_writeCocycleRule F C v0 v1 v2 v3 v4 v5 w) (mX5_writeCocycleRule F v0 v1' v2' v3' v4' v5' w') := by
  have f_w : oFr C w' w' := oFr.rf
  unfold zX5_writeCocycleRule mX5_writeCocycleRule
  exact (S_O h_w hv1 (fun a1 ea1 =>
  (S_C1 (rX0_places hC hF h_w) f_w (fun q1_1 q1_2 q1_1' q1_2' hq1 h_q1_2 f_q1_2 =>
  (S_FR h_q1_2 hv1 (c := 0) (k := 2) ry0_2 (fun t9 t9' ht9 =>
  (S_O h_q1_2 ht9 (fun a14 ea14 =>
  (S_C1 (rX2_mul hC hF hv2 hv3 h_q1_2) f_q1_2 (fun q14_1 q14_2 q14_1' q14_2' hq14 h_q14_2 f_q14_2 =>
  (S_FR h_q14_2 hv1 (c := 0) (k := 2) ry0_2 (fun t20 t20' ht20 =>
  (S_O h_q14_2 ht20 (fun a26 ea26 =>
  (S_C1 (rX2_mul hC hF hv3 hv4 h_q14_2) f_q14_2 (fun q26_1 q26_2 q26_1' q26_2' hq26 h_q26_2 f_q26_2 =>
  (S_AR h_q26_2 rfl (c := 5) (k := 0) (off := 1) ay5_0 (fun t32' ht32 =>
  (S_Fill h_q26_2 f_q26_2 hC ht32 (c := 5) (k := 0) dy5_0 (by decide) (eL (by decide) : (0 : Int32) = Int32.ofInt (0 : Int)) (fun q36 q36' h_q36 f_q36 =>
  (rX5_writeCocycleRule_l42 hC hF (by exact (fun v0 v1 v2 v3 v4 v5 v6 v7 v8 w v1' v2' v3' v4' v5' v6' v7' v8' w' hv1 hv2 hv3 hv4 hv5 hv6 hv7 hv8 h_w f_w =>
    (R_Eq hv8 (eL (by decide) : (0 : Int32) = Int32.ofInt (0 : Int))
    (rX5_writeCocycleRule_b112 hC hF hv1 hv2 hv3 hv4 hv5 hv6 hv7 h_w f_w)
    (S_AR h_w rfl (c := 5) (k := 0) (off := 1) ay5_0 (fun t92' ht92 =>
      (S_O h_w hv1 (fun a103 ea103 =>
      (S_C1 (rX0_place hC hF hv2 hv8 hv5 h_w) f_w (fun q103_1 q103_2 q103_1' q103_2' hq103 h_q103_2 f_q103_2 =>
      (S_Ld h_q103_2 ht92 (c := 5) (k := 0) dy5_0 (by decide) (eSub hv6 hq103) (fun t108 t108' ht108 =>
      (S_St h_q103_2 f_q103_2 hC ht92 (c := 5) (k := 0) dy5_0 (by decide) (eSub hv6 hq103) (eAdd ht108 (eL (by decide) : (1 : Int32) = Int32.ofInt (1 : Int))) (fun w111 w111' h_w111 f_w111 =>
      (rX5_writeCocycleRule_b112 hC hF hv1 hv2 hv3 hv4 hv5 hv6 hv7 h_w111 f_w111)))))))))))))) F _ _ _ _ _ _ _ _ _ _ _ _ _ _ _ _ _ _ _ _ _ hv1 hv2 hv3 hv4 hv5 (eSub hq1 (eL (by decide) : (1 : Int32) = Int32.ofInt (1 : Int))) hq14 hq26 (eL (by decide) : (0 : Int32) = Int32.ofInt (0 : Int)) h_q36 f_q36)) hF)))))))))))))))))))
set_option maxRecDepth 100000 in
theorem rX6_mod {F : Nat} {C : yC} {v0 : Int} {v0' : Int32} {v1 : Int} {v1' : Int32} {w : zO} {w' : gW} (hC : oSep C) (hF : fF F) (hv0 : v0' = Int32.ofInt v0) (hv1 : v1' = Int32.ofInt v1) (h_w : oRep C w w') : zR (Y1 C w') (zX6_mod F C v0 v1 w) (mX6_mod F v0' v1' w') := by
  have f_w : oFr C w' w' := oFr.rf
  unfold zX6_mod mX6_mod
  exact (R_Le hv1 (eL (by decide) : (0 : Int32) = Int32.ofInt (0 : Int))
  (S_ret1 (eL (by decide) : (0 : Int32) = Int32.ofInt (0 : Int)) h_w f_w)
  (S_C1 (rJ9_floorMod_7cf53 hC hF hv0 hv1 h_w) f_w (fun q6_1 q6_2 q6_1' q6_2' hq6 h_q6_2 f_q6_2 =>
    (S_ret1 hq6 h_q6_2 f_q6_2))))
set_option maxRecDepth 100000 in
theorem rX0_goesWithProduct_h40 {F : Nat} {C : yC} {E : (Int × zO) → (Int32 × gW) → Prop} {w0 : gW} {r : Nat → Int → Int → Int → Int → Int → Int → Int → zO → Option (Int × zO)} {r' : Nat → Int32 → Int32 → Int32 → Int32 → Int32 → Int32 → Int32 → gW → Option (Int32 × gW)} {k79 : Nat → Int → Int → Int → Int → Int → Int → zO → Option (Int × zO)} {k79' : Nat → Int32 → Int32 → Int32 → Int32 → Int32 → Int32 → gW → Option (Int32 × gW)} {v0 : Nat} {v1 : Int} {v1' : Int32} {v2 : Int} {v2' : Int32} {v3 : Int} {v3' : Int32} {v4 : Int} {v4' : Int32} {v5 : Int} {v5' : Int32} {v6 : Int} {v6' : Int32} {v7 : Int} {v7' : Int32} {w : zO} {w' : gW} (hC : oSep C) (hF : fF F) (hr : ∀ (a1 : Nat) (a2 : Int) (a3 : Int) (a4 : Int) (a5 : Int) (a6 : Int) (a7 : Int) (a8 : Int) (Z : zO) (b2 : Int32) (b3 : Int32) (b4 : Int32) (b5 : Int32) (b6 : Int32) (b7 : Int32) (b8 : Int32) (w : gW), b2 = Int32.ofInt a2 → b3 = Int32.ofInt a3 → b4 = Int32.ofInt a4 → b5 = Int32.ofInt a5 → b6 = Int32.ofInt a6 → b7 = Int32.ofInt a7 → b8 = Int32.ofInt a8 → oRep C Z w → oFr C w0 w → zR E (r a1 a2 a3 a4 a5 a6 a7 a8 Z) (r' a1 b2 b3 b4 b5 b6 b7 b8 w)) (hk79 : ∀ (a1 : Nat) (a2 : Int) (a3 : Int) (a4 : Int) (a5 : Int) (a6 : Int) (a7 : Int) (Z : zO) (b2 : Int32) (b3 : Int32) (b4 : Int32) (b5 : Int32) (b6 : Int32) (b7 : Int32) (w : gW), b2 = Int32.ofInt a2 → b3 = Int32.ofInt a3 → b4 = Int32.ofInt a4 → b5 = Int32.ofInt a5 → b6 = Int32.ofInt a6 → b7 = Int32.ofInt a7 → oRep C Z w → oFr C w0 w → zR E (k79 a1 a2 a3 a4 a5 a6 a7 Z) (k79' a1 b2 b3 b4 b5 b6 b7 w)) (hv1 : v1' = Int32.ofInt v1) (hv2 : v2' = Int32.ofInt v2) (hv3 : v3' = Int32.ofInt v3) (hv4 : v4' = Int32.ofInt v4) (hv5 : v5' = Int32.ofInt v5) (hv6 : v6' = Int32.ofInt v6) (hv7 : v7' = Int32.ofInt v7) (h_w : oRep C w w') (f_w : oFr C w0 w') : zR E (zX0_goesWithProduct_h40 F C r k79 v0 v1 v2 v3 v4 v5 v6 v7 w) (mX0_goesWithProduct_h40 F r' k79' v0 v1' v2' v3' v4' v5' v6' v7' w') := by
  unfold zX0_goesWithProduct_h40 mX0_goesWithProduct_h40
  exact (S_FI h_w rfl (c := 0) (k := 4) iy0_4 (fun t43 t43' ht43 =>
  (R_Le ht43 hv7
  (hk79 _ _ _ _ _ _ _ _ _ _ _ _ _ _ _ hv1 hv2 hv3 hv4 hv5 hv6 h_w f_w)
  (S_O h_w rfl (fun a57 ea57 =>
    (S_C1 (rX0_entry hC hF hv1 hv4 hv7 h_w) f_w (fun q57_1 q57_2 q57_1' q57_2' hq57 h_q57_2 f_q57_2 =>
    (S_O h_q57_2 rfl (fun a66 ea66 =>
    (S_C1 (rX0_entry hC hF hv2 hv7 hv5 h_q57_2) f_q57_2 (fun q66_1 q66_2 q66_1' q66_2' hq66 h_q66_2 f_q66_2 =>
    (hr _ _ _ _ _ _ _ _ _ _ _ _ _ _ _ _ _ hv1 hv2 hv3 hv4 hv5 (eAdd hv6 (eMul hq57 hq66)) (eAdd hv7 (eL (by decide) : (1 : Int32) = Int32.ofInt (1 : Int))) h_q66_2 f_q66_2))))))))))))
set_option maxRecDepth 100000 in
theorem rX0_goesWithProduct_l40 {F : Nat} {C : yC} {E : (Int × zO) → (Int32 × gW) → Prop} {w0 : gW} {k79 : Nat → Int → Int → Int → Int → Int → Int → zO → Option (Int × zO)} {k79' : Nat → Int32 → Int32 → Int32 → Int32 → Int32 → Int32 → gW → Option (Int32 × gW)} (hC : oSep C) (hF : fF F) (hk79 : ∀ (a1 : Nat) (a2 : Int) (a3 : Int) (a4 : Int) (a5 : Int) (a6 : Int) (a7 : Int) (Z : zO) (b2 : Int32) (b3 : Int32) (b4 : Int32) (b5 : Int32) (b6 : Int32) (b7 : Int32) (w : gW), b2 = Int32.ofInt a2 → b3 = Int32.ofInt a3 → b4 = Int32.ofInt a4 → b5 = Int32.ofInt a5 → b6 = Int32.ofInt a6 → b7 = Int32.ofInt a7 → oRep C Z w → oFr C w0 w → zR E (k79 a1 a2 a3 a4 a5 a6 a7 Z) (k79' a1 b2 b3 b4 b5 b6 b7 w)) : ∀ (n : Nat) (v0 : Nat) (v1 : Int) (v2 : Int) (v3 : Int) (v4 : Int) (v5 : Int) (v6 : Int) (v7 : Int) (w : zO) (v1' : Int32) (v2' : Int32) (v3' : Int32) (v4' : Int32) (v5' : Int32) (v6' : Int32) (v7' : Int32) (w' : gW), v1' = Int32.ofInt v1 → v2' = Int32.ofInt v2 → v3' = Int32.ofInt v3 → v4' = Int32.ofInt v4 → v5' = Int32.ofInt v5 → v6' = Int32.ofInt v6 → v7' = Int32.ofInt v7 → oRep C w w' → oFr C w0 w' → zR E (zX0_goesWithProduct_l40 F C k79 n v0 v1 v2 v3 v4 v5 v6 v7 w) (mX0_goesWithProduct_l40 F k79' n v0 v1' v2' v3' v4' v5' v6' v7' w') := by
  intro n
  induction n with
  | zero => intros; exact R_none
  | succ n ih =>
    intro v0 v1 v2 v3 v4 v5 v6 v7 w v1' v2' v3' v4' v5' v6' v7' w' hv1 hv2 hv3 hv4 hv5 hv6 hv7 h_w f_w
    exact rX0_goesWithProduct_h40 hC hF ih hk79 hv1 hv2 hv3 hv4 hv5 hv6 hv7 h_w f_w
set_option maxRecDepth 100000 in
theorem rX0_goesWithProduct_h25 {F : Nat} {C : yC} {w0 : gW} {r : Nat → Int → Int → Int → Int → Int → zO → Option (Int × zO)} {r' : Nat → Int32 → Int32 → Int32 → Int32 → Int32 → gW → Option (Int32 × gW)} {k108 : Nat → Int → Int → Int → Int → zO → Option (Int × zO)} {k108' : Nat → Int32 → Int32 → Int32 → Int32 → gW → Option (Int32 × gW)} {v0 : Nat} {v1 : Int} {v1' : Int32} {v2 : Int} {v2' : Int32} {v3 : Int} {v3' : Int32} {v4 : Int} {v4' : Int32} {v5 : Int} {v5' : Int32} {w : zO} {w' : gW} (hC : oSep C) (hF : fF F) (hr : ∀ (a1 : Nat) (a2 : Int) (a3 : Int) (a4 : Int) (a5 : Int) (a6 : Int) (Z : zO) (b2 : Int32) (b3 : Int32) (b4 : Int32) (b5 : Int32) (b6 : Int32) (w : gW), b2 = Int32.ofInt a2 → b3 = Int32.ofInt a3 → b4 = Int32.ofInt a4 → b5 = Int32.ofInt a5 → b6 = Int32.ofInt a6 → oRep C Z w → oFr C w0 w → zR (Y1 C w0) (r a1 a2 a3 a4 a5 a6 Z) (r' a1 b2 b3 b4 b5 b6 w)) (hk108 : ∀ (a1 : Nat) (a2 : Int) (a3 : Int) (a4 : Int) (a5 : Int) (Z : zO) (b2 : Int32) (b3 : Int32) (b4 : Int32) (b5 : Int32) (w : gW), b2 = Int32.ofInt a2 → b3 = Int32.ofInt a3 → b4 = Int32.ofInt a4 → b5 = Int32.ofInt a5 → oRep C Z w → oFr C w0 w → zR (Y1 C w0) (k108 a1 a2 a3 a4 a5 Z) (k108' a1 b2 b3 b4 b5 w)) (hv1 : v1' = Int32.ofInt v1) (hv2 : v2' = Int32.ofInt v2) (hv3 : v3' = Int32.ofInt v3) (hv4 : v4' = Int32.ofInt v4) (hv5 : v5' = Int32.ofInt v5) (h_w : oRep C w w') (f_w : oFr C w0 w') : zR (Y1 C w0) (zX0_goesWithProduct_h25 F C r k108 v0 v1 v2 v3 v4 v5 w) (mX0_goesWithProduct_h25 F r' k108' v0 v1' v2' v3' v4' v5' w') := by
  unfold zX0_goesWithProduct_h25 mX0_goesWithProduct_h25
  exact (S_FI h_w rfl (c := 0) (k := 4) iy0_4 (fun t28 t28' ht28 =>
  (R_Le ht28 hv5
  (hk108 _ _ _ _ _ _ _ _ _ _ _ hv1 hv2 hv3 hv4 h_w f_w)
  (rX0_goesWithProduct_l40 hC hF (by exact (fun v0 v1 v2 v3 v4 v5 v6 w v1' v2' v3' v4' v5' v6' w' hv1 hv2 hv3 hv4 hv5 hv6 h_w f_w =>
      (S_FI h_w rfl (c := 0) (k := 3) iy0_3 (fun t82 t82' ht82 =>
      (S_C1 (rX6_mod hC hF hv6 ht82 h_w) f_w (fun q85_1 q85_2 q85_1' q85_2' hq85 h_q85_2 f_q85_2 =>
      (S_O h_q85_2 rfl (fun a94 ea94 =>
      (S_C1 (rX0_entry hC hF hv3 hv4 hv5 h_q85_2) f_q85_2 (fun q94_1 q94_2 q94_1' q94_2' hq94 h_q94_2 f_q94_2 =>
      (R_Eq hq85 hq94
      (hr _ _ _ _ _ _ _ _ _ _ _ _ _ hv1 hv2 hv3 hv4 (eAdd hv5 (eL (by decide) : (1 : Int32) = Int32.ofInt (1 : Int))) h_q94_2 f_q94_2)
      (S_ret1 (eL (by decide) : (0 : Int32) = Int32.ofInt (0 : Int)) h_q94_2 f_q94_2)))))))))))) F _ _ _ _ _ _ _ _ _ _ _ _ _ _ _ _ _ hv1 hv2 hv3 hv4 hv5 (eL (by decide) : (0 : Int32) = Int32.ofInt (0 : Int)) (eL (by decide) : (0 : Int32) = Int32.ofInt (0 : Int)) h_w f_w))))
set_option maxRecDepth 100000 in
theorem rX0_goesWithProduct_l25 {F : Nat} {C : yC} {w0 : gW} {k108 : Nat → Int → Int → Int → Int → zO → Option (Int × zO)} {k108' : Nat → Int32 → Int32 → Int32 → Int32 → gW → Option (Int32 × gW)} (hC : oSep C) (hF : fF F) (hk108 : ∀ (a1 : Nat) (a2 : Int) (a3 : Int) (a4 : Int) (a5 : Int) (Z : zO) (b2 : Int32) (b3 : Int32) (b4 : Int32) (b5 : Int32) (w : gW), b2 = Int32.ofInt a2 → b3 = Int32.ofInt a3 → b4 = Int32.ofInt a4 → b5 = Int32.ofInt a5 → oRep C Z w → oFr C w0 w → zR (Y1 C w0) (k108 a1 a2 a3 a4 a5 Z) (k108' a1 b2 b3 b4 b5 w)) : ∀ (n : Nat) (v0 : Nat) (v1 : Int) (v2 : Int) (v3 : Int) (v4 : Int) (v5 : Int) (w : zO) (v1' : Int32) (v2' : Int32) (v3' : Int32) (v4' : Int32) (v5' : Int32) (w' : gW), v1' = Int32.ofInt v1 → v2' = Int32.ofInt v2 → v3' = Int32.ofInt v3 → v4' = Int32.ofInt v4 → v5' = Int32.ofInt v5 → oRep C w w' → oFr C w0 w' → zR (Y1 C w0) (zX0_goesWithProduct_l25 F C k108 n v0 v1 v2 v3 v4 v5 w) (mX0_goesWithProduct_l25 F k108' n v0 v1' v2' v3' v4' v5' w') := by
  intro n
  induction n with
  | zero => intros; exact R_none
  | succ n ih =>
    intro v0 v1 v2 v3 v4 v5 w v1' v2' v3' v4' v5' w' hv1 hv2 hv3 hv4 hv5 h_w f_w
    exact rX0_goesWithProduct_h25 hC hF ih hk108 hv1 hv2 hv3 hv4 hv5 h_w f_w
set_option maxRecDepth 100000 in
theorem rX0_goesWithProduct_h13 {F : Nat} {C : yC} {w0 : gW} {r : Nat → Int → Int → Int → Int → zO → Option (Int × zO)} {r' : Nat → Int32 → Int32 → Int32 → Int32 → gW → Option (Int32 × gW)} {v0 : Nat} {v1 : Int} {v1' : Int32} {v2 : Int} {v2' : Int32} {v3 : Int} {v3' : Int32} {v4 : Int} {v4' : Int32} {w : zO} {w' : gW} (hC : oSep C) (hF : fF F) (hr : ∀ (a1 : Nat) (a2 : Int) (a3 : Int) (a4 : Int) (a5 : Int) (Z : zO) (b2 : Int32) (b3 : Int32) (b4 : Int32) (b5 : Int32) (w : gW), b2 = Int32.ofInt a2 → b3 = Int32.ofInt a3 → b4 = Int32.ofInt a4 → b5 = Int32.ofInt a5 → oRep C Z w → oFr C w0 w → zR (Y1 C w0) (r a1 a2 a3 a4 a5 Z) (r' a1 b2 b3 b4 b5 w)) (hv1 : v1' = Int32.ofInt v1) (hv2 : v2' = Int32.ofInt v2) (hv3 : v3' = Int32.ofInt v3) (hv4 : v4' = Int32.ofInt v4) (h_w : oRep C w w') (f_w : oFr C w0 w') : zR (Y1 C w0) (zX0_goesWithProduct_h13 F C r v0 v1 v2 v3 v4 w) (mX0_goesWithProduct_h13 F r' v0 v1' v2' v3' v4' w') := by
  unfold zX0_goesWithProduct_h13 mX0_goesWithProduct_h13
  exact (S_FI h_w rfl (c := 0) (k := 4) iy0_4 (fun t16 t16' ht16 =>
  (R_Le ht16 hv4
  (S_ret1 (eL (by decide) : (1 : Int32) = Int32.ofInt (1 : Int)) h_w f_w)
  (rX0_goesWithProduct_l25 hC hF (by exact (fun v0 v1 v2 v3 v4 w v1' v2' v3' v4' w' hv1 hv2 hv3 hv4 h_w f_w =>
      (hr _ _ _ _ _ _ _ _ _ _ _ hv1 hv2 hv3 (eAdd hv4 (eL (by decide) : (1 : Int32) = Int32.ofInt (1 : Int))) h_w f_w))) F _ _ _ _ _ _ _ _ _ _ _ _ _ hv1 hv2 hv3 hv4 (eL (by decide) : (0 : Int32) = Int32.ofInt (0 : Int)) h_w f_w))))
set_option maxRecDepth 100000 in
theorem rX0_goesWithProduct_l13 {F : Nat} {C : yC} {w0 : gW}  (hC : oSep C) (hF : fF F)  : ∀ (n : Nat) (v0 : Nat) (v1 : Int) (v2 : Int) (v3 : Int) (v4 : Int) (w : zO) (v1' : Int32) (v2' : Int32) (v3' : Int32) (v4' : Int32) (w' : gW), v1' = Int32.ofInt v1 → v2' = Int32.ofInt v2 → v3' = Int32.ofInt v3 → v4' = Int32.ofInt v4 → oRep C w w' → oFr C w0 w' → zR (Y1 C w0) (zX0_goesWithProduct_l13 F C  n v0 v1 v2 v3 v4 w) (mX0_goesWithProduct_l13 F  n v0 v1' v2' v3' v4' w') := by
  intro n
  induction n with
  | zero => intros; exact R_none
  | succ n ih =>
    intro v0 v1 v2 v3 v4 w v1' v2' v3' v4' w' hv1 hv2 hv3 hv4 h_w f_w
    exact rX0_goesWithProduct_h13 hC hF ih  hv1 hv2 hv3 hv4 h_w f_w
set_option maxRecDepth 100000 in
theorem rX0_goesWithProduct {F : Nat} {C : yC} {v0 : Nat} {v1 : Int} {v1' : Int32} {v2 : Int} {v2' : Int32} {w : zO} {w' : gW} (hC : oSep C) (hF : fF F) (hv1 : v1' = Int32.ofInt v1) (hv2 : v2' = Int32.ofInt v2) (h_w : oRep C w w') : zR (Y1 C w') (zX0_goesWithProduct F C v0 v1 v2 w) (mX0_goesWithProduct F v0 v1' v2' w') := by
  have f_w : oFr C w' w' := oFr.rf
  unfold zX0_goesWithProduct mX0_goesWithProduct
  exact (S_FR h_w rfl (c := 0) (k := 2) ry0_2 (fun t1 t1' ht1 =>
  (S_O h_w ht1 (fun a6 ea6 =>
  (S_C1 (rX2_mul hC hF hv1 hv2 h_w) f_w (fun q6_1 q6_2 q6_1' q6_2' hq6 h_q6_2 f_q6_2 =>
  (rX0_goesWithProduct_l13 hC hF F _ _ _ _ _ _ _ _ _ _ _ hv1 hv2 hq6 (eL (by decide) : (0 : Int32) = Int32.ofInt (0 : Int)) h_q6_2 f_q6_2)))))))
set_option maxRecDepth 100000 in
theorem rX0_move_b66 {F : Nat} {C : yC} {E : (Int × zO) → (Int32 × gW) → Prop} {w0 : gW} {r : Nat → Int → Int → Int → Int → Int → zO → Option (Int × zO)} {r' : Nat → Int32 → Int32 → Int32 → Int32 → Int32 → gW → Option (Int32 × gW)} {v0 : Nat} {v1 : Int} {v1' : Int32} {v2 : Int} {v2' : Int32} {v3 : Int} {v3' : Int32} {v4 : Int} {v4' : Int32} {v5 : Int} {v5' : Int32} {v6 : Int} {v6' : Int32} {w : zO} {w' : gW} (hC : oSep C) (hF : fF F) (hr : ∀ (a1 : Nat) (a2 : Int) (a3 : Int) (a4 : Int) (a5 : Int) (a6 : Int) (Z : zO) (b2 : Int32) (b3 : Int32) (b4 : Int32) (b5 : Int32) (b6 : Int32) (w : gW), b2 = Int32.ofInt a2 → b3 = Int32.ofInt a3 → b4 = Int32.ofInt a4 → b5 = Int32.ofInt a5 → b6 = Int32.ofInt a6 → oRep C Z w → oFr C w0 w → zR E (r a1 a2 a3 a4 a5 a6 Z) (r' a1 b2 b3 b4 b5 b6 w)) (hv1 : v1' = Int32.ofInt v1) (hv2 : v2' = Int32.ofInt v2) (hv3 : v3' = Int32.ofInt v3) (hv4 : v4' = Int32.ofInt v4) (hv5 : v5' = Int32.ofInt v5) (hv6 : v6' = Int32.ofInt v6) (h_w : oRep C w w') (f_w : oFr C w0 w') : zR E (zX0_move_b66 F C r v0 v1 v2 v3 v4 v5 v6 w) (mX0_move_b66 F r' v0 v1' v2' v3' v4' v5' v6' w') := by
  unfold zX0_move_b66 mX0_move_b66
  exact (S_FI h_w rfl (c := 0) (k := 3) iy0_3 (fun t72 t72' ht72 =>
  (S_C1 (rX6_mod hC hF hv6 ht72 h_w) f_w (fun q75_1 q75_2 q75_1' q75_2' hq75 h_q75_2 f_q75_2 =>
  (S_FI h_q75_2 rfl (c := 0) (k := 3) iy0_3 (fun t84 t84' ht84 =>
  (hr _ _ _ _ _ _ _ _ _ _ _ _ _ hv1 hv2 (eAdd hv3 (eMul hv4 hq75)) (eMul hv4 ht84) (eAdd hv5 (eL (by decide) : (1 : Int32) = Int32.ofInt (1 : Int))) h_q75_2 f_q75_2)))))))
set_option maxRecDepth 100000 in
theorem rX0_move_h8 {F : Nat} {C : yC} {w0 : gW} {r : Nat → Int → Int → Int → Int → Int → zO → Option (Int × zO)} {r' : Nat → Int32 → Int32 → Int32 → Int32 → Int32 → gW → Option (Int32 × gW)} {v0 : Nat} {v1 : Int} {v1' : Int32} {v2 : Int} {v2' : Int32} {v3 : Int} {v3' : Int32} {v4 : Int} {v4' : Int32} {v5 : Int} {v5' : Int32} {w : zO} {w' : gW} (hC : oSep C) (hF : fF F) (hr : ∀ (a1 : Nat) (a2 : Int) (a3 : Int) (a4 : Int) (a5 : Int) (a6 : Int) (Z : zO) (b2 : Int32) (b3 : Int32) (b4 : Int32) (b5 : Int32) (b6 : Int32) (w : gW), b2 = Int32.ofInt a2 → b3 = Int32.ofInt a3 → b4 = Int32.ofInt a4 → b5 = Int32.ofInt a5 → b6 = Int32.ofInt a6 → oRep C Z w → oFr C w0 w → zR (Y1 C w0) (r a1 a2 a3 a4 a5 a6 Z) (r' a1 b2 b3 b4 b5 b6 w)) (hv1 : v1' = Int32.ofInt v1) (hv2 : v2' = Int32.ofInt v2) (hv3 : v3' = Int32.ofInt v3) (hv4 : v4' = Int32.ofInt v4) (hv5 : v5' = Int32.ofInt v5) (h_w : oRep C w w') (f_w : oFr C w0 w') : zR (Y1 C w0) (zX0_move_h8 F C r v0 v1 v2 v3 v4 v5 w) (mX0_move_h8 F r' v0 v1' v2' v3' v4' v5' w') := by
  unfold zX0_move_h8 mX0_move_h8
  exact (S_FI h_w rfl (c := 0) (k := 4) iy0_4 (fun t11 t11' ht11 =>
  (R_Le ht11 hv5
  (S_ret1 hv3 h_w f_w)
  (S_O h_w rfl (fun a22 ea22 =>
    (S_C1 (rX0_entry hC hF hv1 hv5 (eL (by decide) : (0 : Int32) = Int32.ofInt (0 : Int)) h_w) f_w (fun q22_1 q22_2 q22_1' q22_2' hq22 h_q22_2 f_q22_2 =>
    (S_FI h_q22_2 rfl (c := 0) (k := 3) iy0_3 (fun t27 t27' ht27 =>
    (S_C1 (rX6_mod hC hF hv2 ht27 h_q22_2) f_q22_2 (fun q30_1 q30_2 q30_1' q30_2' hq30 h_q30_2 f_q30_2 =>
    (S_FI h_q30_2 rfl (c := 0) (k := 4) iy0_4 (fun t37 t37' ht37 =>
    (R_Le ht37 (eL (by decide) : (1 : Int32) = Int32.ofInt (1 : Int))
    (rX0_move_b66 hC hF hr hv1 hv2 hv3 hv4 hv5 (eMul hq22 hq30) h_q30_2 f_q30_2)
    (S_O h_q30_2 rfl (fun a51 ea51 =>
      (S_C1 (rX0_entry hC hF hv1 hv5 (eL (by decide) : (1 : Int32) = Int32.ofInt (1 : Int)) h_q30_2) f_q30_2 (fun q51_1 q51_2 q51_1' q51_2' hq51 h_q51_2 f_q51_2 =>
      (S_FI h_q51_2 rfl (c := 0) (k := 3) iy0_3 (fun t56 t56' ht56 =>
      (S_C1 (rX6_quotient hC hF hv2 ht56 h_q51_2) f_q51_2 (fun q59_1 q59_2 q59_1' q59_2' hq59 h_q59_2 f_q59_2 =>
      (rX0_move_b66 hC hF hr hv1 hv2 hv3 hv4 hv5 (eAdd (eMul hq22 hq30) (eMul hq51 hq59)) h_q59_2 f_q59_2)))))))))))))))))))))))
set_option maxRecDepth 100000 in
theorem rX0_move_l8 {F : Nat} {C : yC} {w0 : gW}  (hC : oSep C) (hF : fF F)  : ∀ (n : Nat) (v0 : Nat) (v1 : Int) (v2 : Int) (v3 : Int) (v4 : Int) (v5 : Int) (w : zO) (v1' : Int32) (v2' : Int32) (v3' : Int32) (v4' : Int32) (v5' : Int32) (w' : gW), v1' = Int32.ofInt v1 → v2' = Int32.ofInt v2 → v3' = Int32.ofInt v3 → v4' = Int32.ofInt v4 → v5' = Int32.ofInt v5 → oRep C w w' → oFr C w0 w' → zR (Y1 C w0) (zX0_move_l8 F C  n v0 v1 v2 v3 v4 v5 w) (mX0_move_l8 F  n v0 v1' v2' v3' v4' v5' w') := by
  intro n
  induction n with
  | zero => intros; exact R_none
  | succ n ih =>
    intro v0 v1 v2 v3 v4 v5 w v1' v2' v3' v4' v5' w' hv1 hv2 hv3 hv4 hv5 h_w f_w
    exact rX0_move_h8 hC hF ih  hv1 hv2 hv3 hv4 hv5 h_w f_w
set_option maxRecDepth 100000 in
theorem rX0_move {F : Nat} {C : yC} {v0 : Nat} {v1 : Int} {v1' : Int32} {v2 : Int} {v2' : Int32} {w : zO} {w' : gW} (hC : oSep C) (hF : fF F) (hv1 : v1' = Int32.ofInt v1) (hv2 : v2' = Int32.ofInt v2) (h_w : oRep C w w') : zR (Y1 C w') (zX0_move F C v0 v1 v2 w) (mX0_move F v0 v1' v2' w') := by
  have f_w : oFr C w' w' := oFr.rf
  unfold zX0_move mX0_move
  exact (rX0_move_l8 hC hF F _ _ _ _ _ _ _ _ _ _ _ _ _ hv1 hv2 (eL (by decide) : (0 : Int32) = Int32.ofInt (0 : Int)) (eL (by decide) : (1 : Int32) = Int32.ofInt (1 : Int)) (eL (by decide) : (0 : Int32) = Int32.ofInt (0 : Int)) h_w f_w)
set_option maxRecDepth 100000 in
theorem rX1_inverseOf_h2 {F : Nat} {C : yC} {w0 : gW} {r : Nat → Int → Int → zO → Option (Int × zO)} {r' : Nat → Int32 → Int32 → gW → Option (Int32 × gW)} {v0 : Nat} {v1 : Int} {v1' : Int32} {v2 : Int} {v2' : Int32} {w : zO} {w' : gW} (hC : oSep C) (hF : fF F) (hr : ∀ (a1 : Nat) (a2 : Int) (a3 : Int) (Z : zO) (b2 : Int32) (b3 : Int32) (w : gW), b2 = Int32.ofInt a2 → b3 = Int32.ofInt a3 → oRep C Z w → oFr C w0 w → zR (Y1 C w0) (r a1 a2 a3 Z) (r' a1 b2 b3 w)) (hv1 : v1' = Int32.ofInt v1) (hv2 : v2' = Int32.ofInt v2) (h_w : oRep C w w') (f_w : oFr C w0 w') : zR (Y1 C w0) (zX1_inverseOf_h2 F C r v0 v1 v2 w) (mX1_inverseOf_h2 F r' v0 v1' v2' w') := by
  unfold zX1_inverseOf_h2 mX1_inverseOf_h2
  exact (S_FI h_w rfl (c := 1) (k := 4) iy1_4 (fun t4 t4' ht4 =>
  (R_Le ht4 hv2
  (S_ret1 (eL (by decide) : (0 : Int32) = Int32.ofInt (0 : Int)) h_w f_w)
  (S_FI h_w rfl (c := 1) (k := 4) iy1_4 (fun t14 t14' ht14 =>
    (S_C1 (rX6_mod hC hF (eMul hv1 hv2) ht14 h_w) f_w (fun q17_1 q17_2 q17_1' q17_2' hq17 h_q17_2 f_q17_2 =>
    (R_Eq hq17 (eL (by decide) : (1 : Int32) = Int32.ofInt (1 : Int))
    (S_ret1 hv2 h_q17_2 f_q17_2)
    (hr _ _ _ _ _ _ _ hv1 (eAdd hv2 (eL (by decide) : (1 : Int32) = Int32.ofInt (1 : Int))) h_q17_2 f_q17_2)))))))))
set_option maxRecDepth 100000 in
theorem rX1_inverseOf_l2 {F : Nat} {C : yC} {w0 : gW}  (hC : oSep C) (hF : fF F)  : ∀ (n : Nat) (v0 : Nat) (v1 : Int) (v2 : Int) (w : zO) (v1' : Int32) (v2' : Int32) (w' : gW), v1' = Int32.ofInt v1 → v2' = Int32.ofInt v2 → oRep C w w' → oFr C w0 w' → zR (Y1 C w0) (zX1_inverseOf_l2 F C  n v0 v1 v2 w) (mX1_inverseOf_l2 F  n v0 v1' v2' w') := by
  intro n
  induction n with
  | zero => intros; exact R_none
  | succ n ih =>
    intro v0 v1 v2 w v1' v2' w' hv1 hv2 h_w f_w
    exact rX1_inverseOf_h2 hC hF ih  hv1 hv2 h_w f_w
set_option maxRecDepth 100000 in
theorem rX1_inverseOf {F : Nat} {C : yC} {v0 : Nat} {v1 : Int} {v1' : Int32} {w : zO} {w' : gW} (hC : oSep C) (hF : fF F) (hv1 : v1' = Int32.ofInt v1) (h_w : oRep C w w') : zR (Y1 C w') (zX1_inverseOf F C v0 v1 w) (mX1_inverseOf F v0 v1' w') := by
  have f_w : oFr C w' w' := oFr.rf
  unfold zX1_inverseOf mX1_inverseOf
  exact (rX1_inverseOf_l2 hC hF F _ _ _ _ _ _ _ hv1 (eL (by decide) : (1 : Int32) = Int32.ofInt (1 : Int)) h_w f_w)
set_option maxRecDepth 100000 in
theorem rX1_reduce_b99 {F : Nat} {C : yC} {E : zO → gW → Prop} {w0 : gW} {r : Nat → Option Nat → Int → zO → Option zO} {r' : Nat → (Option Nat) → Int32 → gW → Option (gW)} {v0 : Nat} {v1 : Option Nat} {v1' : Option Nat} {v2 : Int} {v2' : Int32} {w : zO} {w' : gW} (hC : oSep C) (hF : fF F) (hr : ∀ (a1 : Nat) (a2 : Option Nat) (a3 : Int) (Z : zO) (b2 : (Option Nat)) (b3 : Int32) (w : gW), b2 = oar 1 a2 → b3 = Int32.ofInt a3 → oRep C Z w → oFr C w0 w → zR E (r a1 a2 a3 Z) (r' a1 b2 b3 w)) (hv1 : v1' = oar 1 v1) (hv2 : v2' = Int32.ofInt v2) (h_w : oRep C w w') (f_w : oFr C w0 w') : zR E (zX1_reduce_b99 F C r v0 v1 v2 w) (mX1_reduce_b99 F r' v0 v1' v2' w') := by
  unfold zX1_reduce_b99 mX1_reduce_b99
  exact (hr _ _ _ _ _ _ _ hv1 (eAdd hv2 (eL (by decide) : (1 : Int32) = Int32.ofInt (1 : Int))) h_w f_w)
set_option maxRecDepth 100000 in
theorem rX1_reduce_b93 {F : Nat} {C : yC} {E : zO → gW → Prop} {w0 : gW} {r : Nat → Option Nat → Int → Int → Int → Int → zO → Option zO} {r' : Nat → (Option Nat) → Int32 → Int32 → Int32 → Int32 → gW → Option (gW)} {k99 : Nat → Option Nat → Int → zO → Option zO} {k99' : Nat → (Option Nat) → Int32 → gW → Option (gW)} {v0 : Nat} {v1 : Option Nat} {v1' : Option Nat} {v2 : Int} {v2' : Int32} {v3 : Int} {v3' : Int32} {v4 : Int} {v4' : Int32} {v5 : Int} {v5' : Int32} {w : zO} {w' : gW} (hC : oSep C) (hF : fF F) (hr : ∀ (a1 : Nat) (a2 : Option Nat) (a3 : Int) (a4 : Int) (a5 : Int) (a6 : Int) (Z : zO) (b2 : (Option Nat)) (b3 : Int32) (b4 : Int32) (b5 : Int32) (b6 : Int32) (w : gW), b2 = oar 1 a2 → b3 = Int32.ofInt a3 → b4 = Int32.ofInt a4 → b5 = Int32.ofInt a5 → b6 = Int32.ofInt a6 → oRep C Z w → oFr C w0 w → zR E (r a1 a2 a3 a4 a5 a6 Z) (r' a1 b2 b3 b4 b5 b6 w)) (hk99 : ∀ (a1 : Nat) (a2 : Option Nat) (a3 : Int) (Z : zO) (b2 : (Option Nat)) (b3 : Int32) (w : gW), b2 = oar 1 a2 → b3 = Int32.ofInt a3 → oRep C Z w → oFr C w0 w → zR E (k99 a1 a2 a3 Z) (k99' a1 b2 b3 w)) (hv1 : v1' = oar 1 v1) (hv2 : v2' = Int32.ofInt v2) (hv3 : v3' = Int32.ofInt v3) (hv4 : v4' = Int32.ofInt v4) (hv5 : v5' = Int32.ofInt v5) (h_w : oRep C w w') (f_w : oFr C w0 w') : zR E (zX1_reduce_b93 F C r k99 v0 v1 v2 v3 v4 v5 w) (mX1_reduce_b93 F r' k99' v0 v1' v2' v3' v4' v5' w') := by
  unfold zX1_reduce_b93 mX1_reduce_b93
  exact (hr _ _ _ _ _ _ _ _ _ _ _ _ _ hv1 hv2 hv3 hv4 (eAdd hv5 (eL (by decide) : (1 : Int32) = Int32.ofInt (1 : Int))) h_w f_w)
set_option maxRecDepth 100000 in
theorem rX1_reduce_h47 {F : Nat} {C : yC} {E : zO → gW → Prop} {w0 : gW} {r : Nat → Option Nat → Int → Int → Int → Int → zO → Option zO} {r' : Nat → (Option Nat) → Int32 → Int32 → Int32 → Int32 → gW → Option (gW)} {k99 : Nat → Option Nat → Int → zO → Option zO} {k99' : Nat → (Option Nat) → Int32 → gW → Option (gW)} {v0 : Nat} {v1 : Option Nat} {v1' : Option Nat} {v2 : Int} {v2' : Int32} {v3 : Int} {v3' : Int32} {v4 : Int} {v4' : Int32} {v5 : Int} {v5' : Int32} {w : zO} {w' : gW} (hC : oSep C) (hF : fF F) (hr : ∀ (a1 : Nat) (a2 : Option Nat) (a3 : Int) (a4 : Int) (a5 : Int) (a6 : Int) (Z : zO) (b2 : (Option Nat)) (b3 : Int32) (b4 : Int32) (b5 : Int32) (b6 : Int32) (w : gW), b2 = oar 1 a2 → b3 = Int32.ofInt a3 → b4 = Int32.ofInt a4 → b5 = Int32.ofInt a5 → b6 = Int32.ofInt a6 → oRep C Z w → oFr C w0 w → zR E (r a1 a2 a3 a4 a5 a6 Z) (r' a1 b2 b3 b4 b5 b6 w)) (hk99 : ∀ (a1 : Nat) (a2 : Option Nat) (a3 : Int) (Z : zO) (b2 : (Option Nat)) (b3 : Int32) (w : gW), b2 = oar 1 a2 → b3 = Int32.ofInt a3 → oRep C Z w → oFr C w0 w → zR E (k99 a1 a2 a3 Z) (k99' a1 b2 b3 w)) (hv1 : v1' = oar 1 v1) (hv2 : v2' = Int32.ofInt v2) (hv3 : v3' = Int32.ofInt v3) (hv4 : v4' = Int32.ofInt v4) (hv5 : v5' = Int32.ofInt v5) (h_w : oRep C w w') (f_w : oFr C w0 w') : zR E (zX1_reduce_h47 F C r k99 v0 v1 v2 v3 v4 v5 w) (mX1_reduce_h47 F r' k99' v0 v1' v2' v3' v4' v5' w') := by
  unfold zX1_reduce_h47 mX1_reduce_h47
  exact (S_FI h_w rfl (c := 1) (k := 3) iy1_3 (fun t50 t50' ht50 =>
  (R_Le ht50 hv5
  (hk99 _ _ _ _ _ _ _ hv1 hv2 h_w f_w)
  (S_AR h_w rfl (c := 1) (k := 0) (off := 2) ay1_0 (fun t57' ht57 =>
    (S_LE h_w hC ht57 (c := 1) (k := 0) ey1_0 (eAdd hv3 hv5) (fun t64 t64' ht64 =>
    (R_Eq ht64 (eL (by decide) : (0 : Int32) = Int32.ofInt (0 : Int))
    (rX1_reduce_b93 hC hF hr hk99 hv1 hv2 hv3 hv4 hv5 h_w f_w)
    (S_Ld h_w hv1 (c := 5) (k := 0) dy5_0 (by decide) hv5 (fun t78 t78' ht78 =>
      (S_FI h_w rfl (c := 1) (k := 4) iy1_4 (fun t86 t86' ht86 =>
      (S_C1 (rX6_mod hC hF (eAdd ht78 (eMul hv4 ht64)) ht86 h_w) f_w (fun q89_1 q89_2 q89_1' q89_2' hq89 h_q89_2 f_q89_2 =>
      (S_St h_q89_2 f_q89_2 hC hv1 (c := 5) (k := 0) dy5_0 (by decide) hv5 hq89 (fun w92 w92' h_w92 f_w92 =>
      (rX1_reduce_b93 hC hF hr hk99 hv1 hv2 hv3 hv4 hv5 h_w92 f_w92)))))))))))))))))
set_option maxRecDepth 100000 in
theorem rX1_reduce_l47 {F : Nat} {C : yC} {E : zO → gW → Prop} {w0 : gW} {k99 : Nat → Option Nat → Int → zO → Option zO} {k99' : Nat → (Option Nat) → Int32 → gW → Option (gW)} (hC : oSep C) (hF : fF F) (hk99 : ∀ (a1 : Nat) (a2 : Option Nat) (a3 : Int) (Z : zO) (b2 : (Option Nat)) (b3 : Int32) (w : gW), b2 = oar 1 a2 → b3 = Int32.ofInt a3 → oRep C Z w → oFr C w0 w → zR E (k99 a1 a2 a3 Z) (k99' a1 b2 b3 w)) : ∀ (n : Nat) (v0 : Nat) (v1 : Option Nat) (v2 : Int) (v3 : Int) (v4 : Int) (v5 : Int) (w : zO) (v1' : (Option Nat)) (v2' : Int32) (v3' : Int32) (v4' : Int32) (v5' : Int32) (w' : gW), v1' = oar 1 v1 → v2' = Int32.ofInt v2 → v3' = Int32.ofInt v3 → v4' = Int32.ofInt v4 → v5' = Int32.ofInt v5 → oRep C w w' → oFr C w0 w' → zR E (zX1_reduce_l47 F C k99 n v0 v1 v2 v3 v4 v5 w) (mX1_reduce_l47 F k99' n v0 v1' v2' v3' v4' v5' w') := by
  intro n
  induction n with
  | zero => intros; exact R_none
  | succ n ih =>
    intro v0 v1 v2 v3 v4 v5 w v1' v2' v3' v4' v5' w' hv1 hv2 hv3 hv4 hv5 h_w f_w
    exact rX1_reduce_h47 hC hF ih hk99 hv1 hv2 hv3 hv4 hv5 h_w f_w
set_option maxRecDepth 100000 in
theorem rX1_reduce_h2 {F : Nat} {C : yC} {w0 : gW} {r : Nat → Option Nat → Int → zO → Option zO} {r' : Nat → (Option Nat) → Int32 → gW → Option (gW)} {v0 : Nat} {v1 : Option Nat} {v1' : Option Nat} {v2 : Int} {v2' : Int32} {w : zO} {w' : gW} (hC : oSep C) (hF : fF F) (hr : ∀ (a1 : Nat) (a2 : Option Nat) (a3 : Int) (Z : zO) (b2 : (Option Nat)) (b3 : Int32) (w : gW), b2 = oar 1 a2 → b3 = Int32.ofInt a3 → oRep C Z w → oFr C w0 w → zR (Y0 C w0) (r a1 a2 a3 Z) (r' a1 b2 b3 w)) (hv1 : v1' = oar 1 v1) (hv2 : v2' = Int32.ofInt v2) (h_w : oRep C w w') (f_w : oFr C w0 w') : zR (Y0 C w0) (zX1_reduce_h2 F C r v0 v1 v2 w) (mX1_reduce_h2 F r' v0 v1' v2' w') := by
  unfold zX1_reduce_h2 mX1_reduce_h2
  exact (S_FI h_w rfl (c := 1) (k := 3) iy1_3 (fun t4 t4' ht4 =>
  (R_Le ht4 hv2
  (S_ret0 h_w f_w)
  (S_Ld h_w hv1 (c := 5) (k := 0) dy5_0 (by decide) hv2 (fun t12 t12' ht12 =>
    (R_Eq ht12 (eL (by decide) : (0 : Int32) = Int32.ofInt (0 : Int))
    (rX1_reduce_b99 hC hF hr hv1 hv2 h_w f_w)
    (S_O h_w rfl (fun a18 ea18 =>
      (S_C1 (rX1_leadsAt hC hF hv2 h_w) f_w (fun q18_1 q18_2 q18_1' q18_2' hq18 h_q18_2 f_q18_2 =>
      (R_Eq hq18 (eL (by decide) : (0 : Int32) = Int32.ofInt (0 : Int))
      (rX1_reduce_b99 hC hF hr hv1 hv2 h_q18_2 f_q18_2)
      (S_AR h_q18_2 rfl (c := 1) (k := 2) (off := 1) ay1_2 (fun t25' ht25 =>
        (S_Ld h_q18_2 ht25 (c := 1) (k := 2) dy1_2 (by decide) hv2 (fun t29 t29' ht29 =>
        (S_FI h_q18_2 rfl (c := 1) (k := 4) iy1_4 (fun t35 t35' ht35 =>
        (S_Ld h_q18_2 hv1 (c := 5) (k := 0) dy5_0 (by decide) hv2 (fun t40 t40' ht40 =>
        (rX1_reduce_l47 hC hF (by exact (fun v0 v1 v2 w v1' v2' w' hv1 hv2 h_w f_w =>
          (rX1_reduce_b99 hC hF hr hv1 hv2 h_w f_w))) F _ _ _ _ _ _ _ _ _ _ _ _ _ hv1 hv2 (eMul ht29 (eL (by decide) : (98 : Int32) = Int32.ofInt (98 : Int))) (eSub ht35 ht40) hv2 h_q18_2 f_q18_2))))))))))))))))))))
set_option maxRecDepth 100000 in
theorem rX1_reduce_l2 {F : Nat} {C : yC} {w0 : gW}  (hC : oSep C) (hF : fF F)  : ∀ (n : Nat) (v0 : Nat) (v1 : Option Nat) (v2 : Int) (w : zO) (v1' : (Option Nat)) (v2' : Int32) (w' : gW), v1' = oar 1 v1 → v2' = Int32.ofInt v2 → oRep C w w' → oFr C w0 w' → zR (Y0 C w0) (zX1_reduce_l2 F C  n v0 v1 v2 w) (mX1_reduce_l2 F  n v0 v1' v2' w') := by
  intro n
  induction n with
  | zero => intros; exact R_none
  | succ n ih =>
    intro v0 v1 v2 w v1' v2' w' hv1 hv2 h_w f_w
    exact rX1_reduce_h2 hC hF ih  hv1 hv2 h_w f_w
set_option maxRecDepth 100000 in
theorem rX1_reduce {F : Nat} {C : yC} {v0 : Nat} {v1 : Option Nat} {v1' : Option Nat} {w : zO} {w' : gW} (hC : oSep C) (hF : fF F) (hv1 : v1' = oar 1 v1) (h_w : oRep C w w') : zR (Y0 C w') (zX1_reduce F C v0 v1 w) (mX1_reduce F v0 v1' w') := by
  have f_w : oFr C w' w' := oFr.rf
  unfold zX1_reduce mX1_reduce
  exact (rX1_reduce_l2 hC hF F _ _ _ _ _ _ _ hv1 (eL (by decide) : (0 : Int32) = Int32.ofInt (0 : Int)) h_w f_w)
set_option maxRecDepth 100000 in
theorem rX5_numberOf_h31 {F : Nat} {C : yC} {E : (Int × zO) → (Int32 × gW) → Prop} {w0 : gW} {r : Nat → Option Nat → Int → Int → Int → Int → zO → Option (Int × zO)} {r' : Nat → (Option Nat) → Int32 → Int32 → Int32 → Int32 → gW → Option (Int32 × gW)} {k86 : Option Nat → Int → zO → Option (Int × zO)} {k86' : (Option Nat) → Int32 → gW → Option (Int32 × gW)} {v0 : Nat} {v1 : Option Nat} {v1' : Option Nat} {v6 : Int} {v6' : Int32} {v7 : Int} {v7' : Int32} {v8 : Int} {v8' : Int32} {v9 : Int} {v9' : Int32} {w : zO} {w' : gW} (hC : oSep C) (hF : fF F) (hr : ∀ (a1 : Nat) (a2 : Option Nat) (a3 : Int) (a4 : Int) (a5 : Int) (a6 : Int) (Z : zO) (b2 : (Option Nat)) (b3 : Int32) (b4 : Int32) (b5 : Int32) (b6 : Int32) (w : gW), b2 = a2 → b3 = Int32.ofInt a3 → b4 = Int32.ofInt a4 → b5 = Int32.ofInt a5 → b6 = Int32.ofInt a6 → oRep C Z w → oFr C w0 w → zR E (r a1 a2 a3 a4 a5 a6 Z) (r' a1 b2 b3 b4 b5 b6 w)) (hk86 : ∀ (a1 : Option Nat) (a2 : Int) (Z : zO) (b1 : (Option Nat)) (b2 : Int32) (w : gW), b1 = a1 → b2 = Int32.ofInt a2 → oRep C Z w → oFr C w0 w → zR E (k86 a1 a2 Z) (k86' b1 b2 w)) (hv1 : v1' = v1) (hv6 : v6' = Int32.ofInt v6) (hv7 : v7' = Int32.ofInt v7) (hv8 : v8' = Int32.ofInt v8) (hv9 : v9' = Int32.ofInt v9) (h_w : oRep C w w') (f_w : oFr C w0 w') : zR E (zX5_numberOf_h31 F C r k86 v0 v1 v6 v7 v8 v9 w) (mX5_numberOf_h31 F r' k86' v0 v1' v6' v7' v8' v9' w') := by
  unfold zX5_numberOf_h31 mX5_numberOf_h31
  exact (S_FR h_w rfl (c := 5) (k := 2) ry5_2 (fun t34 t34' ht34 =>
  (S_FI h_w ht34 (c := 1) (k := 5) iy1_5 (fun t37 t37' ht37 =>
  (R_Le ht37 hv9
  (hk86 _ _ _ _ _ _ hv1 hv7 h_w f_w)
  (S_FI h_w hv1 (c := 0) (k := 3) iy0_3 (fun t48 t48' ht48 =>
    (S_C1 (rX6_mod hC hF hv8 ht48 h_w) f_w (fun q51_1 q51_2 q51_1' q51_2' hq51 h_q51_2 f_q51_2 =>
    (S_FR h_q51_2 rfl (c := 5) (k := 2) ry5_2 (fun t55 t55' ht55 =>
    (S_O h_q51_2 ht55 (fun a62 ea62 =>
    (S_C1 (rX1_number hC hF hv9 hv6 h_q51_2) f_q51_2 (fun q62_1 q62_2 q62_1' q62_2' hq62 h_q62_2 f_q62_2 =>
    (S_FI h_q62_2 hv1 (c := 0) (k := 3) iy0_3 (fun t72 t72' ht72 =>
    (S_C1 (rX6_quotient hC hF hv8 ht72 h_q62_2) f_q62_2 (fun q75_1 q75_2 q75_1' q75_2' hq75 h_q75_2 f_q75_2 =>
    (hr _ _ _ _ _ _ _ _ _ _ _ _ _ hv1 hv6 (eAdd hv7 (eMul hq51 hq62)) hq75 (eAdd hv9 (eL (by decide) : (1 : Int32) = Int32.ofInt (1 : Int))) h_q75_2 f_q75_2))))))))))))))))))))
set_option maxRecDepth 100000 in
theorem rX5_numberOf_l31 {F : Nat} {C : yC} {E : (Int × zO) → (Int32 × gW) → Prop} {w0 : gW} {k86 : Option Nat → Int → zO → Option (Int × zO)} {k86' : (Option Nat) → Int32 → gW → Option (Int32 × gW)} (hC : oSep C) (hF : fF F) (hk86 : ∀ (a1 : Option Nat) (a2 : Int) (Z : zO) (b1 : (Option Nat)) (b2 : Int32) (w : gW), b1 = a1 → b2 = Int32.ofInt a2 → oRep C Z w → oFr C w0 w → zR E (k86 a1 a2 Z) (k86' b1 b2 w)) : ∀ (n : Nat) (v0 : Nat) (v1 : Option Nat) (v6 : Int) (v7 : Int) (v8 : Int) (v9 : Int) (w : zO) (v1' : (Option Nat)) (v6' : Int32) (v7' : Int32) (v8' : Int32) (v9' : Int32) (w' : gW), v1' = v1 → v6' = Int32.ofInt v6 → v7' = Int32.ofInt v7 → v8' = Int32.ofInt v8 → v9' = Int32.ofInt v9 → oRep C w w' → oFr C w0 w' → zR E (zX5_numberOf_l31 F C k86 n v0 v1 v6 v7 v8 v9 w) (mX5_numberOf_l31 F k86' n v0 v1' v6' v7' v8' v9' w') := by
  intro n
  induction n with
  | zero => intros; exact R_none
  | succ n ih =>
    intro v0 v1 v6 v7 v8 v9 w v1' v6' v7' v8' v9' w' hv1 hv6 hv7 hv8 hv9 h_w f_w
    exact rX5_numberOf_h31 hC hF ih hk86 hv1 hv6 hv7 hv8 hv9 h_w f_w
set_option maxRecDepth 100000 in
theorem rX5_numberOf {F : Nat} {C : yC} {v0 : Nat} {v1 : Option Nat} {v1' : Option Nat} {v2 : Int} {v2' : Int32} {v3 : Int} {v3' : Int32} {v4 : Int} {v4' : Int32} {v5 : Int} {v5' : Int32} {w : zO} {w' : gW} (hC : oSep C) (hF : fF F) (hv1 : v1' = v1) (hv2 : v2' = Int32.ofInt v2) (hv3 : v3' = Int32.ofInt v3) (hv4 : v4' = Int32.ofInt v4) (hv5 : v5' = Int32.ofInt v5) (h_w : oRep C w w') : zR (Y1 C w') (zX5_numberOf F C v0 v1 v2 v3 v4 v5 w) (mX5_numberOf F v0 v1' v2' v3' v4' v5' w') := by
  have f_w : oFr C w' w' := oFr.rf
  unfold zX5_numberOf mX5_numberOf
  exact (R_Eq hv3 (eL (by decide) : (0 : Int32) = Int32.ofInt (0 : Int))
  (S_ret1 (eL (by decide) : (0 : Int32) = Int32.ofInt (0 : Int)) h_w f_w)
  (R_Eq hv4 (eL (by decide) : (0 : Int32) = Int32.ofInt (0 : Int))
    (S_ret1 (eL (by decide) : (0 : Int32) = Int32.ofInt (0 : Int)) h_w f_w)
    (S_O h_w hv1 (fun a17 ea17 =>
      (S_C1 (rX0_place hC hF hv3 hv4 hv5 h_w) f_w (fun q17_1 q17_2 q17_1' q17_2' hq17 h_q17_2 f_q17_2 =>
      (rX5_numberOf_l31 hC hF (by exact (fun v1 v7 w v1' v7' w' hv1 hv7 h_w f_w =>
        (S_FI h_w hv1 (c := 0) (k := 3) iy0_3 (fun t89 t89' ht89 =>
        (S_C1 (rX6_mod hC hF hv7 ht89 h_w) f_w (fun q92_1 q92_2 q92_1' q92_2' hq92 h_q92_2 f_q92_2 =>
        (S_ret1 hq92 h_q92_2 f_q92_2))))))) F _ _ _ _ _ _ _ _ _ _ _ _ _ hv1 hq17 (eL (by decide) : (0 : Int32) = Int32.ofInt (0 : Int)) hv2 (eL (by decide) : (0 : Int32) = Int32.ofInt (0 : Int)) h_q17_2 f_q17_2)))))))
set_option maxRecDepth 100000 in
theorem rX5_readPair_b104 {F : Nat} {C : yC} {E : (Int × zO) → (Int32 × gW) → Prop} {w0 : gW} {r : Nat → Option Nat → Option Nat → Int → Int → Int → Int → zO → Option (Int × zO)} {r' : Nat → (Option Nat) → (Option Nat) → Int32 → Int32 → Int32 → Int32 → gW → Option (Int32 × gW)} {k110 : Nat → Option Nat → Option Nat → Int → Int → Int → zO → Option (Int × zO)} {k110' : Nat → (Option Nat) → (Option Nat) → Int32 → Int32 → Int32 → gW → Option (Int32 × gW)} {v0 : Nat} {v1 : Option Nat} {v1' : Option Nat} {v2 : Option Nat} {v2' : Option Nat} {v3 : Int} {v3' : Int32} {v4 : Int} {v4' : Int32} {v5 : Int} {v5' : Int32} {v6 : Int} {v6' : Int32} {w : zO} {w' : gW} (hC : oSep C) (hF : fF F) (hr : ∀ (a1 : Nat) (a2 : Option Nat) (a3 : Option Nat) (a4 : Int) (a5 : Int) (a6 : Int) (a7 : Int) (Z : zO) (b2 : (Option Nat)) (b3 : (Option Nat)) (b4 : Int32) (b5 : Int32) (b6 : Int32) (b7 : Int32) (w : gW), b2 = a2 → b3 = a3 → b4 = Int32.ofInt a4 → b5 = Int32.ofInt a5 → b6 = Int32.ofInt a6 → b7 = Int32.ofInt a7 → oRep C Z w → oFr C w0 w → zR E (r a1 a2 a3 a4 a5 a6 a7 Z) (r' a1 b2 b3 b4 b5 b6 b7 w)) (hk110 : ∀ (a1 : Nat) (a2 : Option Nat) (a3 : Option Nat) (a4 : Int) (a5 : Int) (a6 : Int) (Z : zO) (b2 : (Option Nat)) (b3 : (Option Nat)) (b4 : Int32) (b5 : Int32) (b6 : Int32) (w : gW), b2 = a2 → b3 = a3 → b4 = Int32.ofInt a4 → b5 = Int32.ofInt a5 → b6 = Int32.ofInt a6 → oRep C Z w → oFr C w0 w → zR E (k110 a1 a2 a3 a4 a5 a6 Z) (k110' a1 b2 b3 b4 b5 b6 w)) (hv1 : v1' = v1) (hv2 : v2' = v2) (hv3 : v3' = Int32.ofInt v3) (hv4 : v4' = Int32.ofInt v4) (hv5 : v5' = Int32.ofInt v5) (hv6 : v6' = Int32.ofInt v6) (h_w : oRep C w w') (f_w : oFr C w0 w') : zR E (zX5_readPair_b104 F C r k110 v0 v1 v2 v3 v4 v5 v6 w) (mX5_readPair_b104 F r' k110' v0 v1' v2' v3' v4' v5' v6' w') := by
  unfold zX5_readPair_b104 mX5_readPair_b104
  exact (hr _ _ _ _ _ _ _ _ _ _ _ _ _ _ _ hv1 hv2 hv3 hv4 hv5 (eAdd hv6 (eL (by decide) : (1 : Int32) = Int32.ofInt (1 : Int))) h_w f_w)
set_option maxRecDepth 100000 in
theorem rX5_readPair_b97 {F : Nat} {C : yC} {w0 : gW} {r : Nat → Option Nat → Option Nat → Int → Int → Int → Int → zO → Option (Int × zO)} {r' : Nat → (Option Nat) → (Option Nat) → Int32 → Int32 → Int32 → Int32 → gW → Option (Int32 × gW)} {k110 : Nat → Option Nat → Option Nat → Int → Int → Int → zO → Option (Int × zO)} {k110' : Nat → (Option Nat) → (Option Nat) → Int32 → Int32 → Int32 → gW → Option (Int32 × gW)} {v0 : Nat} {v1 : Option Nat} {v1' : Option Nat} {v2 : Option Nat} {v2' : Option Nat} {v3 : Int} {v3' : Int32} {v4 : Int} {v4' : Int32} {v5 : Int} {v5' : Int32} {v6 : Int} {v6' : Int32} {v7 : Int} {v7' : Int32} {w : zO} {w' : gW} (hC : oSep C) (hF : fF F) (hr : ∀ (a1 : Nat) (a2 : Option Nat) (a3 : Option Nat) (a4 : Int) (a5 : Int) (a6 : Int) (a7 : Int) (Z : zO) (b2 : (Option Nat)) (b3 : (Option Nat)) (b4 : Int32) (b5 : Int32) (b6 : Int32) (b7 : Int32) (w : gW), b2 = a2 → b3 = a3 → b4 = Int32.ofInt a4 → b5 = Int32.ofInt a5 → b6 = Int32.ofInt a6 → b7 = Int32.ofInt a7 → oRep C Z w → oFr C w0 w → zR (Y1 C w0) (r a1 a2 a3 a4 a5 a6 a7 Z) (r' a1 b2 b3 b4 b5 b6 b7 w)) (hk110 : ∀ (a1 : Nat) (a2 : Option Nat) (a3 : Option Nat) (a4 : Int) (a5 : Int) (a6 : Int) (Z : zO) (b2 : (Option Nat)) (b3 : (Option Nat)) (b4 : Int32) (b5 : Int32) (b6 : Int32) (w : gW), b2 = a2 → b3 = a3 → b4 = Int32.ofInt a4 → b5 = Int32.ofInt a5 → b6 = Int32.ofInt a6 → oRep C Z w → oFr C w0 w → zR (Y1 C w0) (k110 a1 a2 a3 a4 a5 a6 Z) (k110' a1 b2 b3 b4 b5 b6 w)) (hv1 : v1' = v1) (hv2 : v2' = v2) (hv3 : v3' = Int32.ofInt v3) (hv4 : v4' = Int32.ofInt v4) (hv5 : v5' = Int32.ofInt v5) (hv6 : v6' = Int32.ofInt v6) (hv7 : v7' = Int32.ofInt v7) (h_w : oRep C w w') (f_w : oFr C w0 w') : zR (Y1 C w0) (zX5_readPair_b97 F C r k110 v0 v1 v2 v3 v4 v5 v6 v7 w) (mX5_readPair_b97 F r' k110' v0 v1' v2' v3' v4' v5' v6' v7' w') := by
  unfold zX5_readPair_b97 mX5_readPair_b97
  exact (R_Eq hv7 (eL (by decide) : (0 : Int32) = Int32.ofInt (0 : Int))
  (rX5_readPair_b104 hC hF hr hk110 hv1 hv2 hv3 hv4 hv5 hv6 h_w f_w)
  (S_ret1 (eL (by decide) : (0 : Int32) = Int32.ofInt (0 : Int)) h_w f_w))
set_option maxRecDepth 100000 in
theorem rX5_readPair_h29 {F : Nat} {C : yC} {w0 : gW} {r : Nat → Option Nat → Option Nat → Int → Int → Int → Int → zO → Option (Int × zO)} {r' : Nat → (Option Nat) → (Option Nat) → Int32 → Int32 → Int32 → Int32 → gW → Option (Int32 × gW)} {k110 : Nat → Option Nat → Option Nat → Int → Int → Int → zO → Option (Int × zO)} {k110' : Nat → (Option Nat) → (Option Nat) → Int32 → Int32 → Int32 → gW → Option (Int32 × gW)} {v0 : Nat} {v1 : Option Nat} {v1' : Option Nat} {v2 : Option Nat} {v2' : Option Nat} {v3 : Int} {v3' : Int32} {v4 : Int} {v4' : Int32} {v5 : Int} {v5' : Int32} {v6 : Int} {v6' : Int32} {w : zO} {w' : gW} (hC : oSep C) (hF : fF F) (hr : ∀ (a1 : Nat) (a2 : Option Nat) (a3 : Option Nat) (a4 : Int) (a5 : Int) (a6 : Int) (a7 : Int) (Z : zO) (b2 : (Option Nat)) (b3 : (Option Nat)) (b4 : Int32) (b5 : Int32) (b6 : Int32) (b7 : Int32) (w : gW), b2 = a2 → b3 = a3 → b4 = Int32.ofInt a4 → b5 = Int32.ofInt a5 → b6 = Int32.ofInt a6 → b7 = Int32.ofInt a7 → oRep C Z w → oFr C w0 w → zR (Y1 C w0) (r a1 a2 a3 a4 a5 a6 a7 Z) (r' a1 b2 b3 b4 b5 b6 b7 w)) (hk110 : ∀ (a1 : Nat) (a2 : Option Nat) (a3 : Option Nat) (a4 : Int) (a5 : Int) (a6 : Int) (Z : zO) (b2 : (Option Nat)) (b3 : (Option Nat)) (b4 : Int32) (b5 : Int32) (b6 : Int32) (w : gW), b2 = a2 → b3 = a3 → b4 = Int32.ofInt a4 → b5 = Int32.ofInt a5 → b6 = Int32.ofInt a6 → oRep C Z w → oFr C w0 w → zR (Y1 C w0) (k110 a1 a2 a3 a4 a5 a6 Z) (k110' a1 b2 b3 b4 b5 b6 w)) (hv1 : v1' = v1) (hv2 : v2' = v2) (hv3 : v3' = Int32.ofInt v3) (hv4 : v4' = Int32.ofInt v4) (hv5 : v5' = Int32.ofInt v5) (hv6 : v6' = Int32.ofInt v6) (h_w : oRep C w w') (f_w : oFr C w0 w') : zR (Y1 C w0) (zX5_readPair_h29 F C r k110 v0 v1 v2 v3 v4 v5 v6 w) (mX5_readPair_h29 F r' k110' v0 v1' v2' v3' v4' v5' v6' w') := by
  unfold zX5_readPair_h29 mX5_readPair_h29
  exact (S_FI h_w hv1 (c := 0) (k := 4) iy0_4 (fun t32 t32' ht32 =>
  (R_Le ht32 hv6
  (hk110 _ _ _ _ _ _ _ _ _ _ _ _ _ hv1 hv2 hv3 hv4 hv5 h_w f_w)
  (S_AR h_w hv2 (c := 4) (k := 0) (off := 1) ay4_0 (fun t39' ht39 =>
    (S_FI h_w hv1 (c := 0) (k := 4) iy0_4 (fun t43 t43' ht43 =>
    (S_Ld h_w ht39 (c := 4) (k := 0) dy4_0 (by decide) (eAdd (eMul ht43 (eAdd (eMul hv3 hv4) hv5)) hv6) (fun t57 t57' ht57 =>
    (S_FI h_w hv1 (c := 0) (k := 3) iy0_3 (fun t59 t59' ht59 =>
    (S_C1 (rX6_mod hC hF ht57 ht59 h_w) f_w (fun q62_1 q62_2 q62_1' q62_2' hq62 h_q62_2 f_q62_2 =>
    (R_Eq hv4 (eL (by decide) : (0 : Int32) = Int32.ofInt (0 : Int))
    (rX5_readPair_b97 hC hF hr hk110 hv1 hv2 hv3 hv4 hv5 hv6 hq62 h_q62_2 f_q62_2)
    (R_Eq hv5 (eL (by decide) : (0 : Int32) = Int32.ofInt (0 : Int))
      (rX5_readPair_b97 hC hF hr hk110 hv1 hv2 hv3 hv4 hv5 hv6 hq62 h_q62_2 f_q62_2)
      (S_AR h_q62_2 rfl (c := 5) (k := 0) (off := 1) ay5_0 (fun t78' ht78 =>
        (S_O h_q62_2 hv1 (fun a88 ea88 =>
        (S_C1 (rX0_place hC hF hv4 hv5 hv6 h_q62_2) f_q62_2 (fun q88_1 q88_2 q88_1' q88_2' hq88 h_q88_2 f_q88_2 =>
        (S_St h_q88_2 f_q88_2 hC ht78 (c := 5) (k := 0) dy5_0 (by decide) hq88 hq62 (fun w93 w93' h_w93 f_w93 =>
        (rX5_readPair_b104 hC hF hr hk110 hv1 hv2 hv3 hv4 hv5 hv6 h_w93 f_w93))))))))))))))))))))))))
set_option maxRecDepth 100000 in
theorem rX5_readPair_l29 {F : Nat} {C : yC} {w0 : gW} {k110 : Nat → Option Nat → Option Nat → Int → Int → Int → zO → Option (Int × zO)} {k110' : Nat → (Option Nat) → (Option Nat) → Int32 → Int32 → Int32 → gW → Option (Int32 × gW)} (hC : oSep C) (hF : fF F) (hk110 : ∀ (a1 : Nat) (a2 : Option Nat) (a3 : Option Nat) (a4 : Int) (a5 : Int) (a6 : Int) (Z : zO) (b2 : (Option Nat)) (b3 : (Option Nat)) (b4 : Int32) (b5 : Int32) (b6 : Int32) (w : gW), b2 = a2 → b3 = a3 → b4 = Int32.ofInt a4 → b5 = Int32.ofInt a5 → b6 = Int32.ofInt a6 → oRep C Z w → oFr C w0 w → zR (Y1 C w0) (k110 a1 a2 a3 a4 a5 a6 Z) (k110' a1 b2 b3 b4 b5 b6 w)) : ∀ (n : Nat) (v0 : Nat) (v1 : Option Nat) (v2 : Option Nat) (v3 : Int) (v4 : Int) (v5 : Int) (v6 : Int) (w : zO) (v1' : (Option Nat)) (v2' : (Option Nat)) (v3' : Int32) (v4' : Int32) (v5' : Int32) (v6' : Int32) (w' : gW), v1' = v1 → v2' = v2 → v3' = Int32.ofInt v3 → v4' = Int32.ofInt v4 → v5' = Int32.ofInt v5 → v6' = Int32.ofInt v6 → oRep C w w' → oFr C w0 w' → zR (Y1 C w0) (zX5_readPair_l29 F C k110 n v0 v1 v2 v3 v4 v5 v6 w) (mX5_readPair_l29 F k110' n v0 v1' v2' v3' v4' v5' v6' w') := by
  intro n
  induction n with
  | zero => intros; exact R_none
  | succ n ih =>
    intro v0 v1 v2 v3 v4 v5 v6 w v1' v2' v3' v4' v5' v6' w' hv1 hv2 hv3 hv4 hv5 hv6 h_w f_w
    exact rX5_readPair_h29 hC hF ih hk110 hv1 hv2 hv3 hv4 hv5 hv6 h_w f_w
set_option maxRecDepth 100000 in
theorem rX5_readPair_h20 {F : Nat} {C : yC} {w0 : gW} {r : Nat → Option Nat → Option Nat → Int → Int → Int → zO → Option (Int × zO)} {r' : Nat → (Option Nat) → (Option Nat) → Int32 → Int32 → Int32 → gW → Option (Int32 × gW)} {k116 : Nat → Option Nat → Option Nat → Int → Int → zO → Option (Int × zO)} {k116' : Nat → (Option Nat) → (Option Nat) → Int32 → Int32 → gW → Option (Int32 × gW)} {v0 : Nat} {v1 : Option Nat} {v1' : Option Nat} {v2 : Option Nat} {v2' : Option Nat} {v3 : Int} {v3' : Int32} {v4 : Int} {v4' : Int32} {v5 : Int} {v5' : Int32} {w : zO} {w' : gW} (hC : oSep C) (hF : fF F) (hr : ∀ (a1 : Nat) (a2 : Option Nat) (a3 : Option Nat) (a4 : Int) (a5 : Int) (a6 : Int) (Z : zO) (b2 : (Option Nat)) (b3 : (Option Nat)) (b4 : Int32) (b5 : Int32) (b6 : Int32) (w : gW), b2 = a2 → b3 = a3 → b4 = Int32.ofInt a4 → b5 = Int32.ofInt a5 → b6 = Int32.ofInt a6 → oRep C Z w → oFr C w0 w → zR (Y1 C w0) (r a1 a2 a3 a4 a5 a6 Z) (r' a1 b2 b3 b4 b5 b6 w)) (hk116 : ∀ (a1 : Nat) (a2 : Option Nat) (a3 : Option Nat) (a4 : Int) (a5 : Int) (Z : zO) (b2 : (Option Nat)) (b3 : (Option Nat)) (b4 : Int32) (b5 : Int32) (w : gW), b2 = a2 → b3 = a3 → b4 = Int32.ofInt a4 → b5 = Int32.ofInt a5 → oRep C Z w → oFr C w0 w → zR (Y1 C w0) (k116 a1 a2 a3 a4 a5 Z) (k116' a1 b2 b3 b4 b5 w)) (hv1 : v1' = v1) (hv2 : v2' = v2) (hv3 : v3' = Int32.ofInt v3) (hv4 : v4' = Int32.ofInt v4) (hv5 : v5' = Int32.ofInt v5) (h_w : oRep C w w') (f_w : oFr C w0 w') : zR (Y1 C w0) (zX5_readPair_h20 F C r k116 v0 v1 v2 v3 v4 v5 w) (mX5_readPair_h20 F r' k116' v0 v1' v2' v3' v4' v5' w') := by
  unfold zX5_readPair_h20 mX5_readPair_h20
  exact (R_Le hv3 hv5
  (hk116 _ _ _ _ _ _ _ _ _ _ _ hv1 hv2 hv3 hv4 h_w f_w)
  (rX5_readPair_l29 hC hF (by exact (fun v0 v1 v2 v3 v4 v5 w v1' v2' v3' v4' v5' w' hv1 hv2 hv3 hv4 hv5 h_w f_w =>
      (hr _ _ _ _ _ _ _ _ _ _ _ _ _ hv1 hv2 hv3 hv4 (eAdd hv5 (eL (by decide) : (1 : Int32) = Int32.ofInt (1 : Int))) h_w f_w))) F _ _ _ _ _ _ _ _ _ _ _ _ _ _ _ hv1 hv2 hv3 hv4 hv5 (eL (by decide) : (0 : Int32) = Int32.ofInt (0 : Int)) h_w f_w))
set_option maxRecDepth 100000 in
theorem rX5_readPair_l20 {F : Nat} {C : yC} {w0 : gW} {k116 : Nat → Option Nat → Option Nat → Int → Int → zO → Option (Int × zO)} {k116' : Nat → (Option Nat) → (Option Nat) → Int32 → Int32 → gW → Option (Int32 × gW)} (hC : oSep C) (hF : fF F) (hk116 : ∀ (a1 : Nat) (a2 : Option Nat) (a3 : Option Nat) (a4 : Int) (a5 : Int) (Z : zO) (b2 : (Option Nat)) (b3 : (Option Nat)) (b4 : Int32) (b5 : Int32) (w : gW), b2 = a2 → b3 = a3 → b4 = Int32.ofInt a4 → b5 = Int32.ofInt a5 → oRep C Z w → oFr C w0 w → zR (Y1 C w0) (k116 a1 a2 a3 a4 a5 Z) (k116' a1 b2 b3 b4 b5 w)) : ∀ (n : Nat) (v0 : Nat) (v1 : Option Nat) (v2 : Option Nat) (v3 : Int) (v4 : Int) (v5 : Int) (w : zO) (v1' : (Option Nat)) (v2' : (Option Nat)) (v3' : Int32) (v4' : Int32) (v5' : Int32) (w' : gW), v1' = v1 → v2' = v2 → v3' = Int32.ofInt v3 → v4' = Int32.ofInt v4 → v5' = Int32.ofInt v5 → oRep C w w' → oFr C w0 w' → zR (Y1 C w0) (zX5_readPair_l20 F C k116 n v0 v1 v2 v3 v4 v5 w) (mX5_readPair_l20 F k116' n v0 v1' v2' v3' v4' v5' w') := by
  intro n
  induction n with
  | zero => intros; exact R_none
  | succ n ih =>
    intro v0 v1 v2 v3 v4 v5 w v1' v2' v3' v4' v5' w' hv1 hv2 hv3 hv4 hv5 h_w f_w
    exact rX5_readPair_h20 hC hF ih hk116 hv1 hv2 hv3 hv4 hv5 h_w f_w
set_option maxRecDepth 100000 in
theorem rX5_readPair_h11 {F : Nat} {C : yC} {w0 : gW} {r : Nat → Option Nat → Option Nat → Int → Int → zO → Option (Int × zO)} {r' : Nat → (Option Nat) → (Option Nat) → Int32 → Int32 → gW → Option (Int32 × gW)} {v0 : Nat} {v1 : Option Nat} {v1' : Option Nat} {v2 : Option Nat} {v2' : Option Nat} {v3 : Int} {v3' : Int32} {v4 : Int} {v4' : Int32} {w : zO} {w' : gW} (hC : oSep C) (hF : fF F) (hr : ∀ (a1 : Nat) (a2 : Option Nat) (a3 : Option Nat) (a4 : Int) (a5 : Int) (Z : zO) (b2 : (Option Nat)) (b3 : (Option Nat)) (b4 : Int32) (b5 : Int32) (w : gW), b2 = a2 → b3 = a3 → b4 = Int32.ofInt a4 → b5 = Int32.ofInt a5 → oRep C Z w → oFr C w0 w → zR (Y1 C w0) (r a1 a2 a3 a4 a5 Z) (r' a1 b2 b3 b4 b5 w)) (hv1 : v1' = v1) (hv2 : v2' = v2) (hv3 : v3' = Int32.ofInt v3) (hv4 : v4' = Int32.ofInt v4) (h_w : oRep C w w') (f_w : oFr C w0 w') : zR (Y1 C w0) (zX5_readPair_h11 F C r v0 v1 v2 v3 v4 w) (mX5_readPair_h11 F r' v0 v1' v2' v3' v4' w') := by
  unfold zX5_readPair_h11 mX5_readPair_h11
  exact (R_Le hv3 hv4
  (S_ret1 (eL (by decide) : (1 : Int32) = Int32.ofInt (1 : Int)) h_w f_w)
  (rX5_readPair_l20 hC hF (by exact (fun v0 v1 v2 v3 v4 w v1' v2' v3' v4' w' hv1 hv2 hv3 hv4 h_w f_w =>
      (hr _ _ _ _ _ _ _ _ _ _ _ hv1 hv2 hv3 (eAdd hv4 (eL (by decide) : (1 : Int32) = Int32.ofInt (1 : Int))) h_w f_w))) F _ _ _ _ _ _ _ _ _ _ _ _ _ hv1 hv2 hv3 hv4 (eL (by decide) : (0 : Int32) = Int32.ofInt (0 : Int)) h_w f_w))
set_option maxRecDepth 100000 in
theorem rX5_readPair_l11 {F : Nat} {C : yC} {w0 : gW}  (hC : oSep C) (hF : fF F)  : ∀ (n : Nat) (v0 : Nat) (v1 : Option Nat) (v2 : Option Nat) (v3 : Int) (v4 : Int) (w : zO) (v1' : (Option Nat)) (v2' : (Option Nat)) (v3' : Int32) (v4' : Int32) (w' : gW), v1' = v1 → v2' = v2 → v3' = Int32.ofInt v3 → v4' = Int32.ofInt v4 → oRep C w w' → oFr C w0 w' → zR (Y1 C w0) (zX5_readPair_l11 F C  n v0 v1 v2 v3 v4 w) (mX5_readPair_l11 F  n v0 v1' v2' v3' v4' w') := by
  intro n
  induction n with
  | zero => intros; exact R_none
  | succ n ih =>
    intro v0 v1 v2 v3 v4 w v1' v2' v3' v4' w' hv1 hv2 hv3 hv4 h_w f_w
    exact rX5_readPair_h11 hC hF ih  hv1 hv2 hv3 hv4 h_w f_w
set_option maxRecDepth 100000 in
theorem rX5_readPair {F : Nat} {C : yC} {v0 : Nat} {v1 : Option Nat} {v1' : Option Nat} {v2 : Option Nat} {v2' : Option Nat} {w : zO} {w' : gW} (hC : oSep C) (hF : fF F) (hv1 : v1' = v1) (hv2 : v2' = v2) (h_w : oRep C w w') : zR (Y1 C w') (zX5_readPair F C v0 v1 v2 w) (mX5_readPair F v0 v1' v2' w') := by
  have f_w : oFr C w' w' := oFr.rf
  unfold zX5_readPair mX5_readPair
  exact (S_FR h_w hv1 (c := 0) (k := 2) ry0_2 (fun t1 t1' ht1 =>
  (S_FI h_w ht1 (c := 2) (k := 7) iy2_7 (fun t4 t4' ht4 =>
  (rX5_readPair_l11 hC hF F _ _ _ _ _ _ _ _ _ _ _ hv1 hv2 ht4 (eL (by decide) : (0 : Int32) = Int32.ofInt (0 : Int)) h_w f_w)))))
set_option maxRecDepth 100000 in
theorem rX5_writeStandard_b102 {F : Nat} {C : yC} {E : zO → gW → Prop} {w0 : gW} {r : Nat → Option Nat → Int → Int → Int → Int → zO → Option zO} {r' : Nat → (Option Nat) → Int32 → Int32 → Int32 → Int32 → gW → Option (gW)} {v0 : Nat} {v1 : Option Nat} {v1' : Option Nat} {v2 : Int} {v2' : Int32} {v3 : Int} {v3' : Int32} {v4 : Int} {v4' : Int32} {v5 : Int} {v5' : Int32} {w : zO} {w' : gW} (hC : oSep C) (hF : fF F) (hr : ∀ (a1 : Nat) (a2 : Option Nat) (a3 : Int) (a4 : Int) (a5 : Int) (a6 : Int) (Z : zO) (b2 : (Option Nat)) (b3 : Int32) (b4 : Int32) (b5 : Int32) (b6 : Int32) (w : gW), b2 = a2 → b3 = Int32.ofInt a3 → b4 = Int32.ofInt a4 → b5 = Int32.ofInt a5 → b6 = Int32.ofInt a6 → oRep C Z w → oFr C w0 w → zR E (r a1 a2 a3 a4 a5 a6 Z) (r' a1 b2 b3 b4 b5 b6 w)) (hv1 : v1' = v1) (hv2 : v2' = Int32.ofInt v2) (hv3 : v3' = Int32.ofInt v3) (hv4 : v4' = Int32.ofInt v4) (hv5 : v5' = Int32.ofInt v5) (h_w : oRep C w w') (f_w : oFr C w0 w') : zR E (zX5_writeStandard_b102 F C r v0 v1 v2 v3 v4 v5 w) (mX5_writeStandard_b102 F r' v0 v1' v2' v3' v4' v5' w') := by
  unfold zX5_writeStandard_b102 mX5_writeStandard_b102
  exact (hr _ _ _ _ _ _ _ _ _ _ _ _ _ hv1 hv2 hv3 hv4 (eAdd hv5 (eL (by decide) : (1 : Int32) = Int32.ofInt (1 : Int))) h_w f_w)
set_option maxRecDepth 100000 in
theorem rX5_writeStandard_h49 {F : Nat} {C : yC} {E : zO → gW → Prop} {w0 : gW} {r : Nat → Option Nat → Int → Int → Int → Int → Int → Int → Int → zO → Option zO} {r' : Nat → (Option Nat) → Int32 → Int32 → Int32 → Int32 → Int32 → Int32 → Int32 → gW → Option (gW)} {k87 : Nat → Option Nat → Int → Int → Int → Int → Int → zO → Option zO} {k87' : Nat → (Option Nat) → Int32 → Int32 → Int32 → Int32 → Int32 → gW → Option (gW)} {v0 : Nat} {v1 : Option Nat} {v1' : Option Nat} {v2 : Int} {v2' : Int32} {v3 : Int} {v3' : Int32} {v4 : Int} {v4' : Int32} {v5 : Int} {v5' : Int32} {v6 : Int} {v6' : Int32} {v7 : Int} {v7' : Int32} {v8 : Int} {v8' : Int32} {w : zO} {w' : gW} (hC : oSep C) (hF : fF F) (hr : ∀ (a1 : Nat) (a2 : Option Nat) (a3 : Int) (a4 : Int) (a5 : Int) (a6 : Int) (a7 : Int) (a8 : Int) (a9 : Int) (Z : zO) (b2 : (Option Nat)) (b3 : Int32) (b4 : Int32) (b5 : Int32) (b6 : Int32) (b7 : Int32) (b8 : Int32) (b9 : Int32) (w : gW), b2 = a2 → b3 = Int32.ofInt a3 → b4 = Int32.ofInt a4 → b5 = Int32.ofInt a5 → b6 = Int32.ofInt a6 → b7 = Int32.ofInt a7 → b8 = Int32.ofInt a8 → b9 = Int32.ofInt a9 → oRep C Z w → oFr C w0 w → zR E (r a1 a2 a3 a4 a5 a6 a7 a8 a9 Z) (r' a1 b2 b3 b4 b5 b6 b7 b8 b9 w)) (hk87 : ∀ (a1 : Nat) (a2 : Option Nat) (a3 : Int) (a4 : Int) (a5 : Int) (a6 : Int) (a7 : Int) (Z : zO) (b2 : (Option Nat)) (b3 : Int32) (b4 : Int32) (b5 : Int32) (b6 : Int32) (b7 : Int32) (w : gW), b2 = a2 → b3 = Int32.ofInt a3 → b4 = Int32.ofInt a4 → b5 = Int32.ofInt a5 → b6 = Int32.ofInt a6 → b7 = Int32.ofInt a7 → oRep C Z w → oFr C w0 w → zR E (k87 a1 a2 a3 a4 a5 a6 a7 Z) (k87' a1 b2 b3 b4 b5 b6 b7 w)) (hv1 : v1' = v1) (hv2 : v2' = Int32.ofInt v2) (hv3 : v3' = Int32.ofInt v3) (hv4 : v4' = Int32.ofInt v4) (hv5 : v5' = Int32.ofInt v5) (hv6 : v6' = Int32.ofInt v6) (hv7 : v7' = Int32.ofInt v7) (hv8 : v8' = Int32.ofInt v8) (h_w : oRep C w w') (f_w : oFr C w0 w') : zR E (zX5_writeStandard_h49 F C r k87 v0 v1 v2 v3 v4 v5 v6 v7 v8 w) (mX5_writeStandard_h49 F r' k87' v0 v1' v2' v3' v4' v5' v6' v7' v8' w') := by
  unfold zX5_writeStandard_h49 mX5_writeStandard_h49
  exact (R_Le hv5 hv8
  (hk87 _ _ _ _ _ _ _ _ _ _ _ _ _ _ _ hv1 hv2 hv3 hv4 hv5 hv7 h_w f_w)
  (S_AR h_w rfl (c := 5) (k := 0) (off := 1) ay5_0 (fun t59' ht59 =>
    (S_Ld h_w ht59 (c := 5) (k := 0) dy5_0 (by decide) hv8 (fun t64 t64' ht64 =>
    (S_O h_w hv1 (fun a74 ea74 =>
    (S_C1 (rX1_leadingNumber hC hF hv6 (eSub (eSub hv3 (eL (by decide) : (1 : Int32) = Int32.ofInt (1 : Int))) hv8) h_w) f_w (fun q74_1 q74_2 q74_1' q74_2' hq74 h_q74_2 f_q74_2 =>
    (hr _ _ _ _ _ _ _ _ _ _ _ _ _ _ _ _ _ _ _ hv1 hv2 hv3 hv4 hv5 hv6 (eAdd hv7 (eMul ht64 hq74)) (eAdd hv8 (eL (by decide) : (1 : Int32) = Int32.ofInt (1 : Int))) h_q74_2 f_q74_2))))))))))
set_option maxRecDepth 100000 in
theorem rX5_writeStandard_l49 {F : Nat} {C : yC} {E : zO → gW → Prop} {w0 : gW} {k87 : Nat → Option Nat → Int → Int → Int → Int → Int → zO → Option zO} {k87' : Nat → (Option Nat) → Int32 → Int32 → Int32 → Int32 → Int32 → gW → Option (gW)} (hC : oSep C) (hF : fF F) (hk87 : ∀ (a1 : Nat) (a2 : Option Nat) (a3 : Int) (a4 : Int) (a5 : Int) (a6 : Int) (a7 : Int) (Z : zO) (b2 : (Option Nat)) (b3 : Int32) (b4 : Int32) (b5 : Int32) (b6 : Int32) (b7 : Int32) (w : gW), b2 = a2 → b3 = Int32.ofInt a3 → b4 = Int32.ofInt a4 → b5 = Int32.ofInt a5 → b6 = Int32.ofInt a6 → b7 = Int32.ofInt a7 → oRep C Z w → oFr C w0 w → zR E (k87 a1 a2 a3 a4 a5 a6 a7 Z) (k87' a1 b2 b3 b4 b5 b6 b7 w)) : ∀ (n : Nat) (v0 : Nat) (v1 : Option Nat) (v2 : Int) (v3 : Int) (v4 : Int) (v5 : Int) (v6 : Int) (v7 : Int) (v8 : Int) (w : zO) (v1' : (Option Nat)) (v2' : Int32) (v3' : Int32) (v4' : Int32) (v5' : Int32) (v6' : Int32) (v7' : Int32) (v8' : Int32) (w' : gW), v1' = v1 → v2' = Int32.ofInt v2 → v3' = Int32.ofInt v3 → v4' = Int32.ofInt v4 → v5' = Int32.ofInt v5 → v6' = Int32.ofInt v6 → v7' = Int32.ofInt v7 → v8' = Int32.ofInt v8 → oRep C w w' → oFr C w0 w' → zR E (zX5_writeStandard_l49 F C k87 n v0 v1 v2 v3 v4 v5 v6 v7 v8 w) (mX5_writeStandard_l49 F k87' n v0 v1' v2' v3' v4' v5' v6' v7' v8' w') := by
  intro n
  induction n with
  | zero => intros; exact R_none
  | succ n ih =>
    intro v0 v1 v2 v3 v4 v5 v6 v7 v8 w v1' v2' v3' v4' v5' v6' v7' v8' w' hv1 hv2 hv3 hv4 hv5 hv6 hv7 hv8 h_w f_w
    exact rX5_writeStandard_h49 hC hF ih hk87 hv1 hv2 hv3 hv4 hv5 hv6 hv7 hv8 h_w f_w
set_option maxRecDepth 100000 in
theorem rX5_writeStandard_h20 {F : Nat} {C : yC} {w0 : gW} {r : Nat → Option Nat → Int → Int → Int → Int → zO → Option zO} {r' : Nat → (Option Nat) → Int32 → Int32 → Int32 → Int32 → gW → Option (gW)} {v0 : Nat} {v1 : Option Nat} {v1' : Option Nat} {v2 : Int} {v2' : Int32} {v3 : Int} {v3' : Int32} {v4 : Int} {v4' : Int32} {v5 : Int} {v5' : Int32} {w : zO} {w' : gW} (hC : oSep C) (hF : fF F) (hr : ∀ (a1 : Nat) (a2 : Option Nat) (a3 : Int) (a4 : Int) (a5 : Int) (a6 : Int) (Z : zO) (b2 : (Option Nat)) (b3 : Int32) (b4 : Int32) (b5 : Int32) (b6 : Int32) (w : gW), b2 = a2 → b3 = Int32.ofInt a3 → b4 = Int32.ofInt a4 → b5 = Int32.ofInt a5 → b6 = Int32.ofInt a6 → oRep C Z w → oFr C w0 w → zR (Y0 C w0) (r a1 a2 a3 a4 a5 a6 Z) (r' a1 b2 b3 b4 b5 b6 w)) (hv1 : v1' = v1) (hv2 : v2' = Int32.ofInt v2) (hv3 : v3' = Int32.ofInt v3) (hv4 : v4' = Int32.ofInt v4) (hv5 : v5' = Int32.ofInt v5) (h_w : oRep C w w') (f_w : oFr C w0 w') : zR (Y0 C w0) (zX5_writeStandard_h20 F C r v0 v1 v2 v3 v4 v5 w) (mX5_writeStandard_h20 F r' v0 v1' v2' v3' v4' v5' w') := by
  unfold zX5_writeStandard_h20 mX5_writeStandard_h20
  exact (R_Le hv3 hv5
  (S_ret0 h_w f_w)
  (S_O h_w hv1 (fun a37 ea37 =>
    (S_C1 (rX1_leadsAt hC hF (eSub (eSub hv3 (eL (by decide) : (1 : Int32) = Int32.ofInt (1 : Int))) hv5) h_w) f_w (fun q37_1 q37_2 q37_1' q37_2' hq37 h_q37_2 f_q37_2 =>
    (R_Eq hq37 (eL (by decide) : (0 : Int32) = Int32.ofInt (0 : Int))
    (rX5_writeStandard_b102 hC hF hr hv1 hv2 hv3 hv4 hv5 h_q37_2 f_q37_2)
    (rX5_writeStandard_l49 hC hF (by exact (fun v0 v1 v2 v3 v4 v5 v7 w v1' v2' v3' v4' v5' v7' w' hv1 hv2 hv3 hv4 hv5 hv7 h_w f_w =>
        (S_AR h_w rfl (c := 5) (k := 0) (off := 1) ay5_0 (fun t88' ht88 =>
        (S_C1 (rX6_mod hC hF (eNeg hv7) hv4 h_w) f_w (fun q98_1 q98_2 q98_1' q98_2' hq98 h_q98_2 f_q98_2 =>
        (S_St h_q98_2 f_q98_2 hC ht88 (c := 5) (k := 0) dy5_0 (by decide) hv5 hq98 (fun w101 w101' h_w101 f_w101 =>
        (rX5_writeStandard_b102 hC hF hr hv1 hv2 hv3 hv4 hv5 h_w101 f_w101))))))))) F _ _ _ _ _ _ _ _ _ _ _ _ _ _ _ _ _ _ _ hv1 hv2 hv3 hv4 hv5 (eSub (eSub hv3 (eL (by decide) : (1 : Int32) = Int32.ofInt (1 : Int))) hv5) (eL (by decide) : (0 : Int32) = Int32.ofInt (0 : Int)) hv2 h_q37_2 f_q37_2)))))))
set_option maxRecDepth 100000 in
theorem rX5_writeStandard_l20 {F : Nat} {C : yC} {w0 : gW}  (hC : oSep C) (hF : fF F)  : ∀ (n : Nat) (v0 : Nat) (v1 : Option Nat) (v2 : Int) (v3 : Int) (v4 : Int) (v5 : Int) (w : zO) (v1' : (Option Nat)) (v2' : Int32) (v3' : Int32) (v4' : Int32) (v5' : Int32) (w' : gW), v1' = v1 → v2' = Int32.ofInt v2 → v3' = Int32.ofInt v3 → v4' = Int32.ofInt v4 → v5' = Int32.ofInt v5 → oRep C w w' → oFr C w0 w' → zR (Y0 C w0) (zX5_writeStandard_l20 F C  n v0 v1 v2 v3 v4 v5 w) (mX5_writeStandard_l20 F  n v0 v1' v2' v3' v4' v5' w') := by
  intro n
  induction n with
  | zero => intros; exact R_none
  | succ n ih =>
    intro v0 v1 v2 v3 v4 v5 w v1' v2' v3' v4' v5' w' hv1 hv2 hv3 hv4 hv5 h_w f_w
    exact rX5_writeStandard_h20 hC hF ih  hv1 hv2 hv3 hv4 hv5 h_w f_w
set_option maxRecDepth 100000 in
theorem rX5_writeStandard {F : Nat} {C : yC} {v0 : Nat} {v1 : Option Nat} {v1' : Option Nat} {v2 : Int} {v2' : Int32} {v3 : Int} {v3' : Int32} {v4 : Int} {v4' : Int32} {w : zO} {w' : gW} (hC : oSep C) (hF : fF F) (hv1 : v1' = v1) (hv2 : v2' = Int32.ofInt v2) (hv3 : v3' = Int32.ofInt v3) (hv4 : v4' = Int32.ofInt v4) (h_w : oRep C w w') : zR (Y0 C w') (zX5_writeStandard F C v0 v1 v2 v3 v4 w) (mX5_writeStandard F v0 v1' v2' v3' v4' w') := by
  have f_w : oFr C w' w' := oFr.rf
  unfold zX5_writeStandard mX5_writeStandard
  exact (S_AR h_w rfl (c := 5) (k := 0) (off := 1) ay5_0 (fun t1' ht1 =>
  (S_Fill h_w f_w hC ht1 (c := 5) (k := 0) dy5_0 (by decide) (eL (by decide) : (0 : Int32) = Int32.ofInt (0 : Int)) (fun q5 q5' h_q5 f_q5 =>
  (S_AR h_q5 rfl (c := 5) (k := 0) (off := 1) ay5_0 (fun t9' ht9 =>
  (S_St h_q5 f_q5 hC ht9 (c := 5) (k := 0) dy5_0 (by decide) hv2 (eL (by decide) : (1 : Int32) = Int32.ofInt (1 : Int)) (fun w14 w14' h_w14 f_w14 =>
  (rX5_writeStandard_l20 hC hF F _ _ _ _ _ _ _ _ _ _ _ _ _ hv1 hv2 hv3 hv4 (eAdd hv2 (eL (by decide) : (1 : Int32) = Int32.ofInt (1 : Int))) h_w14 f_w14)))))) hF)))
set_option maxRecDepth 100000 in
theorem rX6_addDigits_h9 {F : Nat} {C : yC} {w0 : gW} {r : Int → Int → Int → Int → Int → Int → Int → zO → Option (Int × zO)} {r' : Int32 → Int32 → Int32 → Int32 → Int32 → Int32 → Int32 → gW → Option (Int32 × gW)} {v0 : Int} {v0' : Int32} {v1 : Int} {v1' : Int32} {v2 : Int} {v2' : Int32} {v3 : Int} {v3' : Int32} {v4 : Int} {v4' : Int32} {v5 : Int} {v5' : Int32} {v6 : Int} {v6' : Int32} {w : zO} {w' : gW} (hC : oSep C) (hF : fF F) (hr : ∀ (a1 : Int) (a2 : Int) (a3 : Int) (a4 : Int) (a5 : Int) (a6 : Int) (a7 : Int) (Z : zO) (b1 : Int32) (b2 : Int32) (b3 : Int32) (b4 : Int32) (b5 : Int32) (b6 : Int32) (b7 : Int32) (w : gW), b1 = Int32.ofInt a1 → b2 = Int32.ofInt a2 → b3 = Int32.ofInt a3 → b4 = Int32.ofInt a4 → b5 = Int32.ofInt a5 → b6 = Int32.ofInt a6 → b7 = Int32.ofInt a7 → oRep C Z w → oFr C w0 w → zR (Y1 C w0) (r a1 a2 a3 a4 a5 a6 a7 Z) (r' b1 b2 b3 b4 b5 b6 b7 w)) (hv0 : v0' = Int32.ofInt v0) (hv1 : v1' = Int32.ofInt v1) (hv2 : v2' = Int32.ofInt v2) (hv3 : v3' = Int32.ofInt v3) (hv4 : v4' = Int32.ofInt v4) (hv5 : v5' = Int32.ofInt v5) (hv6 : v6' = Int32.ofInt v6) (h_w : oRep C w w') (f_w : oFr C w0 w') : zR (Y1 C w0) (zX6_addDigits_h9 F C r v0 v1 v2 v3 v4 v5 v6 w) (mX6_addDigits_h9 F r' v0' v1' v2' v3' v4' v5' v6' w') := by
  unfold zX6_addDigits_h9 mX6_addDigits_h9
  exact (R_Le hv3 hv6
  (S_ret1 hv4 h_w f_w)
  (S_C1 (rX6_quotient hC hF hv0 hv5 h_w) f_w (fun q22_1 q22_2 q22_1' q22_2' hq22 h_q22_2 f_q22_2 =>
    (S_C1 (rX6_quotient hC hF hv1 hv5 h_q22_2) f_q22_2 (fun q28_1 q28_2 q28_1' q28_2' hq28 h_q28_2 f_q28_2 =>
    (S_C1 (rX6_mod hC hF (eAdd hq22 hq28) hv2 h_q28_2) f_q28_2 (fun q33_1 q33_2 q33_1' q33_2' hq33 h_q33_2 f_q33_2 =>
    (hr _ _ _ _ _ _ _ _ _ _ _ _ _ _ _ _ hv0 hv1 hv2 hv3 (eAdd hv4 (eMul hv5 hq33)) (eMul hv5 hv2) (eAdd hv6 (eL (by decide) : (1 : Int32) = Int32.ofInt (1 : Int))) h_q33_2 f_q33_2))))))))
set_option maxRecDepth 100000 in
theorem rX6_addDigits_l9 {F : Nat} {C : yC} {w0 : gW}  (hC : oSep C) (hF : fF F)  : ∀ (n : Nat) (v0 : Int) (v1 : Int) (v2 : Int) (v3 : Int) (v4 : Int) (v5 : Int) (v6 : Int) (w : zO) (v0' : Int32) (v1' : Int32) (v2' : Int32) (v3' : Int32) (v4' : Int32) (v5' : Int32) (v6' : Int32) (w' : gW), v0' = Int32.ofInt v0 → v1' = Int32.ofInt v1 → v2' = Int32.ofInt v2 → v3' = Int32.ofInt v3 → v4' = Int32.ofInt v4 → v5' = Int32.ofInt v5 → v6' = Int32.ofInt v6 → oRep C w w' → oFr C w0 w' → zR (Y1 C w0) (zX6_addDigits_l9 F C  n v0 v1 v2 v3 v4 v5 v6 w) (mX6_addDigits_l9 F  n v0' v1' v2' v3' v4' v5' v6' w') := by
  intro n
  induction n with
  | zero => intros; exact R_none
  | succ n ih =>
    intro v0 v1 v2 v3 v4 v5 v6 w v0' v1' v2' v3' v4' v5' v6' w' hv0 hv1 hv2 hv3 hv4 hv5 hv6 h_w f_w
    exact rX6_addDigits_h9 hC hF ih  hv0 hv1 hv2 hv3 hv4 hv5 hv6 h_w f_w
set_option maxRecDepth 100000 in
theorem rX6_addDigits {F : Nat} {C : yC} {v0 : Int} {v0' : Int32} {v1 : Int} {v1' : Int32} {v2 : Int} {v2' : Int32} {v3 : Int} {v3' : Int32} {w : zO} {w' : gW} (hC : oSep C) (hF : fF F) (hv0 : v0' = Int32.ofInt v0) (hv1 : v1' = Int32.ofInt v1) (hv2 : v2' = Int32.ofInt v2) (hv3 : v3' = Int32.ofInt v3) (h_w : oRep C w w') : zR (Y1 C w') (zX6_addDigits F C v0 v1 v2 v3 w) (mX6_addDigits F v0' v1' v2' v3' w') := by
  have f_w : oFr C w' w' := oFr.rf
  unfold zX6_addDigits mX6_addDigits
  exact (rX6_addDigits_l9 hC hF F _ _ _ _ _ _ _ _ _ _ _ _ _ _ _ _ hv0 hv1 hv2 hv3 (eL (by decide) : (0 : Int32) = Int32.ofInt (0 : Int)) (eL (by decide) : (1 : Int32) = Int32.ofInt (1 : Int)) (eL (by decide) : (0 : Int32) = Int32.ofInt (0 : Int)) h_w f_w)
set_option maxRecDepth 100000 in
theorem rX0_firstUnsound_b37 {F : Nat} {C : yC} {w0 : gW} {r : Nat → Int → Int → zO → Option (Int × zO)} {r' : Nat → Int32 → Int32 → gW → Option (Int32 × gW)} {k50 : Nat → Int → zO → Option (Int × zO)} {k50' : Nat → Int32 → gW → Option (Int32 × gW)} {v0 : Nat} {v1 : Int} {v1' : Int32} {v2 : Int} {v2' : Int32} {s0 : Int} {s0' : Int32} {s1 : Int} {s1' : Int32} {w : zO} {w' : gW} (hC : oSep C) (hF : fF F) (hr : ∀ (a1 : Nat) (a2 : Int) (a3 : Int) (Z : zO) (b2 : Int32) (b3 : Int32) (w : gW), b2 = Int32.ofInt a2 → b3 = Int32.ofInt a3 → oRep C Z w → oFr C w0 w → zR (Y1 C w0) (r a1 a2 a3 Z) (r' a1 b2 b3 w)) (hk50 : ∀ (a1 : Nat) (a2 : Int) (Z : zO) (b2 : Int32) (w : gW), b2 = Int32.ofInt a2 → oRep C Z w → oFr C w0 w → zR (Y1 C w0) (k50 a1 a2 Z) (k50' a1 b2 w)) (hv1 : v1' = Int32.ofInt v1) (hv2 : v2' = Int32.ofInt v2) (hs0 : s0' = Int32.ofInt s0) (hs1 : s1' = Int32.ofInt s1) (h_w : oRep C w w') (f_w : oFr C w0 w') : zR (Y1 C w0) (zX0_firstUnsound_b37 F C r k50 v0 v1 v2 s0 s1 w) (mX0_firstUnsound_b37 F r' k50' v0 v1' v2' s0' s1' w') := by
  unfold zX0_firstUnsound_b37 mX0_firstUnsound_b37
  exact (R_Eq hs0 hs1
  (hr _ _ _ _ _ _ _ hv1 (eAdd hv2 (eL (by decide) : (1 : Int32) = Int32.ofInt (1 : Int))) h_w f_w)
  (S_ret1 (eL (by decide) : (1000 : Int32) = Int32.ofInt (1000 : Int)) h_w f_w))
set_option maxRecDepth 100000 in
theorem rX0_firstUnsound_h12 {F : Nat} {C : yC} {w0 : gW} {r : Nat → Int → Int → zO → Option (Int × zO)} {r' : Nat → Int32 → Int32 → gW → Option (Int32 × gW)} {k50 : Nat → Int → zO → Option (Int × zO)} {k50' : Nat → Int32 → gW → Option (Int32 × gW)} {v0 : Nat} {v1 : Int} {v1' : Int32} {v2 : Int} {v2' : Int32} {w : zO} {w' : gW} (hC : oSep C) (hF : fF F) (hr : ∀ (a1 : Nat) (a2 : Int) (a3 : Int) (Z : zO) (b2 : Int32) (b3 : Int32) (w : gW), b2 = Int32.ofInt a2 → b3 = Int32.ofInt a3 → oRep C Z w → oFr C w0 w → zR (Y1 C w0) (r a1 a2 a3 Z) (r' a1 b2 b3 w)) (hk50 : ∀ (a1 : Nat) (a2 : Int) (Z : zO) (b2 : Int32) (w : gW), b2 = Int32.ofInt a2 → oRep C Z w → oFr C w0 w → zR (Y1 C w0) (k50 a1 a2 Z) (k50' a1 b2 w)) (hv1 : v1' = Int32.ofInt v1) (hv2 : v2' = Int32.ofInt v2) (h_w : oRep C w w') (f_w : oFr C w0 w') : zR (Y1 C w0) (zX0_firstUnsound_h12 F C r k50 v0 v1 v2 w) (mX0_firstUnsound_h12 F r' k50' v0 v1' v2' w') := by
  unfold zX0_firstUnsound_h12 mX0_firstUnsound_h12
  exact (S_FI h_w rfl (c := 0) (k := 4) iy0_4 (fun t14 t14' ht14 =>
  (R_Le ht14 hv2
  (hk50 _ _ _ _ _ hv1 h_w f_w)
  (S_O h_w rfl (fun a24 ea24 =>
    (S_C1 (rX0_entry hC hF (eL (by decide) : (0 : Int32) = Int32.ofInt (0 : Int)) hv1 hv2 h_w) f_w (fun q24_1 q24_2 q24_1' q24_2' hq24 h_q24_2 f_q24_2 =>
    (R_Eq hv1 hv2
    (rX0_firstUnsound_b37 hC hF hr hk50 hv1 hv2 hq24 (eL (by decide) : (1 : Int32) = Int32.ofInt (1 : Int)) h_q24_2 f_q24_2)
    (rX0_firstUnsound_b37 hC hF hr hk50 hv1 hv2 hq24 (eL (by decide) : (0 : Int32) = Int32.ofInt (0 : Int)) h_q24_2 f_q24_2)))))))))
set_option maxRecDepth 100000 in
theorem rX0_firstUnsound_l12 {F : Nat} {C : yC} {w0 : gW} {k50 : Nat → Int → zO → Option (Int × zO)} {k50' : Nat → Int32 → gW → Option (Int32 × gW)} (hC : oSep C) (hF : fF F) (hk50 : ∀ (a1 : Nat) (a2 : Int) (Z : zO) (b2 : Int32) (w : gW), b2 = Int32.ofInt a2 → oRep C Z w → oFr C w0 w → zR (Y1 C w0) (k50 a1 a2 Z) (k50' a1 b2 w)) : ∀ (n : Nat) (v0 : Nat) (v1 : Int) (v2 : Int) (w : zO) (v1' : Int32) (v2' : Int32) (w' : gW), v1' = Int32.ofInt v1 → v2' = Int32.ofInt v2 → oRep C w w' → oFr C w0 w' → zR (Y1 C w0) (zX0_firstUnsound_l12 F C k50 n v0 v1 v2 w) (mX0_firstUnsound_l12 F k50' n v0 v1' v2' w') := by
  intro n
  induction n with
  | zero => intros; exact R_none
  | succ n ih =>
    intro v0 v1 v2 w v1' v2' w' hv1 hv2 h_w f_w
    exact rX0_firstUnsound_h12 hC hF ih hk50 hv1 hv2 h_w f_w
set_option maxRecDepth 100000 in
theorem rX0_firstUnsound_h2 {F : Nat} {C : yC} {w0 : gW} {r : Nat → Int → zO → Option (Int × zO)} {r' : Nat → Int32 → gW → Option (Int32 × gW)} {k56 : Nat → zO → Option (Int × zO)} {k56' : Nat → gW → Option (Int32 × gW)} {v0 : Nat} {v1 : Int} {v1' : Int32} {w : zO} {w' : gW} (hC : oSep C) (hF : fF F) (hr : ∀ (a1 : Nat) (a2 : Int) (Z : zO) (b2 : Int32) (w : gW), b2 = Int32.ofInt a2 → oRep C Z w → oFr C w0 w → zR (Y1 C w0) (r a1 a2 Z) (r' a1 b2 w)) (hk56 : ∀ (a1 : Nat) (Z : zO) (w : gW), oRep C Z w → oFr C w0 w → zR (Y1 C w0) (k56 a1 Z) (k56' a1 w)) (hv1 : v1' = Int32.ofInt v1) (h_w : oRep C w w') (f_w : oFr C w0 w') : zR (Y1 C w0) (zX0_firstUnsound_h2 F C r k56 v0 v1 w) (mX0_firstUnsound_h2 F r' k56' v0 v1' w') := by
  unfold zX0_firstUnsound_h2 mX0_firstUnsound_h2
  exact (S_FI h_w rfl (c := 0) (k := 4) iy0_4 (fun t4 t4' ht4 =>
  (R_Le ht4 hv1
  (hk56 _ _ _ h_w f_w)
  (rX0_firstUnsound_l12 hC hF (by exact (fun v0 v1 w v1' w' hv1 h_w f_w =>
      (hr _ _ _ _ _ (eAdd hv1 (eL (by decide) : (1 : Int32) = Int32.ofInt (1 : Int))) h_w f_w))) F _ _ _ _ _ _ _ hv1 (eL (by decide) : (0 : Int32) = Int32.ofInt (0 : Int)) h_w f_w))))
set_option maxRecDepth 100000 in
theorem rX0_firstUnsound_l2 {F : Nat} {C : yC} {w0 : gW} {k56 : Nat → zO → Option (Int × zO)} {k56' : Nat → gW → Option (Int32 × gW)} (hC : oSep C) (hF : fF F) (hk56 : ∀ (a1 : Nat) (Z : zO) (w : gW), oRep C Z w → oFr C w0 w → zR (Y1 C w0) (k56 a1 Z) (k56' a1 w)) : ∀ (n : Nat) (v0 : Nat) (v1 : Int) (w : zO) (v1' : Int32) (w' : gW), v1' = Int32.ofInt v1 → oRep C w w' → oFr C w0 w' → zR (Y1 C w0) (zX0_firstUnsound_l2 F C k56 n v0 v1 w) (mX0_firstUnsound_l2 F k56' n v0 v1' w') := by
  intro n
  induction n with
  | zero => intros; exact R_none
  | succ n ih =>
    intro v0 v1 w v1' w' hv1 h_w f_w
    exact rX0_firstUnsound_h2 hC hF ih hk56 hv1 h_w f_w
set_option maxRecDepth 100000 in
theorem rX0_firstUnsound_h71 {F : Nat} {C : yC} {E : (Int × zO) → (Int32 × gW) → Prop} {w0 : gW} {r : Nat → Int → Int → zO → Option (Int × zO)} {r' : Nat → Int32 → Int32 → gW → Option (Int32 × gW)} {k111 : Nat → Int → zO → Option (Int × zO)} {k111' : Nat → Int32 → gW → Option (Int32 × gW)} {k91 : Nat → Int → Int → zO → Option (Int × zO)} {k91' : Nat → Int32 → Int32 → gW → Option (Int32 × gW)} {v0 : Nat} {v1 : Int} {v1' : Int32} {v2 : Int} {v2' : Int32} {w : zO} {w' : gW} (hC : oSep C) (hF : fF F) (hr : ∀ (a1 : Nat) (a2 : Int) (a3 : Int) (Z : zO) (b2 : Int32) (b3 : Int32) (w : gW), b2 = Int32.ofInt a2 → b3 = Int32.ofInt a3 → oRep C Z w → oFr C w0 w → zR E (r a1 a2 a3 Z) (r' a1 b2 b3 w)) (hk111 : ∀ (a1 : Nat) (a2 : Int) (Z : zO) (b2 : Int32) (w : gW), b2 = Int32.ofInt a2 → oRep C Z w → oFr C w0 w → zR E (k111 a1 a2 Z) (k111' a1 b2 w)) (hk91 : ∀ (a1 : Nat) (a2 : Int) (a3 : Int) (Z : zO) (b2 : Int32) (b3 : Int32) (w : gW), b2 = Int32.ofInt a2 → b3 = Int32.ofInt a3 → oRep C Z w → oFr C w0 w → zR E (k91 a1 a2 a3 Z) (k91' a1 b2 b3 w)) (hv1 : v1' = Int32.ofInt v1) (hv2 : v2' = Int32.ofInt v2) (h_w : oRep C w w') (f_w : oFr C w0 w') : zR E (zX0_firstUnsound_h71 F C r k111 k91 v0 v1 v2 w) (mX0_firstUnsound_h71 F r' k111' k91' v0 v1' v2' w') := by
  unfold zX0_firstUnsound_h71 mX0_firstUnsound_h71
  exact (S_FR h_w rfl (c := 0) (k := 2) ry0_2 (fun t73 t73' ht73 =>
  (S_FI h_w ht73 (c := 2) (k := 7) iy2_7 (fun t76 t76' ht76 =>
  (R_Le ht76 hv2
  (hk111 _ _ _ _ _ hv1 h_w f_w)
  (S_O h_w rfl (fun a85 ea85 =>
    (S_C1 (rX0_goesWithProduct hC hF hv1 hv2 h_w) f_w (fun q85_1 q85_2 q85_1' q85_2' hq85 h_q85_2 f_q85_2 =>
    (R_Eq hq85 (eL (by decide) : (0 : Int32) = Int32.ofInt (0 : Int))
    (hk91 _ _ _ _ _ _ _ hv1 hv2 h_q85_2 f_q85_2)
    (hr _ _ _ _ _ _ _ hv1 (eAdd hv2 (eL (by decide) : (1 : Int32) = Int32.ofInt (1 : Int))) h_q85_2 f_q85_2)))))))))))
set_option maxRecDepth 100000 in
theorem rX0_firstUnsound_l71 {F : Nat} {C : yC} {E : (Int × zO) → (Int32 × gW) → Prop} {w0 : gW} {k111 : Nat → Int → zO → Option (Int × zO)} {k111' : Nat → Int32 → gW → Option (Int32 × gW)} {k91 : Nat → Int → Int → zO → Option (Int × zO)} {k91' : Nat → Int32 → Int32 → gW → Option (Int32 × gW)} (hC : oSep C) (hF : fF F) (hk111 : ∀ (a1 : Nat) (a2 : Int) (Z : zO) (b2 : Int32) (w : gW), b2 = Int32.ofInt a2 → oRep C Z w → oFr C w0 w → zR E (k111 a1 a2 Z) (k111' a1 b2 w)) (hk91 : ∀ (a1 : Nat) (a2 : Int) (a3 : Int) (Z : zO) (b2 : Int32) (b3 : Int32) (w : gW), b2 = Int32.ofInt a2 → b3 = Int32.ofInt a3 → oRep C Z w → oFr C w0 w → zR E (k91 a1 a2 a3 Z) (k91' a1 b2 b3 w)) : ∀ (n : Nat) (v0 : Nat) (v1 : Int) (v2 : Int) (w : zO) (v1' : Int32) (v2' : Int32) (w' : gW), v1' = Int32.ofInt v1 → v2' = Int32.ofInt v2 → oRep C w w' → oFr C w0 w' → zR E (zX0_firstUnsound_l71 F C k111 k91 n v0 v1 v2 w) (mX0_firstUnsound_l71 F k111' k91' n v0 v1' v2' w') := by
  intro n
  induction n with
  | zero => intros; exact R_none
  | succ n ih =>
    intro v0 v1 v2 w v1' v2' w' hv1 hv2 h_w f_w
    exact rX0_firstUnsound_h71 hC hF ih hk111 hk91 hv1 hv2 h_w f_w
set_option maxRecDepth 100000 in
theorem rX0_firstUnsound_h58 {F : Nat} {C : yC} {w0 : gW} {r : Nat → Int → zO → Option (Int × zO)} {r' : Nat → Int32 → gW → Option (Int32 × gW)} {k91 : Nat → Int → Int → zO → Option (Int × zO)} {k91' : Nat → Int32 → Int32 → gW → Option (Int32 × gW)} {v0 : Nat} {v1 : Int} {v1' : Int32} {w : zO} {w' : gW} (hC : oSep C) (hF : fF F) (hr : ∀ (a1 : Nat) (a2 : Int) (Z : zO) (b2 : Int32) (w : gW), b2 = Int32.ofInt a2 → oRep C Z w → oFr C w0 w → zR (Y1 C w0) (r a1 a2 Z) (r' a1 b2 w)) (hk91 : ∀ (a1 : Nat) (a2 : Int) (a3 : Int) (Z : zO) (b2 : Int32) (b3 : Int32) (w : gW), b2 = Int32.ofInt a2 → b3 = Int32.ofInt a3 → oRep C Z w → oFr C w0 w → zR (Y1 C w0) (k91 a1 a2 a3 Z) (k91' a1 b2 b3 w)) (hv1 : v1' = Int32.ofInt v1) (h_w : oRep C w w') (f_w : oFr C w0 w') : zR (Y1 C w0) (zX0_firstUnsound_h58 F C r k91 v0 v1 w) (mX0_firstUnsound_h58 F r' k91' v0 v1' w') := by
  unfold zX0_firstUnsound_h58 mX0_firstUnsound_h58
  exact (S_FR h_w rfl (c := 0) (k := 2) ry0_2 (fun t60 t60' ht60 =>
  (S_FI h_w ht60 (c := 2) (k := 7) iy2_7 (fun t63 t63' ht63 =>
  (R_Le ht63 hv1
  (S_ret1 (eL (by decide) : (0 : Int32) = Int32.ofInt (0 : Int)) h_w f_w)
  (rX0_firstUnsound_l71 hC hF (by exact (fun v0 v1 w v1' w' hv1 h_w f_w =>
      (hr _ _ _ _ _ (eAdd hv1 (eL (by decide) : (1 : Int32) = Int32.ofInt (1 : Int))) h_w f_w))) (by exact (fun v0 v1 v2 w v1' v2' w' hv1 hv2 h_w f_w =>
      (hk91 _ _ _ _ _ _ _ hv1 hv2 h_w f_w))) F _ _ _ _ _ _ _ hv1 (eL (by decide) : (0 : Int32) = Int32.ofInt (0 : Int)) h_w f_w))))))
set_option maxRecDepth 100000 in
theorem rX0_firstUnsound_l58 {F : Nat} {C : yC} {w0 : gW} {k91 : Nat → Int → Int → zO → Option (Int × zO)} {k91' : Nat → Int32 → Int32 → gW → Option (Int32 × gW)} (hC : oSep C) (hF : fF F) (hk91 : ∀ (a1 : Nat) (a2 : Int) (a3 : Int) (Z : zO) (b2 : Int32) (b3 : Int32) (w : gW), b2 = Int32.ofInt a2 → b3 = Int32.ofInt a3 → oRep C Z w → oFr C w0 w → zR (Y1 C w0) (k91 a1 a2 a3 Z) (k91' a1 b2 b3 w)) : ∀ (n : Nat) (v0 : Nat) (v1 : Int) (w : zO) (v1' : Int32) (w' : gW), v1' = Int32.ofInt v1 → oRep C w w' → oFr C w0 w' → zR (Y1 C w0) (zX0_firstUnsound_l58 F C k91 n v0 v1 w) (mX0_firstUnsound_l58 F k91' n v0 v1' w') := by
  intro n
  induction n with
  | zero => intros; exact R_none
  | succ n ih =>
    intro v0 v1 w v1' w' hv1 h_w f_w
    exact rX0_firstUnsound_h58 hC hF ih hk91 hv1 h_w f_w
set_option maxRecDepth 100000 in
theorem rX0_firstUnsound {F : Nat} {C : yC} {v0 : Nat} {w : zO} {w' : gW} (hC : oSep C) (hF : fF F) (h_w : oRep C w w') : zR (Y1 C w') (zX0_firstUnsound F C v0 w) (mX0_firstUnsound F v0 w') := by
  have f_w : oFr C w' w' := oFr.rf
  unfold zX0_firstUnsound mX0_firstUnsound
  exact (rX0_firstUnsound_l2 hC hF (by exact (fun v0 w w' h_w f_w =>
    (rX0_firstUnsound_l58 hC hF (by exact (fun v0 v1 v2 w v1' v2' w' hv1 hv2 h_w f_w =>
      (S_FR h_w rfl (c := 0) (k := 2) ry0_2 (fun t93 t93' ht93 =>
      (S_FI h_w ht93 (c := 2) (k := 7) iy2_7 (fun t96 t96' ht96 =>
      (S_ret1 (eAdd (eAdd (eL (by decide) : (1 : Int32) = Int32.ofInt (1 : Int)) (eMul ht96 hv1)) hv2) h_w f_w))))))) F _ _ _ _ _ (eL (by decide) : (0 : Int32) = Int32.ofInt (0 : Int)) h_w f_w))) F _ _ _ _ _ (eL (by decide) : (0 : Int32) = Int32.ofInt (0 : Int)) h_w f_w)
set_option maxRecDepth 100000 in
theorem rX0_plus {F : Nat} {C : yC} {v0 : Nat} {v1 : Int} {v1' : Int32} {v2 : Int} {v2' : Int32} {w : zO} {w' : gW} (hC : oSep C) (hF : fF F) (hv1 : v1' = Int32.ofInt v1) (hv2 : v2' = Int32.ofInt v2) (h_w : oRep C w w') : zR (Y1 C w') (zX0_plus F C v0 v1 v2 w) (mX0_plus F v0 v1' v2' w') := by
  have f_w : oFr C w' w' := oFr.rf
  unfold zX0_plus mX0_plus
  exact (S_FI h_w rfl (c := 0) (k := 3) iy0_3 (fun t3 t3' ht3 =>
  (S_FI h_w rfl (c := 0) (k := 4) iy0_4 (fun t7 t7' ht7 =>
  (S_C1 (rX6_addDigits hC hF hv1 hv2 ht3 ht7 h_w) f_w (fun q10_1 q10_2 q10_1' q10_2' hq10 h_q10_2 f_q10_2 =>
  (S_ret1 hq10 h_q10_2 f_q10_2)))))))
set_option maxRecDepth 100000 in
theorem rX1_add_h2 {F : Nat} {C : yC} {E : zO → gW → Prop} {w0 : gW} {r : Nat → Option Nat → Int → zO → Option zO} {r' : Nat → (Option Nat) → Int32 → gW → Option (gW)} {k29 : Nat → Option Nat → zO → Option zO} {k29' : Nat → (Option Nat) → gW → Option (gW)} {v0 : Nat} {v1 : Option Nat} {v1' : Option Nat} {v2 : Int} {v2' : Int32} {w : zO} {w' : gW} (hC : oSep C) (hF : fF F) (hr : ∀ (a1 : Nat) (a2 : Option Nat) (a3 : Int) (Z : zO) (b2 : (Option Nat)) (b3 : Int32) (w : gW), b2 = oar 1 a2 → b3 = Int32.ofInt a3 → oRep C Z w → oFr C w0 w → zR E (r a1 a2 a3 Z) (r' a1 b2 b3 w)) (hk29 : ∀ (a1 : Nat) (a2 : Option Nat) (Z : zO) (b2 : (Option Nat)) (w : gW), b2 = oar 1 a2 → oRep C Z w → oFr C w0 w → zR E (k29 a1 a2 Z) (k29' a1 b2 w)) (hv1 : v1' = oar 1 v1) (hv2 : v2' = Int32.ofInt v2) (h_w : oRep C w w') (f_w : oFr C w0 w') : zR E (zX1_add_h2 F C r k29 v0 v1 v2 w) (mX1_add_h2 F r' k29' v0 v1' v2' w') := by
  unfold zX1_add_h2 mX1_add_h2
  exact (S_FI h_w rfl (c := 1) (k := 3) iy1_3 (fun t4 t4' ht4 =>
  (R_Le ht4 hv2
  (hk29 _ _ _ _ _ hv1 h_w f_w)
  (S_Ld h_w hv1 (c := 5) (k := 0) dy5_0 (by decide) hv2 (fun t14 t14' ht14 =>
    (S_FI h_w rfl (c := 1) (k := 4) iy1_4 (fun t16 t16' ht16 =>
    (S_C1 (rX6_mod hC hF ht14 ht16 h_w) f_w (fun q19_1 q19_2 q19_1' q19_2' hq19 h_q19_2 f_q19_2 =>
    (S_St h_q19_2 f_q19_2 hC hv1 (c := 5) (k := 0) dy5_0 (by decide) hv2 hq19 (fun w22 w22' h_w22 f_w22 =>
    (hr _ _ _ _ _ _ _ hv1 (eAdd hv2 (eL (by decide) : (1 : Int32) = Int32.ofInt (1 : Int))) h_w22 f_w22))))))))))))
set_option maxRecDepth 100000 in
theorem rX1_add_l2 {F : Nat} {C : yC} {E : zO → gW → Prop} {w0 : gW} {k29 : Nat → Option Nat → zO → Option zO} {k29' : Nat → (Option Nat) → gW → Option (gW)} (hC : oSep C) (hF : fF F) (hk29 : ∀ (a1 : Nat) (a2 : Option Nat) (Z : zO) (b2 : (Option Nat)) (w : gW), b2 = oar 1 a2 → oRep C Z w → oFr C w0 w → zR E (k29 a1 a2 Z) (k29' a1 b2 w)) : ∀ (n : Nat) (v0 : Nat) (v1 : Option Nat) (v2 : Int) (w : zO) (v1' : (Option Nat)) (v2' : Int32) (w' : gW), v1' = oar 1 v1 → v2' = Int32.ofInt v2 → oRep C w w' → oFr C w0 w' → zR E (zX1_add_l2 F C k29 n v0 v1 v2 w) (mX1_add_l2 F k29' n v0 v1' v2' w') := by
  intro n
  induction n with
  | zero => intros; exact R_none
  | succ n ih =>
    intro v0 v1 v2 w v1' v2' w' hv1 hv2 h_w f_w
    exact rX1_add_h2 hC hF ih hk29 hv1 hv2 h_w f_w
set_option maxRecDepth 100000 in
theorem rX1_add_h68 {F : Nat} {C : yC} {E : zO → gW → Prop} {w0 : gW} {r : Nat → Option Nat → Int → Int → Int → zO → Option zO} {r' : Nat → (Option Nat) → Int32 → Int32 → Int32 → gW → Option (gW)} {k111 : Nat → Int → zO → Option zO} {k111' : Nat → Int32 → gW → Option (gW)} {v0 : Nat} {v1 : Option Nat} {v1' : Option Nat} {v2 : Int} {v2' : Int32} {v3 : Int} {v3' : Int32} {v4 : Int} {v4' : Int32} {w : zO} {w' : gW} (hC : oSep C) (hF : fF F) (hr : ∀ (a1 : Nat) (a2 : Option Nat) (a3 : Int) (a4 : Int) (a5 : Int) (Z : zO) (b2 : (Option Nat)) (b3 : Int32) (b4 : Int32) (b5 : Int32) (w : gW), b2 = oar 1 a2 → b3 = Int32.ofInt a3 → b4 = Int32.ofInt a4 → b5 = Int32.ofInt a5 → oRep C Z w → oFr C w0 w → zR E (r a1 a2 a3 a4 a5 Z) (r' a1 b2 b3 b4 b5 w)) (hk111 : ∀ (a1 : Nat) (a2 : Int) (Z : zO) (b2 : Int32) (w : gW), b2 = Int32.ofInt a2 → oRep C Z w → oFr C w0 w → zR E (k111 a1 a2 Z) (k111' a1 b2 w)) (hv1 : v1' = oar 1 v1) (hv2 : v2' = Int32.ofInt v2) (hv3 : v3' = Int32.ofInt v3) (hv4 : v4' = Int32.ofInt v4) (h_w : oRep C w w') (f_w : oFr C w0 w') : zR E (zX1_add_h68 F C r k111 v0 v1 v2 v3 v4 w) (mX1_add_h68 F r' k111' v0 v1' v2' v3' v4' w') := by
  unfold zX1_add_h68 mX1_add_h68
  exact (S_FI h_w rfl (c := 1) (k := 3) iy1_3 (fun t71 t71' ht71 =>
  (R_Le ht71 hv4
  (hk111 _ _ _ _ _ hv2 h_w f_w)
  (S_AR h_w rfl (c := 1) (k := 0) (off := 2) ay1_0 (fun t78' ht78 =>
    (S_FI h_w rfl (c := 1) (k := 5) iy1_5 (fun t82 t82' ht82 =>
    (S_Ld h_w hv1 (c := 5) (k := 0) dy5_0 (by decide) hv4 (fun t94 t94' ht94 =>
    (S_FI h_w rfl (c := 1) (k := 4) iy1_4 (fun t98 t98' ht98 =>
    (S_C1 (rX6_mod hC hF (eMul ht94 hv3) ht98 h_w) f_w (fun q101_1 q101_2 q101_1' q101_2' hq101 h_q101_2 f_q101_2 =>
    (S_SE h_q101_2 f_q101_2 hC ht78 (c := 1) (k := 0) ey1_0 (eAdd (eMul ht82 (eL (by decide) : (98 : Int32) = Int32.ofInt (98 : Int))) hv4) hq101 (fun w104 w104' h_w104 f_w104 =>
    (hr _ _ _ _ _ _ _ _ _ _ _ hv1 hv2 hv3 (eAdd hv4 (eL (by decide) : (1 : Int32) = Int32.ofInt (1 : Int))) h_w104 f_w104))))))))))))))))
set_option maxRecDepth 100000 in
theorem rX1_add_l68 {F : Nat} {C : yC} {E : zO → gW → Prop} {w0 : gW} {k111 : Nat → Int → zO → Option zO} {k111' : Nat → Int32 → gW → Option (gW)} (hC : oSep C) (hF : fF F) (hk111 : ∀ (a1 : Nat) (a2 : Int) (Z : zO) (b2 : Int32) (w : gW), b2 = Int32.ofInt a2 → oRep C Z w → oFr C w0 w → zR E (k111 a1 a2 Z) (k111' a1 b2 w)) : ∀ (n : Nat) (v0 : Nat) (v1 : Option Nat) (v2 : Int) (v3 : Int) (v4 : Int) (w : zO) (v1' : (Option Nat)) (v2' : Int32) (v3' : Int32) (v4' : Int32) (w' : gW), v1' = oar 1 v1 → v2' = Int32.ofInt v2 → v3' = Int32.ofInt v3 → v4' = Int32.ofInt v4 → oRep C w w' → oFr C w0 w' → zR E (zX1_add_l68 F C k111 n v0 v1 v2 v3 v4 w) (mX1_add_l68 F k111' n v0 v1' v2' v3' v4' w') := by
  intro n
  induction n with
  | zero => intros; exact R_none
  | succ n ih =>
    intro v0 v1 v2 v3 v4 w v1' v2' v3' v4' w' hv1 hv2 hv3 hv4 h_w f_w
    exact rX1_add_h68 hC hF ih hk111 hv1 hv2 hv3 hv4 h_w f_w
set_option maxRecDepth 100000 in
theorem rX1_add {F : Nat} {C : yC} {v0 : Nat} {v1 : Option Nat} {v1' : Option Nat} {w : zO} {w' : gW} (hC : oSep C) (hF : fF F) (hv1 : v1' = oar 1 v1) (h_w : oRep C w w') : zR (Y0 C w') (zX1_add F C v0 v1 w) (mX1_add F v0 v1' w') := by
  have f_w : oFr C w' w' := oFr.rf
  unfold zX1_add mX1_add
  exact (rX1_add_l2 hC hF (by exact (fun v0 v1 w v1' w' hv1 h_w f_w =>
    (S_O h_w rfl (fun a31 ea31 =>
    (S_C0 (rX1_reduce hC hF hv1 h_w) f_w (fun q31 q31' h_q31 f_q31 =>
    (S_O h_q31 rfl (fun a36 ea36 =>
    (S_C1 (rX1_firstNotZero hC hF hv1 h_q31) f_q31 (fun q36_1 q36_2 q36_1' q36_2' hq36 h_q36_2 f_q36_2 =>
    (R_Lt hq36 (eL (by decide) : (0 : Int32) = Int32.ofInt (0 : Int))
    (S_ret0 h_q36_2 f_q36_2)
    (S_FI h_q36_2 rfl (c := 1) (k := 5) iy1_5 (fun t45 t45' ht45 =>
      (S_AR h_q36_2 rfl (c := 1) (k := 1) (off := 3) ay1_1 (fun t49' ht49 =>
      (S_LnE h_q36_2 ht49 (c := 1) (k := 1) ey1_1 (fun t52 t52' ht52 =>
      (R_Lt ht45 ht52
      (S_Ld h_q36_2 hv1 (c := 5) (k := 0) dy5_0 (by decide) hq36 (fun t60 t60' ht60 =>
        (S_O h_q36_2 rfl (fun a61 ea61 =>
        (S_C1 (rX1_inverseOf hC hF ht60 h_q36_2) f_q36_2 (fun q61_1 q61_2 q61_1' q61_2' hq61 h_q61_2 f_q61_2 =>
        (rX1_add_l68 hC hF (by exact (fun v0 v2 w v2' w' hv2 h_w f_w =>
          (S_AR h_w rfl (c := 1) (k := 1) (off := 3) ay1_1 (fun t112' ht112 =>
          (S_FI h_w rfl (c := 1) (k := 5) iy1_5 (fun t116 t116' ht116 =>
          (S_SE h_w f_w hC ht112 (c := 1) (k := 1) ey1_1 ht116 hv2 (fun w120 w120' h_w120 f_w120 =>
          (S_AR h_w120 rfl (c := 1) (k := 2) (off := 1) ay1_2 (fun t122' ht122 =>
          (S_FI h_w120 rfl (c := 1) (k := 5) iy1_5 (fun t127 t127' ht127 =>
          (S_St h_w120 f_w120 hC ht122 (c := 1) (k := 2) dy1_2 (by decide) hv2 ht127 (fun w130 w130' h_w130 f_w130 =>
          (S_FI h_w130 rfl (c := 1) (k := 5) iy1_5 (fun t133 t133' ht133 =>
          (S_PI h_w130 f_w130 hC rfl (c := 1) (k := 5) iy1_5 (eAdd ht133 (eL (by decide) : (1 : Int32) = Int32.ofInt (1 : Int))) (fun w138 w138' h_w138 f_w138 =>
          (S_ret0 h_w138 f_w138))))))))))))))))))) F _ _ _ _ _ _ _ _ _ _ _ hv1 hq36 hq61 (eL (by decide) : (0 : Int32) = Int32.ofInt (0 : Int)) h_q61_2 f_q61_2)))))))
      (S_ret0 h_q36_2 f_q36_2))))))))))))))))))) F _ _ _ _ _ _ _ hv1 (eL (by decide) : (0 : Int32) = Int32.ofInt (0 : Int)) h_w f_w)
set_option maxRecDepth 100000 in
theorem rX5_classRead_h36 {F : Nat} {C : yC} {E : (Int × zO) → (Int32 × gW) → Prop} {w0 : gW} {r : Nat → Option Nat → Int → Int → zO → Option (Int × zO)} {r' : Nat → (Option Nat) → Int32 → Int32 → gW → Option (Int32 × gW)} {k69 : Nat → Int → zO → Option (Int × zO)} {k69' : Nat → Int32 → gW → Option (Int32 × gW)} {v0 : Nat} {v1 : Option Nat} {v1' : Option Nat} {v3 : Int} {v3' : Int32} {v4 : Int} {v4' : Int32} {w : zO} {w' : gW} (hC : oSep C) (hF : fF F) (hr : ∀ (a1 : Nat) (a2 : Option Nat) (a3 : Int) (a4 : Int) (Z : zO) (b2 : (Option Nat)) (b3 : Int32) (b4 : Int32) (w : gW), b2 = a2 → b3 = Int32.ofInt a3 → b4 = Int32.ofInt a4 → oRep C Z w → oFr C w0 w → zR E (r a1 a2 a3 a4 Z) (r' a1 b2 b3 b4 w)) (hk69 : ∀ (a1 : Nat) (a2 : Int) (Z : zO) (b2 : Int32) (w : gW), b2 = Int32.ofInt a2 → oRep C Z w → oFr C w0 w → zR E (k69 a1 a2 Z) (k69' a1 b2 w)) (hv1 : v1' = v1) (hv3 : v3' = Int32.ofInt v3) (hv4 : v4' = Int32.ofInt v4) (h_w : oRep C w w') (f_w : oFr C w0 w') : zR E (zX5_classRead_h36 F C r k69 v0 v1 v3 v4 w) (mX5_classRead_h36 F r' k69' v0 v1' v3' v4' w') := by
  unfold zX5_classRead_h36 mX5_classRead_h36
  exact (R_Lt hv4 (eL (by decide) : (0 : Int32) = Int32.ofInt (0 : Int))
  (hk69 _ _ _ _ _ hv3 h_w f_w)
  (S_FI h_w hv1 (c := 0) (k := 3) iy0_3 (fun t43 t43' ht43 =>
    (S_AR h_w rfl (c := 5) (k := 0) (off := 1) ay5_0 (fun t48' ht48 =>
    (S_FR h_w rfl (c := 5) (k := 2) ry5_2 (fun t52 t52' ht52 =>
    (S_O h_w ht52 (fun a57 ea57 =>
    (S_C1 (rX1_leadOf hC hF hv4 h_w) f_w (fun q57_1 q57_2 q57_1' q57_2' hq57 h_q57_2 f_q57_2 =>
    (S_Ld h_q57_2 ht48 (c := 5) (k := 0) dy5_0 (by decide) hq57 (fun t60 t60' ht60 =>
    (hr _ _ _ _ _ _ _ _ _ hv1 (eAdd (eMul hv3 ht43) ht60) (eAdd hv4 (eL (by decide) : (-1 : Int32) = Int32.ofInt (-1 : Int))) h_q57_2 f_q57_2))))))))))))))
set_option maxRecDepth 100000 in
theorem rX5_classRead_l36 {F : Nat} {C : yC} {E : (Int × zO) → (Int32 × gW) → Prop} {w0 : gW} {k69 : Nat → Int → zO → Option (Int × zO)} {k69' : Nat → Int32 → gW → Option (Int32 × gW)} (hC : oSep C) (hF : fF F) (hk69 : ∀ (a1 : Nat) (a2 : Int) (Z : zO) (b2 : Int32) (w : gW), b2 = Int32.ofInt a2 → oRep C Z w → oFr C w0 w → zR E (k69 a1 a2 Z) (k69' a1 b2 w)) : ∀ (n : Nat) (v0 : Nat) (v1 : Option Nat) (v3 : Int) (v4 : Int) (w : zO) (v1' : (Option Nat)) (v3' : Int32) (v4' : Int32) (w' : gW), v1' = v1 → v3' = Int32.ofInt v3 → v4' = Int32.ofInt v4 → oRep C w w' → oFr C w0 w' → zR E (zX5_classRead_l36 F C k69 n v0 v1 v3 v4 w) (mX5_classRead_l36 F k69' n v0 v1' v3' v4' w') := by
  intro n
  induction n with
  | zero => intros; exact R_none
  | succ n ih =>
    intro v0 v1 v3 v4 w v1' v3' v4' w' hv1 hv3 hv4 h_w f_w
    exact rX5_classRead_h36 hC hF ih hk69 hv1 hv3 hv4 h_w f_w
set_option maxRecDepth 100000 in
theorem rX5_classRead {F : Nat} {C : yC} {v0 : Nat} {v1 : Option Nat} {v1' : Option Nat} {v2 : Option Nat} {v2' : Option Nat} {w : zO} {w' : gW} (hC : oSep C) (hF : fF F) (hv1 : v1' = v1) (hv2 : v2' = v2) (h_w : oRep C w w') : zR (Y1 C w') (zX5_classRead F C v0 v1 v2 w) (mX5_classRead F v0 v1' v2' w') := by
  have f_w : oFr C w' w' := oFr.rf
  unfold zX5_classRead mX5_classRead
  exact (S_O h_w rfl (fun a3 ea3 =>
  (S_C1 (rX5_readPair hC hF hv1 hv2 h_w) f_w (fun q3_1 q3_2 q3_1' q3_2' hq3 h_q3_2 f_q3_2 =>
  (R_Eq hq3 (eL (by decide) : (0 : Int32) = Int32.ofInt (0 : Int))
  (S_ret1 (eL (by decide) : (-4 : Int32) = Int32.ofInt (-4 : Int)) h_q3_2 f_q3_2)
  (S_FR h_q3_2 rfl (c := 5) (k := 1) ry5_1 (fun t13 t13' ht13 =>
    (S_AR h_q3_2 rfl (c := 5) (k := 0) (off := 1) ay5_0 (fun t17' ht17 =>
    (S_O h_q3_2 ht13 (fun a20 ea20 =>
    (S_C0 (rX1_reduce hC hF ht17 h_q3_2) f_q3_2 (fun q20 q20' h_q20 f_q20 =>
    (S_FR h_q20 rfl (c := 5) (k := 2) ry5_2 (fun t26 t26' ht26 =>
    (S_FI h_q20 ht26 (c := 1) (k := 5) iy1_5 (fun t29 t29' ht29 =>
    (rX5_classRead_l36 hC hF (by exact (fun v0 v3 w v3' w' hv3 h_w f_w =>
      (S_FR h_w rfl (c := 5) (k := 2) ry5_2 (fun t70 t70' ht70 =>
      (S_AR h_w rfl (c := 5) (k := 0) (off := 1) ay5_0 (fun t74' ht74 =>
      (S_O h_w ht70 (fun a77 ea77 =>
      (S_C0 (rX1_reduce hC hF ht74 h_w) f_w (fun q77 q77' h_q77 f_q77 =>
      (S_FR h_q77 rfl (c := 5) (k := 2) ry5_2 (fun t81 t81' ht81 =>
      (S_AR h_q77 rfl (c := 5) (k := 0) (off := 1) ay5_0 (fun t85' ht85 =>
      (S_O h_q77 ht81 (fun a88 ea88 =>
      (S_C1 (rX1_firstNotZero hC hF ht85 h_q77) f_q77 (fun q88_1 q88_2 q88_1' q88_2' hq88 h_q88_2 f_q88_2 =>
      (R_Le (eL (by decide) : (0 : Int32) = Int32.ofInt (0 : Int)) hq88
      (S_ret1 (eL (by decide) : (-4 : Int32) = Int32.ofInt (-4 : Int)) h_q88_2 f_q88_2)
      (S_ret1 hv3 h_q88_2 f_q88_2)))))))))))))))))))) F _ _ _ _ _ _ _ _ _ hv1 (eL (by decide) : (0 : Int32) = Int32.ofInt (0 : Int)) (eSub ht29 (eL (by decide) : (1 : Int32) = Int32.ofInt (1 : Int))) h_q20 f_q20))))))))))))))))))
set_option maxRecDepth 100000 in
theorem rX5_vectorOf_h11 {F : Nat} {C : yC} {w0 : gW} {r : Nat → Option Nat → Int → Int → Int → Int → Int → zO → Option (Int × zO)} {r' : Nat → (Option Nat) → Int32 → Int32 → Int32 → Int32 → Int32 → gW → Option (Int32 × gW)} {v0 : Nat} {v1 : Option Nat} {v1' : Option Nat} {v2 : Int} {v2' : Int32} {v3 : Int} {v3' : Int32} {v4 : Int} {v4' : Int32} {v5 : Int} {v5' : Int32} {v6 : Int} {v6' : Int32} {w : zO} {w' : gW} (hC : oSep C) (hF : fF F) (hr : ∀ (a1 : Nat) (a2 : Option Nat) (a3 : Int) (a4 : Int) (a5 : Int) (a6 : Int) (a7 : Int) (Z : zO) (b2 : (Option Nat)) (b3 : Int32) (b4 : Int32) (b5 : Int32) (b6 : Int32) (b7 : Int32) (w : gW), b2 = a2 → b3 = Int32.ofInt a3 → b4 = Int32.ofInt a4 → b5 = Int32.ofInt a5 → b6 = Int32.ofInt a6 → b7 = Int32.ofInt a7 → oRep C Z w → oFr C w0 w → zR (Y1 C w0) (r a1 a2 a3 a4 a5 a6 a7 Z) (r' a1 b2 b3 b4 b5 b6 b7 w)) (hv1 : v1' = v1) (hv2 : v2' = Int32.ofInt v2) (hv3 : v3' = Int32.ofInt v3) (hv4 : v4' = Int32.ofInt v4) (hv5 : v5' = Int32.ofInt v5) (hv6 : v6' = Int32.ofInt v6) (h_w : oRep C w w') (f_w : oFr C w0 w') : zR (Y1 C w0) (zX5_vectorOf_h11 F C r v0 v1 v2 v3 v4 v5 v6 w) (mX5_vectorOf_h11 F r' v0 v1' v2' v3' v4' v5' v6' w') := by
  unfold zX5_vectorOf_h11 mX5_vectorOf_h11
  exact (R_Lt hv6 (eL (by decide) : (0 : Int32) = Int32.ofInt (0 : Int))
  (S_ret1 hv5 h_w f_w)
  (S_FI h_w hv1 (c := 0) (k := 3) iy0_3 (fun t19 t19' ht19 =>
    (S_O h_w rfl (fun a31 ea31 =>
    (S_C1 (rX5_numberOf hC hF hv1 hv2 hv3 hv4 hv6 h_w) f_w (fun q31_1 q31_2 q31_1' q31_2' hq31 h_q31_2 f_q31_2 =>
    (hr _ _ _ _ _ _ _ _ _ _ _ _ _ _ _ hv1 hv2 hv3 hv4 (eAdd (eMul hv5 ht19) hq31) (eAdd hv6 (eL (by decide) : (-1 : Int32) = Int32.ofInt (-1 : Int))) h_q31_2 f_q31_2))))))))
set_option maxRecDepth 100000 in
theorem rX5_vectorOf_l11 {F : Nat} {C : yC} {w0 : gW}  (hC : oSep C) (hF : fF F)  : ∀ (n : Nat) (v0 : Nat) (v1 : Option Nat) (v2 : Int) (v3 : Int) (v4 : Int) (v5 : Int) (v6 : Int) (w : zO) (v1' : (Option Nat)) (v2' : Int32) (v3' : Int32) (v4' : Int32) (v5' : Int32) (v6' : Int32) (w' : gW), v1' = v1 → v2' = Int32.ofInt v2 → v3' = Int32.ofInt v3 → v4' = Int32.ofInt v4 → v5' = Int32.ofInt v5 → v6' = Int32.ofInt v6 → oRep C w w' → oFr C w0 w' → zR (Y1 C w0) (zX5_vectorOf_l11 F C  n v0 v1 v2 v3 v4 v5 v6 w) (mX5_vectorOf_l11 F  n v0 v1' v2' v3' v4' v5' v6' w') := by
  intro n
  induction n with
  | zero => intros; exact R_none
  | succ n ih =>
    intro v0 v1 v2 v3 v4 v5 v6 w v1' v2' v3' v4' v5' v6' w' hv1 hv2 hv3 hv4 hv5 hv6 h_w f_w
    exact rX5_vectorOf_h11 hC hF ih  hv1 hv2 hv3 hv4 hv5 hv6 h_w f_w
set_option maxRecDepth 100000 in
theorem rX5_vectorOf {F : Nat} {C : yC} {v0 : Nat} {v1 : Option Nat} {v1' : Option Nat} {v2 : Int} {v2' : Int32} {v3 : Int} {v3' : Int32} {v4 : Int} {v4' : Int32} {w : zO} {w' : gW} (hC : oSep C) (hF : fF F) (hv1 : v1' = v1) (hv2 : v2' = Int32.ofInt v2) (hv3 : v3' = Int32.ofInt v3) (hv4 : v4' = Int32.ofInt v4) (h_w : oRep C w w') : zR (Y1 C w') (zX5_vectorOf F C v0 v1 v2 v3 v4 w) (mX5_vectorOf F v0 v1' v2' v3' v4' w') := by
  have f_w : oFr C w' w' := oFr.rf
  unfold zX5_vectorOf mX5_vectorOf
  exact (S_FI h_w hv1 (c := 0) (k := 4) iy0_4 (fun t4 t4' ht4 =>
  (rX5_vectorOf_l11 hC hF F _ _ _ _ _ _ _ _ _ _ _ _ _ _ _ hv1 hv2 hv3 hv4 (eL (by decide) : (0 : Int32) = Int32.ofInt (0 : Int)) (eSub ht4 (eL (by decide) : (1 : Int32) = Int32.ofInt (1 : Int))) h_w f_w)))
set_option maxRecDepth 100000 in
theorem rX2_fillOver_h90 {F : Nat} {C : yC} {E : zO → gW → Prop} {w0 : gW} {r : Nat → Option Nat → Int → Option Nat → Int → Int → Int → Int → Int → Int → Int → zO → Option zO} {r' : Nat → (Option Nat) → Int32 → (Option Nat) → Int32 → Int32 → Int32 → Int32 → Int32 → Int32 → Int32 → gW → Option (gW)} {k143 : Nat → Option Nat → Int → Option Nat → Int → Int → Int → Int → Int → zO → Option zO} {k143' : Nat → (Option Nat) → Int32 → (Option Nat) → Int32 → Int32 → Int32 → Int32 → Int32 → gW → Option (gW)} {v0 : Nat} {v1 : Option Nat} {v1' : Option Nat} {v2 : Int} {v2' : Int32} {v3 : Option Nat} {v3' : Option Nat} {v4 : Int} {v4' : Int32} {v5 : Int} {v5' : Int32} {v6 : Int} {v6' : Int32} {v7 : Int} {v7' : Int32} {v8 : Int} {v8' : Int32} {v9 : Int} {v9' : Int32} {v10 : Int} {v10' : Int32} {w : zO} {w' : gW} (hC : oSep C) (hF : fF F) (hr : ∀ (a1 : Nat) (a2 : Option Nat) (a3 : Int) (a4 : Option Nat) (a5 : Int) (a6 : Int) (a7 : Int) (a8 : Int) (a9 : Int) (a10 : Int) (a11 : Int) (Z : zO) (b2 : (Option Nat)) (b3 : Int32) (b4 : (Option Nat)) (b5 : Int32) (b6 : Int32) (b7 : Int32) (b8 : Int32) (b9 : Int32) (b10 : Int32) (b11 : Int32) (w : gW), b2 = a2 → b3 = Int32.ofInt a3 → b4 = a4 → b5 = Int32.ofInt a5 → b6 = Int32.ofInt a6 → b7 = Int32.ofInt a7 → b8 = Int32.ofInt a8 → b9 = Int32.ofInt a9 → b10 = Int32.ofInt a10 → b11 = Int32.ofInt a11 → oRep C Z w → oFr C w0 w → zR E (r a1 a2 a3 a4 a5 a6 a7 a8 a9 a10 a11 Z) (r' a1 b2 b3 b4 b5 b6 b7 b8 b9 b10 b11 w)) (hk143 : ∀ (a1 : Nat) (a2 : Option Nat) (a3 : Int) (a4 : Option Nat) (a5 : Int) (a6 : Int) (a7 : Int) (a8 : Int) (a9 : Int) (Z : zO) (b2 : (Option Nat)) (b3 : Int32) (b4 : (Option Nat)) (b5 : Int32) (b6 : Int32) (b7 : Int32) (b8 : Int32) (b9 : Int32) (w : gW), b2 = a2 → b3 = Int32.ofInt a3 → b4 = a4 → b5 = Int32.ofInt a5 → b6 = Int32.ofInt a6 → b7 = Int32.ofInt a7 → b8 = Int32.ofInt a8 → b9 = Int32.ofInt a9 → oRep C Z w → oFr C w0 w → zR E (k143 a1 a2 a3 a4 a5 a6 a7 a8 a9 Z) (k143' a1 b2 b3 b4 b5 b6 b7 b8 b9 w)) (hv1 : v1' = v1) (hv2 : v2' = Int32.ofInt v2) (hv3 : v3' = v3) (hv4 : v4' = Int32.ofInt v4) (hv5 : v5' = Int32.ofInt v5) (hv6 : v6' = Int32.ofInt v6) (hv7 : v7' = Int32.ofInt v7) (hv8 : v8' = Int32.ofInt v8) (hv9 : v9' = Int32.ofInt v9) (hv10 : v10' = Int32.ofInt v10) (h_w : oRep C w w') (f_w : oFr C w0 w') : zR E (zX2_fillOver_h90 F C r k143 v0 v1 v2 v3 v4 v5 v6 v7 v8 v9 v10 w) (mX2_fillOver_h90 F r' k143' v0 v1' v2' v3' v4' v5' v6' v7' v8' v9' v10' w') := by
  unfold zX2_fillOver_h90 mX2_fillOver_h90
  exact (R_Le hv4 hv10
  (hk143 _ _ _ _ _ _ _ _ _ _ _ _ _ _ _ _ _ _ _ hv1 hv2 hv3 hv4 hv5 hv6 hv7 hv8 h_w f_w)
  (S_O h_w hv3 (fun a121 ea121 =>
    (S_C1 (rX2_mul hC hF hv5 hv6 h_w) f_w (fun q121_1 q121_2 q121_1' q121_2' hq121 h_q121_2 f_q121_2 =>
    (S_O h_q121_2 hv1 (fun a130 ea130 =>
    (S_C1 (rX0_plus hC hF hv10 hv9 h_q121_2) f_q121_2 (fun q130_1 q130_2 q130_1' q130_2' hq130 h_q130_2 f_q130_2 =>
    (S_O h_q130_2 rfl (fun a134 ea134 =>
    (S_C0 (rX2_set hC hF (eAdd (eMul hv4 hv5) hv10) (eAdd (eMul hv4 hv6) hv8) (eAdd (eMul hv4 hq121) hq130) h_q130_2) f_q130_2 (fun q134 q134' h_q134 f_q134 =>
    (hr _ _ _ _ _ _ _ _ _ _ _ _ _ _ _ _ _ _ _ _ _ _ _ hv1 hv2 hv3 hv4 hv5 hv6 hv7 hv8 hv9 (eAdd hv10 (eL (by decide) : (1 : Int32) = Int32.ofInt (1 : Int))) h_q134 f_q134))))))))))))))
set_option maxRecDepth 100000 in
theorem rX2_fillOver_l90 {F : Nat} {C : yC} {E : zO → gW → Prop} {w0 : gW} {k143 : Nat → Option Nat → Int → Option Nat → Int → Int → Int → Int → Int → zO → Option zO} {k143' : Nat → (Option Nat) → Int32 → (Option Nat) → Int32 → Int32 → Int32 → Int32 → Int32 → gW → Option (gW)} (hC : oSep C) (hF : fF F) (hk143 : ∀ (a1 : Nat) (a2 : Option Nat) (a3 : Int) (a4 : Option Nat) (a5 : Int) (a6 : Int) (a7 : Int) (a8 : Int) (a9 : Int) (Z : zO) (b2 : (Option Nat)) (b3 : Int32) (b4 : (Option Nat)) (b5 : Int32) (b6 : Int32) (b7 : Int32) (b8 : Int32) (b9 : Int32) (w : gW), b2 = a2 → b3 = Int32.ofInt a3 → b4 = a4 → b5 = Int32.ofInt a5 → b6 = Int32.ofInt a6 → b7 = Int32.ofInt a7 → b8 = Int32.ofInt a8 → b9 = Int32.ofInt a9 → oRep C Z w → oFr C w0 w → zR E (k143 a1 a2 a3 a4 a5 a6 a7 a8 a9 Z) (k143' a1 b2 b3 b4 b5 b6 b7 b8 b9 w)) : ∀ (n : Nat) (v0 : Nat) (v1 : Option Nat) (v2 : Int) (v3 : Option Nat) (v4 : Int) (v5 : Int) (v6 : Int) (v7 : Int) (v8 : Int) (v9 : Int) (v10 : Int) (w : zO) (v1' : (Option Nat)) (v2' : Int32) (v3' : (Option Nat)) (v4' : Int32) (v5' : Int32) (v6' : Int32) (v7' : Int32) (v8' : Int32) (v9' : Int32) (v10' : Int32) (w' : gW), v1' = v1 → v2' = Int32.ofInt v2 → v3' = v3 → v4' = Int32.ofInt v4 → v5' = Int32.ofInt v5 → v6' = Int32.ofInt v6 → v7' = Int32.ofInt v7 → v8' = Int32.ofInt v8 → v9' = Int32.ofInt v9 → v10' = Int32.ofInt v10 → oRep C w w' → oFr C w0 w' → zR E (zX2_fillOver_l90 F C k143 n v0 v1 v2 v3 v4 v5 v6 v7 v8 v9 v10 w) (mX2_fillOver_l90 F k143' n v0 v1' v2' v3' v4' v5' v6' v7' v8' v9' v10' w') := by
  intro n
  induction n with
  | zero => intros; exact R_none
  | succ n ih =>
    intro v0 v1 v2 v3 v4 v5 v6 v7 v8 v9 v10 w v1' v2' v3' v4' v5' v6' v7' v8' v9' v10' w' hv1 hv2 hv3 hv4 hv5 hv6 hv7 hv8 hv9 hv10 h_w f_w
    exact rX2_fillOver_h90 hC hF ih hk143 hv1 hv2 hv3 hv4 hv5 hv6 hv7 hv8 hv9 hv10 h_w f_w
set_option maxRecDepth 100000 in
theorem rX2_fillOver_h64 {F : Nat} {C : yC} {E : zO → gW → Prop} {w0 : gW} {r : Nat → Option Nat → Int → Option Nat → Int → Int → Int → Int → Int → zO → Option zO} {r' : Nat → (Option Nat) → Int32 → (Option Nat) → Int32 → Int32 → Int32 → Int32 → Int32 → gW → Option (gW)} {k149 : Nat → Option Nat → Int → Option Nat → Int → Int → Int → zO → Option zO} {k149' : Nat → (Option Nat) → Int32 → (Option Nat) → Int32 → Int32 → Int32 → gW → Option (gW)} {v0 : Nat} {v1 : Option Nat} {v1' : Option Nat} {v2 : Int} {v2' : Int32} {v3 : Option Nat} {v3' : Option Nat} {v4 : Int} {v4' : Int32} {v5 : Int} {v5' : Int32} {v6 : Int} {v6' : Int32} {v7 : Int} {v7' : Int32} {v8 : Int} {v8' : Int32} {w : zO} {w' : gW} (hC : oSep C) (hF : fF F) (hr : ∀ (a1 : Nat) (a2 : Option Nat) (a3 : Int) (a4 : Option Nat) (a5 : Int) (a6 : Int) (a7 : Int) (a8 : Int) (a9 : Int) (Z : zO) (b2 : (Option Nat)) (b3 : Int32) (b4 : (Option Nat)) (b5 : Int32) (b6 : Int32) (b7 : Int32) (b8 : Int32) (b9 : Int32) (w : gW), b2 = a2 → b3 = Int32.ofInt a3 → b4 = a4 → b5 = Int32.ofInt a5 → b6 = Int32.ofInt a6 → b7 = Int32.ofInt a7 → b8 = Int32.ofInt a8 → b9 = Int32.ofInt a9 → oRep C Z w → oFr C w0 w → zR E (r a1 a2 a3 a4 a5 a6 a7 a8 a9 Z) (r' a1 b2 b3 b4 b5 b6 b7 b8 b9 w)) (hk149 : ∀ (a1 : Nat) (a2 : Option Nat) (a3 : Int) (a4 : Option Nat) (a5 : Int) (a6 : Int) (a7 : Int) (Z : zO) (b2 : (Option Nat)) (b3 : Int32) (b4 : (Option Nat)) (b5 : Int32) (b6 : Int32) (b7 : Int32) (w : gW), b2 = a2 → b3 = Int32.ofInt a3 → b4 = a4 → b5 = Int32.ofInt a5 → b6 = Int32.ofInt a6 → b7 = Int32.ofInt a7 → oRep C Z w → oFr C w0 w → zR E (k149 a1 a2 a3 a4 a5 a6 a7 Z) (k149' a1 b2 b3 b4 b5 b6 b7 w)) (hv1 : v1' = v1) (hv2 : v2' = Int32.ofInt v2) (hv3 : v3' = v3) (hv4 : v4' = Int32.ofInt v4) (hv5 : v5' = Int32.ofInt v5) (hv6 : v6' = Int32.ofInt v6) (hv7 : v7' = Int32.ofInt v7) (hv8 : v8' = Int32.ofInt v8) (h_w : oRep C w w') (f_w : oFr C w0 w') : zR E (zX2_fillOver_h64 F C r k149 v0 v1 v2 v3 v4 v5 v6 v7 v8 w) (mX2_fillOver_h64 F r' k149' v0 v1' v2' v3' v4' v5' v6' v7' v8' w') := by
  unfold zX2_fillOver_h64 mX2_fillOver_h64
  exact (R_Le hv4 hv8
  (hk149 _ _ _ _ _ _ _ _ _ _ _ _ _ _ _ hv1 hv2 hv3 hv4 hv5 hv6 h_w f_w)
  (S_O h_w hv1 (fun a77 ea77 =>
    (S_C1 (rX0_move hC hF hv5 hv8 h_w) f_w (fun q77_1 q77_2 q77_1' q77_2' hq77 h_q77_2 f_q77_2 =>
    (S_O h_q77_2 hv1 (fun a82 ea82 =>
    (S_C1 (rX0_plus hC hF hq77 hv7 h_q77_2) f_q77_2 (fun q82_1 q82_2 q82_1' q82_2' hq82 h_q82_2 f_q82_2 =>
    (rX2_fillOver_l90 hC hF (by exact (fun v0 v1 v2 v3 v4 v5 v6 v7 v8 w v1' v2' v3' v4' v5' v6' v7' v8' w' hv1 hv2 hv3 hv4 hv5 hv6 hv7 hv8 h_w f_w =>
      (hr _ _ _ _ _ _ _ _ _ _ _ _ _ _ _ _ _ _ _ hv1 hv2 hv3 hv4 hv5 hv6 hv7 (eAdd hv8 (eL (by decide) : (1 : Int32) = Int32.ofInt (1 : Int))) h_w f_w))) F _ _ _ _ _ _ _ _ _ _ _ _ _ _ _ _ _ _ _ _ _ _ _ hv1 hv2 hv3 hv4 hv5 hv6 hv7 hv8 hq82 (eL (by decide) : (0 : Int32) = Int32.ofInt (0 : Int)) h_q82_2 f_q82_2))))))))))
set_option maxRecDepth 100000 in
theorem rX2_fillOver_l64 {F : Nat} {C : yC} {E : zO → gW → Prop} {w0 : gW} {k149 : Nat → Option Nat → Int → Option Nat → Int → Int → Int → zO → Option zO} {k149' : Nat → (Option Nat) → Int32 → (Option Nat) → Int32 → Int32 → Int32 → gW → Option (gW)} (hC : oSep C) (hF : fF F) (hk149 : ∀ (a1 : Nat) (a2 : Option Nat) (a3 : Int) (a4 : Option Nat) (a5 : Int) (a6 : Int) (a7 : Int) (Z : zO) (b2 : (Option Nat)) (b3 : Int32) (b4 : (Option Nat)) (b5 : Int32) (b6 : Int32) (b7 : Int32) (w : gW), b2 = a2 → b3 = Int32.ofInt a3 → b4 = a4 → b5 = Int32.ofInt a5 → b6 = Int32.ofInt a6 → b7 = Int32.ofInt a7 → oRep C Z w → oFr C w0 w → zR E (k149 a1 a2 a3 a4 a5 a6 a7 Z) (k149' a1 b2 b3 b4 b5 b6 b7 w)) : ∀ (n : Nat) (v0 : Nat) (v1 : Option Nat) (v2 : Int) (v3 : Option Nat) (v4 : Int) (v5 : Int) (v6 : Int) (v7 : Int) (v8 : Int) (w : zO) (v1' : (Option Nat)) (v2' : Int32) (v3' : (Option Nat)) (v4' : Int32) (v5' : Int32) (v6' : Int32) (v7' : Int32) (v8' : Int32) (w' : gW), v1' = v1 → v2' = Int32.ofInt v2 → v3' = v3 → v4' = Int32.ofInt v4 → v5' = Int32.ofInt v5 → v6' = Int32.ofInt v6 → v7' = Int32.ofInt v7 → v8' = Int32.ofInt v8 → oRep C w w' → oFr C w0 w' → zR E (zX2_fillOver_l64 F C k149 n v0 v1 v2 v3 v4 v5 v6 v7 v8 w) (mX2_fillOver_l64 F k149' n v0 v1' v2' v3' v4' v5' v6' v7' v8' w') := by
  intro n
  induction n with
  | zero => intros; exact R_none
  | succ n ih =>
    intro v0 v1 v2 v3 v4 v5 v6 v7 v8 w v1' v2' v3' v4' v5' v6' v7' v8' w' hv1 hv2 hv3 hv4 hv5 hv6 hv7 hv8 h_w f_w
    exact rX2_fillOver_h64 hC hF ih hk149 hv1 hv2 hv3 hv4 hv5 hv6 hv7 hv8 h_w f_w
set_option maxRecDepth 100000 in
theorem rX2_fillOver_h37 {F : Nat} {C : yC} {E : zO → gW → Prop} {w0 : gW} {r : Nat → Option Nat → Int → Option Nat → Int → Int → Int → zO → Option zO} {r' : Nat → (Option Nat) → Int32 → (Option Nat) → Int32 → Int32 → Int32 → gW → Option (gW)} {k155 : Nat → Option Nat → Int → Option Nat → Int → Int → zO → Option zO} {k155' : Nat → (Option Nat) → Int32 → (Option Nat) → Int32 → Int32 → gW → Option (gW)} {v0 : Nat} {v1 : Option Nat} {v1' : Option Nat} {v2 : Int} {v2' : Int32} {v3 : Option Nat} {v3' : Option Nat} {v4 : Int} {v4' : Int32} {v5 : Int} {v5' : Int32} {v6 : Int} {v6' : Int32} {w : zO} {w' : gW} (hC : oSep C) (hF : fF F) (hr : ∀ (a1 : Nat) (a2 : Option Nat) (a3 : Int) (a4 : Option Nat) (a5 : Int) (a6 : Int) (a7 : Int) (Z : zO) (b2 : (Option Nat)) (b3 : Int32) (b4 : (Option Nat)) (b5 : Int32) (b6 : Int32) (b7 : Int32) (w : gW), b2 = a2 → b3 = Int32.ofInt a3 → b4 = a4 → b5 = Int32.ofInt a5 → b6 = Int32.ofInt a6 → b7 = Int32.ofInt a7 → oRep C Z w → oFr C w0 w → zR E (r a1 a2 a3 a4 a5 a6 a7 Z) (r' a1 b2 b3 b4 b5 b6 b7 w)) (hk155 : ∀ (a1 : Nat) (a2 : Option Nat) (a3 : Int) (a4 : Option Nat) (a5 : Int) (a6 : Int) (Z : zO) (b2 : (Option Nat)) (b3 : Int32) (b4 : (Option Nat)) (b5 : Int32) (b6 : Int32) (w : gW), b2 = a2 → b3 = Int32.ofInt a3 → b4 = a4 → b5 = Int32.ofInt a5 → b6 = Int32.ofInt a6 → oRep C Z w → oFr C w0 w → zR E (k155 a1 a2 a3 a4 a5 a6 Z) (k155' a1 b2 b3 b4 b5 b6 w)) (hv1 : v1' = v1) (hv2 : v2' = Int32.ofInt v2) (hv3 : v3' = v3) (hv4 : v4' = Int32.ofInt v4) (hv5 : v5' = Int32.ofInt v5) (hv6 : v6' = Int32.ofInt v6) (h_w : oRep C w w') (f_w : oFr C w0 w') : zR E (zX2_fillOver_h37 F C r k155 v0 v1 v2 v3 v4 v5 v6 w) (mX2_fillOver_h37 F r' k155' v0 v1' v2' v3' v4' v5' v6' w') := by
  unfold zX2_fillOver_h37 mX2_fillOver_h37
  exact (S_FI h_w hv3 (c := 2) (k := 7) iy2_7 (fun t40 t40' ht40 =>
  (R_Le ht40 hv6
  (hk155 _ _ _ _ _ _ _ _ _ _ _ _ _ hv1 hv2 hv3 hv4 hv5 h_w f_w)
  (S_FR h_w hv1 (c := 0) (k := 1) ry0_1 (fun t47 t47' ht47 =>
    (S_O h_w ht47 (fun a56 ea56 =>
    (S_C1 (rX5_vectorOf hC hF hv1 hv2 hv5 hv6 h_w) f_w (fun q56_1 q56_2 q56_1' q56_2' hq56 h_q56_2 f_q56_2 =>
    (rX2_fillOver_l64 hC hF (by exact (fun v0 v1 v2 v3 v4 v5 v6 w v1' v2' v3' v4' v5' v6' w' hv1 hv2 hv3 hv4 hv5 hv6 h_w f_w =>
      (hr _ _ _ _ _ _ _ _ _ _ _ _ _ _ _ hv1 hv2 hv3 hv4 hv5 (eAdd hv6 (eL (by decide) : (1 : Int32) = Int32.ofInt (1 : Int))) h_w f_w))) F _ _ _ _ _ _ _ _ _ _ _ _ _ _ _ _ _ _ _ hv1 hv2 hv3 hv4 hv5 hv6 hq56 (eL (by decide) : (0 : Int32) = Int32.ofInt (0 : Int)) h_q56_2 f_q56_2))))))))))
set_option maxRecDepth 100000 in
theorem rX2_fillOver_l37 {F : Nat} {C : yC} {E : zO → gW → Prop} {w0 : gW} {k155 : Nat → Option Nat → Int → Option Nat → Int → Int → zO → Option zO} {k155' : Nat → (Option Nat) → Int32 → (Option Nat) → Int32 → Int32 → gW → Option (gW)} (hC : oSep C) (hF : fF F) (hk155 : ∀ (a1 : Nat) (a2 : Option Nat) (a3 : Int) (a4 : Option Nat) (a5 : Int) (a6 : Int) (Z : zO) (b2 : (Option Nat)) (b3 : Int32) (b4 : (Option Nat)) (b5 : Int32) (b6 : Int32) (w : gW), b2 = a2 → b3 = Int32.ofInt a3 → b4 = a4 → b5 = Int32.ofInt a5 → b6 = Int32.ofInt a6 → oRep C Z w → oFr C w0 w → zR E (k155 a1 a2 a3 a4 a5 a6 Z) (k155' a1 b2 b3 b4 b5 b6 w)) : ∀ (n : Nat) (v0 : Nat) (v1 : Option Nat) (v2 : Int) (v3 : Option Nat) (v4 : Int) (v5 : Int) (v6 : Int) (w : zO) (v1' : (Option Nat)) (v2' : Int32) (v3' : (Option Nat)) (v4' : Int32) (v5' : Int32) (v6' : Int32) (w' : gW), v1' = v1 → v2' = Int32.ofInt v2 → v3' = v3 → v4' = Int32.ofInt v4 → v5' = Int32.ofInt v5 → v6' = Int32.ofInt v6 → oRep C w w' → oFr C w0 w' → zR E (zX2_fillOver_l37 F C k155 n v0 v1 v2 v3 v4 v5 v6 w) (mX2_fillOver_l37 F k155' n v0 v1' v2' v3' v4' v5' v6' w') := by
  intro n
  induction n with
  | zero => intros; exact R_none
  | succ n ih =>
    intro v0 v1 v2 v3 v4 v5 v6 w v1' v2' v3' v4' v5' v6' w' hv1 hv2 hv3 hv4 hv5 hv6 h_w f_w
    exact rX2_fillOver_h37 hC hF ih hk155 hv1 hv2 hv3 hv4 hv5 hv6 h_w f_w
set_option maxRecDepth 100000 in
theorem rX2_fillOver_h25 {F : Nat} {C : yC} {w0 : gW} {r : Nat → Option Nat → Int → Option Nat → Int → Int → zO → Option zO} {r' : Nat → (Option Nat) → Int32 → (Option Nat) → Int32 → Int32 → gW → Option (gW)} {v0 : Nat} {v1 : Option Nat} {v1' : Option Nat} {v2 : Int} {v2' : Int32} {v3 : Option Nat} {v3' : Option Nat} {v4 : Int} {v4' : Int32} {v5 : Int} {v5' : Int32} {w : zO} {w' : gW} (hC : oSep C) (hF : fF F) (hr : ∀ (a1 : Nat) (a2 : Option Nat) (a3 : Int) (a4 : Option Nat) (a5 : Int) (a6 : Int) (Z : zO) (b2 : (Option Nat)) (b3 : Int32) (b4 : (Option Nat)) (b5 : Int32) (b6 : Int32) (w : gW), b2 = a2 → b3 = Int32.ofInt a3 → b4 = a4 → b5 = Int32.ofInt a5 → b6 = Int32.ofInt a6 → oRep C Z w → oFr C w0 w → zR (Y0 C w0) (r a1 a2 a3 a4 a5 a6 Z) (r' a1 b2 b3 b4 b5 b6 w)) (hv1 : v1' = v1) (hv2 : v2' = Int32.ofInt v2) (hv3 : v3' = v3) (hv4 : v4' = Int32.ofInt v4) (hv5 : v5' = Int32.ofInt v5) (h_w : oRep C w w') (f_w : oFr C w0 w') : zR (Y0 C w0) (zX2_fillOver_h25 F C r v0 v1 v2 v3 v4 v5 w) (mX2_fillOver_h25 F r' v0 v1' v2' v3' v4' v5' w') := by
  unfold zX2_fillOver_h25 mX2_fillOver_h25
  exact (S_FI h_w hv3 (c := 2) (k := 7) iy2_7 (fun t28 t28' ht28 =>
  (R_Le ht28 hv5
  (S_ret0 h_w f_w)
  (rX2_fillOver_l37 hC hF (by exact (fun v0 v1 v2 v3 v4 v5 w v1' v2' v3' v4' v5' w' hv1 hv2 hv3 hv4 hv5 h_w f_w =>
      (hr _ _ _ _ _ _ _ _ _ _ _ _ _ hv1 hv2 hv3 hv4 (eAdd hv5 (eL (by decide) : (1 : Int32) = Int32.ofInt (1 : Int))) h_w f_w))) F _ _ _ _ _ _ _ _ _ _ _ _ _ _ _ hv1 hv2 hv3 hv4 hv5 (eL (by decide) : (0 : Int32) = Int32.ofInt (0 : Int)) h_w f_w))))
set_option maxRecDepth 100000 in
theorem rX2_fillOver_l25 {F : Nat} {C : yC} {w0 : gW}  (hC : oSep C) (hF : fF F)  : ∀ (n : Nat) (v0 : Nat) (v1 : Option Nat) (v2 : Int) (v3 : Option Nat) (v4 : Int) (v5 : Int) (w : zO) (v1' : (Option Nat)) (v2' : Int32) (v3' : (Option Nat)) (v4' : Int32) (v5' : Int32) (w' : gW), v1' = v1 → v2' = Int32.ofInt v2 → v3' = v3 → v4' = Int32.ofInt v4 → v5' = Int32.ofInt v5 → oRep C w w' → oFr C w0 w' → zR (Y0 C w0) (zX2_fillOver_l25 F C  n v0 v1 v2 v3 v4 v5 w) (mX2_fillOver_l25 F  n v0 v1' v2' v3' v4' v5' w') := by
  intro n
  induction n with
  | zero => intros; exact R_none
  | succ n ih =>
    intro v0 v1 v2 v3 v4 v5 w v1' v2' v3' v4' v5' w' hv1 hv2 hv3 hv4 hv5 h_w f_w
    exact rX2_fillOver_h25 hC hF ih  hv1 hv2 hv3 hv4 hv5 h_w f_w
set_option maxRecDepth 100000 in
theorem rX2_fillOver {F : Nat} {C : yC} {v0 : Nat} {v1 : Option Nat} {v1' : Option Nat} {v2 : Int} {v2' : Int32} {w : zO} {w' : gW} (hC : oSep C) (hF : fF F) (hv1 : v1' = v1) (hv2 : v2' = Int32.ofInt v2) (h_w : oRep C w w') : zR (Y0 C w') (zX2_fillOver F C v0 v1 v2 w) (mX2_fillOver F v0 v1' v2' w') := by
  have f_w : oFr C w' w' := oFr.rf
  unfold zX2_fillOver mX2_fillOver
  exact (S_FR h_w hv1 (c := 0) (k := 2) ry0_2 (fun t1 t1' ht1 =>
  (S_FI h_w hv1 (c := 0) (k := 5) iy0_5 (fun t6 t6' ht6 =>
  (S_FI h_w ht1 (c := 2) (k := 7) iy2_7 (fun t15 t15' ht15 =>
  (S_PI h_w f_w hC rfl (c := 2) (k := 7) iy2_7 (eMul ht6 ht15) (fun w19 w19' h_w19 f_w19 =>
  (rX2_fillOver_l25 hC hF F _ _ _ _ _ _ _ _ _ _ _ _ _ hv1 hv2 ht1 ht6 (eL (by decide) : (0 : Int32) = Int32.ofInt (0 : Int)) h_w19 f_w19)))))))))
set_option maxRecDepth 100000 in
theorem rX5_findBounds_h48 {F : Nat} {C : yC} {E : zO → gW → Prop} {w0 : gW} {r : Nat → Option Nat → Int → Int → zO → Option zO} {r' : Nat → (Option Nat) → Int32 → Int32 → gW → Option (gW)} {k80 : Nat → Option Nat → Int → zO → Option zO} {k80' : Nat → (Option Nat) → Int32 → gW → Option (gW)} {v0 : Nat} {v1 : Option Nat} {v1' : Option Nat} {v2 : Int} {v2' : Int32} {v3 : Int} {v3' : Int32} {w : zO} {w' : gW} (hC : oSep C) (hF : fF F) (hr : ∀ (a1 : Nat) (a2 : Option Nat) (a3 : Int) (a4 : Int) (Z : zO) (b2 : (Option Nat)) (b3 : Int32) (b4 : Int32) (w : gW), b2 = a2 → b3 = Int32.ofInt a3 → b4 = Int32.ofInt a4 → oRep C Z w → oFr C w0 w → zR E (r a1 a2 a3 a4 Z) (r' a1 b2 b3 b4 w)) (hk80 : ∀ (a1 : Nat) (a2 : Option Nat) (a3 : Int) (Z : zO) (b2 : (Option Nat)) (b3 : Int32) (w : gW), b2 = a2 → b3 = Int32.ofInt a3 → oRep C Z w → oFr C w0 w → zR E (k80 a1 a2 a3 Z) (k80' a1 b2 b3 w)) (hv1 : v1' = v1) (hv2 : v2' = Int32.ofInt v2) (hv3 : v3' = Int32.ofInt v3) (h_w : oRep C w w') (f_w : oFr C w0 w') : zR E (zX5_findBounds_h48 F C r k80 v0 v1 v2 v3 w) (mX5_findBounds_h48 F r' k80' v0 v1' v2' v3' w') := by
  unfold zX5_findBounds_h48 mX5_findBounds_h48
  exact (S_FI h_w hv1 (c := 0) (k := 4) iy0_4 (fun t50 t50' ht50 =>
  (R_Le ht50 hv3
  (hk80 _ _ _ _ _ _ _ hv1 hv2 h_w f_w)
  (S_O h_w rfl (fun a60 ea60 =>
    (S_C0 (rX5_writeBound hC hF hv1 hv2 hv3 h_w) f_w (fun q60 q60' h_q60 f_q60 =>
    (S_FR h_q60 rfl (c := 5) (k := 1) ry5_1 (fun t64 t64' ht64 =>
    (S_AR h_q60 rfl (c := 5) (k := 0) (off := 1) ay5_0 (fun t68' ht68 =>
    (S_O h_q60 ht64 (fun a71 ea71 =>
    (S_C0 (rX1_add hC hF ht68 h_q60) f_q60 (fun q71 q71' h_q71 f_q71 =>
    (hr _ _ _ _ _ _ _ _ _ hv1 hv2 (eAdd hv3 (eL (by decide) : (1 : Int32) = Int32.ofInt (1 : Int))) h_q71 f_q71))))))))))))))))
set_option maxRecDepth 100000 in
theorem rX5_findBounds_l48 {F : Nat} {C : yC} {E : zO → gW → Prop} {w0 : gW} {k80 : Nat → Option Nat → Int → zO → Option zO} {k80' : Nat → (Option Nat) → Int32 → gW → Option (gW)} (hC : oSep C) (hF : fF F) (hk80 : ∀ (a1 : Nat) (a2 : Option Nat) (a3 : Int) (Z : zO) (b2 : (Option Nat)) (b3 : Int32) (w : gW), b2 = a2 → b3 = Int32.ofInt a3 → oRep C Z w → oFr C w0 w → zR E (k80 a1 a2 a3 Z) (k80' a1 b2 b3 w)) : ∀ (n : Nat) (v0 : Nat) (v1 : Option Nat) (v2 : Int) (v3 : Int) (w : zO) (v1' : (Option Nat)) (v2' : Int32) (v3' : Int32) (w' : gW), v1' = v1 → v2' = Int32.ofInt v2 → v3' = Int32.ofInt v3 → oRep C w w' → oFr C w0 w' → zR E (zX5_findBounds_l48 F C k80 n v0 v1 v2 v3 w) (mX5_findBounds_l48 F k80' n v0 v1' v2' v3' w') := by
  intro n
  induction n with
  | zero => intros; exact R_none
  | succ n ih =>
    intro v0 v1 v2 v3 w v1' v2' v3' w' hv1 hv2 hv3 h_w f_w
    exact rX5_findBounds_h48 hC hF ih hk80 hv1 hv2 hv3 h_w f_w
set_option maxRecDepth 100000 in
theorem rX5_findBounds_h35 {F : Nat} {C : yC} {w0 : gW} {r : Nat → Option Nat → Int → zO → Option zO} {r' : Nat → (Option Nat) → Int32 → gW → Option (gW)} {v0 : Nat} {v1 : Option Nat} {v1' : Option Nat} {v2 : Int} {v2' : Int32} {w : zO} {w' : gW} (hC : oSep C) (hF : fF F) (hr : ∀ (a1 : Nat) (a2 : Option Nat) (a3 : Int) (Z : zO) (b2 : (Option Nat)) (b3 : Int32) (w : gW), b2 = a2 → b3 = Int32.ofInt a3 → oRep C Z w → oFr C w0 w → zR (Y0 C w0) (r a1 a2 a3 Z) (r' a1 b2 b3 w)) (hv1 : v1' = v1) (hv2 : v2' = Int32.ofInt v2) (h_w : oRep C w w') (f_w : oFr C w0 w') : zR (Y0 C w0) (zX5_findBounds_h35 F C r v0 v1 v2 w) (mX5_findBounds_h35 F r' v0 v1' v2' w') := by
  unfold zX5_findBounds_h35 mX5_findBounds_h35
  exact (S_FR h_w hv1 (c := 0) (k := 2) ry0_2 (fun t37 t37' ht37 =>
  (S_FI h_w ht37 (c := 2) (k := 7) iy2_7 (fun t40 t40' ht40 =>
  (R_Le ht40 hv2
  (S_ret0 h_w f_w)
  (rX5_findBounds_l48 hC hF (by exact (fun v0 v1 v2 w v1' v2' w' hv1 hv2 h_w f_w =>
      (hr _ _ _ _ _ _ _ hv1 (eAdd hv2 (eL (by decide) : (1 : Int32) = Int32.ofInt (1 : Int))) h_w f_w))) F _ _ _ _ _ _ _ _ _ hv1 hv2 (eL (by decide) : (0 : Int32) = Int32.ofInt (0 : Int)) h_w f_w))))))
set_option maxRecDepth 100000 in
theorem rX5_findBounds_l35 {F : Nat} {C : yC} {w0 : gW}  (hC : oSep C) (hF : fF F)  : ∀ (n : Nat) (v0 : Nat) (v1 : Option Nat) (v2 : Int) (w : zO) (v1' : (Option Nat)) (v2' : Int32) (w' : gW), v1' = v1 → v2' = Int32.ofInt v2 → oRep C w w' → oFr C w0 w' → zR (Y0 C w0) (zX5_findBounds_l35 F C  n v0 v1 v2 w) (mX5_findBounds_l35 F  n v0 v1' v2' w') := by
  intro n
  induction n with
  | zero => intros; exact R_none
  | succ n ih =>
    intro v0 v1 v2 w v1' v2' w' hv1 hv2 h_w f_w
    exact rX5_findBounds_h35 hC hF ih  hv1 hv2 h_w f_w
set_option maxRecDepth 100000 in
theorem rX5_findBounds {F : Nat} {C : yC} {v0 : Nat} {v1 : Option Nat} {v1' : Option Nat} {w : zO} {w' : gW} (hC : oSep C) (hF : fF F) (hv1 : v1' = v1) (h_w : oRep C w w') : zR (Y0 C w') (zX5_findBounds F C v0 v1 w) (mX5_findBounds F v0 v1' w') := by
  have f_w : oFr C w' w' := oFr.rf
  unfold zX5_findBounds mX5_findBounds
  exact (S_FR h_w hv1 (c := 0) (k := 2) ry0_2 (fun t2 t2' ht2 =>
  (S_FI h_w ht2 (c := 2) (k := 7) iy2_7 (fun t5 t5' ht5 =>
  (S_FI h_w hv1 (c := 0) (k := 4) iy0_4 (fun t11 t11' ht11 =>
  (S_PI h_w f_w hC rfl (c := 5) (k := 5) iy5_5 (eMul (eSub ht5 (eL (by decide) : (1 : Int32) = Int32.ofInt (1 : Int))) ht11) (fun w15 w15' h_w15 f_w15 =>
  (S_FR h_w15 rfl (c := 5) (k := 1) ry5_1 (fun t19 t19' ht19 =>
  (S_O h_w15 hv1 (fun a23 ea23 =>
  (S_C1 (rX0_places hC hF h_w15) f_w15 (fun q23_1 q23_2 q23_1' q23_2' hq23 h_q23_2 f_q23_2 =>
  (S_FI h_q23_2 hv1 (c := 0) (k := 3) iy0_3 (fun t27 t27' ht27 =>
  (S_O h_q23_2 ht19 (fun a30 ea30 =>
  (S_C0 (rX1_begin hC hF hq23 ht27 h_q23_2) f_q23_2 (fun q30 q30' h_q30 f_q30 =>
  (rX5_findBounds_l35 hC hF F _ _ _ _ _ _ _ hv1 (eL (by decide) : (1 : Int32) = Int32.ofInt (1 : Int)) h_q30 f_q30)))))))))))))))))))))
set_option maxRecDepth 100000 in
theorem rX5_findStandards_b62 {F : Nat} {C : yC} {E : zO → gW → Prop} {w0 : gW} {r : Nat → Option Nat → Option Nat → Int → Int → zO → Option zO} {r' : Nat → (Option Nat) → (Option Nat) → Int32 → Int32 → gW → Option (gW)} {k68 : Nat → Option Nat → zO → Option zO} {k68' : Nat → (Option Nat) → gW → Option (gW)} {v0 : Nat} {v1 : Option Nat} {v1' : Option Nat} {v2 : Option Nat} {v2' : Option Nat} {v3 : Int} {v3' : Int32} {v4 : Int} {v4' : Int32} {w : zO} {w' : gW} (hC : oSep C) (hF : fF F) (hr : ∀ (a1 : Nat) (a2 : Option Nat) (a3 : Option Nat) (a4 : Int) (a5 : Int) (Z : zO) (b2 : (Option Nat)) (b3 : (Option Nat)) (b4 : Int32) (b5 : Int32) (w : gW), b2 = a2 → b3 = a3 → b4 = Int32.ofInt a4 → b5 = Int32.ofInt a5 → oRep C Z w → oFr C w0 w → zR E (r a1 a2 a3 a4 a5 Z) (r' a1 b2 b3 b4 b5 w)) (hk68 : ∀ (a1 : Nat) (a2 : Option Nat) (Z : zO) (b2 : (Option Nat)) (w : gW), b2 = a2 → oRep C Z w → oFr C w0 w → zR E (k68 a1 a2 Z) (k68' a1 b2 w)) (hv1 : v1' = v1) (hv2 : v2' = v2) (hv3 : v3' = Int32.ofInt v3) (hv4 : v4' = Int32.ofInt v4) (h_w : oRep C w w') (f_w : oFr C w0 w') : zR E (zX5_findStandards_b62 F C r k68 v0 v1 v2 v3 v4 w) (mX5_findStandards_b62 F r' k68' v0 v1' v2' v3' v4' w') := by
  unfold zX5_findStandards_b62 mX5_findStandards_b62
  exact (hr _ _ _ _ _ _ _ _ _ _ _ hv1 hv2 hv3 (eAdd hv4 (eL (by decide) : (1 : Int32) = Int32.ofInt (1 : Int))) h_w f_w)
set_option maxRecDepth 100000 in
theorem rX5_findStandards_h20 {F : Nat} {C : yC} {E : zO → gW → Prop} {w0 : gW} {r : Nat → Option Nat → Option Nat → Int → Int → zO → Option zO} {r' : Nat → (Option Nat) → (Option Nat) → Int32 → Int32 → gW → Option (gW)} {k68 : Nat → Option Nat → zO → Option zO} {k68' : Nat → (Option Nat) → gW → Option (gW)} {v0 : Nat} {v1 : Option Nat} {v1' : Option Nat} {v2 : Option Nat} {v2' : Option Nat} {v3 : Int} {v3' : Int32} {v4 : Int} {v4' : Int32} {w : zO} {w' : gW} (hC : oSep C) (hF : fF F) (hr : ∀ (a1 : Nat) (a2 : Option Nat) (a3 : Option Nat) (a4 : Int) (a5 : Int) (Z : zO) (b2 : (Option Nat)) (b3 : (Option Nat)) (b4 : Int32) (b5 : Int32) (w : gW), b2 = a2 → b3 = a3 → b4 = Int32.ofInt a4 → b5 = Int32.ofInt a5 → oRep C Z w → oFr C w0 w → zR E (r a1 a2 a3 a4 a5 Z) (r' a1 b2 b3 b4 b5 w)) (hk68 : ∀ (a1 : Nat) (a2 : Option Nat) (Z : zO) (b2 : (Option Nat)) (w : gW), b2 = a2 → oRep C Z w → oFr C w0 w → zR E (k68 a1 a2 Z) (k68' a1 b2 w)) (hv1 : v1' = v1) (hv2 : v2' = v2) (hv3 : v3' = Int32.ofInt v3) (hv4 : v4' = Int32.ofInt v4) (h_w : oRep C w w') (f_w : oFr C w0 w') : zR E (zX5_findStandards_h20 F C r k68 v0 v1 v2 v3 v4 w) (mX5_findStandards_h20 F r' k68' v0 v1' v2' v3' v4' w') := by
  unfold zX5_findStandards_h20 mX5_findStandards_h20
  exact (R_Le hv3 hv4
  (hk68 _ _ _ _ _ hv1 h_w f_w)
  (S_O h_w hv2 (fun a33 ea33 =>
    (S_C1 (rX1_leadsAt hC hF (eSub (eSub hv3 (eL (by decide) : (1 : Int32) = Int32.ofInt (1 : Int))) hv4) h_w) f_w (fun q33_1 q33_2 q33_1' q33_2' hq33 h_q33_2 f_q33_2 =>
    (R_Eq hq33 (eL (by decide) : (0 : Int32) = Int32.ofInt (0 : Int))
    (S_FI h_q33_2 hv1 (c := 0) (k := 3) iy0_3 (fun t45 t45' ht45 =>
      (S_O h_q33_2 rfl (fun a48 ea48 =>
      (S_C0 (rX5_writeStandard hC hF hv2 hv4 hv3 ht45 h_q33_2) f_q33_2 (fun q48 q48' h_q48 f_q48 =>
      (S_FR h_q48 rfl (c := 5) (k := 2) ry5_2 (fun t52 t52' ht52 =>
      (S_AR h_q48 rfl (c := 5) (k := 0) (off := 1) ay5_0 (fun t56' ht56 =>
      (S_O h_q48 ht52 (fun a59 ea59 =>
      (S_C0 (rX1_add hC hF ht56 h_q48) f_q48 (fun q59 q59' h_q59 f_q59 =>
      (rX5_findStandards_b62 hC hF hr hk68 hv1 hv2 hv3 hv4 h_q59 f_q59)))))))))))))))
    (rX5_findStandards_b62 hC hF hr hk68 hv1 hv2 hv3 hv4 h_q33_2 f_q33_2)))))))
set_option maxRecDepth 100000 in
theorem rX5_findStandards_l20 {F : Nat} {C : yC} {E : zO → gW → Prop} {w0 : gW} {k68 : Nat → Option Nat → zO → Option zO} {k68' : Nat → (Option Nat) → gW → Option (gW)} (hC : oSep C) (hF : fF F) (hk68 : ∀ (a1 : Nat) (a2 : Option Nat) (Z : zO) (b2 : (Option Nat)) (w : gW), b2 = a2 → oRep C Z w → oFr C w0 w → zR E (k68 a1 a2 Z) (k68' a1 b2 w)) : ∀ (n : Nat) (v0 : Nat) (v1 : Option Nat) (v2 : Option Nat) (v3 : Int) (v4 : Int) (w : zO) (v1' : (Option Nat)) (v2' : (Option Nat)) (v3' : Int32) (v4' : Int32) (w' : gW), v1' = v1 → v2' = v2 → v3' = Int32.ofInt v3 → v4' = Int32.ofInt v4 → oRep C w w' → oFr C w0 w' → zR E (zX5_findStandards_l20 F C k68 n v0 v1 v2 v3 v4 w) (mX5_findStandards_l20 F k68' n v0 v1' v2' v3' v4' w') := by
  intro n
  induction n with
  | zero => intros; exact R_none
  | succ n ih =>
    intro v0 v1 v2 v3 v4 w v1' v2' v3' v4' w' hv1 hv2 hv3 hv4 h_w f_w
    exact rX5_findStandards_h20 hC hF ih hk68 hv1 hv2 hv3 hv4 h_w f_w
set_option maxRecDepth 100000 in
theorem rX5_findStandards {F : Nat} {C : yC} {v0 : Nat} {v1 : Option Nat} {v1' : Option Nat} {v2 : Option Nat} {v2' : Option Nat} {w : zO} {w' : gW} (hC : oSep C) (hF : fF F) (hv1 : v1' = v1) (hv2 : v2' = v2) (h_w : oRep C w w') : zR (Y0 C w') (zX5_findStandards F C v0 v1 v2 w) (mX5_findStandards F v0 v1' v2' w') := by
  have f_w : oFr C w' w' := oFr.rf
  unfold zX5_findStandards mX5_findStandards
  exact (S_O h_w hv1 (fun a1 ea1 =>
  (S_C1 (rX0_places hC hF h_w) f_w (fun q1_1 q1_2 q1_1' q1_2' hq1 h_q1_2 f_q1_2 =>
  (S_FR h_q1_2 rfl (c := 5) (k := 2) ry5_2 (fun t6 t6' ht6 =>
  (S_FI h_q1_2 hv1 (c := 0) (k := 3) iy0_3 (fun t11 t11' ht11 =>
  (S_O h_q1_2 ht6 (fun a14 ea14 =>
  (S_C0 (rX1_begin hC hF hq1 ht11 h_q1_2) f_q1_2 (fun q14 q14' h_q14 f_q14 =>
  (rX5_findStandards_l20 hC hF (by exact (fun v0 v1 w v1' w' hv1 h_w f_w =>
    (S_FI h_w hv1 (c := 0) (k := 3) iy0_3 (fun t70 t70' ht70 =>
    (S_FR h_w rfl (c := 5) (k := 2) ry5_2 (fun t74 t74' ht74 =>
    (S_FI h_w ht74 (c := 1) (k := 5) iy1_5 (fun t77 t77' ht77 =>
    (S_C1 (rX6_power hC hF ht70 ht77 h_w) f_w (fun q80_1 q80_2 q80_1' q80_2' hq80 h_q80_2 f_q80_2 =>
    (S_PI h_q80_2 f_q80_2 hC rfl (c := 5) (k := 6) iy5_6 hq80 (fun w83 w83' h_w83 f_w83 =>
    (S_ret0 h_w83 f_w83))))))))))))) F _ _ _ _ _ _ _ _ _ _ _ hv1 hv2 hq1 (eL (by decide) : (0 : Int32) = Int32.ofInt (0 : Int)) h_q14 f_q14)))))))))))))
set_option maxRecDepth 100000 in
theorem rX5_findUnmoved_b76 {F : Nat} {C : yC} {E : zO → gW → Prop} {w0 : gW} {r : Nat → Option Nat → Option Nat → Int → Int → Int → zO → Option zO} {r' : Nat → (Option Nat) → (Option Nat) → Int32 → Int32 → Int32 → gW → Option (gW)} {k84 : Nat → Option Nat → Option Nat → Int → Int → zO → Option zO} {k84' : Nat → (Option Nat) → (Option Nat) → Int32 → Int32 → gW → Option (gW)} {v0 : Nat} {v1 : Option Nat} {v1' : Option Nat} {v2 : Option Nat} {v2' : Option Nat} {v3 : Int} {v3' : Int32} {v4 : Int} {v4' : Int32} {v5 : Int} {v5' : Int32} {s0 : Option Nat} {s0' : Option Nat} {s1 : Int} {s1' : Int32} {s2 : Int} {s2' : Int32} {s3 : Int} {s3' : Int32} {w : zO} {w' : gW} (hC : oSep C) (hF : fF F) (hr : ∀ (a1 : Nat) (a2 : Option Nat) (a3 : Option Nat) (a4 : Int) (a5 : Int) (a6 : Int) (Z : zO) (b2 : (Option Nat)) (b3 : (Option Nat)) (b4 : Int32) (b5 : Int32) (b6 : Int32) (w : gW), b2 = a2 → b3 = a3 → b4 = Int32.ofInt a4 → b5 = Int32.ofInt a5 → b6 = Int32.ofInt a6 → oRep C Z w → oFr C w0 w → zR E (r a1 a2 a3 a4 a5 a6 Z) (r' a1 b2 b3 b4 b5 b6 w)) (hk84 : ∀ (a1 : Nat) (a2 : Option Nat) (a3 : Option Nat) (a4 : Int) (a5 : Int) (Z : zO) (b2 : (Option Nat)) (b3 : (Option Nat)) (b4 : Int32) (b5 : Int32) (w : gW), b2 = a2 → b3 = a3 → b4 = Int32.ofInt a4 → b5 = Int32.ofInt a5 → oRep C Z w → oFr C w0 w → zR E (k84 a1 a2 a3 a4 a5 Z) (k84' a1 b2 b3 b4 b5 w)) (hv1 : v1' = v1) (hv2 : v2' = v2) (hv3 : v3' = Int32.ofInt v3) (hv4 : v4' = Int32.ofInt v4) (hv5 : v5' = Int32.ofInt v5) (hs0 : s0' = oar 1 s0) (hs1 : s1' = Int32.ofInt s1) (hs2 : s2' = Int32.ofInt s2) (hs3 : s3' = Int32.ofInt s3) (h_w : oRep C w w') (f_w : oFr C w0 w') : zR E (zX5_findUnmoved_b76 F C r k84 v0 v1 v2 v3 v4 v5 s0 s1 s2 s3 w) (mX5_findUnmoved_b76 F r' k84' v0 v1' v2' v3' v4' v5' s0' s1' s2' s3' w') := by
  unfold zX5_findUnmoved_b76 mX5_findUnmoved_b76
  exact (S_St h_w f_w hC hs0 (c := 5) (k := 0) dy5_0 (by decide) hs1 (eSub hs2 hs3) (fun w77 w77' h_w77 f_w77 =>
  (hr _ _ _ _ _ _ _ _ _ _ _ _ _ hv1 hv2 hv3 hv4 (eAdd hv5 (eL (by decide) : (1 : Int32) = Int32.ofInt (1 : Int))) h_w77 f_w77)))
set_option maxRecDepth 100000 in
theorem rX5_findUnmoved_h40 {F : Nat} {C : yC} {E : zO → gW → Prop} {w0 : gW} {r : Nat → Option Nat → Option Nat → Int → Int → Int → zO → Option zO} {r' : Nat → (Option Nat) → (Option Nat) → Int32 → Int32 → Int32 → gW → Option (gW)} {k84 : Nat → Option Nat → Option Nat → Int → Int → zO → Option zO} {k84' : Nat → (Option Nat) → (Option Nat) → Int32 → Int32 → gW → Option (gW)} {v0 : Nat} {v1 : Option Nat} {v1' : Option Nat} {v2 : Option Nat} {v2' : Option Nat} {v3 : Int} {v3' : Int32} {v4 : Int} {v4' : Int32} {v5 : Int} {v5' : Int32} {w : zO} {w' : gW} (hC : oSep C) (hF : fF F) (hr : ∀ (a1 : Nat) (a2 : Option Nat) (a3 : Option Nat) (a4 : Int) (a5 : Int) (a6 : Int) (Z : zO) (b2 : (Option Nat)) (b3 : (Option Nat)) (b4 : Int32) (b5 : Int32) (b6 : Int32) (w : gW), b2 = a2 → b3 = a3 → b4 = Int32.ofInt a4 → b5 = Int32.ofInt a5 → b6 = Int32.ofInt a6 → oRep C Z w → oFr C w0 w → zR E (r a1 a2 a3 a4 a5 a6 Z) (r' a1 b2 b3 b4 b5 b6 w)) (hk84 : ∀ (a1 : Nat) (a2 : Option Nat) (a3 : Option Nat) (a4 : Int) (a5 : Int) (Z : zO) (b2 : (Option Nat)) (b3 : (Option Nat)) (b4 : Int32) (b5 : Int32) (w : gW), b2 = a2 → b3 = a3 → b4 = Int32.ofInt a4 → b5 = Int32.ofInt a5 → oRep C Z w → oFr C w0 w → zR E (k84 a1 a2 a3 a4 a5 Z) (k84' a1 b2 b3 b4 b5 w)) (hv1 : v1' = v1) (hv2 : v2' = v2) (hv3 : v3' = Int32.ofInt v3) (hv4 : v4' = Int32.ofInt v4) (hv5 : v5' = Int32.ofInt v5) (h_w : oRep C w w') (f_w : oFr C w0 w') : zR E (zX5_findUnmoved_h40 F C r k84 v0 v1 v2 v3 v4 v5 w) (mX5_findUnmoved_h40 F r' k84' v0 v1' v2' v3' v4' v5' w') := by
  unfold zX5_findUnmoved_h40 mX5_findUnmoved_h40
  exact (S_FI h_w hv1 (c := 0) (k := 4) iy0_4 (fun t43 t43' ht43 =>
  (R_Le ht43 hv5
  (hk84 _ _ _ _ _ _ _ _ _ _ _ hv1 hv2 hv3 hv4 h_w f_w)
  (S_AR h_w rfl (c := 5) (k := 0) (off := 1) ay5_0 (fun t50' ht50 =>
    (S_O h_w hv1 (fun a61 ea61 =>
    (S_C1 (rX0_entry hC hF hv3 hv4 hv5 h_w) f_w (fun q61_1 q61_2 q61_1' q61_2' hq61 h_q61_2 f_q61_2 =>
    (R_Eq hv4 hv5
    (rX5_findUnmoved_b76 hC hF hr hk84 hv1 hv2 hv3 hv4 hv5 ht50 hv5 hq61 (eL (by decide) : (1 : Int32) = Int32.ofInt (1 : Int)) h_q61_2 f_q61_2)
    (rX5_findUnmoved_b76 hC hF hr hk84 hv1 hv2 hv3 hv4 hv5 ht50 hv5 hq61 (eL (by decide) : (0 : Int32) = Int32.ofInt (0 : Int)) h_q61_2 f_q61_2)))))))))))
set_option maxRecDepth 100000 in
theorem rX5_findUnmoved_l40 {F : Nat} {C : yC} {E : zO → gW → Prop} {w0 : gW} {k84 : Nat → Option Nat → Option Nat → Int → Int → zO → Option zO} {k84' : Nat → (Option Nat) → (Option Nat) → Int32 → Int32 → gW → Option (gW)} (hC : oSep C) (hF : fF F) (hk84 : ∀ (a1 : Nat) (a2 : Option Nat) (a3 : Option Nat) (a4 : Int) (a5 : Int) (Z : zO) (b2 : (Option Nat)) (b3 : (Option Nat)) (b4 : Int32) (b5 : Int32) (w : gW), b2 = a2 → b3 = a3 → b4 = Int32.ofInt a4 → b5 = Int32.ofInt a5 → oRep C Z w → oFr C w0 w → zR E (k84 a1 a2 a3 a4 a5 Z) (k84' a1 b2 b3 b4 b5 w)) : ∀ (n : Nat) (v0 : Nat) (v1 : Option Nat) (v2 : Option Nat) (v3 : Int) (v4 : Int) (v5 : Int) (w : zO) (v1' : (Option Nat)) (v2' : (Option Nat)) (v3' : Int32) (v4' : Int32) (v5' : Int32) (w' : gW), v1' = v1 → v2' = v2 → v3' = Int32.ofInt v3 → v4' = Int32.ofInt v4 → v5' = Int32.ofInt v5 → oRep C w w' → oFr C w0 w' → zR E (zX5_findUnmoved_l40 F C k84 n v0 v1 v2 v3 v4 v5 w) (mX5_findUnmoved_l40 F k84' n v0 v1' v2' v3' v4' v5' w') := by
  intro n
  induction n with
  | zero => intros; exact R_none
  | succ n ih =>
    intro v0 v1 v2 v3 v4 v5 w v1' v2' v3' v4' v5' w' hv1 hv2 hv3 hv4 hv5 h_w f_w
    exact rX5_findUnmoved_h40 hC hF ih hk84 hv1 hv2 hv3 hv4 hv5 h_w f_w
set_option maxRecDepth 100000 in
theorem rX5_findUnmoved_h28 {F : Nat} {C : yC} {E : zO → gW → Prop} {w0 : gW} {r : Nat → Option Nat → Option Nat → Int → Int → zO → Option zO} {r' : Nat → (Option Nat) → (Option Nat) → Int32 → Int32 → gW → Option (gW)} {k98 : Nat → Option Nat → Option Nat → Int → zO → Option zO} {k98' : Nat → (Option Nat) → (Option Nat) → Int32 → gW → Option (gW)} {v0 : Nat} {v1 : Option Nat} {v1' : Option Nat} {v2 : Option Nat} {v2' : Option Nat} {v3 : Int} {v3' : Int32} {v4 : Int} {v4' : Int32} {w : zO} {w' : gW} (hC : oSep C) (hF : fF F) (hr : ∀ (a1 : Nat) (a2 : Option Nat) (a3 : Option Nat) (a4 : Int) (a5 : Int) (Z : zO) (b2 : (Option Nat)) (b3 : (Option Nat)) (b4 : Int32) (b5 : Int32) (w : gW), b2 = a2 → b3 = a3 → b4 = Int32.ofInt a4 → b5 = Int32.ofInt a5 → oRep C Z w → oFr C w0 w → zR E (r a1 a2 a3 a4 a5 Z) (r' a1 b2 b3 b4 b5 w)) (hk98 : ∀ (a1 : Nat) (a2 : Option Nat) (a3 : Option Nat) (a4 : Int) (Z : zO) (b2 : (Option Nat)) (b3 : (Option Nat)) (b4 : Int32) (w : gW), b2 = a2 → b3 = a3 → b4 = Int32.ofInt a4 → oRep C Z w → oFr C w0 w → zR E (k98 a1 a2 a3 a4 Z) (k98' a1 b2 b3 b4 w)) (hv1 : v1' = v1) (hv2 : v2' = v2) (hv3 : v3' = Int32.ofInt v3) (hv4 : v4' = Int32.ofInt v4) (h_w : oRep C w w') (f_w : oFr C w0 w') : zR E (zX5_findUnmoved_h28 F C r k98 v0 v1 v2 v3 v4 w) (mX5_findUnmoved_h28 F r' k98' v0 v1' v2' v3' v4' w') := by
  unfold zX5_findUnmoved_h28 mX5_findUnmoved_h28
  exact (S_FI h_w hv1 (c := 0) (k := 4) iy0_4 (fun t31 t31' ht31 =>
  (R_Le ht31 hv4
  (hk98 _ _ _ _ _ _ _ _ _ hv1 hv2 hv3 h_w f_w)
  (rX5_findUnmoved_l40 hC hF (by exact (fun v0 v1 v2 v3 v4 w v1' v2' v3' v4' w' hv1 hv2 hv3 hv4 h_w f_w =>
      (S_AR h_w rfl (c := 5) (k := 0) (off := 1) ay5_0 (fun t86' ht86 =>
      (S_O h_w hv2 (fun a89 ea89 =>
      (S_C0 (rX1_add hC hF ht86 h_w) f_w (fun q89 q89' h_q89 f_q89 =>
      (hr _ _ _ _ _ _ _ _ _ _ _ hv1 hv2 hv3 (eAdd hv4 (eL (by decide) : (1 : Int32) = Int32.ofInt (1 : Int))) h_q89 f_q89))))))))) F _ _ _ _ _ _ _ _ _ _ _ _ _ hv1 hv2 hv3 hv4 (eL (by decide) : (0 : Int32) = Int32.ofInt (0 : Int)) h_w f_w))))
set_option maxRecDepth 100000 in
theorem rX5_findUnmoved_l28 {F : Nat} {C : yC} {E : zO → gW → Prop} {w0 : gW} {k98 : Nat → Option Nat → Option Nat → Int → zO → Option zO} {k98' : Nat → (Option Nat) → (Option Nat) → Int32 → gW → Option (gW)} (hC : oSep C) (hF : fF F) (hk98 : ∀ (a1 : Nat) (a2 : Option Nat) (a3 : Option Nat) (a4 : Int) (Z : zO) (b2 : (Option Nat)) (b3 : (Option Nat)) (b4 : Int32) (w : gW), b2 = a2 → b3 = a3 → b4 = Int32.ofInt a4 → oRep C Z w → oFr C w0 w → zR E (k98 a1 a2 a3 a4 Z) (k98' a1 b2 b3 b4 w)) : ∀ (n : Nat) (v0 : Nat) (v1 : Option Nat) (v2 : Option Nat) (v3 : Int) (v4 : Int) (w : zO) (v1' : (Option Nat)) (v2' : (Option Nat)) (v3' : Int32) (v4' : Int32) (w' : gW), v1' = v1 → v2' = v2 → v3' = Int32.ofInt v3 → v4' = Int32.ofInt v4 → oRep C w w' → oFr C w0 w' → zR E (zX5_findUnmoved_l28 F C k98 n v0 v1 v2 v3 v4 w) (mX5_findUnmoved_l28 F k98' n v0 v1' v2' v3' v4' w') := by
  intro n
  induction n with
  | zero => intros; exact R_none
  | succ n ih =>
    intro v0 v1 v2 v3 v4 w v1' v2' v3' v4' w' hv1 hv2 hv3 hv4 h_w f_w
    exact rX5_findUnmoved_h28 hC hF ih hk98 hv1 hv2 hv3 hv4 h_w f_w
set_option maxRecDepth 100000 in
theorem rX5_findUnmoved_h14 {F : Nat} {C : yC} {E : zO → gW → Prop} {w0 : gW} {r : Nat → Option Nat → Option Nat → Int → zO → Option zO} {r' : Nat → (Option Nat) → (Option Nat) → Int32 → gW → Option (gW)} {k104 : Nat → Option Nat → Option Nat → zO → Option zO} {k104' : Nat → (Option Nat) → (Option Nat) → gW → Option (gW)} {v0 : Nat} {v1 : Option Nat} {v1' : Option Nat} {v2 : Option Nat} {v2' : Option Nat} {v3 : Int} {v3' : Int32} {w : zO} {w' : gW} (hC : oSep C) (hF : fF F) (hr : ∀ (a1 : Nat) (a2 : Option Nat) (a3 : Option Nat) (a4 : Int) (Z : zO) (b2 : (Option Nat)) (b3 : (Option Nat)) (b4 : Int32) (w : gW), b2 = a2 → b3 = a3 → b4 = Int32.ofInt a4 → oRep C Z w → oFr C w0 w → zR E (r a1 a2 a3 a4 Z) (r' a1 b2 b3 b4 w)) (hk104 : ∀ (a1 : Nat) (a2 : Option Nat) (a3 : Option Nat) (Z : zO) (b2 : (Option Nat)) (b3 : (Option Nat)) (w : gW), b2 = a2 → b3 = a3 → oRep C Z w → oFr C w0 w → zR E (k104 a1 a2 a3 Z) (k104' a1 b2 b3 w)) (hv1 : v1' = v1) (hv2 : v2' = v2) (hv3 : v3' = Int32.ofInt v3) (h_w : oRep C w w') (f_w : oFr C w0 w') : zR E (zX5_findUnmoved_h14 F C r k104 v0 v1 v2 v3 w) (mX5_findUnmoved_h14 F r' k104' v0 v1' v2' v3' w') := by
  unfold zX5_findUnmoved_h14 mX5_findUnmoved_h14
  exact (S_FR h_w hv1 (c := 0) (k := 2) ry0_2 (fun t16 t16' ht16 =>
  (S_FI h_w ht16 (c := 2) (k := 7) iy2_7 (fun t19 t19' ht19 =>
  (R_Le ht19 hv3
  (hk104 _ _ _ _ _ _ _ hv1 hv2 h_w f_w)
  (rX5_findUnmoved_l28 hC hF (by exact (fun v0 v1 v2 v3 w v1' v2' v3' w' hv1 hv2 hv3 h_w f_w =>
      (hr _ _ _ _ _ _ _ _ _ hv1 hv2 (eAdd hv3 (eL (by decide) : (1 : Int32) = Int32.ofInt (1 : Int))) h_w f_w))) F _ _ _ _ _ _ _ _ _ _ _ hv1 hv2 hv3 (eL (by decide) : (0 : Int32) = Int32.ofInt (0 : Int)) h_w f_w))))))
set_option maxRecDepth 100000 in
theorem rX5_findUnmoved_l14 {F : Nat} {C : yC} {E : zO → gW → Prop} {w0 : gW} {k104 : Nat → Option Nat → Option Nat → zO → Option zO} {k104' : Nat → (Option Nat) → (Option Nat) → gW → Option (gW)} (hC : oSep C) (hF : fF F) (hk104 : ∀ (a1 : Nat) (a2 : Option Nat) (a3 : Option Nat) (Z : zO) (b2 : (Option Nat)) (b3 : (Option Nat)) (w : gW), b2 = a2 → b3 = a3 → oRep C Z w → oFr C w0 w → zR E (k104 a1 a2 a3 Z) (k104' a1 b2 b3 w)) : ∀ (n : Nat) (v0 : Nat) (v1 : Option Nat) (v2 : Option Nat) (v3 : Int) (w : zO) (v1' : (Option Nat)) (v2' : (Option Nat)) (v3' : Int32) (w' : gW), v1' = v1 → v2' = v2 → v3' = Int32.ofInt v3 → oRep C w w' → oFr C w0 w' → zR E (zX5_findUnmoved_l14 F C k104 n v0 v1 v2 v3 w) (mX5_findUnmoved_l14 F k104' n v0 v1' v2' v3' w') := by
  intro n
  induction n with
  | zero => intros; exact R_none
  | succ n ih =>
    intro v0 v1 v2 v3 w v1' v2' v3' w' hv1 hv2 hv3 h_w f_w
    exact rX5_findUnmoved_h14 hC hF ih hk104 hv1 hv2 hv3 h_w f_w
set_option maxRecDepth 100000 in
theorem rX5_findUnmoved {F : Nat} {C : yC} {v0 : Nat} {v1 : Option Nat} {v1' : Option Nat} {v2 : Option Nat} {v2' : Option Nat} {w : zO} {w' : gW} (hC : oSep C) (hF : fF F) (hv1 : v1' = v1) (hv2 : v2' = v2) (h_w : oRep C w w') : zR (Y0 C w') (zX5_findUnmoved F C v0 v1 v2 w) (mX5_findUnmoved F v0 v1' v2' w') := by
  have f_w : oFr C w' w' := oFr.rf
  unfold zX5_findUnmoved mX5_findUnmoved
  exact (S_FI h_w hv1 (c := 0) (k := 4) iy0_4 (fun t2 t2' ht2 =>
  (S_FI h_w hv1 (c := 0) (k := 3) iy0_3 (fun t6 t6' ht6 =>
  (S_O h_w hv2 (fun a9 ea9 =>
  (S_C0 (rX1_begin hC hF ht2 ht6 h_w) f_w (fun q9 q9' h_q9 f_q9 =>
  (rX5_findUnmoved_l14 hC hF (by exact (fun v0 v1 v2 w v1' v2' w' hv1 hv2 h_w f_w =>
    (S_FI h_w hv2 (c := 1) (k := 5) iy1_5 (fun t106 t106' ht106 =>
    (S_PI h_w f_w hC rfl (c := 5) (k := 4) iy5_4 ht106 (fun w109 w109' h_w109 f_w109 =>
    (S_FI h_w109 hv1 (c := 0) (k := 4) iy0_4 (fun t114 t114' ht114 =>
    (S_FI h_w109 rfl (c := 5) (k := 4) iy5_4 (fun t118 t118' ht118 =>
    (S_PI h_w109 f_w109 hC rfl (c := 5) (k := 3) iy5_3 (eSub ht114 ht118) (fun w122 w122' h_w122 f_w122 =>
    (S_ret0 h_w122 f_w122))))))))))))) F _ _ _ _ _ _ _ _ _ hv1 hv2 (eL (by decide) : (0 : Int32) = Int32.ofInt (0 : Int)) h_q9 f_q9)))))))))
set_option maxRecDepth 100000 in
theorem rX5_writeEquations_h21 {F : Nat} {C : yC} {E : zO → gW → Prop} {w0 : gW} {r : Nat → Option Nat → Option Nat → Int → Int → zO → Option zO} {r' : Nat → (Option Nat) → (Option Nat) → Int32 → Int32 → gW → Option (gW)} {k72 : Nat → Option Nat → Option Nat → zO → Option zO} {k72' : Nat → (Option Nat) → (Option Nat) → gW → Option (gW)} {v0 : Nat} {v1 : Option Nat} {v1' : Option Nat} {v2 : Option Nat} {v2' : Option Nat} {v3 : Int} {v3' : Int32} {v4 : Int} {v4' : Int32} {w : zO} {w' : gW} (hC : oSep C) (hF : fF F) (hr : ∀ (a1 : Nat) (a2 : Option Nat) (a3 : Option Nat) (a4 : Int) (a5 : Int) (Z : zO) (b2 : (Option Nat)) (b3 : (Option Nat)) (b4 : Int32) (b5 : Int32) (w : gW), b2 = a2 → b3 = a3 → b4 = Int32.ofInt a4 → b5 = Int32.ofInt a5 → oRep C Z w → oFr C w0 w → zR E (r a1 a2 a3 a4 a5 Z) (r' a1 b2 b3 b4 b5 w)) (hk72 : ∀ (a1 : Nat) (a2 : Option Nat) (a3 : Option Nat) (Z : zO) (b2 : (Option Nat)) (b3 : (Option Nat)) (w : gW), b2 = a2 → b3 = a3 → oRep C Z w → oFr C w0 w → zR E (k72 a1 a2 a3 Z) (k72' a1 b2 b3 w)) (hv1 : v1' = v1) (hv2 : v2' = v2) (hv3 : v3' = Int32.ofInt v3) (hv4 : v4' = Int32.ofInt v4) (h_w : oRep C w w') (f_w : oFr C w0 w') : zR E (zX5_writeEquations_h21 F C r k72 v0 v1 v2 v3 v4 w) (mX5_writeEquations_h21 F r' k72' v0 v1' v2' v3' v4' w') := by
  unfold zX5_writeEquations_h21 mX5_writeEquations_h21
  exact (S_FR h_w rfl (c := 5) (k := 1) ry5_1 (fun t24 t24' ht24 =>
  (S_FI h_w ht24 (c := 1) (k := 5) iy1_5 (fun t27 t27' ht27 =>
  (R_Le ht27 hv4
  (hk72 _ _ _ _ _ _ _ hv1 hv2 h_w f_w)
  (S_AR h_w rfl (c := 5) (k := 0) (off := 1) ay5_0 (fun t34' ht34 =>
    (S_Fill h_w f_w hC ht34 (c := 5) (k := 0) dy5_0 (by decide) (eL (by decide) : (0 : Int32) = Int32.ofInt (0 : Int)) (fun q38 q38' h_q38 f_q38 =>
    (S_AR h_q38 rfl (c := 5) (k := 0) (off := 1) ay5_0 (fun t42' ht42 =>
    (S_FR h_q38 rfl (c := 5) (k := 1) ry5_1 (fun t47 t47' ht47 =>
    (S_O h_q38 ht47 (fun a52 ea52 =>
    (S_C1 (rX1_leadOf hC hF hv4 h_q38) f_q38 (fun q52_1 q52_2 q52_1' q52_2' hq52 h_q52_2 f_q52_2 =>
    (S_St h_q52_2 f_q52_2 hC ht42 (c := 5) (k := 0) dy5_0 (by decide) (eSub hv3 hq52) (eL (by decide) : (1 : Int32) = Int32.ofInt (1 : Int)) (fun w57 w57' h_w57 f_w57 =>
    (S_AR h_w57 rfl (c := 5) (k := 0) (off := 1) ay5_0 (fun t60' ht60 =>
    (S_O h_w57 hv2 (fun a63 ea63 =>
    (S_C0 (rX1_add hC hF ht60 h_w57) f_w57 (fun q63 q63' h_q63 f_q63 =>
    (hr _ _ _ _ _ _ _ _ _ _ _ hv1 hv2 hv3 (eAdd hv4 (eL (by decide) : (1 : Int32) = Int32.ofInt (1 : Int))) h_q63 f_q63)))))))))))))))))) hF))))))))
set_option maxRecDepth 100000 in
theorem rX5_writeEquations_l21 {F : Nat} {C : yC} {E : zO → gW → Prop} {w0 : gW} {k72 : Nat → Option Nat → Option Nat → zO → Option zO} {k72' : Nat → (Option Nat) → (Option Nat) → gW → Option (gW)} (hC : oSep C) (hF : fF F) (hk72 : ∀ (a1 : Nat) (a2 : Option Nat) (a3 : Option Nat) (Z : zO) (b2 : (Option Nat)) (b3 : (Option Nat)) (w : gW), b2 = a2 → b3 = a3 → oRep C Z w → oFr C w0 w → zR E (k72 a1 a2 a3 Z) (k72' a1 b2 b3 w)) : ∀ (n : Nat) (v0 : Nat) (v1 : Option Nat) (v2 : Option Nat) (v3 : Int) (v4 : Int) (w : zO) (v1' : (Option Nat)) (v2' : (Option Nat)) (v3' : Int32) (v4' : Int32) (w' : gW), v1' = v1 → v2' = v2 → v3' = Int32.ofInt v3 → v4' = Int32.ofInt v4 → oRep C w w' → oFr C w0 w' → zR E (zX5_writeEquations_l21 F C k72 n v0 v1 v2 v3 v4 w) (mX5_writeEquations_l21 F k72' n v0 v1' v2' v3' v4' w') := by
  intro n
  induction n with
  | zero => intros; exact R_none
  | succ n ih =>
    intro v0 v1 v2 v3 v4 w v1' v2' v3' v4' w' hv1 hv2 hv3 hv4 h_w f_w
    exact rX5_writeEquations_h21 hC hF ih hk72 hv1 hv2 hv3 hv4 h_w f_w
set_option maxRecDepth 100000 in
theorem rX5_writeEquations_h124 {F : Nat} {C : yC} {E : zO → gW → Prop} {w0 : gW} {r : Nat → Option Nat → Option Nat → Int → Int → Int → Int → Int → zO → Option zO} {r' : Nat → (Option Nat) → (Option Nat) → Int32 → Int32 → Int32 → Int32 → Int32 → gW → Option (gW)} {k168 : Nat → Option Nat → Option Nat → Int → Int → Int → Int → zO → Option zO} {k168' : Nat → (Option Nat) → (Option Nat) → Int32 → Int32 → Int32 → Int32 → gW → Option (gW)} {v0 : Nat} {v1 : Option Nat} {v1' : Option Nat} {v2 : Option Nat} {v2' : Option Nat} {v4 : Int} {v4' : Int32} {v5 : Int} {v5' : Int32} {v6 : Int} {v6' : Int32} {v7 : Int} {v7' : Int32} {v8 : Int} {v8' : Int32} {w : zO} {w' : gW} (hC : oSep C) (hF : fF F) (hr : ∀ (a1 : Nat) (a2 : Option Nat) (a3 : Option Nat) (a4 : Int) (a5 : Int) (a6 : Int) (a7 : Int) (a8 : Int) (Z : zO) (b2 : (Option Nat)) (b3 : (Option Nat)) (b4 : Int32) (b5 : Int32) (b6 : Int32) (b7 : Int32) (b8 : Int32) (w : gW), b2 = a2 → b3 = a3 → b4 = Int32.ofInt a4 → b5 = Int32.ofInt a5 → b6 = Int32.ofInt a6 → b7 = Int32.ofInt a7 → b8 = Int32.ofInt a8 → oRep C Z w → oFr C w0 w → zR E (r a1 a2 a3 a4 a5 a6 a7 a8 Z) (r' a1 b2 b3 b4 b5 b6 b7 b8 w)) (hk168 : ∀ (a1 : Nat) (a2 : Option Nat) (a3 : Option Nat) (a4 : Int) (a5 : Int) (a6 : Int) (a7 : Int) (Z : zO) (b2 : (Option Nat)) (b3 : (Option Nat)) (b4 : Int32) (b5 : Int32) (b6 : Int32) (b7 : Int32) (w : gW), b2 = a2 → b3 = a3 → b4 = Int32.ofInt a4 → b5 = Int32.ofInt a5 → b6 = Int32.ofInt a6 → b7 = Int32.ofInt a7 → oRep C Z w → oFr C w0 w → zR E (k168 a1 a2 a3 a4 a5 a6 a7 Z) (k168' a1 b2 b3 b4 b5 b6 b7 w)) (hv1 : v1' = v1) (hv2 : v2' = v2) (hv4 : v4' = Int32.ofInt v4) (hv5 : v5' = Int32.ofInt v5) (hv6 : v6' = Int32.ofInt v6) (hv7 : v7' = Int32.ofInt v7) (hv8 : v8' = Int32.ofInt v8) (h_w : oRep C w w') (f_w : oFr C w0 w') : zR E (zX5_writeEquations_h124 F C r k168 v0 v1 v2 v4 v5 v6 v7 v8 w) (mX5_writeEquations_h124 F r' k168' v0 v1' v2' v4' v5' v6' v7' v8' w') := by
  unfold zX5_writeEquations_h124 mX5_writeEquations_h124
  exact (S_FI h_w hv1 (c := 0) (k := 4) iy0_4 (fun t127 t127' ht127 =>
  (R_Le ht127 hv8
  (hk168 _ _ _ _ _ _ _ _ _ _ _ _ _ _ _ hv1 hv2 hv4 hv5 hv6 hv7 h_w f_w)
  (S_FR h_w hv1 (c := 0) (k := 2) ry0_2 (fun t136 t136' ht136 =>
    (S_AR h_w ht136 (c := 2) (k := 5) (off := 6) ay2_5 (fun t139' ht139 =>
    (S_Ld h_w ht139 (c := 2) (k := 5) dy2_5 (by decide) hv5 (fun t144 t144' ht144 =>
    (S_O h_w rfl (fun a151 ea151 =>
    (S_C0 (rX5_writeCocycleRule hC hF hv1 ht144 hv6 hv7 hv8 h_w) f_w (fun q151 q151' h_q151 f_q151 =>
    (S_AR h_q151 rfl (c := 5) (k := 0) (off := 1) ay5_0 (fun t156' ht156 =>
    (S_O h_q151 hv2 (fun a159 ea159 =>
    (S_C0 (rX1_add hC hF ht156 h_q151) f_q151 (fun q159 q159' h_q159 f_q159 =>
    (hr _ _ _ _ _ _ _ _ _ _ _ _ _ _ _ _ _ hv1 hv2 hv4 hv5 hv6 hv7 (eAdd hv8 (eL (by decide) : (1 : Int32) = Int32.ofInt (1 : Int))) h_q159 f_q159))))))))))))))))))))
set_option maxRecDepth 100000 in
theorem rX5_writeEquations_l124 {F : Nat} {C : yC} {E : zO → gW → Prop} {w0 : gW} {k168 : Nat → Option Nat → Option Nat → Int → Int → Int → Int → zO → Option zO} {k168' : Nat → (Option Nat) → (Option Nat) → Int32 → Int32 → Int32 → Int32 → gW → Option (gW)} (hC : oSep C) (hF : fF F) (hk168 : ∀ (a1 : Nat) (a2 : Option Nat) (a3 : Option Nat) (a4 : Int) (a5 : Int) (a6 : Int) (a7 : Int) (Z : zO) (b2 : (Option Nat)) (b3 : (Option Nat)) (b4 : Int32) (b5 : Int32) (b6 : Int32) (b7 : Int32) (w : gW), b2 = a2 → b3 = a3 → b4 = Int32.ofInt a4 → b5 = Int32.ofInt a5 → b6 = Int32.ofInt a6 → b7 = Int32.ofInt a7 → oRep C Z w → oFr C w0 w → zR E (k168 a1 a2 a3 a4 a5 a6 a7 Z) (k168' a1 b2 b3 b4 b5 b6 b7 w)) : ∀ (n : Nat) (v0 : Nat) (v1 : Option Nat) (v2 : Option Nat) (v4 : Int) (v5 : Int) (v6 : Int) (v7 : Int) (v8 : Int) (w : zO) (v1' : (Option Nat)) (v2' : (Option Nat)) (v4' : Int32) (v5' : Int32) (v6' : Int32) (v7' : Int32) (v8' : Int32) (w' : gW), v1' = v1 → v2' = v2 → v4' = Int32.ofInt v4 → v5' = Int32.ofInt v5 → v6' = Int32.ofInt v6 → v7' = Int32.ofInt v7 → v8' = Int32.ofInt v8 → oRep C w w' → oFr C w0 w' → zR E (zX5_writeEquations_l124 F C k168 n v0 v1 v2 v4 v5 v6 v7 v8 w) (mX5_writeEquations_l124 F k168' n v0 v1' v2' v4' v5' v6' v7' v8' w') := by
  intro n
  induction n with
  | zero => intros; exact R_none
  | succ n ih =>
    intro v0 v1 v2 v4 v5 v6 v7 v8 w v1' v2' v4' v5' v6' v7' v8' w' hv1 hv2 hv4 hv5 hv6 hv7 hv8 h_w f_w
    exact rX5_writeEquations_h124 hC hF ih hk168 hv1 hv2 hv4 hv5 hv6 hv7 hv8 h_w f_w
set_option maxRecDepth 100000 in
theorem rX5_writeEquations_h109 {F : Nat} {C : yC} {E : zO → gW → Prop} {w0 : gW} {r : Nat → Option Nat → Option Nat → Int → Int → Int → Int → zO → Option zO} {r' : Nat → (Option Nat) → (Option Nat) → Int32 → Int32 → Int32 → Int32 → gW → Option (gW)} {k174 : Nat → Option Nat → Option Nat → Int → Int → Int → zO → Option zO} {k174' : Nat → (Option Nat) → (Option Nat) → Int32 → Int32 → Int32 → gW → Option (gW)} {v0 : Nat} {v1 : Option Nat} {v1' : Option Nat} {v2 : Option Nat} {v2' : Option Nat} {v4 : Int} {v4' : Int32} {v5 : Int} {v5' : Int32} {v6 : Int} {v6' : Int32} {v7 : Int} {v7' : Int32} {w : zO} {w' : gW} (hC : oSep C) (hF : fF F) (hr : ∀ (a1 : Nat) (a2 : Option Nat) (a3 : Option Nat) (a4 : Int) (a5 : Int) (a6 : Int) (a7 : Int) (Z : zO) (b2 : (Option Nat)) (b3 : (Option Nat)) (b4 : Int32) (b5 : Int32) (b6 : Int32) (b7 : Int32) (w : gW), b2 = a2 → b3 = a3 → b4 = Int32.ofInt a4 → b5 = Int32.ofInt a5 → b6 = Int32.ofInt a6 → b7 = Int32.ofInt a7 → oRep C Z w → oFr C w0 w → zR E (r a1 a2 a3 a4 a5 a6 a7 Z) (r' a1 b2 b3 b4 b5 b6 b7 w)) (hk174 : ∀ (a1 : Nat) (a2 : Option Nat) (a3 : Option Nat) (a4 : Int) (a5 : Int) (a6 : Int) (Z : zO) (b2 : (Option Nat)) (b3 : (Option Nat)) (b4 : Int32) (b5 : Int32) (b6 : Int32) (w : gW), b2 = a2 → b3 = a3 → b4 = Int32.ofInt a4 → b5 = Int32.ofInt a5 → b6 = Int32.ofInt a6 → oRep C Z w → oFr C w0 w → zR E (k174 a1 a2 a3 a4 a5 a6 Z) (k174' a1 b2 b3 b4 b5 b6 w)) (hv1 : v1' = v1) (hv2 : v2' = v2) (hv4 : v4' = Int32.ofInt v4) (hv5 : v5' = Int32.ofInt v5) (hv6 : v6' = Int32.ofInt v6) (hv7 : v7' = Int32.ofInt v7) (h_w : oRep C w w') (f_w : oFr C w0 w') : zR E (zX5_writeEquations_h109 F C r k174 v0 v1 v2 v4 v5 v6 v7 w) (mX5_writeEquations_h109 F r' k174' v0 v1' v2' v4' v5' v6' v7' w') := by
  unfold zX5_writeEquations_h109 mX5_writeEquations_h109
  exact (S_FR h_w hv1 (c := 0) (k := 2) ry0_2 (fun t112 t112' ht112 =>
  (S_FI h_w ht112 (c := 2) (k := 7) iy2_7 (fun t115 t115' ht115 =>
  (R_Le ht115 hv7
  (hk174 _ _ _ _ _ _ _ _ _ _ _ _ _ hv1 hv2 hv4 hv5 hv6 h_w f_w)
  (rX5_writeEquations_l124 hC hF (by exact (fun v0 v1 v2 v4 v5 v6 v7 w v1' v2' v4' v5' v6' v7' w' hv1 hv2 hv4 hv5 hv6 hv7 h_w f_w =>
      (hr _ _ _ _ _ _ _ _ _ _ _ _ _ _ _ hv1 hv2 hv4 hv5 hv6 (eAdd hv7 (eL (by decide) : (1 : Int32) = Int32.ofInt (1 : Int))) h_w f_w))) F _ _ _ _ _ _ _ _ _ _ _ _ _ _ _ _ _ hv1 hv2 hv4 hv5 hv6 hv7 (eL (by decide) : (0 : Int32) = Int32.ofInt (0 : Int)) h_w f_w))))))
set_option maxRecDepth 100000 in
theorem rX5_writeEquations_l109 {F : Nat} {C : yC} {E : zO → gW → Prop} {w0 : gW} {k174 : Nat → Option Nat → Option Nat → Int → Int → Int → zO → Option zO} {k174' : Nat → (Option Nat) → (Option Nat) → Int32 → Int32 → Int32 → gW → Option (gW)} (hC : oSep C) (hF : fF F) (hk174 : ∀ (a1 : Nat) (a2 : Option Nat) (a3 : Option Nat) (a4 : Int) (a5 : Int) (a6 : Int) (Z : zO) (b2 : (Option Nat)) (b3 : (Option Nat)) (b4 : Int32) (b5 : Int32) (b6 : Int32) (w : gW), b2 = a2 → b3 = a3 → b4 = Int32.ofInt a4 → b5 = Int32.ofInt a5 → b6 = Int32.ofInt a6 → oRep C Z w → oFr C w0 w → zR E (k174 a1 a2 a3 a4 a5 a6 Z) (k174' a1 b2 b3 b4 b5 b6 w)) : ∀ (n : Nat) (v0 : Nat) (v1 : Option Nat) (v2 : Option Nat) (v4 : Int) (v5 : Int) (v6 : Int) (v7 : Int) (w : zO) (v1' : (Option Nat)) (v2' : (Option Nat)) (v4' : Int32) (v5' : Int32) (v6' : Int32) (v7' : Int32) (w' : gW), v1' = v1 → v2' = v2 → v4' = Int32.ofInt v4 → v5' = Int32.ofInt v5 → v6' = Int32.ofInt v6 → v7' = Int32.ofInt v7 → oRep C w w' → oFr C w0 w' → zR E (zX5_writeEquations_l109 F C k174 n v0 v1 v2 v4 v5 v6 v7 w) (mX5_writeEquations_l109 F k174' n v0 v1' v2' v4' v5' v6' v7' w') := by
  intro n
  induction n with
  | zero => intros; exact R_none
  | succ n ih =>
    intro v0 v1 v2 v4 v5 v6 v7 w v1' v2' v4' v5' v6' v7' w' hv1 hv2 hv4 hv5 hv6 hv7 h_w f_w
    exact rX5_writeEquations_h109 hC hF ih hk174 hv1 hv2 hv4 hv5 hv6 hv7 h_w f_w
set_option maxRecDepth 100000 in
theorem rX5_writeEquations_h94 {F : Nat} {C : yC} {E : zO → gW → Prop} {w0 : gW} {r : Nat → Option Nat → Option Nat → Int → Int → Int → zO → Option zO} {r' : Nat → (Option Nat) → (Option Nat) → Int32 → Int32 → Int32 → gW → Option (gW)} {k180 : Nat → Option Nat → Option Nat → Int → Int → zO → Option zO} {k180' : Nat → (Option Nat) → (Option Nat) → Int32 → Int32 → gW → Option (gW)} {v0 : Nat} {v1 : Option Nat} {v1' : Option Nat} {v2 : Option Nat} {v2' : Option Nat} {v4 : Int} {v4' : Int32} {v5 : Int} {v5' : Int32} {v6 : Int} {v6' : Int32} {w : zO} {w' : gW} (hC : oSep C) (hF : fF F) (hr : ∀ (a1 : Nat) (a2 : Option Nat) (a3 : Option Nat) (a4 : Int) (a5 : Int) (a6 : Int) (Z : zO) (b2 : (Option Nat)) (b3 : (Option Nat)) (b4 : Int32) (b5 : Int32) (b6 : Int32) (w : gW), b2 = a2 → b3 = a3 → b4 = Int32.ofInt a4 → b5 = Int32.ofInt a5 → b6 = Int32.ofInt a6 → oRep C Z w → oFr C w0 w → zR E (r a1 a2 a3 a4 a5 a6 Z) (r' a1 b2 b3 b4 b5 b6 w)) (hk180 : ∀ (a1 : Nat) (a2 : Option Nat) (a3 : Option Nat) (a4 : Int) (a5 : Int) (Z : zO) (b2 : (Option Nat)) (b3 : (Option Nat)) (b4 : Int32) (b5 : Int32) (w : gW), b2 = a2 → b3 = a3 → b4 = Int32.ofInt a4 → b5 = Int32.ofInt a5 → oRep C Z w → oFr C w0 w → zR E (k180 a1 a2 a3 a4 a5 Z) (k180' a1 b2 b3 b4 b5 w)) (hv1 : v1' = v1) (hv2 : v2' = v2) (hv4 : v4' = Int32.ofInt v4) (hv5 : v5' = Int32.ofInt v5) (hv6 : v6' = Int32.ofInt v6) (h_w : oRep C w w') (f_w : oFr C w0 w') : zR E (zX5_writeEquations_h94 F C r k180 v0 v1 v2 v4 v5 v6 w) (mX5_writeEquations_h94 F r' k180' v0 v1' v2' v4' v5' v6' w') := by
  unfold zX5_writeEquations_h94 mX5_writeEquations_h94
  exact (S_FR h_w hv1 (c := 0) (k := 2) ry0_2 (fun t97 t97' ht97 =>
  (S_FI h_w ht97 (c := 2) (k := 7) iy2_7 (fun t100 t100' ht100 =>
  (R_Le ht100 hv6
  (hk180 _ _ _ _ _ _ _ _ _ _ _ hv1 hv2 hv4 hv5 h_w f_w)
  (rX5_writeEquations_l109 hC hF (by exact (fun v0 v1 v2 v4 v5 v6 w v1' v2' v4' v5' v6' w' hv1 hv2 hv4 hv5 hv6 h_w f_w =>
      (hr _ _ _ _ _ _ _ _ _ _ _ _ _ hv1 hv2 hv4 hv5 (eAdd hv6 (eL (by decide) : (1 : Int32) = Int32.ofInt (1 : Int))) h_w f_w))) F _ _ _ _ _ _ _ _ _ _ _ _ _ _ _ hv1 hv2 hv4 hv5 hv6 (eL (by decide) : (1 : Int32) = Int32.ofInt (1 : Int)) h_w f_w))))))
set_option maxRecDepth 100000 in
theorem rX5_writeEquations_l94 {F : Nat} {C : yC} {E : zO → gW → Prop} {w0 : gW} {k180 : Nat → Option Nat → Option Nat → Int → Int → zO → Option zO} {k180' : Nat → (Option Nat) → (Option Nat) → Int32 → Int32 → gW → Option (gW)} (hC : oSep C) (hF : fF F) (hk180 : ∀ (a1 : Nat) (a2 : Option Nat) (a3 : Option Nat) (a4 : Int) (a5 : Int) (Z : zO) (b2 : (Option Nat)) (b3 : (Option Nat)) (b4 : Int32) (b5 : Int32) (w : gW), b2 = a2 → b3 = a3 → b4 = Int32.ofInt a4 → b5 = Int32.ofInt a5 → oRep C Z w → oFr C w0 w → zR E (k180 a1 a2 a3 a4 a5 Z) (k180' a1 b2 b3 b4 b5 w)) : ∀ (n : Nat) (v0 : Nat) (v1 : Option Nat) (v2 : Option Nat) (v4 : Int) (v5 : Int) (v6 : Int) (w : zO) (v1' : (Option Nat)) (v2' : (Option Nat)) (v4' : Int32) (v5' : Int32) (v6' : Int32) (w' : gW), v1' = v1 → v2' = v2 → v4' = Int32.ofInt v4 → v5' = Int32.ofInt v5 → v6' = Int32.ofInt v6 → oRep C w w' → oFr C w0 w' → zR E (zX5_writeEquations_l94 F C k180 n v0 v1 v2 v4 v5 v6 w) (mX5_writeEquations_l94 F k180' n v0 v1' v2' v4' v5' v6' w') := by
  intro n
  induction n with
  | zero => intros; exact R_none
  | succ n ih =>
    intro v0 v1 v2 v4 v5 v6 w v1' v2' v4' v5' v6' w' hv1 hv2 hv4 hv5 hv6 h_w f_w
    exact rX5_writeEquations_h94 hC hF ih hk180 hv1 hv2 hv4 hv5 hv6 h_w f_w
set_option maxRecDepth 100000 in
theorem rX5_writeEquations_h84 {F : Nat} {C : yC} {w0 : gW} {r : Nat → Option Nat → Option Nat → Int → Int → zO → Option zO} {r' : Nat → (Option Nat) → (Option Nat) → Int32 → Int32 → gW → Option (gW)} {v0 : Nat} {v1 : Option Nat} {v1' : Option Nat} {v2 : Option Nat} {v2' : Option Nat} {v4 : Int} {v4' : Int32} {v5 : Int} {v5' : Int32} {w : zO} {w' : gW} (hC : oSep C) (hF : fF F) (hr : ∀ (a1 : Nat) (a2 : Option Nat) (a3 : Option Nat) (a4 : Int) (a5 : Int) (Z : zO) (b2 : (Option Nat)) (b3 : (Option Nat)) (b4 : Int32) (b5 : Int32) (w : gW), b2 = a2 → b3 = a3 → b4 = Int32.ofInt a4 → b5 = Int32.ofInt a5 → oRep C Z w → oFr C w0 w → zR (Y0 C w0) (r a1 a2 a3 a4 a5 Z) (r' a1 b2 b3 b4 b5 w)) (hv1 : v1' = v1) (hv2 : v2' = v2) (hv4 : v4' = Int32.ofInt v4) (hv5 : v5' = Int32.ofInt v5) (h_w : oRep C w w') (f_w : oFr C w0 w') : zR (Y0 C w0) (zX5_writeEquations_h84 F C r v0 v1 v2 v4 v5 w) (mX5_writeEquations_h84 F r' v0 v1' v2' v4' v5' w') := by
  unfold zX5_writeEquations_h84 mX5_writeEquations_h84
  exact (R_Le hv4 hv5
  (S_ret0 h_w f_w)
  (rX5_writeEquations_l94 hC hF (by exact (fun v0 v1 v2 v4 v5 w v1' v2' v4' v5' w' hv1 hv2 hv4 hv5 h_w f_w =>
      (hr _ _ _ _ _ _ _ _ _ _ _ hv1 hv2 hv4 (eAdd hv5 (eL (by decide) : (1 : Int32) = Int32.ofInt (1 : Int))) h_w f_w))) F _ _ _ _ _ _ _ _ _ _ _ _ _ hv1 hv2 hv4 hv5 (eL (by decide) : (1 : Int32) = Int32.ofInt (1 : Int)) h_w f_w))
set_option maxRecDepth 100000 in
theorem rX5_writeEquations_l84 {F : Nat} {C : yC} {w0 : gW}  (hC : oSep C) (hF : fF F)  : ∀ (n : Nat) (v0 : Nat) (v1 : Option Nat) (v2 : Option Nat) (v4 : Int) (v5 : Int) (w : zO) (v1' : (Option Nat)) (v2' : (Option Nat)) (v4' : Int32) (v5' : Int32) (w' : gW), v1' = v1 → v2' = v2 → v4' = Int32.ofInt v4 → v5' = Int32.ofInt v5 → oRep C w w' → oFr C w0 w' → zR (Y0 C w0) (zX5_writeEquations_l84 F C  n v0 v1 v2 v4 v5 w) (mX5_writeEquations_l84 F  n v0 v1' v2' v4' v5' w') := by
  intro n
  induction n with
  | zero => intros; exact R_none
  | succ n ih =>
    intro v0 v1 v2 v4 v5 w v1' v2' v4' v5' w' hv1 hv2 hv4 hv5 h_w f_w
    exact rX5_writeEquations_h84 hC hF ih  hv1 hv2 hv4 hv5 h_w f_w
