/-! .. and that the m-functions do what they say (laid by a program of mine) -/
set_option maxRecDepth 100000 in
theorem rX7_addTo {F m : Nat} {v1 : Int} {v1' : Int32} {v2 : Int} {v2' : Int32} {w : zS} {w' : gW} (hv1 : v1' = Int32.ofInt v1) (hv2 : v2' = Int32.ofInt v2) (h_w : oAt 7 lyZ w' m (cvZ w)) : zR (E0 m w') (zX7_addTo F v1 v2 w) (mX7_addTo F m v1' v2' w') := by
  have f_w : wF m (m + 27) w' w' := wF.rf
  unfold zX7_addTo mX7_addTo
  exact (R_FR h_w (k := 25) rfl
  (R_FR h_w (k := 25) rfl
  (R_Ld h_w (k := 25) rfl (by decide) hv1 rfl (fun t10 t10' ht10 =>
  (R_FI h_w (k := 23) rfl (c := (zI w 23)) rfl (fun t14' ht14 =>
  (R_Rem (eAdd ht10 hv2) ht14 (fun t17 t17' ht17 =>
  (R_FI h_w (k := 23) rfl (c := (zI w 23)) rfl (fun t19' ht19 =>
  (R_FI h_w (k := 23) rfl (c := (zI w 23)) rfl (fun t24' ht24 =>
  (R_Rem (eAdd ht17 ht19) ht24 (fun t27 t27' ht27 =>
  (R_St h_w f_w (k := 25) rfl (by decide) hv1 ht27 (fun w28' h_w28 f_w28 =>
  (R_ret0 h_w28 f_w28)))))))))))))))))
set_option maxRecDepth 100000 in
theorem rX7_added {F m : Nat} {v1 : Int} {v1' : Int32} {w : zS} {w' : gW} (hv1 : v1' = Int32.ofInt v1) (h_w : oAt 7 lyZ w' m (cvZ w)) : zR (E1 m w') (zX7_added F v1 w) (mX7_added F m v1' w') := by
  have f_w : wF m (m + 27) w' w' := wF.rf
  unfold zX7_added mX7_added
  exact (R_FR h_w (k := 1) rfl
  (R_FI h_w (k := 0) rfl (c := (zI w 0)) rfl (fun t5' ht5 =>
  (R_St h_w f_w (k := 1) rfl (by decide) ht5 hv1 (fun w9' h_w9 f_w9 =>
  (R_FR h_w9 (k := 3) rfl
  (R_FI h_w9 (k := 0) rfl (c := (zI w 0)) rfl (fun t15' ht15 =>
  (R_St h_w9 f_w9 (k := 3) rfl (by decide) ht15 (eL (by decide) : (-4 : Int32) = Int32.ofInt (-4 : Int)) (fun w20' h_w20 f_w20 =>
  (R_FI h_w20 (k := 0) rfl (c := (zI w 0)) rfl (fun t23' ht23 =>
  (R_PI h_w20 f_w20 (k := 0) rfl (eAdd ht23 (eL (by decide) : (1 : Int32) = Int32.ofInt (1 : Int))) (fun w28' h_w28 f_w28 =>
  (R_FI h_w28 (k := 0) rfl (c := ((zI w 0) + (1 : Int))) rfl (fun t32' ht32 =>
  (R_ret1 (eSub ht32 (eL (by decide) : (1 : Int32) = Int32.ofInt (1 : Int))) h_w28 f_w28)))))))))))))))))
set_option maxRecDepth 100000 in
theorem rX7_clearLine_h2 {F m : Nat} {w0 : gW} {r : Int → zS → Option zS} {r' : Nat → Int32 → gW → Option (gW)} {v1 : Int} {v1' : Int32} {w : zS} {w' : gW} (hr : ∀ (a2 : Int) (Z : zS) (b2 : Int32) (w : gW), b2 = Int32.ofInt a2 → oAt 7 lyZ w m (cvZ Z) → wF m (m + 27) w0 w → zR (E0 m w0) (r a2 Z) (r' m b2 w)) (hv1 : v1' = Int32.ofInt v1) (h_w : oAt 7 lyZ w' m (cvZ w)) (f_w : wF m (m + 27) w0 w') : zR (E0 m w0) (zX7_clearLine_h2 F r v1 w) (mX7_clearLine_h2 F r' m v1' w') := by
  unfold zX7_clearLine_h2 mX7_clearLine_h2
  exact (R_Le (eL (by decide) : (98 : Int32) = Int32.ofInt (98 : Int)) hv1
  (R_ret0 h_w f_w)
  (R_FR h_w (k := 25) rfl
    (R_St h_w f_w (k := 25) rfl (by decide) hv1 (eL (by decide) : (0 : Int32) = Int32.ofInt (0 : Int)) (fun w14' h_w14 f_w14 =>
    (hr _ _ _ _ (eAdd hv1 (eL (by decide) : (1 : Int32) = Int32.ofInt (1 : Int))) h_w14 f_w14)))))
set_option maxRecDepth 100000 in
theorem rX7_clearLine_l2 {F m : Nat} {w0 : gW}   : ∀ (n : Nat) (v1 : Int) (w : zS) (v1' : Int32) (w' : gW), v1' = Int32.ofInt v1 → oAt 7 lyZ w' m (cvZ w) → wF m (m + 27) w0 w' → zR (E0 m w0) (zX7_clearLine_l2 F  n v1 w) (mX7_clearLine_l2 F  n m v1' w') := by
  intro n
  induction n with
  | zero => intros; exact R_none
  | succ n ih =>
    intro v1 w v1' w' hv1 h_w f_w
    exact rX7_clearLine_h2 ih  hv1 h_w f_w
set_option maxRecDepth 100000 in
theorem rX7_clearLine {F m : Nat} {w : zS} {w' : gW} (h_w : oAt 7 lyZ w' m (cvZ w)) : zR (E0 m w') (zX7_clearLine F w) (mX7_clearLine F m w') := by
  have f_w : wF m (m + 27) w' w' := wF.rf
  unfold zX7_clearLine mX7_clearLine
  exact (rX7_clearLine_l2  F _ _ _ _ (eL (by decide) : (0 : Int32) = Int32.ofInt (0 : Int)) h_w f_w)
set_option maxRecDepth 100000 in
theorem rX7_count {F m : Nat} {v1 : Int} {v1' : Int32} {w : zS} {w' : gW} (hv1 : v1' = Int32.ofInt v1) (h_w : oAt 7 lyZ w' m (cvZ w)) : zR (E1 m w') (zX7_count F v1 w) (mX7_count F m v1' w') := by
  have f_w : wF m (m + 27) w' w' := wF.rf
  unfold zX7_count mX7_count
  exact (R_Eq hv1 (eL (by decide) : (0 : Int32) = Int32.ofInt (0 : Int))
  (R_FI h_w (k := 0) rfl (c := (zI w 0)) rfl (fun t5' ht5 =>
    (R_ret1 ht5 h_w f_w)))
  (R_Eq hv1 (eL (by decide) : (1 : Int32) = Int32.ofInt (1 : Int))
    (R_FI h_w (k := 7) rfl (c := (zI w 7)) rfl (fun t17' ht17 =>
      (R_ret1 ht17 h_w f_w)))
    (R_Eq hv1 (eL (by decide) : (2 : Int32) = Int32.ofInt (2 : Int))
      (R_FR h_w (k := 4) rfl
        (R_Ld h_w (k := 4) rfl (by decide) (eL (by decide) : (0 : Int32) = Int32.ofInt (0 : Int)) rfl (fun t33 t33' ht33 =>
        (R_Eq ht33 (eL (by decide) : (-4 : Int32) = Int32.ofInt (-4 : Int))
        (R_ret1 (eL (by decide) : (-4 : Int32) = Int32.ofInt (-4 : Int)) h_w f_w)
        (R_FR h_w (k := 5) rfl
          (R_Ld h_w (k := 5) rfl (by decide) (eL (by decide) : (0 : Int32) = Int32.ofInt (0 : Int)) rfl (fun t49 t49' ht49 =>
          (R_ret1 ht49 h_w f_w))))))))
      (R_ret1 (eL (by decide) : (-1 : Int32) = Int32.ofInt (-1 : Int)) h_w f_w))))
set_option maxRecDepth 100000 in
theorem rX7_drop_h12 {F m : Nat} {w0 : gW} {r : Int → zS → Option (Int × zS)} {r' : Nat → Int32 → gW → Option (Int32 × gW)} {k44 : zS → Option (Int × zS)} {k44' : Nat → gW → Option (Int32 × gW)} {v1 : Int} {v1' : Int32} {w : zS} {w' : gW} (hr : ∀ (a2 : Int) (Z : zS) (b2 : Int32) (w : gW), b2 = Int32.ofInt a2 → oAt 7 lyZ w m (cvZ Z) → wF m (m + 27) w0 w → zR (E1 m w0) (r a2 Z) (r' m b2 w)) (hk44 : ∀ (Z : zS) (w : gW), oAt 7 lyZ w m (cvZ Z) → wF m (m + 27) w0 w → zR (E1 m w0) (k44 Z) (k44' m w)) (hv1 : v1' = Int32.ofInt v1) (h_w : oAt 7 lyZ w' m (cvZ w)) (f_w : wF m (m + 27) w0 w') : zR (E1 m w0) (zX7_drop_h12 F r k44 v1 w) (mX7_drop_h12 F r' k44' m v1' w') := by
  unfold zX7_drop_h12 mX7_drop_h12
  exact (R_FI h_w (k := 7) rfl (c := (zI w 7)) rfl (fun t14' ht14 =>
  (R_Le ht14 hv1
  (hk44 _ _ h_w f_w)
  (R_FR h_w (k := 8) rfl
    (R_Ld h_w (k := 8) rfl (by decide) hv1 rfl (fun t25 t25' ht25 =>
    (R_FI h_w (k := 0) rfl (c := (zI w 0)) rfl (fun t27' ht27 =>
    (R_Eq ht25 (eSub ht27 (eL (by decide) : (1 : Int32) = Int32.ofInt (1 : Int)))
    (R_ret1 (eL (by decide) : (-2 : Int32) = Int32.ofInt (-2 : Int)) h_w f_w)
    (hr _ _ _ _ (eAdd hv1 (eL (by decide) : (1 : Int32) = Int32.ofInt (1 : Int))) h_w f_w))))))))))
set_option maxRecDepth 100000 in
theorem rX7_drop_l12 {F m : Nat} {w0 : gW} {k44 : zS → Option (Int × zS)} {k44' : Nat → gW → Option (Int32 × gW)} (hk44 : ∀ (Z : zS) (w : gW), oAt 7 lyZ w m (cvZ Z) → wF m (m + 27) w0 w → zR (E1 m w0) (k44 Z) (k44' m w)) : ∀ (n : Nat) (v1 : Int) (w : zS) (v1' : Int32) (w' : gW), v1' = Int32.ofInt v1 → oAt 7 lyZ w' m (cvZ w) → wF m (m + 27) w0 w' → zR (E1 m w0) (zX7_drop_l12 F k44 n v1 w) (mX7_drop_l12 F k44' n m v1' w') := by
  intro n
  induction n with
  | zero => intros; exact R_none
  | succ n ih =>
    intro v1 w v1' w' hv1 h_w f_w
    exact rX7_drop_h12 ih hk44 hv1 h_w f_w
set_option maxRecDepth 100000 in
theorem rX7_drop {F m : Nat} {w : zS} {w' : gW} (h_w : oAt 7 lyZ w' m (cvZ w)) : zR (E1 m w') (zX7_drop F w) (mX7_drop F m w') := by
  have f_w : wF m (m + 27) w' w' := wF.rf
  unfold zX7_drop mX7_drop
  exact (R_FI h_w (k := 0) rfl (c := (zI w 0)) rfl (fun t1' ht1 =>
  (R_Eq ht1 (eL (by decide) : (0 : Int32) = Int32.ofInt (0 : Int))
  (R_ret1 (eL (by decide) : (-4 : Int32) = Int32.ofInt (-4 : Int)) h_w f_w)
  (rX7_drop_l12 (by exact (fun w w' h_w f_w =>
      (R_FI h_w (k := 0) rfl (c := (zI w 0)) rfl (fun t46' ht46 =>
      (R_PI h_w f_w (k := 0) rfl (eSub ht46 (eL (by decide) : (1 : Int32) = Int32.ofInt (1 : Int))) (fun w51' h_w51 f_w51 =>
      (R_FI h_w51 (k := 0) rfl (c := ((zI w 0) - (1 : Int))) rfl (fun t55' ht55 =>
      (R_ret1 ht55 h_w51 f_w51))))))))) F _ _ _ _ (eL (by decide) : (0 : Int32) = Int32.ofInt (0 : Int)) h_w f_w))))
set_option maxRecDepth 100000 in
theorem rX7_faultOf {F m : Nat} {v1 : Int} {v1' : Int32} {v2 : Int} {v2' : Int32} {v3 : Int} {v3' : Int32} {w : zS} {w' : gW} (hv1 : v1' = Int32.ofInt v1) (hv2 : v2' = Int32.ofInt v2) (hv3 : v3' = Int32.ofInt v3) (h_w : oAt 7 lyZ w' m (cvZ w)) : zR (E1 m w') (zX7_faultOf F v1 v2 v3 w) (mX7_faultOf F m v1' v2' v3' w') := by
  have f_w : wF m (m + 27) w' w' := wF.rf
  unfold zX7_faultOf mX7_faultOf
  exact (R_FR h_w (k := 4) rfl
  (R_Ld h_w (k := 4) rfl (by decide) hv1 rfl (fun t5 t5' ht5 =>
  (R_Eq ht5 (eL (by decide) : (-4 : Int32) = Int32.ofInt (-4 : Int))
  (R_ret1 (eL (by decide) : (-11 : Int32) = Int32.ofInt (-11 : Int)) h_w f_w)
  (R_FR h_w (k := 4) rfl
    (R_Ld h_w (k := 4) rfl (by decide) hv1 rfl (fun t21 t21' ht21 =>
    (R_Eq ht21 hv2
    (R_FR h_w (k := 5) rfl
      (R_Ld h_w (k := 5) rfl (by decide) hv1 rfl (fun t36 t36' ht36 =>
      (R_Le hv3 ht36
      (R_ret1 (eL (by decide) : (0 : Int32) = Int32.ofInt (0 : Int)) h_w f_w)
      (R_ret1 (eL (by decide) : (-12 : Int32) = Int32.ofInt (-12 : Int)) h_w f_w)))))
    (R_ret1 (eL (by decide) : (-13 : Int32) = Int32.ofInt (-13 : Int)) h_w f_w)))))))))
set_option maxRecDepth 100000 in
theorem rX7_in_b17 {F m : Nat} {w0 : gW} {w : zS} {w' : gW} (h_w : oAt 7 lyZ w' m (cvZ w)) (f_w : wF m (m + 27) w0 w') : zR (E1 m w0) (zX7_in_b17 F w) (mX7_in_b17 F w') := by
  unfold zX7_in_b17 mX7_in_b17
  exact (R_ret1 (eL (by decide) : (0 : Int32) = Int32.ofInt (0 : Int)) h_w f_w)
set_option maxRecDepth 100000 in
theorem rX7_in {F m : Nat} {v0 : Int64} {v0' : Int64} {v2 : Int64} {v2' : Int64} {v4 : Int64} {v4' : Int64} {w : zS} {w' : gW} (hv0 : v0' = v0) (hv2 : v2' = v2) (hv4 : v4' = v4) (h_w : oAt 7 lyZ w' m (cvZ w)) : zR (E1 m w') (zX7_in F v0 v2 v4 w) (mX7_in F v0' v2' v4' w') := by
  have f_w : wF m (m + 27) w' w' := wF.rf
  unfold zX7_in mX7_in
  exact (R_if (eBin (fun (x y : Int32) => x < y) (eBin lg_cmp hv0 hv2) rfl)
  (rX7_in_b17 h_w f_w)
  (R_if (eBin (fun (x y : Int32) => x < y) rfl (eBin lg_cmp hv0 hv4))
    (rX7_in_b17 h_w f_w)
    (R_ret1 (eL (by decide) : (1 : Int32) = Int32.ofInt (1 : Int)) h_w f_w)))
set_option maxRecDepth 100000 in
theorem rX7_isMade {F m : Nat} {v1 : Int} {v1' : Int32} {w : zS} {w' : gW} (hv1 : v1' = Int32.ofInt v1) (h_w : oAt 7 lyZ w' m (cvZ w)) : zR (E1 m w') (zX7_isMade F v1 w) (mX7_isMade F m v1' w') := by
  have f_w : wF m (m + 27) w' w' := wF.rf
  unfold zX7_isMade mX7_isMade
  exact (R_Le (eL (by decide) : (64 : Int32) = Int32.ofInt (64 : Int)) hv1
  (R_FL h_w (k := 16) rfl (c := (zJ w 16)) rfl (fun t28' ht28 =>
    (R_if (eBin (fun (x y : Int32) => x = y) (eBin lg_cmp (eBin (fun (x y : Int64) => x &&& y) (eBin (fun (x y : Int64) => x >>> y) ht28 (eBin (fun (x y : Int64) => x &&& y) (congrArg Int32.toInt64 (eSub hv1 (eL (by decide) : (64 : Int32) = Int32.ofInt (64 : Int)))) rfl)) rfl) rfl) rfl)
    (R_ret1 (eL (by decide) : (1 : Int32) = Int32.ofInt (1 : Int)) h_w f_w)
    (R_ret1 (eL (by decide) : (0 : Int32) = Int32.ofInt (0 : Int)) h_w f_w))))
  (R_FL h_w (k := 15) rfl (c := (zJ w 15)) rfl (fun t7' ht7 =>
    (R_if (eBin (fun (x y : Int32) => x = y) (eBin lg_cmp (eBin (fun (x y : Int64) => x &&& y) (eBin (fun (x y : Int64) => x >>> y) ht7 (eBin (fun (x y : Int64) => x &&& y) (congrArg Int32.toInt64 hv1) rfl)) rfl) rfl) rfl)
    (R_ret1 (eL (by decide) : (1 : Int32) = Int32.ofInt (1 : Int)) h_w f_w)
    (R_ret1 (eL (by decide) : (0 : Int32) = Int32.ofInt (0 : Int)) h_w f_w)))))
set_option maxRecDepth 100000 in
theorem rX7_leave {F m : Nat} {w : zS} {w' : gW} (h_w : oAt 7 lyZ w' m (cvZ w)) : zR (E1 m w') (zX7_leave F w) (mX7_leave F m w') := by
  have f_w : wF m (m + 27) w' w' := wF.rf
  unfold zX7_leave mX7_leave
  exact (R_FI h_w (k := 7) rfl (c := (zI w 7)) rfl (fun t1' ht1 =>
  (R_Eq ht1 (eL (by decide) : (0 : Int32) = Int32.ofInt (0 : Int))
  (R_ret1 (eL (by decide) : (-4 : Int32) = Int32.ofInt (-4 : Int)) h_w f_w)
  (R_FI h_w (k := 7) rfl (c := (zI w 7)) rfl (fun t12' ht12 =>
    (R_PI h_w f_w (k := 7) rfl (eSub ht12 (eL (by decide) : (1 : Int32) = Int32.ofInt (1 : Int))) (fun w17' h_w17 f_w17 =>
    (R_PI h_w17 f_w17 (k := 29) rfl (eL (by decide) : (-4 : Int32) = Int32.ofInt (-4 : Int)) (fun w23' h_w23 f_w23 =>
    (R_FI h_w23 (k := 7) rfl (c := ((zI w 7) - (1 : Int))) rfl (fun t27' ht27 =>
    (R_ret1 ht27 h_w23 f_w23))))))))))))
set_option maxRecDepth 100000 in
theorem rX7_lessBound_h26 {F m : Nat} {E : zS → gW → Prop} {w0 : gW} {r : Int → Int → Int → zS → Option zS} {r' : Nat → Int32 → Int32 → Int32 → gW → Option (gW)} {k80 : Int → zS → Option zS} {k80' : Nat → Int32 → gW → Option (gW)} {v1 : Int} {v1' : Int32} {v2 : Int} {v2' : Int32} {v3 : Int} {v3' : Int32} {w : zS} {w' : gW} (hr : ∀ (a2 : Int) (a3 : Int) (a4 : Int) (Z : zS) (b2 : Int32) (b3 : Int32) (b4 : Int32) (w : gW), b2 = Int32.ofInt a2 → b3 = Int32.ofInt a3 → b4 = Int32.ofInt a4 → oAt 7 lyZ w m (cvZ Z) → wF m (m + 27) w0 w → zR E (r a2 a3 a4 Z) (r' m b2 b3 b4 w)) (hk80 : ∀ (a2 : Int) (Z : zS) (b2 : Int32) (w : gW), b2 = Int32.ofInt a2 → oAt 7 lyZ w m (cvZ Z) → wF m (m + 27) w0 w → zR E (k80 a2 Z) (k80' m b2 w)) (hv1 : v1' = Int32.ofInt v1) (hv2 : v2' = Int32.ofInt v2) (hv3 : v3' = Int32.ofInt v3) (h_w : oAt 7 lyZ w' m (cvZ w)) (f_w : wF m (m + 27) w0 w') : zR E (zX7_lessBound_h26 F r k80 v1 v2 v3 w) (mX7_lessBound_h26 F r' k80' m v1' v2' v3' w') := by
  unfold zX7_lessBound_h26 mX7_lessBound_h26
  exact (R_FI h_w (k := 24) rfl (c := (zI w 24)) rfl (fun t28' ht28 =>
  (R_Le ht28 hv3
  (hk80 _ _ _ _ hv1 h_w f_w)
  (R_Le hv2 (eL (by decide) : (0 : Int32) = Int32.ofInt (0 : Int))
    (hk80 _ _ _ _ hv1 h_w f_w)
    (R_FR h_w (k := 25) rfl
      (R_FR h_w (k := 25) rfl
      (R_Ld h_w (k := 25) rfl (by decide) hv3 rfl (fun t48 t48' ht48 =>
      (R_FI h_w (k := 23) rfl (c := (zI w 23)) rfl (fun t50' ht50 =>
      (R_FR h_w (k := 31) rfl
      (R_Ld h_w (k := 31) rfl (by decide) (eAdd (eMul (eL (by decide) : (98 : Int32) = Int32.ofInt (98 : Int)) hv1) hv3) rfl (fun t65 t65' ht65 =>
      (R_FI h_w (k := 23) rfl (c := (zI w 23)) rfl (fun t69' ht69 =>
      (R_Rem (eAdd ht48 (eMul (eSub ht50 hv2) ht65)) ht69 (fun t72 t72' ht72 =>
      (R_St h_w f_w (k := 25) rfl (by decide) hv3 ht72 (fun w73' h_w73 f_w73 =>
      (hr _ _ _ _ _ _ _ _ hv1 hv2 (eAdd hv3 (eL (by decide) : (1 : Int32) = Int32.ofInt (1 : Int))) h_w73 f_w73))))))))))))))))))))
set_option maxRecDepth 100000 in
theorem rX7_lessBound_l26 {F m : Nat} {E : zS → gW → Prop} {w0 : gW} {k80 : Int → zS → Option zS} {k80' : Nat → Int32 → gW → Option (gW)} (hk80 : ∀ (a2 : Int) (Z : zS) (b2 : Int32) (w : gW), b2 = Int32.ofInt a2 → oAt 7 lyZ w m (cvZ Z) → wF m (m + 27) w0 w → zR E (k80 a2 Z) (k80' m b2 w)) : ∀ (n : Nat) (v1 : Int) (v2 : Int) (v3 : Int) (w : zS) (v1' : Int32) (v2' : Int32) (v3' : Int32) (w' : gW), v1' = Int32.ofInt v1 → v2' = Int32.ofInt v2 → v3' = Int32.ofInt v3 → oAt 7 lyZ w' m (cvZ w) → wF m (m + 27) w0 w' → zR E (zX7_lessBound_l26 F k80 n v1 v2 v3 w) (mX7_lessBound_l26 F k80' n m v1' v2' v3' w') := by
  intro n
  induction n with
  | zero => intros; exact R_none
  | succ n ih =>
    intro v1 v2 v3 w v1' v2' v3' w' hv1 hv2 hv3 h_w f_w
    exact rX7_lessBound_h26 ih hk80 hv1 hv2 hv3 h_w f_w
set_option maxRecDepth 100000 in
theorem rX7_lessBound_b80 {F m : Nat} {E : zS → gW → Prop} {w0 : gW} {r : Int → zS → Option zS} {r' : Nat → Int32 → gW → Option (gW)} {v1 : Int} {v1' : Int32} {w : zS} {w' : gW} (hr : ∀ (a2 : Int) (Z : zS) (b2 : Int32) (w : gW), b2 = Int32.ofInt a2 → oAt 7 lyZ w m (cvZ Z) → wF m (m + 27) w0 w → zR E (r a2 Z) (r' m b2 w)) (hv1 : v1' = Int32.ofInt v1) (h_w : oAt 7 lyZ w' m (cvZ w)) (f_w : wF m (m + 27) w0 w') : zR E (zX7_lessBound_b80 F r v1 w) (mX7_lessBound_b80 F r' m v1' w') := by
  unfold zX7_lessBound_b80 mX7_lessBound_b80
  exact (hr _ _ _ _ (eAdd hv1 (eL (by decide) : (1 : Int32) = Int32.ofInt (1 : Int))) h_w f_w)
set_option maxRecDepth 100000 in
theorem rX7_lessBound_h2 {F m : Nat} {w0 : gW} {r : Int → zS → Option zS} {r' : Nat → Int32 → gW → Option (gW)} {v1 : Int} {v1' : Int32} {w : zS} {w' : gW} (hr : ∀ (a2 : Int) (Z : zS) (b2 : Int32) (w : gW), b2 = Int32.ofInt a2 → oAt 7 lyZ w m (cvZ Z) → wF m (m + 27) w0 w → zR (E0 m w0) (r a2 Z) (r' m b2 w)) (hv1 : v1' = Int32.ofInt v1) (h_w : oAt 7 lyZ w' m (cvZ w)) (f_w : wF m (m + 27) w0 w') : zR (E0 m w0) (zX7_lessBound_h2 F r v1 w) (mX7_lessBound_h2 F r' m v1' w') := by
  unfold zX7_lessBound_h2 mX7_lessBound_h2
  exact (R_FR h_w (k := 30) rfl
  (R_Ld h_w (k := 30) rfl (by decide) (eL (by decide) : (4 : Int32) = Int32.ofInt (4 : Int)) rfl (fun t8 t8' ht8 =>
  (R_Le ht8 hv1
  (R_ret0 h_w f_w)
  (R_FR h_w (k := 25) rfl
    (R_FR h_w (k := 32) rfl
    (R_Ld h_w (k := 32) rfl (by decide) hv1 rfl (fun t21 t21' ht21 =>
    (R_Ld h_w (k := 25) rfl (by decide) ht21 rfl (fun t22 t22' ht22 =>
    (rX7_lessBound_l26 (by exact (fun v1 w v1' w' hv1 h_w f_w =>
      (rX7_lessBound_b80 hr hv1 h_w f_w))) F _ _ _ _ _ _ _ _ hv1 ht22 (eL (by decide) : (0 : Int32) = Int32.ofInt (0 : Int)) h_w f_w)))))))))))
set_option maxRecDepth 100000 in
theorem rX7_lessBound_l2 {F m : Nat} {w0 : gW}   : ∀ (n : Nat) (v1 : Int) (w : zS) (v1' : Int32) (w' : gW), v1' = Int32.ofInt v1 → oAt 7 lyZ w' m (cvZ w) → wF m (m + 27) w0 w' → zR (E0 m w0) (zX7_lessBound_l2 F  n v1 w) (mX7_lessBound_l2 F  n m v1' w') := by
  intro n
  induction n with
  | zero => intros; exact R_none
  | succ n ih =>
    intro v1 w v1' w' hv1 h_w f_w
    exact rX7_lessBound_h2 ih  hv1 h_w f_w
set_option maxRecDepth 100000 in
theorem rX7_lessBound {F m : Nat} {w : zS} {w' : gW} (h_w : oAt 7 lyZ w' m (cvZ w)) : zR (E0 m w') (zX7_lessBound F w) (mX7_lessBound F m w') := by
  have f_w : wF m (m + 27) w' w' := wF.rf
  unfold zX7_lessBound mX7_lessBound
  exact (rX7_lessBound_l2  F _ _ _ _ (eL (by decide) : (0 : Int32) = Int32.ofInt (0 : Int)) h_w f_w)
set_option maxRecDepth 100000 in
theorem rX7_matrix {F m : Nat} {v1 : Int} {v1' : Int32} {v2 : Int} {v2' : Int32} {v3 : Int} {v3' : Int32} {v4 : Int} {v4' : Int32} {w : zS} {w' : gW} (hv1 : v1' = Int32.ofInt v1) (hv2 : v2' = Int32.ofInt v2) (hv3 : v3' = Int32.ofInt v3) (hv4 : v4' = Int32.ofInt v4) (h_w : oAt 7 lyZ w' m (cvZ w)) : zR (E1 m w') (zX7_matrix F v1 v2 v3 v4 w) (mX7_matrix F m v1' v2' v3' v4' w') := by
  have f_w : wF m (m + 27) w' w' := wF.rf
  unfold zX7_matrix mX7_matrix
  exact (R_FR h_w (k := 11) rfl
  (R_Ld h_w (k := 11) rfl (by decide) (eAdd (eAdd (eAdd (eMul (eL (by decide) : (32 : Int32) = Int32.ofInt (32 : Int)) hv1) (eMul (eL (by decide) : (4 : Int32) = Int32.ofInt (4 : Int)) hv2)) (eMul (eL (by decide) : (2 : Int32) = Int32.ofInt (2 : Int)) hv3)) hv4) rfl (fun t19 t19' ht19 =>
  (R_ret1 ht19 h_w f_w))))
set_option maxRecDepth 100000 in
theorem rX7_placeOf {F m : Nat} {v1 : Int} {v1' : Int32} {v2 : Int} {v2' : Int32} {v3 : Int} {v3' : Int32} {w : zS} {w' : gW} (hv1 : v1' = Int32.ofInt v1) (hv2 : v2' = Int32.ofInt v2) (hv3 : v3' = Int32.ofInt v3) (h_w : oAt 7 lyZ w' m (cvZ w)) : zR (E1 m w') (zX7_placeOf F v1 v2 v3 w) (mX7_placeOf F m v1' v2' v3' w') := by
  have f_w : wF m (m + 27) w' w' := wF.rf
  unfold zX7_placeOf mX7_placeOf
  exact (R_FI h_w (k := 36) rfl (c := (zI w 36)) rfl (fun t4' ht4 =>
  (R_FI h_w (k := 37) rfl (c := (zI w 37)) rfl (fun t11' ht11 =>
  (R_FI h_w (k := 37) rfl (c := (zI w 37)) rfl (fun t19' ht19 =>
  (R_ret1 (eAdd (eAdd (eMul (eMul (eSub hv1 (eL (by decide) : (1 : Int32) = Int32.ofInt (1 : Int))) (eSub ht4 (eL (by decide) : (1 : Int32) = Int32.ofInt (1 : Int)))) ht11) (eMul (eSub hv2 (eL (by decide) : (1 : Int32) = Int32.ofInt (1 : Int))) ht19)) hv3) h_w f_w)))))))
set_option maxRecDepth 100000 in
theorem rX7_power_h4 {F m : Nat} {w0 : gW} {r : Int → Int → Int → Int → zS → Option (Int × zS)} {r' : Int32 → Int32 → Int32 → Int32 → gW → Option (Int32 × gW)} {v0 : Int} {v0' : Int32} {v1 : Int} {v1' : Int32} {v2 : Int} {v2' : Int32} {v3 : Int} {v3' : Int32} {w : zS} {w' : gW} (hr : ∀ (a1 : Int) (a2 : Int) (a3 : Int) (a4 : Int) (Z : zS) (b1 : Int32) (b2 : Int32) (b3 : Int32) (b4 : Int32) (w : gW), b1 = Int32.ofInt a1 → b2 = Int32.ofInt a2 → b3 = Int32.ofInt a3 → b4 = Int32.ofInt a4 → oAt 7 lyZ w m (cvZ Z) → wF m (m + 27) w0 w → zR (E1 m w0) (r a1 a2 a3 a4 Z) (r' b1 b2 b3 b4 w)) (hv0 : v0' = Int32.ofInt v0) (hv1 : v1' = Int32.ofInt v1) (hv2 : v2' = Int32.ofInt v2) (hv3 : v3' = Int32.ofInt v3) (h_w : oAt 7 lyZ w' m (cvZ w)) (f_w : wF m (m + 27) w0 w') : zR (E1 m w0) (zX7_power_h4 F r v0 v1 v2 v3 w) (mX7_power_h4 F r' v0' v1' v2' v3' w') := by
  unfold zX7_power_h4 mX7_power_h4
  exact (R_Le hv1 hv3
  (R_ret1 hv2 h_w f_w)
  (hr _ _ _ _ _ _ _ _ _ _ hv0 hv1 (eMul hv2 hv0) (eAdd hv3 (eL (by decide) : (1 : Int32) = Int32.ofInt (1 : Int))) h_w f_w))
set_option maxRecDepth 100000 in
theorem rX7_power_l4 {F m : Nat} {w0 : gW}   : ∀ (n : Nat) (v0 : Int) (v1 : Int) (v2 : Int) (v3 : Int) (w : zS) (v0' : Int32) (v1' : Int32) (v2' : Int32) (v3' : Int32) (w' : gW), v0' = Int32.ofInt v0 → v1' = Int32.ofInt v1 → v2' = Int32.ofInt v2 → v3' = Int32.ofInt v3 → oAt 7 lyZ w' m (cvZ w) → wF m (m + 27) w0 w' → zR (E1 m w0) (zX7_power_l4 F  n v0 v1 v2 v3 w) (mX7_power_l4 F  n v0' v1' v2' v3' w') := by
  intro n
  induction n with
  | zero => intros; exact R_none
  | succ n ih =>
    intro v0 v1 v2 v3 w v0' v1' v2' v3' w' hv0 hv1 hv2 hv3 h_w f_w
    exact rX7_power_h4 ih  hv0 hv1 hv2 hv3 h_w f_w
set_option maxRecDepth 100000 in
theorem rX7_power {F m : Nat} {v0 : Int} {v0' : Int32} {v1 : Int} {v1' : Int32} {w : zS} {w' : gW} (hv0 : v0' = Int32.ofInt v0) (hv1 : v1' = Int32.ofInt v1) (h_w : oAt 7 lyZ w' m (cvZ w)) : zR (E1 m w') (zX7_power F v0 v1 w) (mX7_power F v0' v1' w') := by
  have f_w : wF m (m + 27) w' w' := wF.rf
  unfold zX7_power mX7_power
  exact (rX7_power_l4  F _ _ _ _ _ _ _ _ _ _ hv0 hv1 (eL (by decide) : (1 : Int32) = Int32.ofInt (1 : Int)) (eL (by decide) : (0 : Int32) = Int32.ofInt (0 : Int)) h_w f_w)
set_option maxRecDepth 100000 in
theorem rX7_prod {F m : Nat} {v1 : Int} {v1' : Int32} {v2 : Int} {v2' : Int32} {v3 : Int} {v3' : Int32} {w : zS} {w' : gW} (hv1 : v1' = Int32.ofInt v1) (hv2 : v2' = Int32.ofInt v2) (hv3 : v3' = Int32.ofInt v3) (h_w : oAt 7 lyZ w' m (cvZ w)) : zR (E1 m w') (zX7_prod F v1 v2 v3 w) (mX7_prod F m v1' v2' v3' w') := by
  have f_w : wF m (m + 27) w' w' := wF.rf
  unfold zX7_prod mX7_prod
  exact (R_FR h_w (k := 2) rfl
  (R_Ld h_w (k := 2) rfl (by decide) (eAdd (eAdd (eMul (eL (by decide) : (5184 : Int32) = Int32.ofInt (5184 : Int)) hv1) (eMul (eL (by decide) : (72 : Int32) = Int32.ofInt (72 : Int)) hv2)) hv3) rfl (fun t16 t16' ht16 =>
  (R_ret1 ht16 h_w f_w))))
set_option maxRecDepth 100000 in
theorem rX7_reduceLine_h24 {F m : Nat} {E : zS → gW → Prop} {w0 : gW} {r : Int → Int → Int → zS → Option zS} {r' : Nat → Int32 → Int32 → Int32 → gW → Option (gW)} {k78 : Int → zS → Option zS} {k78' : Nat → Int32 → gW → Option (gW)} {v1 : Int} {v1' : Int32} {v2 : Int} {v2' : Int32} {v3 : Int} {v3' : Int32} {w : zS} {w' : gW} (hr : ∀ (a2 : Int) (a3 : Int) (a4 : Int) (Z : zS) (b2 : Int32) (b3 : Int32) (b4 : Int32) (w : gW), b2 = Int32.ofInt a2 → b3 = Int32.ofInt a3 → b4 = Int32.ofInt a4 → oAt 7 lyZ w m (cvZ Z) → wF m (m + 27) w0 w → zR E (r a2 a3 a4 Z) (r' m b2 b3 b4 w)) (hk78 : ∀ (a2 : Int) (Z : zS) (b2 : Int32) (w : gW), b2 = Int32.ofInt a2 → oAt 7 lyZ w m (cvZ Z) → wF m (m + 27) w0 w → zR E (k78 a2 Z) (k78' m b2 w)) (hv1 : v1' = Int32.ofInt v1) (hv2 : v2' = Int32.ofInt v2) (hv3 : v3' = Int32.ofInt v3) (h_w : oAt 7 lyZ w' m (cvZ w)) (f_w : wF m (m + 27) w0 w') : zR E (zX7_reduceLine_h24 F r k78 v1 v2 v3 w) (mX7_reduceLine_h24 F r' k78' m v1' v2' v3' w') := by
  unfold zX7_reduceLine_h24 mX7_reduceLine_h24
  exact (R_FI h_w (k := 24) rfl (c := (zI w 24)) rfl (fun t26' ht26 =>
  (R_Le ht26 hv3
  (hk78 _ _ _ _ hv1 h_w f_w)
  (R_Le hv2 (eL (by decide) : (0 : Int32) = Int32.ofInt (0 : Int))
    (hk78 _ _ _ _ hv1 h_w f_w)
    (R_FR h_w (k := 25) rfl
      (R_FR h_w (k := 25) rfl
      (R_Ld h_w (k := 25) rfl (by decide) hv3 rfl (fun t46 t46' ht46 =>
      (R_FI h_w (k := 23) rfl (c := (zI w 23)) rfl (fun t48' ht48 =>
      (R_FR h_w (k := 26) rfl
      (R_Ld h_w (k := 26) rfl (by decide) (eAdd (eMul (eL (by decide) : (98 : Int32) = Int32.ofInt (98 : Int)) hv1) hv3) rfl (fun t63 t63' ht63 =>
      (R_FI h_w (k := 23) rfl (c := (zI w 23)) rfl (fun t67' ht67 =>
      (R_Rem (eAdd ht46 (eMul (eSub ht48 hv2) ht63)) ht67 (fun t70 t70' ht70 =>
      (R_St h_w f_w (k := 25) rfl (by decide) hv3 ht70 (fun w71' h_w71 f_w71 =>
      (hr _ _ _ _ _ _ _ _ hv1 hv2 (eAdd hv3 (eL (by decide) : (1 : Int32) = Int32.ofInt (1 : Int))) h_w71 f_w71))))))))))))))))))))
set_option maxRecDepth 100000 in
theorem rX7_reduceLine_l24 {F m : Nat} {E : zS → gW → Prop} {w0 : gW} {k78 : Int → zS → Option zS} {k78' : Nat → Int32 → gW → Option (gW)} (hk78 : ∀ (a2 : Int) (Z : zS) (b2 : Int32) (w : gW), b2 = Int32.ofInt a2 → oAt 7 lyZ w m (cvZ Z) → wF m (m + 27) w0 w → zR E (k78 a2 Z) (k78' m b2 w)) : ∀ (n : Nat) (v1 : Int) (v2 : Int) (v3 : Int) (w : zS) (v1' : Int32) (v2' : Int32) (v3' : Int32) (w' : gW), v1' = Int32.ofInt v1 → v2' = Int32.ofInt v2 → v3' = Int32.ofInt v3 → oAt 7 lyZ w' m (cvZ w) → wF m (m + 27) w0 w' → zR E (zX7_reduceLine_l24 F k78 n v1 v2 v3 w) (mX7_reduceLine_l24 F k78' n m v1' v2' v3' w') := by
  intro n
  induction n with
  | zero => intros; exact R_none
  | succ n ih =>
    intro v1 v2 v3 w v1' v2' v3' w' hv1 hv2 hv3 h_w f_w
    exact rX7_reduceLine_h24 ih hk78 hv1 hv2 hv3 h_w f_w
set_option maxRecDepth 100000 in
theorem rX7_reduceLine_b78 {F m : Nat} {E : zS → gW → Prop} {w0 : gW} {r : Int → zS → Option zS} {r' : Nat → Int32 → gW → Option (gW)} {v1 : Int} {v1' : Int32} {w : zS} {w' : gW} (hr : ∀ (a2 : Int) (Z : zS) (b2 : Int32) (w : gW), b2 = Int32.ofInt a2 → oAt 7 lyZ w m (cvZ Z) → wF m (m + 27) w0 w → zR E (r a2 Z) (r' m b2 w)) (hv1 : v1' = Int32.ofInt v1) (h_w : oAt 7 lyZ w' m (cvZ w)) (f_w : wF m (m + 27) w0 w') : zR E (zX7_reduceLine_b78 F r v1 w) (mX7_reduceLine_b78 F r' m v1' w') := by
  unfold zX7_reduceLine_b78 mX7_reduceLine_b78
  exact (hr _ _ _ _ (eAdd hv1 (eL (by decide) : (1 : Int32) = Int32.ofInt (1 : Int))) h_w f_w)
set_option maxRecDepth 100000 in
theorem rX7_reduceLine_h2 {F m : Nat} {w0 : gW} {r : Int → zS → Option zS} {r' : Nat → Int32 → gW → Option (gW)} {v1 : Int} {v1' : Int32} {w : zS} {w' : gW} (hr : ∀ (a2 : Int) (Z : zS) (b2 : Int32) (w : gW), b2 = Int32.ofInt a2 → oAt 7 lyZ w m (cvZ Z) → wF m (m + 27) w0 w → zR (E0 m w0) (r a2 Z) (r' m b2 w)) (hv1 : v1' = Int32.ofInt v1) (h_w : oAt 7 lyZ w' m (cvZ w)) (f_w : wF m (m + 27) w0 w') : zR (E0 m w0) (zX7_reduceLine_h2 F r v1 w) (mX7_reduceLine_h2 F r' m v1' w') := by
  unfold zX7_reduceLine_h2 mX7_reduceLine_h2
  exact (R_FI h_w (k := 28) rfl (c := (zI w 28)) rfl (fun t4' ht4 =>
  (R_Le ht4 hv1
  (R_ret0 h_w f_w)
  (R_FR h_w (k := 25) rfl
    (R_FR h_w (k := 27) rfl
    (R_Ld h_w (k := 27) rfl (by decide) hv1 rfl (fun t19 t19' ht19 =>
    (R_Ld h_w (k := 25) rfl (by decide) ht19 rfl (fun t20 t20' ht20 =>
    (rX7_reduceLine_l24 (by exact (fun v1 w v1' w' hv1 h_w f_w =>
      (rX7_reduceLine_b78 hr hv1 h_w f_w))) F _ _ _ _ _ _ _ _ hv1 ht20 (eL (by decide) : (0 : Int32) = Int32.ofInt (0 : Int)) h_w f_w))))))))))
set_option maxRecDepth 100000 in
theorem rX7_reduceLine_l2 {F m : Nat} {w0 : gW}   : ∀ (n : Nat) (v1 : Int) (w : zS) (v1' : Int32) (w' : gW), v1' = Int32.ofInt v1 → oAt 7 lyZ w' m (cvZ w) → wF m (m + 27) w0 w' → zR (E0 m w0) (zX7_reduceLine_l2 F  n v1 w) (mX7_reduceLine_l2 F  n m v1' w') := by
  intro n
  induction n with
  | zero => intros; exact R_none
  | succ n ih =>
    intro v1 w v1' w' hv1 h_w f_w
    exact rX7_reduceLine_h2 ih  hv1 h_w f_w
set_option maxRecDepth 100000 in
theorem rX7_reduceLine {F m : Nat} {w : zS} {w' : gW} (h_w : oAt 7 lyZ w' m (cvZ w)) : zR (E0 m w') (zX7_reduceLine F w) (mX7_reduceLine F m w') := by
  have f_w : wF m (m + 27) w' w' := wF.rf
  unfold zX7_reduceLine mX7_reduceLine
  exact (rX7_reduceLine_l2  F _ _ _ _ (eL (by decide) : (0 : Int32) = Int32.ofInt (0 : Int)) h_w f_w)
set_option maxRecDepth 100000 in
theorem rX7_set {F m : Nat} {v1 : Int} {v1' : Int32} {v2 : Int} {v2' : Int32} {v3 : Int} {v3' : Int32} {w : zS} {w' : gW} (hv1 : v1' = Int32.ofInt v1) (hv2 : v2' = Int32.ofInt v2) (hv3 : v3' = Int32.ofInt v3) (h_w : oAt 7 lyZ w' m (cvZ w)) : zR (E0 m w') (zX7_set F v1 v2 v3 w) (mX7_set F m v1' v2' v3' w') := by
  have f_w : wF m (m + 27) w' w' := wF.rf
  unfold zX7_set mX7_set
  exact (R_FR h_w (k := 2) rfl
  (R_FI h_w (k := 0) rfl (c := (zI w 0)) rfl (fun t8' ht8 =>
  (R_St h_w f_w (k := 2) rfl (by decide) (eAdd (eAdd (eMul (eL (by decide) : (5184 : Int32) = Int32.ofInt (5184 : Int)) ht8) (eMul (eL (by decide) : (72 : Int32) = Int32.ofInt (72 : Int)) hv1)) hv2) hv3 (fun w20' h_w20 f_w20 =>
  (R_ret0 h_w20 f_w20))))))
set_option maxRecDepth 100000 in
theorem rX7_start {F m : Nat} {v1 : Int} {v1' : Int32} {w : zS} {w' : gW} (hv1 : v1' = Int32.ofInt v1) (h_w : oAt 7 lyZ w' m (cvZ w)) : zR (E0 m w') (zX7_start F v1 w) (mX7_start F m v1' w') := by
  have f_w : wF m (m + 27) w' w' := wF.rf
  unfold zX7_start mX7_start
  exact (R_PI h_w f_w (k := 39) rfl hv1 (fun w2' h_w2 f_w2 =>
  (R_FR h_w2 (k := 8) rfl
  (R_Ld h_w2 (k := 8) rfl (by decide) hv1 rfl (fun t11 t11' ht11 =>
  (R_PI h_w2 f_w2 (k := 38) rfl ht11 (fun w12' h_w12 f_w12 =>
  (R_FR h_w12 (k := 1) rfl
  (R_FI h_w12 (k := 38) rfl (c := t11) rfl (fun t21' ht21 =>
  (R_Ld h_w12 (k := 1) rfl (by decide) ht21 rfl (fun t24 t24' ht24 =>
  (R_PI h_w12 f_w12 (k := 36) rfl ht24 (fun w25' h_w25 f_w25 =>
  (R_FR h_w25 (k := 10) rfl
  (R_Ld h_w25 (k := 10) rfl (by decide) hv1 rfl (fun t34 t34' ht34 =>
  (R_PI h_w25 f_w25 (k := 37) rfl ht34 (fun w35' h_w35 f_w35 =>
  (R_FR h_w35 (k := 9) rfl
  (R_Ld h_w35 (k := 9) rfl (by decide) hv1 rfl (fun t44 t44' ht44 =>
  (R_PI h_w35 f_w35 (k := 23) rfl ht44 (fun w45' h_w45 f_w45 =>
  (R_ret0 h_w45 f_w45)))))))))))))))))))))))))
set_option maxRecDepth 100000 in
theorem rX7_classOfLine_h19 {F m : Nat} {E : (Int × zS) → (Int32 × gW) → Prop} {w0 : gW} {r : Int → Int → Int → zS → Option (Int × zS)} {r' : Nat → Int32 → Int32 → Int32 → gW → Option (Int32 × gW)} {k39 : Int → Int → Int → zS → Option (Int × zS)} {k39' : Nat → Int32 → Int32 → Int32 → gW → Option (Int32 × gW)} {v1 : Int} {v1' : Int32} {v2 : Int} {v2' : Int32} {v3 : Int} {v3' : Int32} {w : zS} {w' : gW} (hr : ∀ (a2 : Int) (a3 : Int) (a4 : Int) (Z : zS) (b2 : Int32) (b3 : Int32) (b4 : Int32) (w : gW), b2 = Int32.ofInt a2 → b3 = Int32.ofInt a3 → b4 = Int32.ofInt a4 → oAt 7 lyZ w m (cvZ Z) → wF m (m + 27) w0 w → zR E (r a2 a3 a4 Z) (r' m b2 b3 b4 w)) (hk39 : ∀ (a2 : Int) (a3 : Int) (a4 : Int) (Z : zS) (b2 : Int32) (b3 : Int32) (b4 : Int32) (w : gW), b2 = Int32.ofInt a2 → b3 = Int32.ofInt a3 → b4 = Int32.ofInt a4 → oAt 7 lyZ w m (cvZ Z) → wF m (m + 27) w0 w → zR E (k39 a2 a3 a4 Z) (k39' m b2 b3 b4 w)) (hv1 : v1' = Int32.ofInt v1) (hv2 : v2' = Int32.ofInt v2) (hv3 : v3' = Int32.ofInt v3) (h_w : oAt 7 lyZ w' m (cvZ w)) (f_w : wF m (m + 27) w0 w') : zR E (zX7_classOfLine_h19 F r k39 v1 v2 v3 w) (mX7_classOfLine_h19 F r' k39' m v1' v2' v3' w') := by
  unfold zX7_classOfLine_h19 mX7_classOfLine_h19
  exact (R_FR h_w (k := 33) rfl
  (R_Ld h_w (k := 33) rfl (by decide) (eAdd (eMul (eL (by decide) : (98 : Int32) = Int32.ofInt (98 : Int)) hv2) hv3) rfl (fun t29 t29' ht29 =>
  (R_Eq ht29 (eL (by decide) : (0 : Int32) = Int32.ofInt (0 : Int))
  (hr _ _ _ _ _ _ _ _ hv1 hv2 (eAdd hv3 (eL (by decide) : (1 : Int32) = Int32.ofInt (1 : Int))) h_w f_w)
  (hk39 _ _ _ _ _ _ _ _ hv1 hv2 hv3 h_w f_w)))))
set_option maxRecDepth 100000 in
theorem rX7_classOfLine_l19 {F m : Nat} {E : (Int × zS) → (Int32 × gW) → Prop} {w0 : gW} {k39 : Int → Int → Int → zS → Option (Int × zS)} {k39' : Nat → Int32 → Int32 → Int32 → gW → Option (Int32 × gW)} (hk39 : ∀ (a2 : Int) (a3 : Int) (a4 : Int) (Z : zS) (b2 : Int32) (b3 : Int32) (b4 : Int32) (w : gW), b2 = Int32.ofInt a2 → b3 = Int32.ofInt a3 → b4 = Int32.ofInt a4 → oAt 7 lyZ w m (cvZ Z) → wF m (m + 27) w0 w → zR E (k39 a2 a3 a4 Z) (k39' m b2 b3 b4 w)) : ∀ (n : Nat) (v1 : Int) (v2 : Int) (v3 : Int) (w : zS) (v1' : Int32) (v2' : Int32) (v3' : Int32) (w' : gW), v1' = Int32.ofInt v1 → v2' = Int32.ofInt v2 → v3' = Int32.ofInt v3 → oAt 7 lyZ w' m (cvZ w) → wF m (m + 27) w0 w' → zR E (zX7_classOfLine_l19 F k39 n v1 v2 v3 w) (mX7_classOfLine_l19 F k39' n m v1' v2' v3' w') := by
  intro n
  induction n with
  | zero => intros; exact R_none
  | succ n ih =>
    intro v1 v2 v3 w v1' v2' v3' w' hv1 hv2 hv3 h_w f_w
    exact rX7_classOfLine_h19 ih hk39 hv1 hv2 hv3 h_w f_w
set_option maxRecDepth 100000 in
theorem rX7_classOfLine_h13 {F m : Nat} {w0 : gW} {r : Int → Int → zS → Option (Int × zS)} {r' : Nat → Int32 → Int32 → gW → Option (Int32 × gW)} {v1 : Int} {v1' : Int32} {v2 : Int} {v2' : Int32} {w : zS} {w' : gW} (hr : ∀ (a2 : Int) (a3 : Int) (Z : zS) (b2 : Int32) (b3 : Int32) (w : gW), b2 = Int32.ofInt a2 → b3 = Int32.ofInt a3 → oAt 7 lyZ w m (cvZ Z) → wF m (m + 27) w0 w → zR (E1 m w0) (r a2 a3 Z) (r' m b2 b3 w)) (hv1 : v1' = Int32.ofInt v1) (hv2 : v2' = Int32.ofInt v2) (h_w : oAt 7 lyZ w' m (cvZ w)) (f_w : wF m (m + 27) w0 w') : zR (E1 m w0) (zX7_classOfLine_h13 F r v1 v2 w) (mX7_classOfLine_h13 F r' m v1' v2' w') := by
  unfold zX7_classOfLine_h13 mX7_classOfLine_h13
  exact (R_Lt hv2 (eL (by decide) : (0 : Int32) = Int32.ofInt (0 : Int))
  (R_ret1 hv1 h_w f_w)
  (rX7_classOfLine_l19 (by exact (fun v1 v2 v3 w v1' v2' v3' w' hv1 hv2 hv3 h_w f_w =>
      (R_FI h_w (k := 23) rfl (c := (zI w 23)) rfl (fun t41' ht41 =>
      (R_FR h_w (k := 25) rfl
      (R_Ld h_w (k := 25) rfl (by decide) hv3 rfl (fun t50 t50' ht50 =>
      (hr _ _ _ _ _ _ (eAdd (eMul hv1 ht41) ht50) (eAdd hv2 (eL (by decide) : (-1 : Int32) = Int32.ofInt (-1 : Int))) h_w f_w)))))))) F _ _ _ _ _ _ _ _ hv1 hv2 (eL (by decide) : (0 : Int32) = Int32.ofInt (0 : Int)) h_w f_w))
set_option maxRecDepth 100000 in
theorem rX7_classOfLine_l13 {F m : Nat} {w0 : gW}   : ∀ (n : Nat) (v1 : Int) (v2 : Int) (w : zS) (v1' : Int32) (v2' : Int32) (w' : gW), v1' = Int32.ofInt v1 → v2' = Int32.ofInt v2 → oAt 7 lyZ w' m (cvZ w) → wF m (m + 27) w0 w' → zR (E1 m w0) (zX7_classOfLine_l13 F  n v1 v2 w) (mX7_classOfLine_l13 F  n m v1' v2' w') := by
  intro n
  induction n with
  | zero => intros; exact R_none
  | succ n ih =>
    intro v1 v2 w v1' v2' w' hv1 hv2 h_w f_w
    exact rX7_classOfLine_h13 ih  hv1 hv2 h_w f_w
set_option maxRecDepth 100000 in
theorem rX7_classOfLine {F m : Nat} {w : zS} {w' : gW} (h_w : oAt 7 lyZ w' m (cvZ w)) : zR (E1 m w') (zX7_classOfLine F w) (mX7_classOfLine F m w') := by
  have f_w : wF m (m + 27) w' w' := wF.rf
  unfold zX7_classOfLine mX7_classOfLine
  exact (R_O h_w
  (R_C0 (rX7_lessBound h_w) f_w (fun q1 q1' h_q1 f_q1 =>
  (R_FI h_q1 (k := 35) rfl (c := (zI q1 35)) rfl (fun t7' ht7 =>
  (rX7_classOfLine_l13  F _ _ _ _ _ _ (eL (by decide) : (0 : Int32) = Int32.ofInt (0 : Int)) (eSub ht7 (eL (by decide) : (1 : Int32) = Int32.ofInt (1 : Int))) h_q1 f_q1))))))
set_option maxRecDepth 100000 in
theorem rX7_cyclic_h35 {F m : Nat} {E : (Int × zS) → (Int32 × gW) → Prop} {w0 : gW} {r : Int → Int → Int → zS → Option (Int × zS)} {r' : Nat → Int32 → Int32 → Int32 → gW → Option (Int32 × gW)} {k57 : Int → Int → zS → Option (Int × zS)} {k57' : Nat → Int32 → Int32 → gW → Option (Int32 × gW)} {v1 : Int} {v1' : Int32} {v2 : Int} {v2' : Int32} {v3 : Int} {v3' : Int32} {w : zS} {w' : gW} (hr : ∀ (a2 : Int) (a3 : Int) (a4 : Int) (Z : zS) (b2 : Int32) (b3 : Int32) (b4 : Int32) (w : gW), b2 = Int32.ofInt a2 → b3 = Int32.ofInt a3 → b4 = Int32.ofInt a4 → oAt 7 lyZ w m (cvZ Z) → wF m (m + 27) w0 w → zR E (r a2 a3 a4 Z) (r' m b2 b3 b4 w)) (hk57 : ∀ (a2 : Int) (a3 : Int) (Z : zS) (b2 : Int32) (b3 : Int32) (w : gW), b2 = Int32.ofInt a2 → b3 = Int32.ofInt a3 → oAt 7 lyZ w m (cvZ Z) → wF m (m + 27) w0 w → zR E (k57 a2 a3 Z) (k57' m b2 b3 w)) (hv1 : v1' = Int32.ofInt v1) (hv2 : v2' = Int32.ofInt v2) (hv3 : v3' = Int32.ofInt v3) (h_w : oAt 7 lyZ w' m (cvZ w)) (f_w : wF m (m + 27) w0 w') : zR E (zX7_cyclic_h35 F r k57 v1 v2 v3 w) (mX7_cyclic_h35 F r' k57' m v1' v2' v3' w') := by
  unfold zX7_cyclic_h35 mX7_cyclic_h35
  exact (R_Le hv1 hv3
  (hk57 _ _ _ _ _ _ hv1 hv2 h_w f_w)
  (R_Rem (eAdd hv2 hv3) hv1 (fun t47 t47' ht47 =>
    (R_O h_w
    (R_C0 (rX7_set hv2 hv3 ht47 h_w) f_w (fun q48 q48' h_q48 f_q48 =>
    (hr _ _ _ _ _ _ _ _ hv1 hv2 (eAdd hv3 (eL (by decide) : (1 : Int32) = Int32.ofInt (1 : Int))) h_q48 f_q48)))))))
set_option maxRecDepth 100000 in
theorem rX7_cyclic_l35 {F m : Nat} {E : (Int × zS) → (Int32 × gW) → Prop} {w0 : gW} {k57 : Int → Int → zS → Option (Int × zS)} {k57' : Nat → Int32 → Int32 → gW → Option (Int32 × gW)} (hk57 : ∀ (a2 : Int) (a3 : Int) (Z : zS) (b2 : Int32) (b3 : Int32) (w : gW), b2 = Int32.ofInt a2 → b3 = Int32.ofInt a3 → oAt 7 lyZ w m (cvZ Z) → wF m (m + 27) w0 w → zR E (k57 a2 a3 Z) (k57' m b2 b3 w)) : ∀ (n : Nat) (v1 : Int) (v2 : Int) (v3 : Int) (w : zS) (v1' : Int32) (v2' : Int32) (v3' : Int32) (w' : gW), v1' = Int32.ofInt v1 → v2' = Int32.ofInt v2 → v3' = Int32.ofInt v3 → oAt 7 lyZ w' m (cvZ w) → wF m (m + 27) w0 w' → zR E (zX7_cyclic_l35 F k57 n v1 v2 v3 w) (mX7_cyclic_l35 F k57' n m v1' v2' v3' w') := by
  intro n
  induction n with
  | zero => intros; exact R_none
  | succ n ih =>
    intro v1 v2 v3 w v1' v2' v3' w' hv1 hv2 hv3 h_w f_w
    exact rX7_cyclic_h35 ih hk57 hv1 hv2 hv3 h_w f_w
set_option maxRecDepth 100000 in
theorem rX7_cyclic_h28 {F m : Nat} {E : (Int × zS) → (Int32 × gW) → Prop} {w0 : gW} {r : Int → Int → zS → Option (Int × zS)} {r' : Nat → Int32 → Int32 → gW → Option (Int32 × gW)} {k63 : Int → zS → Option (Int × zS)} {k63' : Nat → Int32 → gW → Option (Int32 × gW)} {v1 : Int} {v1' : Int32} {v2 : Int} {v2' : Int32} {w : zS} {w' : gW} (hr : ∀ (a2 : Int) (a3 : Int) (Z : zS) (b2 : Int32) (b3 : Int32) (w : gW), b2 = Int32.ofInt a2 → b3 = Int32.ofInt a3 → oAt 7 lyZ w m (cvZ Z) → wF m (m + 27) w0 w → zR E (r a2 a3 Z) (r' m b2 b3 w)) (hk63 : ∀ (a2 : Int) (Z : zS) (b2 : Int32) (w : gW), b2 = Int32.ofInt a2 → oAt 7 lyZ w m (cvZ Z) → wF m (m + 27) w0 w → zR E (k63 a2 Z) (k63' m b2 w)) (hv1 : v1' = Int32.ofInt v1) (hv2 : v2' = Int32.ofInt v2) (h_w : oAt 7 lyZ w' m (cvZ w)) (f_w : wF m (m + 27) w0 w') : zR E (zX7_cyclic_h28 F r k63 v1 v2 w) (mX7_cyclic_h28 F r' k63' m v1' v2' w') := by
  unfold zX7_cyclic_h28 mX7_cyclic_h28
  exact (R_Le hv1 hv2
  (hk63 _ _ _ _ hv1 h_w f_w)
  (rX7_cyclic_l35 (by exact (fun v1 v2 w v1' v2' w' hv1 hv2 h_w f_w =>
      (hr _ _ _ _ _ _ hv1 (eAdd hv2 (eL (by decide) : (1 : Int32) = Int32.ofInt (1 : Int))) h_w f_w))) F _ _ _ _ _ _ _ _ hv1 hv2 (eL (by decide) : (0 : Int32) = Int32.ofInt (0 : Int)) h_w f_w))
set_option maxRecDepth 100000 in
theorem rX7_cyclic_l28 {F m : Nat} {E : (Int × zS) → (Int32 × gW) → Prop} {w0 : gW} {k63 : Int → zS → Option (Int × zS)} {k63' : Nat → Int32 → gW → Option (Int32 × gW)} (hk63 : ∀ (a2 : Int) (Z : zS) (b2 : Int32) (w : gW), b2 = Int32.ofInt a2 → oAt 7 lyZ w m (cvZ Z) → wF m (m + 27) w0 w → zR E (k63 a2 Z) (k63' m b2 w)) : ∀ (n : Nat) (v1 : Int) (v2 : Int) (w : zS) (v1' : Int32) (v2' : Int32) (w' : gW), v1' = Int32.ofInt v1 → v2' = Int32.ofInt v2 → oAt 7 lyZ w' m (cvZ w) → wF m (m + 27) w0 w' → zR E (zX7_cyclic_l28 F k63 n v1 v2 w) (mX7_cyclic_l28 F k63' n m v1' v2' w') := by
  intro n
  induction n with
  | zero => intros; exact R_none
  | succ n ih =>
    intro v1 v2 w v1' v2' w' hv1 hv2 h_w f_w
    exact rX7_cyclic_h28 ih hk63 hv1 hv2 h_w f_w
set_option maxRecDepth 100000 in
theorem rX7_cyclic {F m : Nat} {v1 : Int} {v1' : Int32} {w : zS} {w' : gW} (hv1 : v1' = Int32.ofInt v1) (h_w : oAt 7 lyZ w' m (cvZ w)) : zR (E1 m w') (zX7_cyclic F v1 w) (mX7_cyclic F m v1' w') := by
  have f_w : wF m (m + 27) w' w' := wF.rf
  unfold zX7_cyclic mX7_cyclic
  exact (R_C1 (rX7_in (congrArg Int32.toInt64 hv1) rfl rfl h_w) f_w (fun q6_1 q6_2 q6_1' q6_2' hq6 h_q6_2 f_q6_2 =>
  (R_Eq hq6 (eL (by decide) : (0 : Int32) = Int32.ofInt (0 : Int))
  (R_ret1 (eL (by decide) : (-1 : Int32) = Int32.ofInt (-1 : Int)) h_q6_2 f_q6_2)
  (R_FI h_q6_2 (k := 0) rfl (c := (zI q6_2 0)) rfl (fun t15' ht15 =>
    (R_Eq ht15 (eL (by decide) : (8 : Int32) = Int32.ofInt (8 : Int))
    (R_ret1 (eL (by decide) : (-3 : Int32) = Int32.ofInt (-3 : Int)) h_q6_2 f_q6_2)
    (rX7_cyclic_l28 (by exact (fun v1 w v1' w' hv1 h_w f_w =>
        (R_O h_w
        (R_C1 (rX7_added hv1 h_w) f_w (fun q65_1 q65_2 q65_1' q65_2' hq65 h_q65_2 f_q65_2 =>
        (R_ret1 hq65 h_q65_2 f_q65_2)))))) F _ _ _ _ _ _ hv1 (eL (by decide) : (0 : Int32) = Int32.ofInt (0 : Int)) h_q6_2 f_q6_2)))))))
set_option maxRecDepth 100000 in
theorem rX7_dihedral_h35 {F m : Nat} {E : (Int × zS) → (Int32 × gW) → Prop} {w0 : gW} {r : Int → Int → Int → zS → Option (Int × zS)} {r' : Nat → Int32 → Int32 → Int32 → gW → Option (Int32 × gW)} {k106 : Int → Int → zS → Option (Int × zS)} {k106' : Nat → Int32 → Int32 → gW → Option (Int32 × gW)} {v1 : Int} {v1' : Int32} {v2 : Int} {v2' : Int32} {v3 : Int} {v3' : Int32} {w : zS} {w' : gW} (hr : ∀ (a2 : Int) (a3 : Int) (a4 : Int) (Z : zS) (b2 : Int32) (b3 : Int32) (b4 : Int32) (w : gW), b2 = Int32.ofInt a2 → b3 = Int32.ofInt a3 → b4 = Int32.ofInt a4 → oAt 7 lyZ w m (cvZ Z) → wF m (m + 27) w0 w → zR E (r a2 a3 a4 Z) (r' m b2 b3 b4 w)) (hk106 : ∀ (a2 : Int) (a3 : Int) (Z : zS) (b2 : Int32) (b3 : Int32) (w : gW), b2 = Int32.ofInt a2 → b3 = Int32.ofInt a3 → oAt 7 lyZ w m (cvZ Z) → wF m (m + 27) w0 w → zR E (k106 a2 a3 Z) (k106' m b2 b3 w)) (hv1 : v1' = Int32.ofInt v1) (hv2 : v2' = Int32.ofInt v2) (hv3 : v3' = Int32.ofInt v3) (h_w : oAt 7 lyZ w' m (cvZ w)) (f_w : wF m (m + 27) w0 w') : zR E (zX7_dihedral_h35 F r k106 v1 v2 v3 w) (mX7_dihedral_h35 F r' k106' m v1' v2' v3' w') := by
  unfold zX7_dihedral_h35 mX7_dihedral_h35
  exact (R_Le hv1 hv3
  (hk106 _ _ _ _ _ _ hv1 hv2 h_w f_w)
  (R_Rem (eAdd hv2 hv3) hv1 (fun t47 t47' ht47 =>
    (R_O h_w
    (R_C0 (rX7_set hv2 hv3 ht47 h_w) f_w (fun q48 q48' h_q48 f_q48 =>
    (R_Rem (eAdd hv2 hv3) hv1 (fun t61 t61' ht61 =>
    (R_O h_q48
    (R_C0 (rX7_set hv2 (eAdd hv1 hv3) (eAdd hv1 ht61) h_q48) f_q48 (fun q63 q63' h_q63 f_q63 =>
    (R_Rem (eAdd (eSub hv2 hv3) hv1) hv1 (fun t78 t78' ht78 =>
    (R_O h_q63
    (R_C0 (rX7_set (eAdd hv1 hv2) hv3 (eAdd hv1 ht78) h_q63) f_q63 (fun q80 q80' h_q80 f_q80 =>
    (R_Rem (eAdd (eSub hv2 hv3) hv1) hv1 (fun t96 t96' ht96 =>
    (R_O h_q80
    (R_C0 (rX7_set (eAdd hv1 hv2) (eAdd hv1 hv3) ht96 h_q80) f_q80 (fun q97 q97' h_q97 f_q97 =>
    (hr _ _ _ _ _ _ _ _ hv1 hv2 (eAdd hv3 (eL (by decide) : (1 : Int32) = Int32.ofInt (1 : Int))) h_q97 f_q97))))))))))))))))))))))
set_option maxRecDepth 100000 in
theorem rX7_dihedral_l35 {F m : Nat} {E : (Int × zS) → (Int32 × gW) → Prop} {w0 : gW} {k106 : Int → Int → zS → Option (Int × zS)} {k106' : Nat → Int32 → Int32 → gW → Option (Int32 × gW)} (hk106 : ∀ (a2 : Int) (a3 : Int) (Z : zS) (b2 : Int32) (b3 : Int32) (w : gW), b2 = Int32.ofInt a2 → b3 = Int32.ofInt a3 → oAt 7 lyZ w m (cvZ Z) → wF m (m + 27) w0 w → zR E (k106 a2 a3 Z) (k106' m b2 b3 w)) : ∀ (n : Nat) (v1 : Int) (v2 : Int) (v3 : Int) (w : zS) (v1' : Int32) (v2' : Int32) (v3' : Int32) (w' : gW), v1' = Int32.ofInt v1 → v2' = Int32.ofInt v2 → v3' = Int32.ofInt v3 → oAt 7 lyZ w' m (cvZ w) → wF m (m + 27) w0 w' → zR E (zX7_dihedral_l35 F k106 n v1 v2 v3 w) (mX7_dihedral_l35 F k106' n m v1' v2' v3' w') := by
  intro n
  induction n with
  | zero => intros; exact R_none
  | succ n ih =>
    intro v1 v2 v3 w v1' v2' v3' w' hv1 hv2 hv3 h_w f_w
    exact rX7_dihedral_h35 ih hk106 hv1 hv2 hv3 h_w f_w
set_option maxRecDepth 100000 in
theorem rX7_dihedral_h28 {F m : Nat} {E : (Int × zS) → (Int32 × gW) → Prop} {w0 : gW} {r : Int → Int → zS → Option (Int × zS)} {r' : Nat → Int32 → Int32 → gW → Option (Int32 × gW)} {k112 : Int → zS → Option (Int × zS)} {k112' : Nat → Int32 → gW → Option (Int32 × gW)} {v1 : Int} {v1' : Int32} {v2 : Int} {v2' : Int32} {w : zS} {w' : gW} (hr : ∀ (a2 : Int) (a3 : Int) (Z : zS) (b2 : Int32) (b3 : Int32) (w : gW), b2 = Int32.ofInt a2 → b3 = Int32.ofInt a3 → oAt 7 lyZ w m (cvZ Z) → wF m (m + 27) w0 w → zR E (r a2 a3 Z) (r' m b2 b3 w)) (hk112 : ∀ (a2 : Int) (Z : zS) (b2 : Int32) (w : gW), b2 = Int32.ofInt a2 → oAt 7 lyZ w m (cvZ Z) → wF m (m + 27) w0 w → zR E (k112 a2 Z) (k112' m b2 w)) (hv1 : v1' = Int32.ofInt v1) (hv2 : v2' = Int32.ofInt v2) (h_w : oAt 7 lyZ w' m (cvZ w)) (f_w : wF m (m + 27) w0 w') : zR E (zX7_dihedral_h28 F r k112 v1 v2 w) (mX7_dihedral_h28 F r' k112' m v1' v2' w') := by
  unfold zX7_dihedral_h28 mX7_dihedral_h28
  exact (R_Le hv1 hv2
  (hk112 _ _ _ _ hv1 h_w f_w)
  (rX7_dihedral_l35 (by exact (fun v1 v2 w v1' v2' w' hv1 hv2 h_w f_w =>
      (hr _ _ _ _ _ _ hv1 (eAdd hv2 (eL (by decide) : (1 : Int32) = Int32.ofInt (1 : Int))) h_w f_w))) F _ _ _ _ _ _ _ _ hv1 hv2 (eL (by decide) : (0 : Int32) = Int32.ofInt (0 : Int)) h_w f_w))
set_option maxRecDepth 100000 in
theorem rX7_dihedral_l28 {F m : Nat} {E : (Int × zS) → (Int32 × gW) → Prop} {w0 : gW} {k112 : Int → zS → Option (Int × zS)} {k112' : Nat → Int32 → gW → Option (Int32 × gW)} (hk112 : ∀ (a2 : Int) (Z : zS) (b2 : Int32) (w : gW), b2 = Int32.ofInt a2 → oAt 7 lyZ w m (cvZ Z) → wF m (m + 27) w0 w → zR E (k112 a2 Z) (k112' m b2 w)) : ∀ (n : Nat) (v1 : Int) (v2 : Int) (w : zS) (v1' : Int32) (v2' : Int32) (w' : gW), v1' = Int32.ofInt v1 → v2' = Int32.ofInt v2 → oAt 7 lyZ w' m (cvZ w) → wF m (m + 27) w0 w' → zR E (zX7_dihedral_l28 F k112 n v1 v2 w) (mX7_dihedral_l28 F k112' n m v1' v2' w') := by
  intro n
  induction n with
  | zero => intros; exact R_none
  | succ n ih =>
    intro v1 v2 w v1' v2' w' hv1 hv2 h_w f_w
    exact rX7_dihedral_h28 ih hk112 hv1 hv2 h_w f_w
set_option maxRecDepth 100000 in
theorem rX7_dihedral {F m : Nat} {v1 : Int} {v1' : Int32} {w : zS} {w' : gW} (hv1 : v1' = Int32.ofInt v1) (h_w : oAt 7 lyZ w' m (cvZ w)) : zR (E1 m w') (zX7_dihedral F v1 w) (mX7_dihedral F m v1' w') := by
  have f_w : wF m (m + 27) w' w' := wF.rf
  unfold zX7_dihedral mX7_dihedral
  exact (R_C1 (rX7_in (congrArg Int32.toInt64 hv1) rfl rfl h_w) f_w (fun q6_1 q6_2 q6_1' q6_2' hq6 h_q6_2 f_q6_2 =>
  (R_Eq hq6 (eL (by decide) : (0 : Int32) = Int32.ofInt (0 : Int))
  (R_ret1 (eL (by decide) : (-1 : Int32) = Int32.ofInt (-1 : Int)) h_q6_2 f_q6_2)
  (R_FI h_q6_2 (k := 0) rfl (c := (zI q6_2 0)) rfl (fun t15' ht15 =>
    (R_Eq ht15 (eL (by decide) : (8 : Int32) = Int32.ofInt (8 : Int))
    (R_ret1 (eL (by decide) : (-3 : Int32) = Int32.ofInt (-3 : Int)) h_q6_2 f_q6_2)
    (rX7_dihedral_l28 (by exact (fun v1 w v1' w' hv1 h_w f_w =>
        (R_O h_w
        (R_C1 (rX7_added (eMul (eL (by decide) : (2 : Int32) = Int32.ofInt (2 : Int)) hv1) h_w) f_w (fun q116_1 q116_2 q116_1' q116_2' hq116 h_q116_2 f_q116_2 =>
        (R_ret1 hq116 h_q116_2 f_q116_2)))))) F _ _ _ _ _ _ hv1 (eL (by decide) : (0 : Int32) = Int32.ofInt (0 : Int)) h_q6_2 f_q6_2)))))))
set_option maxRecDepth 100000 in
theorem rX7_equation_h7 {F m : Nat} {E : zS → gW → Prop} {w0 : gW} {r : Int → Int → Int → Int → Int → zS → Option zS} {r' : Nat → Int32 → Int32 → Int32 → Int32 → Int32 → gW → Option (gW)} {k47 : Int → Int → Int → Int → zS → Option zS} {k47' : Nat → Int32 → Int32 → Int32 → Int32 → gW → Option (gW)} {v1 : Int} {v1' : Int32} {v2 : Int} {v2' : Int32} {v3 : Int} {v3' : Int32} {v4 : Int} {v4' : Int32} {v5 : Int} {v5' : Int32} {w : zS} {w' : gW} (hr : ∀ (a2 : Int) (a3 : Int) (a4 : Int) (a5 : Int) (a6 : Int) (Z : zS) (b2 : Int32) (b3 : Int32) (b4 : Int32) (b5 : Int32) (b6 : Int32) (w : gW), b2 = Int32.ofInt a2 → b3 = Int32.ofInt a3 → b4 = Int32.ofInt a4 → b5 = Int32.ofInt a5 → b6 = Int32.ofInt a6 → oAt 7 lyZ w m (cvZ Z) → wF m (m + 27) w0 w → zR E (r a2 a3 a4 a5 a6 Z) (r' m b2 b3 b4 b5 b6 w)) (hk47 : ∀ (a2 : Int) (a3 : Int) (a4 : Int) (a5 : Int) (Z : zS) (b2 : Int32) (b3 : Int32) (b4 : Int32) (b5 : Int32) (w : gW), b2 = Int32.ofInt a2 → b3 = Int32.ofInt a3 → b4 = Int32.ofInt a4 → b5 = Int32.ofInt a5 → oAt 7 lyZ w m (cvZ Z) → wF m (m + 27) w0 w → zR E (k47 a2 a3 a4 a5 Z) (k47' m b2 b3 b4 b5 w)) (hv1 : v1' = Int32.ofInt v1) (hv2 : v2' = Int32.ofInt v2) (hv3 : v3' = Int32.ofInt v3) (hv4 : v4' = Int32.ofInt v4) (hv5 : v5' = Int32.ofInt v5) (h_w : oAt 7 lyZ w' m (cvZ w)) (f_w : wF m (m + 27) w0 w') : zR E (zX7_equation_h7 F r k47 v1 v2 v3 v4 v5 w) (mX7_equation_h7 F r' k47' m v1' v2' v3' v4' v5' w') := by
  unfold zX7_equation_h7 mX7_equation_h7
  exact (R_FI h_w (k := 37) rfl (c := (zI w 37)) rfl (fun t10' ht10 =>
  (R_Le ht10 hv5
  (hk47 _ _ _ _ _ _ _ _ _ _ hv1 hv2 hv3 hv4 h_w f_w)
  (R_O h_w
    (R_C1 (rX7_placeOf hv2 hv3 hv5 h_w) f_w (fun q22_1 q22_2 q22_1' q22_2' hq22 h_q22_2 f_q22_2 =>
    (R_FI h_q22_2 (k := 39) rfl (c := (zI q22_2 39)) rfl (fun t27' ht27 =>
    (R_O h_q22_2
    (R_C1 (rX7_matrix ht27 hv1 hv4 hv5 h_q22_2) f_q22_2 (fun q35_1 q35_2 q35_1' q35_2' hq35 h_q35_2 f_q35_2 =>
    (R_O h_q35_2
    (R_C0 (rX7_addTo hq22 hq35 h_q35_2) f_q35_2 (fun q38 q38' h_q38 f_q38 =>
    (hr _ _ _ _ _ _ _ _ _ _ _ _ hv1 hv2 hv3 hv4 (eAdd hv5 (eL (by decide) : (1 : Int32) = Int32.ofInt (1 : Int))) h_q38 f_q38)))))))))))))))
set_option maxRecDepth 100000 in
theorem rX7_equation_l7 {F m : Nat} {E : zS → gW → Prop} {w0 : gW} {k47 : Int → Int → Int → Int → zS → Option zS} {k47' : Nat → Int32 → Int32 → Int32 → Int32 → gW → Option (gW)} (hk47 : ∀ (a2 : Int) (a3 : Int) (a4 : Int) (a5 : Int) (Z : zS) (b2 : Int32) (b3 : Int32) (b4 : Int32) (b5 : Int32) (w : gW), b2 = Int32.ofInt a2 → b3 = Int32.ofInt a3 → b4 = Int32.ofInt a4 → b5 = Int32.ofInt a5 → oAt 7 lyZ w m (cvZ Z) → wF m (m + 27) w0 w → zR E (k47 a2 a3 a4 a5 Z) (k47' m b2 b3 b4 b5 w)) : ∀ (n : Nat) (v1 : Int) (v2 : Int) (v3 : Int) (v4 : Int) (v5 : Int) (w : zS) (v1' : Int32) (v2' : Int32) (v3' : Int32) (v4' : Int32) (v5' : Int32) (w' : gW), v1' = Int32.ofInt v1 → v2' = Int32.ofInt v2 → v3' = Int32.ofInt v3 → v4' = Int32.ofInt v4 → v5' = Int32.ofInt v5 → oAt 7 lyZ w' m (cvZ w) → wF m (m + 27) w0 w' → zR E (zX7_equation_l7 F k47 n v1 v2 v3 v4 v5 w) (mX7_equation_l7 F k47' n m v1' v2' v3' v4' v5' w') := by
  intro n
  induction n with
  | zero => intros; exact R_none
  | succ n ih =>
    intro v1 v2 v3 v4 v5 w v1' v2' v3' v4' v5' w' hv1 hv2 hv3 hv4 hv5 h_w f_w
    exact rX7_equation_h7 ih hk47 hv1 hv2 hv3 hv4 hv5 h_w f_w
set_option maxRecDepth 100000 in
theorem rX7_equation_b109 {F m : Nat} {w0 : gW} {v1 : Int} {v1' : Int32} {v2 : Int} {v2' : Int32} {v4 : Int} {v4' : Int32} {w : zS} {w' : gW} (hv1 : v1' = Int32.ofInt v1) (hv2 : v2' = Int32.ofInt v2) (hv4 : v4' = Int32.ofInt v4) (h_w : oAt 7 lyZ w' m (cvZ w)) (f_w : wF m (m + 27) w0 w') : zR (E0 m w0) (zX7_equation_b109 F v1 v2 v4 w) (mX7_equation_b109 F m v1' v2' v4' w') := by
  unfold zX7_equation_b109 mX7_equation_b109
  exact (R_O h_w
  (R_C1 (rX7_placeOf hv1 hv2 hv4 h_w) f_w (fun q115_1 q115_2 q115_1' q115_2' hq115 h_q115_2 f_q115_2 =>
  (R_O h_q115_2
  (R_C0 (rX7_addTo hq115 (eL (by decide) : (-1 : Int32) = Int32.ofInt (-1 : Int)) h_q115_2) f_q115_2 (fun q119 q119' h_q119 f_q119 =>
  (R_ret0 h_q119 f_q119)))))))
set_option maxRecDepth 100000 in
theorem rX7_equation_b90 {F m : Nat} {w0 : gW} {v1 : Int} {v1' : Int32} {v2 : Int} {v2' : Int32} {v3 : Int} {v3' : Int32} {v4 : Int} {v4' : Int32} {v6 : Int} {v6' : Int32} {w : zS} {w' : gW} (hv1 : v1' = Int32.ofInt v1) (hv2 : v2' = Int32.ofInt v2) (hv3 : v3' = Int32.ofInt v3) (hv4 : v4' = Int32.ofInt v4) (hv6 : v6' = Int32.ofInt v6) (h_w : oAt 7 lyZ w' m (cvZ w)) (f_w : wF m (m + 27) w0 w') : zR (E0 m w0) (zX7_equation_b90 F v1 v2 v3 v4 v6 w) (mX7_equation_b90 F m v1' v2' v3' v4' v6' w') := by
  unfold zX7_equation_b90 mX7_equation_b90
  exact (R_Le hv6 (eL (by decide) : (0 : Int32) = Int32.ofInt (0 : Int))
  (rX7_equation_b109 hv1 hv2 hv4 h_w f_w)
  (R_O h_w
    (R_C1 (rX7_placeOf hv6 hv3 hv4 h_w) f_w (fun q102_1 q102_2 q102_1' q102_2' hq102 h_q102_2 f_q102_2 =>
    (R_O h_q102_2
    (R_C0 (rX7_addTo hq102 (eL (by decide) : (-1 : Int32) = Int32.ofInt (-1 : Int)) h_q102_2) f_q102_2 (fun q106 q106' h_q106 f_q106 =>
    (rX7_equation_b109 hv1 hv2 hv4 h_q106 f_q106))))))))
set_option maxRecDepth 100000 in
theorem rX7_equation {F m : Nat} {v1 : Int} {v1' : Int32} {v2 : Int} {v2' : Int32} {v3 : Int} {v3' : Int32} {v4 : Int} {v4' : Int32} {w : zS} {w' : gW} (hv1 : v1' = Int32.ofInt v1) (hv2 : v2' = Int32.ofInt v2) (hv3 : v3' = Int32.ofInt v3) (hv4 : v4' = Int32.ofInt v4) (h_w : oAt 7 lyZ w' m (cvZ w)) : zR (E0 m w') (zX7_equation F v1 v2 v3 v4 w) (mX7_equation F m v1' v2' v3' v4' w') := by
  have f_w : wF m (m + 27) w' w' := wF.rf
  unfold zX7_equation mX7_equation
  exact (R_O h_w
  (R_C0 (rX7_clearLine h_w) f_w (fun q1 q1' h_q1 f_q1 =>
  (rX7_equation_l7 (by exact (fun v1 v2 v3 v4 w v1' v2' v3' v4' w' hv1 hv2 hv3 hv4 h_w f_w =>
    (R_FI h_w (k := 38) rfl (c := (zI w 38)) rfl (fun t49' ht49 =>
    (R_O h_w
    (R_C1 (rX7_prod ht49 hv2 hv3 h_w) f_w (fun q54_1 q54_2 q54_1' q54_2' hq54 h_q54_2 f_q54_2 =>
    (R_FI h_q54_2 (k := 38) rfl (c := (zI q54_2 38)) rfl (fun t61' ht61 =>
    (R_O h_q54_2
    (R_C1 (rX7_prod ht61 hv1 hv2 h_q54_2) f_q54_2 (fun q66_1 q66_2 q66_1' q66_2' hq66 h_q66_2 f_q66_2 =>
    (R_Le hq54 (eL (by decide) : (0 : Int32) = Int32.ofInt (0 : Int))
    (rX7_equation_b90 hv1 hv2 hv3 hv4 hq66 h_q66_2 f_q66_2)
    (R_O h_q66_2
      (R_C1 (rX7_placeOf hv1 hq54 hv4 h_q66_2) f_q66_2 (fun q83_1 q83_2 q83_1' q83_2' hq83 h_q83_2 f_q83_2 =>
      (R_O h_q83_2
      (R_C0 (rX7_addTo hq83 (eL (by decide) : (1 : Int32) = Int32.ofInt (1 : Int)) h_q83_2) f_q83_2 (fun q87 q87' h_q87 f_q87 =>
      (rX7_equation_b90 hv1 hv2 hv3 hv4 hq66 h_q87 f_q87)))))))))))))))))))) F _ _ _ _ _ _ _ _ _ _ _ _ hv1 hv2 hv3 hv4 (eL (by decide) : (0 : Int32) = Int32.ofInt (0 : Int)) h_q1 f_q1))))
set_option maxRecDepth 100000 in
theorem rX7_friends_b41 {F m : Nat} {E : (Int × zS) → (Int32 × gW) → Prop} {w0 : gW} {r : Int → Int → Int → Int → zS → Option (Int × zS)} {r' : Nat → Int32 → Int32 → Int32 → Int32 → gW → Option (Int32 × gW)} {v1 : Int} {v1' : Int32} {v2 : Int} {v2' : Int32} {v4 : Int} {v4' : Int32} {s0 : Int} {s0' : Int32} {s1 : Int} {s1' : Int32} {w : zS} {w' : gW} (hr : ∀ (a2 : Int) (a3 : Int) (a4 : Int) (a5 : Int) (Z : zS) (b2 : Int32) (b3 : Int32) (b4 : Int32) (b5 : Int32) (w : gW), b2 = Int32.ofInt a2 → b3 = Int32.ofInt a3 → b4 = Int32.ofInt a4 → b5 = Int32.ofInt a5 → oAt 7 lyZ w m (cvZ Z) → wF m (m + 27) w0 w → zR E (r a2 a3 a4 a5 Z) (r' m b2 b3 b4 b5 w)) (hv1 : v1' = Int32.ofInt v1) (hv2 : v2' = Int32.ofInt v2) (hv4 : v4' = Int32.ofInt v4) (hs0 : s0' = Int32.ofInt s0) (hs1 : s1' = Int32.ofInt s1) (h_w : oAt 7 lyZ w' m (cvZ w)) (f_w : wF m (m + 27) w0 w') : zR E (zX7_friends_b41 F r v1 v2 v4 s0 s1 w) (mX7_friends_b41 F r' m v1' v2' v4' s0' s1' w') := by
  unfold zX7_friends_b41 mX7_friends_b41
  exact (hr _ _ _ _ _ _ _ _ _ _ hv1 hv2 (eAdd hs0 hs1) (eAdd hv4 (eL (by decide) : (1 : Int32) = Int32.ofInt (1 : Int))) h_w f_w)
set_option maxRecDepth 100000 in
theorem rX7_friends_h5 {F m : Nat} {w0 : gW} {r : Int → Int → Int → Int → zS → Option (Int × zS)} {r' : Nat → Int32 → Int32 → Int32 → Int32 → gW → Option (Int32 × gW)} {v1 : Int} {v1' : Int32} {v2 : Int} {v2' : Int32} {v3 : Int} {v3' : Int32} {v4 : Int} {v4' : Int32} {w : zS} {w' : gW} (hr : ∀ (a2 : Int) (a3 : Int) (a4 : Int) (a5 : Int) (Z : zS) (b2 : Int32) (b3 : Int32) (b4 : Int32) (b5 : Int32) (w : gW), b2 = Int32.ofInt a2 → b3 = Int32.ofInt a3 → b4 = Int32.ofInt a4 → b5 = Int32.ofInt a5 → oAt 7 lyZ w m (cvZ Z) → wF m (m + 27) w0 w → zR (E1 m w0) (r a2 a3 a4 a5 Z) (r' m b2 b3 b4 b5 w)) (hv1 : v1' = Int32.ofInt v1) (hv2 : v2' = Int32.ofInt v2) (hv3 : v3' = Int32.ofInt v3) (hv4 : v4' = Int32.ofInt v4) (h_w : oAt 7 lyZ w' m (cvZ w)) (f_w : wF m (m + 27) w0 w') : zR (E1 m w0) (zX7_friends_h5 F r v1 v2 v3 v4 w) (mX7_friends_h5 F r' m v1' v2' v3' v4' w') := by
  unfold zX7_friends_h5 mX7_friends_h5
  exact (R_FR h_w (k := 1) rfl
  (R_Ld h_w (k := 1) rfl (by decide) hv1 rfl (fun t12 t12' ht12 =>
  (R_Le ht12 hv4
  (R_ret1 hv3 h_w f_w)
  (R_O h_w
    (R_C1 (rX7_prod hv1 hv2 hv4 h_w) f_w (fun q22_1 q22_2 q22_1' q22_2' hq22 h_q22_2 f_q22_2 =>
    (R_O h_q22_2
    (R_C1 (rX7_prod hv1 hv4 hv2 h_q22_2) f_q22_2 (fun q30_1 q30_2 q30_1' q30_2' hq30 h_q30_2 f_q30_2 =>
    (R_Eq hq22 hq30
    (rX7_friends_b41 hr hv1 hv2 hv4 hv3 (eL (by decide) : (1 : Int32) = Int32.ofInt (1 : Int)) h_q30_2 f_q30_2)
    (rX7_friends_b41 hr hv1 hv2 hv4 hv3 (eL (by decide) : (0 : Int32) = Int32.ofInt (0 : Int)) h_q30_2 f_q30_2))))))))))))
set_option maxRecDepth 100000 in
theorem rX7_friends_l5 {F m : Nat} {w0 : gW}   : ∀ (n : Nat) (v1 : Int) (v2 : Int) (v3 : Int) (v4 : Int) (w : zS) (v1' : Int32) (v2' : Int32) (v3' : Int32) (v4' : Int32) (w' : gW), v1' = Int32.ofInt v1 → v2' = Int32.ofInt v2 → v3' = Int32.ofInt v3 → v4' = Int32.ofInt v4 → oAt 7 lyZ w' m (cvZ w) → wF m (m + 27) w0 w' → zR (E1 m w0) (zX7_friends_l5 F  n v1 v2 v3 v4 w) (mX7_friends_l5 F  n m v1' v2' v3' v4' w') := by
  intro n
  induction n with
  | zero => intros; exact R_none
  | succ n ih =>
    intro v1 v2 v3 v4 w v1' v2' v3' v4' w' hv1 hv2 hv3 hv4 h_w f_w
    exact rX7_friends_h5 ih  hv1 hv2 hv3 hv4 h_w f_w
set_option maxRecDepth 100000 in
theorem rX7_friends {F m : Nat} {v1 : Int} {v1' : Int32} {v2 : Int} {v2' : Int32} {w : zS} {w' : gW} (hv1 : v1' = Int32.ofInt v1) (hv2 : v2' = Int32.ofInt v2) (h_w : oAt 7 lyZ w' m (cvZ w)) : zR (E1 m w') (zX7_friends F v1 v2 w) (mX7_friends F m v1' v2' w') := by
  have f_w : wF m (m + 27) w' w' := wF.rf
  unfold zX7_friends mX7_friends
  exact (rX7_friends_l5  F _ _ _ _ _ _ _ _ _ _ hv1 hv2 (eL (by decide) : (0 : Int32) = Int32.ofInt (0 : Int)) (eL (by decide) : (0 : Int32) = Int32.ofInt (0 : Int)) h_w f_w)
set_option maxRecDepth 100000 in
theorem rX7_goes_h11 {F m : Nat} {E : (Int × zS) → (Int32 × gW) → Prop} {w0 : gW} {r : Int → Int → Int → Int → Int → zS → Option (Int × zS)} {r' : Nat → Int32 → Int32 → Int32 → Int32 → Int32 → gW → Option (Int32 × gW)} {k33 : Int → Int → Int → Int → zS → Option (Int × zS)} {k33' : Nat → Int32 → Int32 → Int32 → Int32 → gW → Option (Int32 × gW)} {v1 : Int} {v1' : Int32} {v2 : Int} {v2' : Int32} {v3 : Int} {v3' : Int32} {v4 : Int} {v4' : Int32} {v5 : Int} {v5' : Int32} {w : zS} {w' : gW} (hr : ∀ (a2 : Int) (a3 : Int) (a4 : Int) (a5 : Int) (a6 : Int) (Z : zS) (b2 : Int32) (b3 : Int32) (b4 : Int32) (b5 : Int32) (b6 : Int32) (w : gW), b2 = Int32.ofInt a2 → b3 = Int32.ofInt a3 → b4 = Int32.ofInt a4 → b5 = Int32.ofInt a5 → b6 = Int32.ofInt a6 → oAt 7 lyZ w m (cvZ Z) → wF m (m + 27) w0 w → zR E (r a2 a3 a4 a5 a6 Z) (r' m b2 b3 b4 b5 b6 w)) (hk33 : ∀ (a2 : Int) (a3 : Int) (a4 : Int) (a5 : Int) (Z : zS) (b2 : Int32) (b3 : Int32) (b4 : Int32) (b5 : Int32) (w : gW), b2 = Int32.ofInt a2 → b3 = Int32.ofInt a3 → b4 = Int32.ofInt a4 → b5 = Int32.ofInt a5 → oAt 7 lyZ w m (cvZ Z) → wF m (m + 27) w0 w → zR E (k33 a2 a3 a4 a5 Z) (k33' m b2 b3 b4 b5 w)) (hv1 : v1' = Int32.ofInt v1) (hv2 : v2' = Int32.ofInt v2) (hv3 : v3' = Int32.ofInt v3) (hv4 : v4' = Int32.ofInt v4) (hv5 : v5' = Int32.ofInt v5) (h_w : oAt 7 lyZ w' m (cvZ w)) (f_w : wF m (m + 27) w0 w') : zR E (zX7_goes_h11 F r k33 v1 v2 v3 v4 v5 w) (mX7_goes_h11 F r' k33' m v1' v2' v3' v4' v5' w') := by
  unfold zX7_goes_h11 mX7_goes_h11
  exact (R_Le hv4 hv5
  (hk33 _ _ _ _ _ _ _ _ _ _ hv1 hv2 hv3 hv4 h_w f_w)
  (R_FR h_w (k := 22) rfl
    (R_St h_w f_w (k := 22) rfl (by decide) hv5 (eL (by decide) : (-4 : Int32) = Int32.ofInt (-4 : Int)) (fun w26' h_w26 f_w26 =>
    (hr _ _ _ _ _ _ _ _ _ _ _ _ hv1 hv2 hv3 hv4 (eAdd hv5 (eL (by decide) : (1 : Int32) = Int32.ofInt (1 : Int))) h_w26 f_w26)))))
set_option maxRecDepth 100000 in
theorem rX7_goes_l11 {F m : Nat} {E : (Int × zS) → (Int32 × gW) → Prop} {w0 : gW} {k33 : Int → Int → Int → Int → zS → Option (Int × zS)} {k33' : Nat → Int32 → Int32 → Int32 → Int32 → gW → Option (Int32 × gW)} (hk33 : ∀ (a2 : Int) (a3 : Int) (a4 : Int) (a5 : Int) (Z : zS) (b2 : Int32) (b3 : Int32) (b4 : Int32) (b5 : Int32) (w : gW), b2 = Int32.ofInt a2 → b3 = Int32.ofInt a3 → b4 = Int32.ofInt a4 → b5 = Int32.ofInt a5 → oAt 7 lyZ w m (cvZ Z) → wF m (m + 27) w0 w → zR E (k33 a2 a3 a4 a5 Z) (k33' m b2 b3 b4 b5 w)) : ∀ (n : Nat) (v1 : Int) (v2 : Int) (v3 : Int) (v4 : Int) (v5 : Int) (w : zS) (v1' : Int32) (v2' : Int32) (v3' : Int32) (v4' : Int32) (v5' : Int32) (w' : gW), v1' = Int32.ofInt v1 → v2' = Int32.ofInt v2 → v3' = Int32.ofInt v3 → v4' = Int32.ofInt v4 → v5' = Int32.ofInt v5 → oAt 7 lyZ w' m (cvZ w) → wF m (m + 27) w0 w' → zR E (zX7_goes_l11 F k33 n v1 v2 v3 v4 v5 w) (mX7_goes_l11 F k33' n m v1' v2' v3' v4' v5' w') := by
  intro n
  induction n with
  | zero => intros; exact R_none
  | succ n ih =>
    intro v1 v2 v3 v4 v5 w v1' v2' v3' v4' v5' w' hv1 hv2 hv3 hv4 hv5 h_w f_w
    exact rX7_goes_h11 ih hk33 hv1 hv2 hv3 hv4 hv5 h_w f_w
set_option maxRecDepth 100000 in
theorem rX7_goes_b179 {F m : Nat} {E : (Int × zS) → (Int32 × gW) → Prop} {w0 : gW} {r : Int → Int → Int → Int → Int → Int → zS → Option (Int × zS)} {r' : Nat → Int32 → Int32 → Int32 → Int32 → Int32 → Int32 → gW → Option (Int32 × gW)} {k185 : Int → Int → Int → Int → Int → zS → Option (Int × zS)} {k185' : Nat → Int32 → Int32 → Int32 → Int32 → Int32 → gW → Option (Int32 × gW)} {v1 : Int} {v1' : Int32} {v2 : Int} {v2' : Int32} {v3 : Int} {v3' : Int32} {v4 : Int} {v4' : Int32} {v5 : Int} {v5' : Int32} {v6 : Int} {v6' : Int32} {w : zS} {w' : gW} (hr : ∀ (a2 : Int) (a3 : Int) (a4 : Int) (a5 : Int) (a6 : Int) (a7 : Int) (Z : zS) (b2 : Int32) (b3 : Int32) (b4 : Int32) (b5 : Int32) (b6 : Int32) (b7 : Int32) (w : gW), b2 = Int32.ofInt a2 → b3 = Int32.ofInt a3 → b4 = Int32.ofInt a4 → b5 = Int32.ofInt a5 → b6 = Int32.ofInt a6 → b7 = Int32.ofInt a7 → oAt 7 lyZ w m (cvZ Z) → wF m (m + 27) w0 w → zR E (r a2 a3 a4 a5 a6 a7 Z) (r' m b2 b3 b4 b5 b6 b7 w)) (hk185 : ∀ (a2 : Int) (a3 : Int) (a4 : Int) (a5 : Int) (a6 : Int) (Z : zS) (b2 : Int32) (b3 : Int32) (b4 : Int32) (b5 : Int32) (b6 : Int32) (w : gW), b2 = Int32.ofInt a2 → b3 = Int32.ofInt a3 → b4 = Int32.ofInt a4 → b5 = Int32.ofInt a5 → b6 = Int32.ofInt a6 → oAt 7 lyZ w m (cvZ Z) → wF m (m + 27) w0 w → zR E (k185 a2 a3 a4 a5 a6 Z) (k185' m b2 b3 b4 b5 b6 w)) (hv1 : v1' = Int32.ofInt v1) (hv2 : v2' = Int32.ofInt v2) (hv3 : v3' = Int32.ofInt v3) (hv4 : v4' = Int32.ofInt v4) (hv5 : v5' = Int32.ofInt v5) (hv6 : v6' = Int32.ofInt v6) (h_w : oAt 7 lyZ w' m (cvZ w)) (f_w : wF m (m + 27) w0 w') : zR E (zX7_goes_b179 F r k185 v1 v2 v3 v4 v5 v6 w) (mX7_goes_b179 F r' k185' m v1' v2' v3' v4' v5' v6' w') := by
  unfold zX7_goes_b179 mX7_goes_b179
  exact (hr _ _ _ _ _ _ _ _ _ _ _ _ _ _ hv1 hv2 hv3 hv4 hv5 (eAdd hv6 (eL (by decide) : (1 : Int32) = Int32.ofInt (1 : Int))) h_w f_w)
set_option maxRecDepth 100000 in
theorem rX7_goes_h67 {F m : Nat} {w0 : gW} {r : Int → Int → Int → Int → Int → Int → zS → Option (Int × zS)} {r' : Nat → Int32 → Int32 → Int32 → Int32 → Int32 → Int32 → gW → Option (Int32 × gW)} {k185 : Int → Int → Int → Int → Int → zS → Option (Int × zS)} {k185' : Nat → Int32 → Int32 → Int32 → Int32 → Int32 → gW → Option (Int32 × gW)} {v1 : Int} {v1' : Int32} {v2 : Int} {v2' : Int32} {v3 : Int} {v3' : Int32} {v4 : Int} {v4' : Int32} {v5 : Int} {v5' : Int32} {v6 : Int} {v6' : Int32} {w : zS} {w' : gW} (hr : ∀ (a2 : Int) (a3 : Int) (a4 : Int) (a5 : Int) (a6 : Int) (a7 : Int) (Z : zS) (b2 : Int32) (b3 : Int32) (b4 : Int32) (b5 : Int32) (b6 : Int32) (b7 : Int32) (w : gW), b2 = Int32.ofInt a2 → b3 = Int32.ofInt a3 → b4 = Int32.ofInt a4 → b5 = Int32.ofInt a5 → b6 = Int32.ofInt a6 → b7 = Int32.ofInt a7 → oAt 7 lyZ w m (cvZ Z) → wF m (m + 27) w0 w → zR (E1 m w0) (r a2 a3 a4 a5 a6 a7 Z) (r' m b2 b3 b4 b5 b6 b7 w)) (hk185 : ∀ (a2 : Int) (a3 : Int) (a4 : Int) (a5 : Int) (a6 : Int) (Z : zS) (b2 : Int32) (b3 : Int32) (b4 : Int32) (b5 : Int32) (b6 : Int32) (w : gW), b2 = Int32.ofInt a2 → b3 = Int32.ofInt a3 → b4 = Int32.ofInt a4 → b5 = Int32.ofInt a5 → b6 = Int32.ofInt a6 → oAt 7 lyZ w m (cvZ Z) → wF m (m + 27) w0 w → zR (E1 m w0) (k185 a2 a3 a4 a5 a6 Z) (k185' m b2 b3 b4 b5 b6 w)) (hv1 : v1' = Int32.ofInt v1) (hv2 : v2' = Int32.ofInt v2) (hv3 : v3' = Int32.ofInt v3) (hv4 : v4' = Int32.ofInt v4) (hv5 : v5' = Int32.ofInt v5) (hv6 : v6' = Int32.ofInt v6) (h_w : oAt 7 lyZ w' m (cvZ w)) (f_w : wF m (m + 27) w0 w') : zR (E1 m w0) (zX7_goes_h67 F r k185 v1 v2 v3 v4 v5 v6 w) (mX7_goes_h67 F r' k185' m v1' v2' v3' v4' v5' v6' w') := by
  unfold zX7_goes_h67 mX7_goes_h67
  exact (R_Le hv3 hv6
  (hk185 _ _ _ _ _ _ _ _ _ _ _ _ hv1 hv2 hv3 hv4 hv5 h_w f_w)
  (R_FR h_w (k := 13) rfl
    (R_Ld h_w (k := 13) rfl (by decide) hv5 rfl (fun t81 t81' ht81 =>
    (R_FR h_w (k := 20) rfl
    (R_Ld h_w (k := 20) rfl (by decide) hv6 rfl (fun t88 t88' ht88 =>
    (R_O h_w
    (R_C1 (rX7_prod hv1 ht81 ht88 h_w) f_w (fun q89_1 q89_2 q89_1' q89_2' hq89 h_q89_2 f_q89_2 =>
    (R_FR h_q89_2 (k := 22) rfl
    (R_FR h_q89_2 (k := 13) rfl
    (R_Ld h_q89_2 (k := 13) rfl (by decide) hv5 rfl (fun t106 t106' ht106 =>
    (R_Ld h_q89_2 (k := 22) rfl (by decide) ht106 rfl (fun t107 t107' ht107 =>
    (R_FR h_q89_2 (k := 21) rfl
    (R_Ld h_q89_2 (k := 21) rfl (by decide) hv6 rfl (fun t114 t114' ht114 =>
    (R_O h_q89_2
    (R_C1 (rX7_prod hv2 ht107 ht114 h_q89_2) f_q89_2 (fun q115_1 q115_2 q115_1' q115_2' hq115 h_q115_2 f_q115_2 =>
    (R_FR h_q115_2 (k := 22) rfl
    (R_Ld h_q115_2 (k := 22) rfl (by decide) hq89 rfl (fun t126 t126' ht126 =>
    (R_Eq ht126 (eL (by decide) : (-4 : Int32) = Int32.ofInt (-4 : Int))
    (R_FR h_q115_2 (k := 22) rfl
      (R_St h_q115_2 f_q115_2 (k := 22) rfl (by decide) hq89 hq115 (fun w140' h_w140 f_w140 =>
      (R_FR h_w140 (k := 13) rfl
      (R_FI h_w140 (k := 14) rfl (c := (zI q115_2 14)) rfl (fun t146' ht146 =>
      (R_St h_w140 f_w140 (k := 13) rfl (by decide) ht146 hq89 (fun w151' h_w151 f_w151 =>
      (R_FI h_w151 (k := 14) rfl (c := (zI q115_2 14)) rfl (fun t154' ht154 =>
      (R_PI h_w151 f_w151 (k := 14) rfl (eAdd ht154 (eL (by decide) : (1 : Int32) = Int32.ofInt (1 : Int))) (fun w159' h_w159 f_w159 =>
      (rX7_goes_b179 hr hk185 hv1 hv2 hv3 hv4 hv5 hv6 h_w159 f_w159)))))))))))))
    (R_FR h_q115_2 (k := 22) rfl
      (R_Ld h_q115_2 (k := 22) rfl (by decide) hq89 rfl (fun t171 t171' ht171 =>
      (R_Eq ht171 hq115
      (rX7_goes_b179 hr hk185 hv1 hv2 hv3 hv4 hv5 hv6 h_q115_2 f_q115_2)
      (R_ret1 (eL (by decide) : (0 : Int32) = Int32.ofInt (0 : Int)) h_q115_2 f_q115_2)))))))))))))))))))))))))))))))
set_option maxRecDepth 100000 in
theorem rX7_goes_l67 {F m : Nat} {w0 : gW} {k185 : Int → Int → Int → Int → Int → zS → Option (Int × zS)} {k185' : Nat → Int32 → Int32 → Int32 → Int32 → Int32 → gW → Option (Int32 × gW)} (hk185 : ∀ (a2 : Int) (a3 : Int) (a4 : Int) (a5 : Int) (a6 : Int) (Z : zS) (b2 : Int32) (b3 : Int32) (b4 : Int32) (b5 : Int32) (b6 : Int32) (w : gW), b2 = Int32.ofInt a2 → b3 = Int32.ofInt a3 → b4 = Int32.ofInt a4 → b5 = Int32.ofInt a5 → b6 = Int32.ofInt a6 → oAt 7 lyZ w m (cvZ Z) → wF m (m + 27) w0 w → zR (E1 m w0) (k185 a2 a3 a4 a5 a6 Z) (k185' m b2 b3 b4 b5 b6 w)) : ∀ (n : Nat) (v1 : Int) (v2 : Int) (v3 : Int) (v4 : Int) (v5 : Int) (v6 : Int) (w : zS) (v1' : Int32) (v2' : Int32) (v3' : Int32) (v4' : Int32) (v5' : Int32) (v6' : Int32) (w' : gW), v1' = Int32.ofInt v1 → v2' = Int32.ofInt v2 → v3' = Int32.ofInt v3 → v4' = Int32.ofInt v4 → v5' = Int32.ofInt v5 → v6' = Int32.ofInt v6 → oAt 7 lyZ w' m (cvZ w) → wF m (m + 27) w0 w' → zR (E1 m w0) (zX7_goes_l67 F k185 n v1 v2 v3 v4 v5 v6 w) (mX7_goes_l67 F k185' n m v1' v2' v3' v4' v5' v6' w') := by
  intro n
  induction n with
  | zero => intros; exact R_none
  | succ n ih =>
    intro v1 v2 v3 v4 v5 v6 w v1' v2' v3' v4' v5' v6' w' hv1 hv2 hv3 hv4 hv5 hv6 h_w f_w
    exact rX7_goes_h67 ih hk185 hv1 hv2 hv3 hv4 hv5 hv6 h_w f_w
set_option maxRecDepth 100000 in
theorem rX7_goes_h55 {F m : Nat} {w0 : gW} {r : Int → Int → Int → Int → Int → zS → Option (Int × zS)} {r' : Nat → Int32 → Int32 → Int32 → Int32 → Int32 → gW → Option (Int32 × gW)} {k191 : Int → zS → Option (Int × zS)} {k191' : Nat → Int32 → gW → Option (Int32 × gW)} {v1 : Int} {v1' : Int32} {v2 : Int} {v2' : Int32} {v3 : Int} {v3' : Int32} {v4 : Int} {v4' : Int32} {v5 : Int} {v5' : Int32} {w : zS} {w' : gW} (hr : ∀ (a2 : Int) (a3 : Int) (a4 : Int) (a5 : Int) (a6 : Int) (Z : zS) (b2 : Int32) (b3 : Int32) (b4 : Int32) (b5 : Int32) (b6 : Int32) (w : gW), b2 = Int32.ofInt a2 → b3 = Int32.ofInt a3 → b4 = Int32.ofInt a4 → b5 = Int32.ofInt a5 → b6 = Int32.ofInt a6 → oAt 7 lyZ w m (cvZ Z) → wF m (m + 27) w0 w → zR (E1 m w0) (r a2 a3 a4 a5 a6 Z) (r' m b2 b3 b4 b5 b6 w)) (hk191 : ∀ (a2 : Int) (Z : zS) (b2 : Int32) (w : gW), b2 = Int32.ofInt a2 → oAt 7 lyZ w m (cvZ Z) → wF m (m + 27) w0 w → zR (E1 m w0) (k191 a2 Z) (k191' m b2 w)) (hv1 : v1' = Int32.ofInt v1) (hv2 : v2' = Int32.ofInt v2) (hv3 : v3' = Int32.ofInt v3) (hv4 : v4' = Int32.ofInt v4) (hv5 : v5' = Int32.ofInt v5) (h_w : oAt 7 lyZ w' m (cvZ w)) (f_w : wF m (m + 27) w0 w') : zR (E1 m w0) (zX7_goes_h55 F r k191 v1 v2 v3 v4 v5 w) (mX7_goes_h55 F r' k191' m v1' v2' v3' v4' v5' w') := by
  unfold zX7_goes_h55 mX7_goes_h55
  exact (R_FI h_w (k := 14) rfl (c := (zI w 14)) rfl (fun t58' ht58 =>
  (R_Le ht58 hv5
  (hk191 _ _ _ _ hv4 h_w f_w)
  (rX7_goes_l67 (by exact (fun v1 v2 v3 v4 v5 w v1' v2' v3' v4' v5' w' hv1 hv2 hv3 hv4 hv5 h_w f_w =>
      (hr _ _ _ _ _ _ _ _ _ _ _ _ hv1 hv2 hv3 hv4 (eAdd hv5 (eL (by decide) : (1 : Int32) = Int32.ofInt (1 : Int))) h_w f_w))) F _ _ _ _ _ _ _ _ _ _ _ _ _ _ hv1 hv2 hv3 hv4 hv5 (eL (by decide) : (0 : Int32) = Int32.ofInt (0 : Int)) h_w f_w))))
set_option maxRecDepth 100000 in
theorem rX7_goes_l55 {F m : Nat} {w0 : gW} {k191 : Int → zS → Option (Int × zS)} {k191' : Nat → Int32 → gW → Option (Int32 × gW)} (hk191 : ∀ (a2 : Int) (Z : zS) (b2 : Int32) (w : gW), b2 = Int32.ofInt a2 → oAt 7 lyZ w m (cvZ Z) → wF m (m + 27) w0 w → zR (E1 m w0) (k191 a2 Z) (k191' m b2 w)) : ∀ (n : Nat) (v1 : Int) (v2 : Int) (v3 : Int) (v4 : Int) (v5 : Int) (w : zS) (v1' : Int32) (v2' : Int32) (v3' : Int32) (v4' : Int32) (v5' : Int32) (w' : gW), v1' = Int32.ofInt v1 → v2' = Int32.ofInt v2 → v3' = Int32.ofInt v3 → v4' = Int32.ofInt v4 → v5' = Int32.ofInt v5 → oAt 7 lyZ w' m (cvZ w) → wF m (m + 27) w0 w' → zR (E1 m w0) (zX7_goes_l55 F k191 n v1 v2 v3 v4 v5 w) (mX7_goes_l55 F k191' n m v1' v2' v3' v4' v5' w') := by
  intro n
  induction n with
  | zero => intros; exact R_none
  | succ n ih =>
    intro v1 v2 v3 v4 v5 w v1' v2' v3' v4' v5' w' hv1 hv2 hv3 hv4 hv5 h_w f_w
    exact rX7_goes_h55 ih hk191 hv1 hv2 hv3 hv4 hv5 h_w f_w
set_option maxRecDepth 100000 in
theorem rX7_goes_b286 {F m : Nat} {E : (Int × zS) → (Int32 × gW) → Prop} {w0 : gW} {r : Int → Int64 → Int64 → Int → zS → Option (Int × zS)} {r' : Nat → Int32 → Int64 → Int64 → Int32 → gW → Option (Int32 × gW)} {k235 : zS → Option (Int × zS)} {k235' : gW → Option (Int32 × gW)} {v4 : Int} {v4' : Int32} {v5 : Int64} {v5' : Int64} {v7 : Int64} {v7' : Int64} {v9 : Int} {v9' : Int32} {w : zS} {w' : gW} (hr : ∀ (a2 : Int) (a3 : Int64) (a4 : Int64) (a5 : Int) (Z : zS) (b2 : Int32) (b3 : Int64) (b4 : Int64) (b5 : Int32) (w : gW), b2 = Int32.ofInt a2 → b3 = a3 → b4 = a4 → b5 = Int32.ofInt a5 → oAt 7 lyZ w m (cvZ Z) → wF m (m + 27) w0 w → zR E (r a2 a3 a4 a5 Z) (r' m b2 b3 b4 b5 w)) (hk235 : ∀ (Z : zS) (w : gW), oAt 7 lyZ w m (cvZ Z) → wF m (m + 27) w0 w → zR E (k235 Z) (k235' w)) (hv4 : v4' = Int32.ofInt v4) (hv5 : v5' = v5) (hv7 : v7' = v7) (hv9 : v9' = Int32.ofInt v9) (h_w : oAt 7 lyZ w' m (cvZ w)) (f_w : wF m (m + 27) w0 w') : zR E (zX7_goes_b286 F r k235 v4 v5 v7 v9 w) (mX7_goes_b286 F r' k235' m v4' v5' v7' v9' w') := by
  unfold zX7_goes_b286 mX7_goes_b286
  exact (hr _ _ _ _ _ _ _ _ _ _ hv4 hv5 hv7 (eAdd hv9 (eL (by decide) : (1 : Int32) = Int32.ofInt (1 : Int))) h_w f_w)
set_option maxRecDepth 100000 in
theorem rX7_goes_b255 {F m : Nat} {E : (Int × zS) → (Int32 × gW) → Prop} {w0 : gW} {r : Int → Int64 → Int64 → Int → zS → Option (Int × zS)} {r' : Nat → Int32 → Int64 → Int64 → Int32 → gW → Option (Int32 × gW)} {k235 : zS → Option (Int × zS)} {k235' : gW → Option (Int32 × gW)} {v4 : Int} {v4' : Int32} {v5 : Int64} {v5' : Int64} {v7 : Int64} {v7' : Int64} {v9 : Int} {v9' : Int32} {v10 : Int} {v10' : Int32} {w : zS} {w' : gW} (hr : ∀ (a2 : Int) (a3 : Int64) (a4 : Int64) (a5 : Int) (Z : zS) (b2 : Int32) (b3 : Int64) (b4 : Int64) (b5 : Int32) (w : gW), b2 = Int32.ofInt a2 → b3 = a3 → b4 = a4 → b5 = Int32.ofInt a5 → oAt 7 lyZ w m (cvZ Z) → wF m (m + 27) w0 w → zR E (r a2 a3 a4 a5 Z) (r' m b2 b3 b4 b5 w)) (hk235 : ∀ (Z : zS) (w : gW), oAt 7 lyZ w m (cvZ Z) → wF m (m + 27) w0 w → zR E (k235 Z) (k235' w)) (hv4 : v4' = Int32.ofInt v4) (hv5 : v5' = v5) (hv7 : v7' = v7) (hv9 : v9' = Int32.ofInt v9) (hv10 : v10' = Int32.ofInt v10) (h_w : oAt 7 lyZ w' m (cvZ w)) (f_w : wF m (m + 27) w0 w') : zR E (zX7_goes_b255 F r k235 v4 v5 v7 v9 v10 w) (mX7_goes_b255 F r' k235' m v4' v5' v7' v9' v10' w') := by
  unfold zX7_goes_b255 mX7_goes_b255
  exact (R_Le (eL (by decide) : (64 : Int32) = Int32.ofInt (64 : Int)) hv10
  (rX7_goes_b286 hr hk235 hv4 hv5 (eBin (fun (x y : Int64) => x ||| y) hv7 (eBin (fun (x y : Int64) => x <<< y) rfl (eBin (fun (x y : Int64) => x &&& y) (congrArg Int32.toInt64 (eSub hv10 (eL (by decide) : (64 : Int32) = Int32.ofInt (64 : Int)))) rfl))) hv9 h_w f_w)
  (rX7_goes_b286 hr hk235 hv4 (eBin (fun (x y : Int64) => x ||| y) hv5 (eBin (fun (x y : Int64) => x <<< y) rfl (eBin (fun (x y : Int64) => x &&& y) (congrArg Int32.toInt64 hv10) rfl))) hv7 hv9 h_w f_w))
set_option maxRecDepth 100000 in
theorem rX7_goes_h200 {F m : Nat} {w0 : gW} {r : Int → Int64 → Int64 → Int → zS → Option (Int × zS)} {r' : Nat → Int32 → Int64 → Int64 → Int32 → gW → Option (Int32 × gW)} {k235 : zS → Option (Int × zS)} {k235' : gW → Option (Int32 × gW)} {v4 : Int} {v4' : Int32} {v5 : Int64} {v5' : Int64} {v7 : Int64} {v7' : Int64} {v9 : Int} {v9' : Int32} {w : zS} {w' : gW} (hr : ∀ (a2 : Int) (a3 : Int64) (a4 : Int64) (a5 : Int) (Z : zS) (b2 : Int32) (b3 : Int64) (b4 : Int64) (b5 : Int32) (w : gW), b2 = Int32.ofInt a2 → b3 = a3 → b4 = a4 → b5 = Int32.ofInt a5 → oAt 7 lyZ w m (cvZ Z) → wF m (m + 27) w0 w → zR (E1 m w0) (r a2 a3 a4 a5 Z) (r' m b2 b3 b4 b5 w)) (hk235 : ∀ (Z : zS) (w : gW), oAt 7 lyZ w m (cvZ Z) → wF m (m + 27) w0 w → zR (E1 m w0) (k235 Z) (k235' w)) (hv4 : v4' = Int32.ofInt v4) (hv5 : v5' = v5) (hv7 : v7' = v7) (hv9 : v9' = Int32.ofInt v9) (h_w : oAt 7 lyZ w' m (cvZ w)) (f_w : wF m (m + 27) w0 w') : zR (E1 m w0) (zX7_goes_h200 F r k235 v4 v5 v7 v9 w) (mX7_goes_h200 F r' k235' m v4' v5' v7' v9' w') := by
  unfold zX7_goes_h200 mX7_goes_h200
  exact (R_Le hv4 hv9
  (R_ret1 (eL (by decide) : (1 : Int32) = Int32.ofInt (1 : Int)) h_w f_w)
  (R_FR h_w (k := 22) rfl
    (R_Ld h_w (k := 22) rfl (by decide) hv9 rfl (fun t213 t213' ht213 =>
    (R_Le (eL (by decide) : (64 : Int32) = Int32.ofInt (64 : Int)) ht213
    (R_if (eBin (fun (x y : Int32) => x = y) (eBin lg_cmp (eBin (fun (x y : Int64) => x &&& y) (eBin (fun (x y : Int64) => x >>> y) hv7 (eBin (fun (x y : Int64) => x &&& y) (congrArg Int32.toInt64 (eSub ht213 (eL (by decide) : (64 : Int32) = Int32.ofInt (64 : Int)))) rfl)) rfl) rfl) rfl)
      (R_ret1 (eL (by decide) : (0 : Int32) = Int32.ofInt (0 : Int)) h_w f_w)
      (rX7_goes_b255 hr hk235 hv4 hv5 hv7 hv9 ht213 h_w f_w))
    (R_if (eBin (fun (x y : Int32) => x = y) (eBin lg_cmp (eBin (fun (x y : Int64) => x &&& y) (eBin (fun (x y : Int64) => x >>> y) hv5 (eBin (fun (x y : Int64) => x &&& y) (congrArg Int32.toInt64 ht213) rfl)) rfl) rfl) rfl)
      (hk235 _ _ h_w f_w)
      (rX7_goes_b255 hr hk235 hv4 hv5 hv7 hv9 ht213 h_w f_w)))))))
set_option maxRecDepth 100000 in
theorem rX7_goes_l200 {F m : Nat} {w0 : gW} {k235 : zS → Option (Int × zS)} {k235' : gW → Option (Int32 × gW)} (hk235 : ∀ (Z : zS) (w : gW), oAt 7 lyZ w m (cvZ Z) → wF m (m + 27) w0 w → zR (E1 m w0) (k235 Z) (k235' w)) : ∀ (n : Nat) (v4 : Int) (v5 : Int64) (v7 : Int64) (v9 : Int) (w : zS) (v4' : Int32) (v5' : Int64) (v7' : Int64) (v9' : Int32) (w' : gW), v4' = Int32.ofInt v4 → v5' = v5 → v7' = v7 → v9' = Int32.ofInt v9 → oAt 7 lyZ w' m (cvZ w) → wF m (m + 27) w0 w' → zR (E1 m w0) (zX7_goes_l200 F k235 n v4 v5 v7 v9 w) (mX7_goes_l200 F k235' n m v4' v5' v7' v9' w') := by
  intro n
  induction n with
  | zero => intros; exact R_none
  | succ n ih =>
    intro v4 v5 v7 v9 w v4' v5' v7' v9' w' hv4 hv5 hv7 hv9 h_w f_w
    exact rX7_goes_h200 ih hk235 hv4 hv5 hv7 hv9 h_w f_w
set_option maxRecDepth 100000 in
theorem rX7_goes {F m : Nat} {v1 : Int} {v1' : Int32} {v2 : Int} {v2' : Int32} {v3 : Int} {v3' : Int32} {w : zS} {w' : gW} (hv1 : v1' = Int32.ofInt v1) (hv2 : v2' = Int32.ofInt v2) (hv3 : v3' = Int32.ofInt v3) (h_w : oAt 7 lyZ w' m (cvZ w)) : zR (E1 m w') (zX7_goes F v1 v2 v3 w) (mX7_goes F m v1' v2' v3' w') := by
  have f_w : wF m (m + 27) w' w' := wF.rf
  unfold zX7_goes mX7_goes
  exact (R_FR h_w (k := 1) rfl
  (R_Ld h_w (k := 1) rfl (by decide) hv1 rfl (fun t5 t5' ht5 =>
  (rX7_goes_l11 (by exact (fun v1 v2 v3 v4 w v1' v2' v3' v4' w' hv1 hv2 hv3 hv4 h_w f_w =>
    (R_FR h_w (k := 22) rfl
    (R_St h_w f_w (k := 22) rfl (by decide) (eL (by decide) : (0 : Int32) = Int32.ofInt (0 : Int)) (eL (by decide) : (0 : Int32) = Int32.ofInt (0 : Int)) (fun w39' h_w39 f_w39 =>
    (R_FR h_w39 (k := 13) rfl
    (R_St h_w39 f_w39 (k := 13) rfl (by decide) (eL (by decide) : (0 : Int32) = Int32.ofInt (0 : Int)) (eL (by decide) : (0 : Int32) = Int32.ofInt (0 : Int)) (fun w46' h_w46 f_w46 =>
    (R_PI h_w46 f_w46 (k := 14) rfl (eL (by decide) : (1 : Int32) = Int32.ofInt (1 : Int)) (fun w49' h_w49 f_w49 =>
    (rX7_goes_l55 (by exact (fun v4 w v4' w' hv4 h_w f_w =>
      (rX7_goes_l200 (by exact (fun w w' h_w f_w =>
        (R_ret1 (eL (by decide) : (0 : Int32) = Int32.ofInt (0 : Int)) h_w f_w))) F _ _ _ _ _ _ _ _ _ _ hv4 rfl rfl (eL (by decide) : (0 : Int32) = Int32.ofInt (0 : Int)) h_w f_w))) F _ _ _ _ _ _ _ _ _ _ _ _ hv1 hv2 hv3 hv4 (eL (by decide) : (0 : Int32) = Int32.ofInt (0 : Int)) h_w49 f_w49))))))))))) F _ _ _ _ _ _ _ _ _ _ _ _ hv1 hv2 hv3 ht5 (eL (by decide) : (0 : Int32) = Int32.ofInt (0 : Int)) h_w f_w))))
set_option maxRecDepth 100000 in
theorem rX7_inverse_h2 {F m : Nat} {w0 : gW} {r : Int → Int → Int → zS → Option (Int × zS)} {r' : Nat → Int32 → Int32 → Int32 → gW → Option (Int32 × gW)} {v1 : Int} {v1' : Int32} {v2 : Int} {v2' : Int32} {v3 : Int} {v3' : Int32} {w : zS} {w' : gW} (hr : ∀ (a2 : Int) (a3 : Int) (a4 : Int) (Z : zS) (b2 : Int32) (b3 : Int32) (b4 : Int32) (w : gW), b2 = Int32.ofInt a2 → b3 = Int32.ofInt a3 → b4 = Int32.ofInt a4 → oAt 7 lyZ w m (cvZ Z) → wF m (m + 27) w0 w → zR (E1 m w0) (r a2 a3 a4 Z) (r' m b2 b3 b4 w)) (hv1 : v1' = Int32.ofInt v1) (hv2 : v2' = Int32.ofInt v2) (hv3 : v3' = Int32.ofInt v3) (h_w : oAt 7 lyZ w' m (cvZ w)) (f_w : wF m (m + 27) w0 w') : zR (E1 m w0) (zX7_inverse_h2 F r v1 v2 v3 w) (mX7_inverse_h2 F r' m v1' v2' v3' w') := by
  unfold zX7_inverse_h2 mX7_inverse_h2
  exact (R_O h_w
  (R_C1 (rX7_prod hv1 hv2 hv3 h_w) f_w (fun q6_1 q6_2 q6_1' q6_2' hq6 h_q6_2 f_q6_2 =>
  (R_Eq hq6 (eL (by decide) : (0 : Int32) = Int32.ofInt (0 : Int))
  (R_ret1 hv3 h_q6_2 f_q6_2)
  (hr _ _ _ _ _ _ _ _ hv1 hv2 (eAdd hv3 (eL (by decide) : (1 : Int32) = Int32.ofInt (1 : Int))) h_q6_2 f_q6_2)))))
set_option maxRecDepth 100000 in
theorem rX7_inverse_l2 {F m : Nat} {w0 : gW}   : ∀ (n : Nat) (v1 : Int) (v2 : Int) (v3 : Int) (w : zS) (v1' : Int32) (v2' : Int32) (v3' : Int32) (w' : gW), v1' = Int32.ofInt v1 → v2' = Int32.ofInt v2 → v3' = Int32.ofInt v3 → oAt 7 lyZ w' m (cvZ w) → wF m (m + 27) w0 w' → zR (E1 m w0) (zX7_inverse_l2 F  n v1 v2 v3 w) (mX7_inverse_l2 F  n m v1' v2' v3' w') := by
  intro n
  induction n with
  | zero => intros; exact R_none
  | succ n ih =>
    intro v1 v2 v3 w v1' v2' v3' w' hv1 hv2 hv3 h_w f_w
    exact rX7_inverse_h2 ih  hv1 hv2 hv3 h_w f_w
set_option maxRecDepth 100000 in
theorem rX7_inverse {F m : Nat} {v1 : Int} {v1' : Int32} {v2 : Int} {v2' : Int32} {w : zS} {w' : gW} (hv1 : v1' = Int32.ofInt v1) (hv2 : v2' = Int32.ofInt v2) (h_w : oAt 7 lyZ w' m (cvZ w)) : zR (E1 m w') (zX7_inverse F v1 v2 w) (mX7_inverse F m v1' v2' w') := by
  have f_w : wF m (m + 27) w' w' := wF.rf
  unfold zX7_inverse mX7_inverse
  exact (rX7_inverse_l2  F _ _ _ _ _ _ _ _ hv1 hv2 (eL (by decide) : (0 : Int32) = Int32.ofInt (0 : Int)) h_w f_w)
set_option maxRecDepth 100000 in
theorem rX7_isGroup {F m : Nat} {v1 : Int} {v1' : Int32} {w : zS} {w' : gW} (hv1 : v1' = Int32.ofInt v1) (h_w : oAt 7 lyZ w' m (cvZ w)) : zR (E1 m w') (zX7_isGroup F v1 w) (mX7_isGroup F m v1' w') := by
  have f_w : wF m (m + 27) w' w' := wF.rf
  unfold zX7_isGroup mX7_isGroup
  exact (R_FI h_w (k := 0) rfl (c := (zI w 0)) rfl (fun t4' ht4 =>
  (R_C1 (rX7_in (congrArg Int32.toInt64 hv1) rfl (congrArg Int32.toInt64 (eSub ht4 (eL (by decide) : (1 : Int32) = Int32.ofInt (1 : Int)))) h_w) f_w (fun q10_1 q10_2 q10_1' q10_2' hq10 h_q10_2 f_q10_2 =>
  (R_Bo hq10 (fun v v' hv =>
  (R_ret1 hv h_q10_2 f_q10_2)))))))
set_option maxRecDepth 100000 in
theorem rX7_isModule {F m : Nat} {v1 : Int} {v1' : Int32} {w : zS} {w' : gW} (hv1 : v1' = Int32.ofInt v1) (h_w : oAt 7 lyZ w' m (cvZ w)) : zR (E1 m w') (zX7_isModule F v1 w) (mX7_isModule F m v1' w') := by
  have f_w : wF m (m + 27) w' w' := wF.rf
  unfold zX7_isModule mX7_isModule
  exact (R_FI h_w (k := 7) rfl (c := (zI w 7)) rfl (fun t4' ht4 =>
  (R_C1 (rX7_in (congrArg Int32.toInt64 hv1) rfl (congrArg Int32.toInt64 (eSub ht4 (eL (by decide) : (1 : Int32) = Int32.ofInt (1 : Int)))) h_w) f_w (fun q10_1 q10_2 q10_1' q10_2' hq10 h_q10_2 f_q10_2 =>
  (R_Bo hq10 (fun v v' hv =>
  (R_ret1 hv h_q10_2 f_q10_2)))))))
set_option maxRecDepth 100000 in
theorem rX7_lay_b80 {F m : Nat} {w0 : gW} {s1 : Int} {s1' : Int32} {s2 : Int} {s2' : Int32} {w : zS} {w' : gW} (hs1 : s1' = Int32.ofInt s1) (hs2 : s2' = Int32.ofInt s2) (h_w : oAt 7 lyZ w' m (cvZ w)) (f_w : wF m (m + 27) w0 w') : zR (E1 m w0) (zX7_lay_b80 F s1 s2 w) (mX7_lay_b80 F (some (m + 6)) s1' s2' w') := by
  unfold zX7_lay_b80 mX7_lay_b80
  exact (R_St h_w f_w (k := 6) rfl (by decide) hs1 hs2 (fun w80' h_w80 f_w80 =>
  (R_ret1 (eL (by decide) : (1 : Int32) = Int32.ofInt (1 : Int)) h_w80 f_w80)))
set_option maxRecDepth 100000 in
theorem rX7_lay {F m : Nat} {v1 : Int} {v1' : Int32} {v2 : Int} {v2' : Int32} {v3 : Int} {v3' : Int32} {w : zS} {w' : gW} (hv1 : v1' = Int32.ofInt v1) (hv2 : v2' = Int32.ofInt v2) (hv3 : v3' = Int32.ofInt v3) (h_w : oAt 7 lyZ w' m (cvZ w)) : zR (E1 m w') (zX7_lay F v1 v2 v3 w) (mX7_lay F m v1' v2' v3' w') := by
  have f_w : wF m (m + 27) w' w' := wF.rf
  unfold zX7_lay mX7_lay
  exact (R_C1 (rX7_in (congrArg Int32.toInt64 hv1) rfl rfl h_w) f_w (fun q6_1 q6_2 q6_1' q6_2' hq6 h_q6_2 f_q6_2 =>
  (R_Eq hq6 (eL (by decide) : (0 : Int32) = Int32.ofInt (0 : Int))
  (R_ret1 (eL (by decide) : (-1 : Int32) = Int32.ofInt (-1 : Int)) h_q6_2 f_q6_2)
  (R_FR h_q6_2 (k := 4) rfl
    (R_Ld h_q6_2 (k := 4) rfl (by decide) hv1 rfl (fun t19 t19' ht19 =>
    (R_Eq ht19 (eL (by decide) : (-4 : Int32) = Int32.ofInt (-4 : Int))
    (R_ret1 (eL (by decide) : (-11 : Int32) = Int32.ofInt (-11 : Int)) h_q6_2 f_q6_2)
    (R_FR h_q6_2 (k := 5) rfl
      (R_Ld h_q6_2 (k := 5) rfl (by decide) hv1 rfl (fun t36 t36' ht36 =>
      (R_C1 (rX7_in (congrArg Int32.toInt64 hv2) rfl (congrArg Int32.toInt64 (eSub ht36 (eL (by decide) : (1 : Int32) = Int32.ofInt (1 : Int)))) h_q6_2) f_q6_2 (fun q40_1 q40_2 q40_1' q40_2' hq40 h_q40_2 f_q40_2 =>
      (R_Eq hq40 (eL (by decide) : (0 : Int32) = Int32.ofInt (0 : Int))
      (R_ret1 (eL (by decide) : (-12 : Int32) = Int32.ofInt (-12 : Int)) h_q40_2 f_q40_2)
      (R_FR h_q40_2 (k := 6) rfl
        (R_FR h_q40_2 (k := 4) rfl
        (R_Ld h_q40_2 (k := 4) rfl (by decide) hv1 rfl (fun t65 t65' ht65 =>
        (R_Eq ht65 (eL (by decide) : (0 : Int32) = Int32.ofInt (0 : Int))
        (rX7_lay_b80 (eAdd (eMul (eL (by decide) : (144 : Int32) = Int32.ofInt (144 : Int)) hv1) hv2) (eBit (fun x y => x >>> y) (eBit (fun x y => x <<< y) hv3 (eBit (fun x y => x &&& y) (eL (by decide) : (24 : Int32) = Int32.ofInt (24 : Int)) (eL (by decide) : (31 : Int32) = Int32.ofInt (31 : Int)))) (eBit (fun x y => x &&& y) (eL (by decide) : (24 : Int32) = Int32.ofInt (24 : Int)) (eL (by decide) : (31 : Int32) = Int32.ofInt (31 : Int)))) h_q40_2 f_q40_2)
        (rX7_lay_b80 (eAdd (eMul (eL (by decide) : (144 : Int32) = Int32.ofInt (144 : Int)) hv1) hv2) hv3 h_q40_2 f_q40_2)))))))))))))))))))
set_option maxRecDepth 100000 in
theorem rX7_makes_b130 {F m : Nat} {E : zS → gW → Prop} {w0 : gW} {r : Int → Int → Int → Int → zS → Option zS} {r' : Nat → Int32 → Int32 → Int32 → Int32 → gW → Option (gW)} {k136 : Int → Int → Int → zS → Option zS} {k136' : Nat → Int32 → Int32 → Int32 → gW → Option (gW)} {v1 : Int} {v1' : Int32} {v2 : Int} {v2' : Int32} {v3 : Int} {v3' : Int32} {v4 : Int} {v4' : Int32} {w : zS} {w' : gW} (hr : ∀ (a2 : Int) (a3 : Int) (a4 : Int) (a5 : Int) (Z : zS) (b2 : Int32) (b3 : Int32) (b4 : Int32) (b5 : Int32) (w : gW), b2 = Int32.ofInt a2 → b3 = Int32.ofInt a3 → b4 = Int32.ofInt a4 → b5 = Int32.ofInt a5 → oAt 7 lyZ w m (cvZ Z) → wF m (m + 27) w0 w → zR E (r a2 a3 a4 a5 Z) (r' m b2 b3 b4 b5 w)) (hk136 : ∀ (a2 : Int) (a3 : Int) (a4 : Int) (Z : zS) (b2 : Int32) (b3 : Int32) (b4 : Int32) (w : gW), b2 = Int32.ofInt a2 → b3 = Int32.ofInt a3 → b4 = Int32.ofInt a4 → oAt 7 lyZ w m (cvZ Z) → wF m (m + 27) w0 w → zR E (k136 a2 a3 a4 Z) (k136' m b2 b3 b4 w)) (hv1 : v1' = Int32.ofInt v1) (hv2 : v2' = Int32.ofInt v2) (hv3 : v3' = Int32.ofInt v3) (hv4 : v4' = Int32.ofInt v4) (h_w : oAt 7 lyZ w' m (cvZ w)) (f_w : wF m (m + 27) w0 w') : zR E (zX7_makes_b130 F r k136 v1 v2 v3 v4 w) (mX7_makes_b130 F r' k136' m v1' v2' v3' v4' w') := by
  unfold zX7_makes_b130 mX7_makes_b130
  exact (hr _ _ _ _ _ _ _ _ _ _ hv1 hv2 hv3 (eAdd hv4 (eL (by decide) : (1 : Int32) = Int32.ofInt (1 : Int))) h_w f_w)
set_option maxRecDepth 100000 in
theorem rX7_makes_b109 {F m : Nat} {E : zS → gW → Prop} {w0 : gW} {r : Int → Int → Int → Int → zS → Option zS} {r' : Nat → Int32 → Int32 → Int32 → Int32 → gW → Option (gW)} {k136 : Int → Int → Int → zS → Option zS} {k136' : Nat → Int32 → Int32 → Int32 → gW → Option (gW)} {v1 : Int} {v1' : Int32} {v2 : Int} {v2' : Int32} {v3 : Int} {v3' : Int32} {v4 : Int} {v4' : Int32} {v5 : Int} {v5' : Int32} {w : zS} {w' : gW} (hr : ∀ (a2 : Int) (a3 : Int) (a4 : Int) (a5 : Int) (Z : zS) (b2 : Int32) (b3 : Int32) (b4 : Int32) (b5 : Int32) (w : gW), b2 = Int32.ofInt a2 → b3 = Int32.ofInt a3 → b4 = Int32.ofInt a4 → b5 = Int32.ofInt a5 → oAt 7 lyZ w m (cvZ Z) → wF m (m + 27) w0 w → zR E (r a2 a3 a4 a5 Z) (r' m b2 b3 b4 b5 w)) (hk136 : ∀ (a2 : Int) (a3 : Int) (a4 : Int) (Z : zS) (b2 : Int32) (b3 : Int32) (b4 : Int32) (w : gW), b2 = Int32.ofInt a2 → b3 = Int32.ofInt a3 → b4 = Int32.ofInt a4 → oAt 7 lyZ w m (cvZ Z) → wF m (m + 27) w0 w → zR E (k136 a2 a3 a4 Z) (k136' m b2 b3 b4 w)) (hv1 : v1' = Int32.ofInt v1) (hv2 : v2' = Int32.ofInt v2) (hv3 : v3' = Int32.ofInt v3) (hv4 : v4' = Int32.ofInt v4) (hv5 : v5' = Int32.ofInt v5) (h_w : oAt 7 lyZ w' m (cvZ w)) (f_w : wF m (m + 27) w0 w') : zR E (zX7_makes_b109 F r k136 v1 v2 v3 v4 v5 w) (mX7_makes_b109 F r' k136' m v1' v2' v3' v4' v5' w') := by
  unfold zX7_makes_b109 mX7_makes_b109
  exact (R_FR h_w (k := 13) rfl
  (R_FI h_w (k := 14) rfl (c := (zI w 14)) rfl (fun t114' ht114 =>
  (R_St h_w f_w (k := 13) rfl (by decide) ht114 hv5 (fun w119' h_w119 f_w119 =>
  (R_FI h_w119 (k := 14) rfl (c := (zI w 14)) rfl (fun t122' ht122 =>
  (R_PI h_w119 f_w119 (k := 14) rfl (eAdd ht122 (eL (by decide) : (1 : Int32) = Int32.ofInt (1 : Int))) (fun w127' h_w127 f_w127 =>
  (rX7_makes_b130 hr hk136 hv1 hv2 hv3 hv4 h_w127 f_w127))))))))))
set_option maxRecDepth 100000 in
theorem rX7_makes_h35 {F m : Nat} {E : zS → gW → Prop} {w0 : gW} {r : Int → Int → Int → Int → zS → Option zS} {r' : Nat → Int32 → Int32 → Int32 → Int32 → gW → Option (gW)} {k136 : Int → Int → Int → zS → Option zS} {k136' : Nat → Int32 → Int32 → Int32 → gW → Option (gW)} {v1 : Int} {v1' : Int32} {v2 : Int} {v2' : Int32} {v3 : Int} {v3' : Int32} {v4 : Int} {v4' : Int32} {w : zS} {w' : gW} (hr : ∀ (a2 : Int) (a3 : Int) (a4 : Int) (a5 : Int) (Z : zS) (b2 : Int32) (b3 : Int32) (b4 : Int32) (b5 : Int32) (w : gW), b2 = Int32.ofInt a2 → b3 = Int32.ofInt a3 → b4 = Int32.ofInt a4 → b5 = Int32.ofInt a5 → oAt 7 lyZ w m (cvZ Z) → wF m (m + 27) w0 w → zR E (r a2 a3 a4 a5 Z) (r' m b2 b3 b4 b5 w)) (hk136 : ∀ (a2 : Int) (a3 : Int) (a4 : Int) (Z : zS) (b2 : Int32) (b3 : Int32) (b4 : Int32) (w : gW), b2 = Int32.ofInt a2 → b3 = Int32.ofInt a3 → b4 = Int32.ofInt a4 → oAt 7 lyZ w m (cvZ Z) → wF m (m + 27) w0 w → zR E (k136 a2 a3 a4 Z) (k136' m b2 b3 b4 w)) (hv1 : v1' = Int32.ofInt v1) (hv2 : v2' = Int32.ofInt v2) (hv3 : v3' = Int32.ofInt v3) (hv4 : v4' = Int32.ofInt v4) (h_w : oAt 7 lyZ w' m (cvZ w)) (f_w : wF m (m + 27) w0 w') : zR E (zX7_makes_h35 F r k136 v1 v2 v3 v4 w) (mX7_makes_h35 F r' k136' m v1' v2' v3' v4' w') := by
  unfold zX7_makes_h35 mX7_makes_h35
  exact (R_Le hv2 hv4
  (hk136 _ _ _ _ _ _ _ _ hv1 hv2 hv3 h_w f_w)
  (R_FR h_w (k := 13) rfl
    (R_Ld h_w (k := 13) rfl (by decide) hv3 rfl (fun t48 t48' ht48 =>
    (R_FR h_w (k := 12) rfl
    (R_Ld h_w (k := 12) rfl (by decide) hv4 rfl (fun t55 t55' ht55 =>
    (R_O h_w
    (R_C1 (rX7_prod hv1 ht48 ht55 h_w) f_w (fun q56_1 q56_2 q56_1' q56_2' hq56 h_q56_2 f_q56_2 =>
    (R_O h_q56_2
    (R_C1 (rX7_isMade hq56 h_q56_2) f_q56_2 (fun q64_1 q64_2 q64_1' q64_2' hq64 h_q64_2 f_q64_2 =>
    (R_Eq hq64 (eL (by decide) : (0 : Int32) = Int32.ofInt (0 : Int))
    (R_Le (eL (by decide) : (64 : Int32) = Int32.ofInt (64 : Int)) hq56
      (R_FL h_q64_2 (k := 16) rfl (c := (zJ q64_2 16)) rfl (fun t95' ht95 =>
        (R_PJ h_q64_2 f_q64_2 (k := 16) rfl (eBin (fun (x y : Int64) => x ||| y) ht95 (eBin (fun (x y : Int64) => x <<< y) rfl (eBin (fun (x y : Int64) => x &&& y) (congrArg Int32.toInt64 (eSub hq56 (eL (by decide) : (64 : Int32) = Int32.ofInt (64 : Int)))) rfl))) (fun w106' h_w106 f_w106 =>
        (rX7_makes_b109 hr hk136 hv1 hv2 hv3 hv4 hq56 h_w106 f_w106)))))
      (R_FL h_q64_2 (k := 15) rfl (c := (zJ q64_2 15)) rfl (fun t79' ht79 =>
        (R_PJ h_q64_2 f_q64_2 (k := 15) rfl (eBin (fun (x y : Int64) => x ||| y) ht79 (eBin (fun (x y : Int64) => x <<< y) rfl (eBin (fun (x y : Int64) => x &&& y) (congrArg Int32.toInt64 hq56) rfl))) (fun w87' h_w87 f_w87 =>
        (rX7_makes_b109 hr hk136 hv1 hv2 hv3 hv4 hq56 h_w87 f_w87))))))
    (rX7_makes_b130 hr hk136 hv1 hv2 hv3 hv4 h_q64_2 f_q64_2)))))))))))))))
set_option maxRecDepth 100000 in
theorem rX7_makes_l35 {F m : Nat} {E : zS → gW → Prop} {w0 : gW} {k136 : Int → Int → Int → zS → Option zS} {k136' : Nat → Int32 → Int32 → Int32 → gW → Option (gW)} (hk136 : ∀ (a2 : Int) (a3 : Int) (a4 : Int) (Z : zS) (b2 : Int32) (b3 : Int32) (b4 : Int32) (w : gW), b2 = Int32.ofInt a2 → b3 = Int32.ofInt a3 → b4 = Int32.ofInt a4 → oAt 7 lyZ w m (cvZ Z) → wF m (m + 27) w0 w → zR E (k136 a2 a3 a4 Z) (k136' m b2 b3 b4 w)) : ∀ (n : Nat) (v1 : Int) (v2 : Int) (v3 : Int) (v4 : Int) (w : zS) (v1' : Int32) (v2' : Int32) (v3' : Int32) (v4' : Int32) (w' : gW), v1' = Int32.ofInt v1 → v2' = Int32.ofInt v2 → v3' = Int32.ofInt v3 → v4' = Int32.ofInt v4 → oAt 7 lyZ w' m (cvZ w) → wF m (m + 27) w0 w' → zR E (zX7_makes_l35 F k136 n v1 v2 v3 v4 w) (mX7_makes_l35 F k136' n m v1' v2' v3' v4' w') := by
  intro n
  induction n with
  | zero => intros; exact R_none
  | succ n ih =>
    intro v1 v2 v3 v4 w v1' v2' v3' v4' w' hv1 hv2 hv3 hv4 h_w f_w
    exact rX7_makes_h35 ih hk136 hv1 hv2 hv3 hv4 h_w f_w
set_option maxRecDepth 100000 in
theorem rX7_makes_h24 {F m : Nat} {w0 : gW} {r : Int → Int → Int → zS → Option zS} {r' : Nat → Int32 → Int32 → Int32 → gW → Option (gW)} {v1 : Int} {v1' : Int32} {v2 : Int} {v2' : Int32} {v3 : Int} {v3' : Int32} {w : zS} {w' : gW} (hr : ∀ (a2 : Int) (a3 : Int) (a4 : Int) (Z : zS) (b2 : Int32) (b3 : Int32) (b4 : Int32) (w : gW), b2 = Int32.ofInt a2 → b3 = Int32.ofInt a3 → b4 = Int32.ofInt a4 → oAt 7 lyZ w m (cvZ Z) → wF m (m + 27) w0 w → zR (E0 m w0) (r a2 a3 a4 Z) (r' m b2 b3 b4 w)) (hv1 : v1' = Int32.ofInt v1) (hv2 : v2' = Int32.ofInt v2) (hv3 : v3' = Int32.ofInt v3) (h_w : oAt 7 lyZ w' m (cvZ w)) (f_w : wF m (m + 27) w0 w') : zR (E0 m w0) (zX7_makes_h24 F r v1 v2 v3 w) (mX7_makes_h24 F r' m v1' v2' v3' w') := by
  unfold zX7_makes_h24 mX7_makes_h24
  exact (R_FI h_w (k := 14) rfl (c := (zI w 14)) rfl (fun t26' ht26 =>
  (R_Le ht26 hv3
  (R_ret0 h_w f_w)
  (rX7_makes_l35 (by exact (fun v1 v2 v3 w v1' v2' v3' w' hv1 hv2 hv3 h_w f_w =>
      (hr _ _ _ _ _ _ _ _ hv1 hv2 (eAdd hv3 (eL (by decide) : (1 : Int32) = Int32.ofInt (1 : Int))) h_w f_w))) F _ _ _ _ _ _ _ _ _ _ hv1 hv2 hv3 (eL (by decide) : (0 : Int32) = Int32.ofInt (0 : Int)) h_w f_w))))
set_option maxRecDepth 100000 in
theorem rX7_makes_l24 {F m : Nat} {w0 : gW}   : ∀ (n : Nat) (v1 : Int) (v2 : Int) (v3 : Int) (w : zS) (v1' : Int32) (v2' : Int32) (v3' : Int32) (w' : gW), v1' = Int32.ofInt v1 → v2' = Int32.ofInt v2 → v3' = Int32.ofInt v3 → oAt 7 lyZ w' m (cvZ w) → wF m (m + 27) w0 w' → zR (E0 m w0) (zX7_makes_l24 F  n v1 v2 v3 w) (mX7_makes_l24 F  n m v1' v2' v3' w') := by
  intro n
  induction n with
  | zero => intros; exact R_none
  | succ n ih =>
    intro v1 v2 v3 w v1' v2' v3' w' hv1 hv2 hv3 h_w f_w
    exact rX7_makes_h24 ih  hv1 hv2 hv3 h_w f_w
set_option maxRecDepth 100000 in
theorem rX7_makes {F m : Nat} {v1 : Int} {v1' : Int32} {v2 : Int} {v2' : Int32} {w : zS} {w' : gW} (hv1 : v1' = Int32.ofInt v1) (hv2 : v2' = Int32.ofInt v2) (h_w : oAt 7 lyZ w' m (cvZ w)) : zR (E0 m w') (zX7_makes F v1 v2 w) (mX7_makes F m v1' v2' w') := by
  have f_w : wF m (m + 27) w' w' := wF.rf
  unfold zX7_makes mX7_makes
  exact (R_PJ h_w f_w (k := 15) rfl rfl (fun w2' h_w2 f_w2 =>
  (R_PJ h_w2 f_w2 (k := 16) rfl rfl (fun w7' h_w7 f_w7 =>
  (R_FR h_w7 (k := 13) rfl
  (R_St h_w7 f_w7 (k := 13) rfl (by decide) (eL (by decide) : (0 : Int32) = Int32.ofInt (0 : Int)) (eL (by decide) : (0 : Int32) = Int32.ofInt (0 : Int)) (fun w16' h_w16 f_w16 =>
  (R_PI h_w16 f_w16 (k := 14) rfl (eL (by decide) : (1 : Int32) = Int32.ofInt (1 : Int)) (fun w19' h_w19 f_w19 =>
  (rX7_makes_l24  F _ _ _ _ _ _ _ _ hv1 hv2 (eL (by decide) : (0 : Int32) = Int32.ofInt (0 : Int)) h_w19 f_w19))))))))))
set_option maxRecDepth 100000 in
theorem rX7_orderOf_h5 {F m : Nat} {w0 : gW} {r : Int → Int → Int → Int → zS → Option (Int × zS)} {r' : Nat → Int32 → Int32 → Int32 → Int32 → gW → Option (Int32 × gW)} {v1 : Int} {v1' : Int32} {v2 : Int} {v2' : Int32} {v3 : Int} {v3' : Int32} {v4 : Int} {v4' : Int32} {w : zS} {w' : gW} (hr : ∀ (a2 : Int) (a3 : Int) (a4 : Int) (a5 : Int) (Z : zS) (b2 : Int32) (b3 : Int32) (b4 : Int32) (b5 : Int32) (w : gW), b2 = Int32.ofInt a2 → b3 = Int32.ofInt a3 → b4 = Int32.ofInt a4 → b5 = Int32.ofInt a5 → oAt 7 lyZ w m (cvZ Z) → wF m (m + 27) w0 w → zR (E1 m w0) (r a2 a3 a4 a5 Z) (r' m b2 b3 b4 b5 w)) (hv1 : v1' = Int32.ofInt v1) (hv2 : v2' = Int32.ofInt v2) (hv3 : v3' = Int32.ofInt v3) (hv4 : v4' = Int32.ofInt v4) (h_w : oAt 7 lyZ w' m (cvZ w)) (f_w : wF m (m + 27) w0 w') : zR (E1 m w0) (zX7_orderOf_h5 F r v1 v2 v3 v4 w) (mX7_orderOf_h5 F r' m v1' v2' v3' v4' w') := by
  unfold zX7_orderOf_h5 mX7_orderOf_h5
  exact (R_Eq hv4 (eL (by decide) : (0 : Int32) = Int32.ofInt (0 : Int))
  (R_ret1 hv3 h_w f_w)
  (R_O h_w
    (R_C1 (rX7_prod hv1 hv4 hv2 h_w) f_w (fun q15_1 q15_2 q15_1' q15_2' hq15 h_q15_2 f_q15_2 =>
    (hr _ _ _ _ _ _ _ _ _ _ hv1 hv2 (eAdd hv3 (eL (by decide) : (1 : Int32) = Int32.ofInt (1 : Int))) hq15 h_q15_2 f_q15_2)))))
set_option maxRecDepth 100000 in
theorem rX7_orderOf_l5 {F m : Nat} {w0 : gW}   : ∀ (n : Nat) (v1 : Int) (v2 : Int) (v3 : Int) (v4 : Int) (w : zS) (v1' : Int32) (v2' : Int32) (v3' : Int32) (v4' : Int32) (w' : gW), v1' = Int32.ofInt v1 → v2' = Int32.ofInt v2 → v3' = Int32.ofInt v3 → v4' = Int32.ofInt v4 → oAt 7 lyZ w' m (cvZ w) → wF m (m + 27) w0 w' → zR (E1 m w0) (zX7_orderOf_l5 F  n v1 v2 v3 v4 w) (mX7_orderOf_l5 F  n m v1' v2' v3' v4' w') := by
  intro n
  induction n with
  | zero => intros; exact R_none
  | succ n ih =>
    intro v1 v2 v3 v4 w v1' v2' v3' v4' w' hv1 hv2 hv3 hv4 h_w f_w
    exact rX7_orderOf_h5 ih  hv1 hv2 hv3 hv4 h_w f_w
set_option maxRecDepth 100000 in
theorem rX7_orderOf {F m : Nat} {v1 : Int} {v1' : Int32} {v2 : Int} {v2' : Int32} {w : zS} {w' : gW} (hv1 : v1' = Int32.ofInt v1) (hv2 : v2' = Int32.ofInt v2) (h_w : oAt 7 lyZ w' m (cvZ w)) : zR (E1 m w') (zX7_orderOf F v1 v2 w) (mX7_orderOf F m v1' v2' w') := by
  have f_w : wF m (m + 27) w' w' := wF.rf
  unfold zX7_orderOf mX7_orderOf
  exact (rX7_orderOf_l5  F _ _ _ _ _ _ _ _ _ _ hv1 hv2 (eL (by decide) : (1 : Int32) = Int32.ofInt (1 : Int)) hv2 h_w f_w)
set_option maxRecDepth 100000 in
theorem rX7_quaternions_b134 {F m : Nat} {E : (Int × zS) → (Int32 × gW) → Prop} {w0 : gW} {r : Int → Int → zS → Option (Int × zS)} {r' : Nat → Int32 → Int32 → gW → Option (Int32 × gW)} {k144 : Int → zS → Option (Int × zS)} {k144' : Nat → Int32 → gW → Option (Int32 × gW)} {v1 : Int} {v1' : Int32} {v2 : Int} {v2' : Int32} {s1 : Int} {s1' : Int32} {s2 : Int} {s2' : Int32} {s3 : Int} {s3' : Int32} {s4 : Int} {s4' : Int32} {w : zS} {w' : gW} (hr : ∀ (a2 : Int) (a3 : Int) (Z : zS) (b2 : Int32) (b3 : Int32) (w : gW), b2 = Int32.ofInt a2 → b3 = Int32.ofInt a3 → oAt 7 lyZ w m (cvZ Z) → wF m (m + 27) w0 w → zR E (r a2 a3 Z) (r' m b2 b3 w)) (hk144 : ∀ (a2 : Int) (Z : zS) (b2 : Int32) (w : gW), b2 = Int32.ofInt a2 → oAt 7 lyZ w m (cvZ Z) → wF m (m + 27) w0 w → zR E (k144 a2 Z) (k144' m b2 w)) (hv1 : v1' = Int32.ofInt v1) (hv2 : v2' = Int32.ofInt v2) (hs1 : s1' = Int32.ofInt s1) (hs2 : s2' = Int32.ofInt s2) (hs3 : s3' = Int32.ofInt s3) (hs4 : s4' = Int32.ofInt s4) (h_w : oAt 7 lyZ w' m (cvZ w)) (f_w : wF m (m + 27) w0 w') : zR E (zX7_quaternions_b134 F r k144 v1 v2 s1 s2 s3 s4 w) (mX7_quaternions_b134 F r' k144' m v1' v2' (some m) s1' s2' s3' s4' w') := by
  unfold zX7_quaternions_b134 mX7_quaternions_b134
  exact (R_O h_w
  (R_C0 (rX7_set hs1 hs2 (eAdd hs3 hs4) h_w) f_w (fun q135 q135' h_q135 f_q135 =>
  (hr _ _ _ _ _ _ hv1 (eAdd hv2 (eL (by decide) : (1 : Int32) = Int32.ofInt (1 : Int))) h_q135 f_q135))))
set_option maxRecDepth 100000 in
theorem rX7_quaternions_b113 {F m : Nat} {E : (Int × zS) → (Int32 × gW) → Prop} {w0 : gW} {r : Int → Int → zS → Option (Int × zS)} {r' : Nat → Int32 → Int32 → gW → Option (Int32 × gW)} {k144 : Int → zS → Option (Int × zS)} {k144' : Nat → Int32 → gW → Option (Int32 × gW)} {v1 : Int} {v1' : Int32} {v2 : Int} {v2' : Int32} {v5 : Int} {v5' : Int32} {v6 : Int} {v6' : Int32} {s0 : Int} {s0' : Int32} {w : zS} {w' : gW} (hr : ∀ (a2 : Int) (a3 : Int) (Z : zS) (b2 : Int32) (b3 : Int32) (w : gW), b2 = Int32.ofInt a2 → b3 = Int32.ofInt a3 → oAt 7 lyZ w m (cvZ Z) → wF m (m + 27) w0 w → zR E (r a2 a3 Z) (r' m b2 b3 w)) (hk144 : ∀ (a2 : Int) (Z : zS) (b2 : Int32) (w : gW), b2 = Int32.ofInt a2 → oAt 7 lyZ w m (cvZ Z) → wF m (m + 27) w0 w → zR E (k144 a2 Z) (k144' m b2 w)) (hv1 : v1' = Int32.ofInt v1) (hv2 : v2' = Int32.ofInt v2) (hv5 : v5' = Int32.ofInt v5) (hv6 : v6' = Int32.ofInt v6) (hs0 : s0' = Int32.ofInt s0) (h_w : oAt 7 lyZ w' m (cvZ w)) (f_w : wF m (m + 27) w0 w') : zR E (zX7_quaternions_b113 F r k144 v1 v2 v5 v6 s0 w) (mX7_quaternions_b113 F r' k144' m v1' v2' v5' v6' s0' w') := by
  unfold zX7_quaternions_b113 mX7_quaternions_b113
  exact (R_Eq hs0 (eL (by decide) : (0 : Int32) = Int32.ofInt (0 : Int))
  (rX7_quaternions_b134 hr hk144 hv1 hv2 hv1 hv2 hv6 hv5 h_w f_w)
  (rX7_quaternions_b134 hr hk144 hv1 hv2 hv1 hv2 hv6 (eBit (fun x y => x ^^^ y) hv5 (eL (by decide) : (4 : Int32) = Int32.ofInt (4 : Int))) h_w f_w))
set_option maxRecDepth 100000 in
theorem rX7_quaternions_b112 {F m : Nat} {E : (Int × zS) → (Int32 × gW) → Prop} {w0 : gW} {r : Int → Int → zS → Option (Int × zS)} {r' : Nat → Int32 → Int32 → gW → Option (Int32 × gW)} {k144 : Int → zS → Option (Int × zS)} {k144' : Nat → Int32 → gW → Option (Int32 × gW)} {v1 : Int} {v1' : Int32} {v2 : Int} {v2' : Int32} {v5 : Int} {v5' : Int32} {v6 : Int} {v6' : Int32} {w : zS} {w' : gW} (hr : ∀ (a2 : Int) (a3 : Int) (Z : zS) (b2 : Int32) (b3 : Int32) (w : gW), b2 = Int32.ofInt a2 → b3 = Int32.ofInt a3 → oAt 7 lyZ w m (cvZ Z) → wF m (m + 27) w0 w → zR E (r a2 a3 Z) (r' m b2 b3 w)) (hk144 : ∀ (a2 : Int) (Z : zS) (b2 : Int32) (w : gW), b2 = Int32.ofInt a2 → oAt 7 lyZ w m (cvZ Z) → wF m (m + 27) w0 w → zR E (k144 a2 Z) (k144' m b2 w)) (hv1 : v1' = Int32.ofInt v1) (hv2 : v2' = Int32.ofInt v2) (hv5 : v5' = Int32.ofInt v5) (hv6 : v6' = Int32.ofInt v6) (h_w : oAt 7 lyZ w' m (cvZ w)) (f_w : wF m (m + 27) w0 w') : zR E (zX7_quaternions_b112 F r k144 v1 v2 v5 v6 w) (mX7_quaternions_b112 F r' k144' m v1' v2' v5' v6' w') := by
  unfold zX7_quaternions_b112 mX7_quaternions_b112
  exact (rX7_quaternions_b113 hr hk144 hv1 hv2 hv5 hv6 (eL (by decide) : (0 : Int32) = Int32.ofInt (0 : Int)) h_w f_w)
set_option maxRecDepth 100000 in
theorem rX7_quaternions_b108 {F m : Nat} {E : (Int × zS) → (Int32 × gW) → Prop} {w0 : gW} {r : Int → Int → zS → Option (Int × zS)} {r' : Nat → Int32 → Int32 → gW → Option (Int32 × gW)} {k144 : Int → zS → Option (Int × zS)} {k144' : Nat → Int32 → gW → Option (Int32 × gW)} {v1 : Int} {v1' : Int32} {v2 : Int} {v2' : Int32} {v5 : Int} {v5' : Int32} {v6 : Int} {v6' : Int32} {w : zS} {w' : gW} (hr : ∀ (a2 : Int) (a3 : Int) (Z : zS) (b2 : Int32) (b3 : Int32) (w : gW), b2 = Int32.ofInt a2 → b3 = Int32.ofInt a3 → oAt 7 lyZ w m (cvZ Z) → wF m (m + 27) w0 w → zR E (r a2 a3 Z) (r' m b2 b3 w)) (hk144 : ∀ (a2 : Int) (Z : zS) (b2 : Int32) (w : gW), b2 = Int32.ofInt a2 → oAt 7 lyZ w m (cvZ Z) → wF m (m + 27) w0 w → zR E (k144 a2 Z) (k144' m b2 w)) (hv1 : v1' = Int32.ofInt v1) (hv2 : v2' = Int32.ofInt v2) (hv5 : v5' = Int32.ofInt v5) (hv6 : v6' = Int32.ofInt v6) (h_w : oAt 7 lyZ w' m (cvZ w)) (f_w : wF m (m + 27) w0 w') : zR E (zX7_quaternions_b108 F r k144 v1 v2 v5 v6 w) (mX7_quaternions_b108 F r' k144' m v1' v2' v5' v6' w') := by
  unfold zX7_quaternions_b108 mX7_quaternions_b108
  exact (rX7_quaternions_b113 hr hk144 hv1 hv2 hv5 hv6 (eL (by decide) : (1 : Int32) = Int32.ofInt (1 : Int)) h_w f_w)
set_option maxRecDepth 100000 in
theorem rX7_quaternions_b79 {F m : Nat} {E : (Int × zS) → (Int32 × gW) → Prop} {w0 : gW} {r : Int → Int → zS → Option (Int × zS)} {r' : Nat → Int32 → Int32 → gW → Option (Int32 × gW)} {k144 : Int → zS → Option (Int × zS)} {k144' : Nat → Int32 → gW → Option (Int32 × gW)} {v1 : Int} {v1' : Int32} {v2 : Int} {v2' : Int32} {v3 : Int} {v3' : Int32} {v4 : Int} {v4' : Int32} {v5 : Int} {v5' : Int32} {s0 : Int} {s0' : Int32} {w : zS} {w' : gW} (hr : ∀ (a2 : Int) (a3 : Int) (Z : zS) (b2 : Int32) (b3 : Int32) (w : gW), b2 = Int32.ofInt a2 → b3 = Int32.ofInt a3 → oAt 7 lyZ w m (cvZ Z) → wF m (m + 27) w0 w → zR E (r a2 a3 Z) (r' m b2 b3 w)) (hk144 : ∀ (a2 : Int) (Z : zS) (b2 : Int32) (w : gW), b2 = Int32.ofInt a2 → oAt 7 lyZ w m (cvZ Z) → wF m (m + 27) w0 w → zR E (k144 a2 Z) (k144' m b2 w)) (hv1 : v1' = Int32.ofInt v1) (hv2 : v2' = Int32.ofInt v2) (hv3 : v3' = Int32.ofInt v3) (hv4 : v4' = Int32.ofInt v4) (hv5 : v5' = Int32.ofInt v5) (hs0 : s0' = Int32.ofInt s0) (h_w : oAt 7 lyZ w' m (cvZ w)) (f_w : wF m (m + 27) w0 w') : zR E (zX7_quaternions_b79 F r k144 v1 v2 v3 v4 v5 s0 w) (mX7_quaternions_b79 F r' k144' m v1' v2' v3' v4' v5' s0' w') := by
  unfold zX7_quaternions_b79 mX7_quaternions_b79
  exact (R_Le hv3 (eL (by decide) : (0 : Int32) = Int32.ofInt (0 : Int))
  (rX7_quaternions_b112 hr hk144 hv1 hv2 hv5 hs0 h_w f_w)
  (R_Le hv4 (eL (by decide) : (0 : Int32) = Int32.ofInt (0 : Int))
    (rX7_quaternions_b112 hr hk144 hv1 hv2 hv5 hs0 h_w f_w)
    (R_Eq hv3 hv4
      (rX7_quaternions_b108 hr hk144 hv1 hv2 hv5 hs0 h_w f_w)
      (R_Rem (eAdd (eSub hv4 hv3) (eL (by decide) : (3 : Int32) = Int32.ofInt (3 : Int))) (eL (by decide) : (3 : Int32) = Int32.ofInt (3 : Int)) (fun t103 t103' ht103 =>
        (R_Eq ht103 (eL (by decide) : (2 : Int32) = Int32.ofInt (2 : Int))
        (rX7_quaternions_b108 hr hk144 hv1 hv2 hv5 hs0 h_w f_w)
        (rX7_quaternions_b112 hr hk144 hv1 hv2 hv5 hs0 h_w f_w)))))))
set_option maxRecDepth 100000 in
theorem rX7_quaternions_h22 {F m : Nat} {E : (Int × zS) → (Int32 × gW) → Prop} {w0 : gW} {r : Int → Int → zS → Option (Int × zS)} {r' : Nat → Int32 → Int32 → gW → Option (Int32 × gW)} {k144 : Int → zS → Option (Int × zS)} {k144' : Nat → Int32 → gW → Option (Int32 × gW)} {v1 : Int} {v1' : Int32} {v2 : Int} {v2' : Int32} {w : zS} {w' : gW} (hr : ∀ (a2 : Int) (a3 : Int) (Z : zS) (b2 : Int32) (b3 : Int32) (w : gW), b2 = Int32.ofInt a2 → b3 = Int32.ofInt a3 → oAt 7 lyZ w m (cvZ Z) → wF m (m + 27) w0 w → zR E (r a2 a3 Z) (r' m b2 b3 w)) (hk144 : ∀ (a2 : Int) (Z : zS) (b2 : Int32) (w : gW), b2 = Int32.ofInt a2 → oAt 7 lyZ w m (cvZ Z) → wF m (m + 27) w0 w → zR E (k144 a2 Z) (k144' m b2 w)) (hv1 : v1' = Int32.ofInt v1) (hv2 : v2' = Int32.ofInt v2) (h_w : oAt 7 lyZ w' m (cvZ w)) (f_w : wF m (m + 27) w0 w') : zR E (zX7_quaternions_h22 F r k144 v1 v2 w) (mX7_quaternions_h22 F r' k144' m v1' v2' w') := by
  unfold zX7_quaternions_h22 mX7_quaternions_h22
  exact (R_Le (eL (by decide) : (8 : Int32) = Int32.ofInt (8 : Int)) hv2
  (hk144 _ _ _ _ hv1 h_w f_w)
  (R_Eq (eBit (fun x y => x &&& y) hv1 (eL (by decide) : (3 : Int32) = Int32.ofInt (3 : Int))) (eL (by decide) : (0 : Int32) = Int32.ofInt (0 : Int))
    (rX7_quaternions_b79 hr hk144 hv1 hv2 (eBit (fun x y => x &&& y) hv1 (eL (by decide) : (3 : Int32) = Int32.ofInt (3 : Int))) (eBit (fun x y => x &&& y) hv2 (eL (by decide) : (3 : Int32) = Int32.ofInt (3 : Int))) (eBit (fun x y => x &&& y) (eBit (fun x y => x ^^^ y) hv1 hv2) (eL (by decide) : (4 : Int32) = Int32.ofInt (4 : Int))) (eBit (fun x y => x &&& y) hv2 (eL (by decide) : (3 : Int32) = Int32.ofInt (3 : Int))) h_w f_w)
    (R_Eq (eBit (fun x y => x &&& y) hv2 (eL (by decide) : (3 : Int32) = Int32.ofInt (3 : Int))) (eL (by decide) : (0 : Int32) = Int32.ofInt (0 : Int))
      (rX7_quaternions_b79 hr hk144 hv1 hv2 (eBit (fun x y => x &&& y) hv1 (eL (by decide) : (3 : Int32) = Int32.ofInt (3 : Int))) (eBit (fun x y => x &&& y) hv2 (eL (by decide) : (3 : Int32) = Int32.ofInt (3 : Int))) (eBit (fun x y => x &&& y) (eBit (fun x y => x ^^^ y) hv1 hv2) (eL (by decide) : (4 : Int32) = Int32.ofInt (4 : Int))) (eBit (fun x y => x &&& y) hv1 (eL (by decide) : (3 : Int32) = Int32.ofInt (3 : Int))) h_w f_w)
      (R_Eq (eBit (fun x y => x &&& y) hv1 (eL (by decide) : (3 : Int32) = Int32.ofInt (3 : Int))) (eBit (fun x y => x &&& y) hv2 (eL (by decide) : (3 : Int32) = Int32.ofInt (3 : Int)))
        (rX7_quaternions_b79 hr hk144 hv1 hv2 (eBit (fun x y => x &&& y) hv1 (eL (by decide) : (3 : Int32) = Int32.ofInt (3 : Int))) (eBit (fun x y => x &&& y) hv2 (eL (by decide) : (3 : Int32) = Int32.ofInt (3 : Int))) (eBit (fun x y => x &&& y) (eBit (fun x y => x ^^^ y) hv1 hv2) (eL (by decide) : (4 : Int32) = Int32.ofInt (4 : Int))) (eL (by decide) : (0 : Int32) = Int32.ofInt (0 : Int)) h_w f_w)
        (rX7_quaternions_b79 hr hk144 hv1 hv2 (eBit (fun x y => x &&& y) hv1 (eL (by decide) : (3 : Int32) = Int32.ofInt (3 : Int))) (eBit (fun x y => x &&& y) hv2 (eL (by decide) : (3 : Int32) = Int32.ofInt (3 : Int))) (eBit (fun x y => x &&& y) (eBit (fun x y => x ^^^ y) hv1 hv2) (eL (by decide) : (4 : Int32) = Int32.ofInt (4 : Int))) (eSub (eSub (eL (by decide) : (6 : Int32) = Int32.ofInt (6 : Int)) (eBit (fun x y => x &&& y) hv1 (eL (by decide) : (3 : Int32) = Int32.ofInt (3 : Int)))) (eBit (fun x y => x &&& y) hv2 (eL (by decide) : (3 : Int32) = Int32.ofInt (3 : Int)))) h_w f_w)))))
set_option maxRecDepth 100000 in
theorem rX7_quaternions_l22 {F m : Nat} {E : (Int × zS) → (Int32 × gW) → Prop} {w0 : gW} {k144 : Int → zS → Option (Int × zS)} {k144' : Nat → Int32 → gW → Option (Int32 × gW)} (hk144 : ∀ (a2 : Int) (Z : zS) (b2 : Int32) (w : gW), b2 = Int32.ofInt a2 → oAt 7 lyZ w m (cvZ Z) → wF m (m + 27) w0 w → zR E (k144 a2 Z) (k144' m b2 w)) : ∀ (n : Nat) (v1 : Int) (v2 : Int) (w : zS) (v1' : Int32) (v2' : Int32) (w' : gW), v1' = Int32.ofInt v1 → v2' = Int32.ofInt v2 → oAt 7 lyZ w' m (cvZ w) → wF m (m + 27) w0 w' → zR E (zX7_quaternions_l22 F k144 n v1 v2 w) (mX7_quaternions_l22 F k144' n m v1' v2' w') := by
  intro n
  induction n with
  | zero => intros; exact R_none
  | succ n ih =>
    intro v1 v2 w v1' v2' w' hv1 hv2 h_w f_w
    exact rX7_quaternions_h22 ih hk144 hv1 hv2 h_w f_w
set_option maxRecDepth 100000 in
theorem rX7_quaternions_h14 {F m : Nat} {E : (Int × zS) → (Int32 × gW) → Prop} {w0 : gW} {r : Int → zS → Option (Int × zS)} {r' : Nat → Int32 → gW → Option (Int32 × gW)} {k150 : zS → Option (Int × zS)} {k150' : Nat → gW → Option (Int32 × gW)} {v1 : Int} {v1' : Int32} {w : zS} {w' : gW} (hr : ∀ (a2 : Int) (Z : zS) (b2 : Int32) (w : gW), b2 = Int32.ofInt a2 → oAt 7 lyZ w m (cvZ Z) → wF m (m + 27) w0 w → zR E (r a2 Z) (r' m b2 w)) (hk150 : ∀ (Z : zS) (w : gW), oAt 7 lyZ w m (cvZ Z) → wF m (m + 27) w0 w → zR E (k150 Z) (k150' m w)) (hv1 : v1' = Int32.ofInt v1) (h_w : oAt 7 lyZ w' m (cvZ w)) (f_w : wF m (m + 27) w0 w') : zR E (zX7_quaternions_h14 F r k150 v1 w) (mX7_quaternions_h14 F r' k150' m v1' w') := by
  unfold zX7_quaternions_h14 mX7_quaternions_h14
  exact (R_Le (eL (by decide) : (8 : Int32) = Int32.ofInt (8 : Int)) hv1
  (hk150 _ _ h_w f_w)
  (rX7_quaternions_l22 (by exact (fun v1 w v1' w' hv1 h_w f_w =>
      (hr _ _ _ _ (eAdd hv1 (eL (by decide) : (1 : Int32) = Int32.ofInt (1 : Int))) h_w f_w))) F _ _ _ _ _ _ hv1 (eL (by decide) : (0 : Int32) = Int32.ofInt (0 : Int)) h_w f_w))
set_option maxRecDepth 100000 in
theorem rX7_quaternions_l14 {F m : Nat} {E : (Int × zS) → (Int32 × gW) → Prop} {w0 : gW} {k150 : zS → Option (Int × zS)} {k150' : Nat → gW → Option (Int32 × gW)} (hk150 : ∀ (Z : zS) (w : gW), oAt 7 lyZ w m (cvZ Z) → wF m (m + 27) w0 w → zR E (k150 Z) (k150' m w)) : ∀ (n : Nat) (v1 : Int) (w : zS) (v1' : Int32) (w' : gW), v1' = Int32.ofInt v1 → oAt 7 lyZ w' m (cvZ w) → wF m (m + 27) w0 w' → zR E (zX7_quaternions_l14 F k150 n v1 w) (mX7_quaternions_l14 F k150' n m v1' w') := by
  intro n
  induction n with
  | zero => intros; exact R_none
  | succ n ih =>
    intro v1 w v1' w' hv1 h_w f_w
    exact rX7_quaternions_h14 ih hk150 hv1 h_w f_w
set_option maxRecDepth 100000 in
theorem rX7_quaternions {F m : Nat} {w : zS} {w' : gW} (h_w : oAt 7 lyZ w' m (cvZ w)) : zR (E1 m w') (zX7_quaternions F w) (mX7_quaternions F m w') := by
  have f_w : wF m (m + 27) w' w' := wF.rf
  unfold zX7_quaternions mX7_quaternions
  exact (R_FI h_w (k := 0) rfl (c := (zI w 0)) rfl (fun t1' ht1 =>
  (R_Eq ht1 (eL (by decide) : (8 : Int32) = Int32.ofInt (8 : Int))
  (R_ret1 (eL (by decide) : (-3 : Int32) = Int32.ofInt (-3 : Int)) h_w f_w)
  (rX7_quaternions_l14 (by exact (fun w w' h_w f_w =>
      (R_O h_w
      (R_C1 (rX7_added (eL (by decide) : (8 : Int32) = Int32.ofInt (8 : Int)) h_w) f_w (fun q153_1 q153_2 q153_1' q153_2' hq153 h_q153_2 f_q153_2 =>
      (R_ret1 hq153 h_q153_2 f_q153_2)))))) F _ _ _ _ (eL (by decide) : (0 : Int32) = Int32.ofInt (0 : Int)) h_w f_w))))
set_option maxRecDepth 100000 in
theorem rX7_settles_h6 {F m : Nat} {E : zS → gW → Prop} {w0 : gW} {r : Int → zS → Option zS} {r' : Nat → Int32 → gW → Option (gW)} {k29 : Int → zS → Option zS} {k29' : Nat → Int32 → gW → Option (gW)} {v1 : Int} {v1' : Int32} {w : zS} {w' : gW} (hr : ∀ (a2 : Int) (Z : zS) (b2 : Int32) (w : gW), b2 = Int32.ofInt a2 → oAt 7 lyZ w m (cvZ Z) → wF m (m + 27) w0 w → zR E (r a2 Z) (r' m b2 w)) (hk29 : ∀ (a2 : Int) (Z : zS) (b2 : Int32) (w : gW), b2 = Int32.ofInt a2 → oAt 7 lyZ w m (cvZ Z) → wF m (m + 27) w0 w → zR E (k29 a2 Z) (k29' m b2 w)) (hv1 : v1' = Int32.ofInt v1) (h_w : oAt 7 lyZ w' m (cvZ w)) (f_w : wF m (m + 27) w0 w') : zR E (zX7_settles_h6 F r k29 v1 w) (mX7_settles_h6 F r' k29' m v1' w') := by
  unfold zX7_settles_h6 mX7_settles_h6
  exact (R_FI h_w (k := 24) rfl (c := (zI w 24)) rfl (fun t8' ht8 =>
  (R_Le ht8 hv1
  (hk29 _ _ _ _ hv1 h_w f_w)
  (R_FR h_w (k := 25) rfl
    (R_Ld h_w (k := 25) rfl (by decide) hv1 rfl (fun t19 t19' ht19 =>
    (R_Eq ht19 (eL (by decide) : (0 : Int32) = Int32.ofInt (0 : Int))
    (hr _ _ _ _ (eAdd hv1 (eL (by decide) : (1 : Int32) = Int32.ofInt (1 : Int))) h_w f_w)
    (hk29 _ _ _ _ hv1 h_w f_w))))))))
set_option maxRecDepth 100000 in
theorem rX7_settles_l6 {F m : Nat} {E : zS → gW → Prop} {w0 : gW} {k29 : Int → zS → Option zS} {k29' : Nat → Int32 → gW → Option (gW)} (hk29 : ∀ (a2 : Int) (Z : zS) (b2 : Int32) (w : gW), b2 = Int32.ofInt a2 → oAt 7 lyZ w m (cvZ Z) → wF m (m + 27) w0 w → zR E (k29 a2 Z) (k29' m b2 w)) : ∀ (n : Nat) (v1 : Int) (w : zS) (v1' : Int32) (w' : gW), v1' = Int32.ofInt v1 → oAt 7 lyZ w' m (cvZ w) → wF m (m + 27) w0 w' → zR E (zX7_settles_l6 F k29 n v1 w) (mX7_settles_l6 F k29' n m v1' w') := by
  intro n
  induction n with
  | zero => intros; exact R_none
  | succ n ih =>
    intro v1 w v1' w' hv1 h_w f_w
    exact rX7_settles_h6 ih hk29 hv1 h_w f_w
set_option maxRecDepth 100000 in
theorem rX7_settles_h40 {F m : Nat} {E : zS → gW → Prop} {w0 : gW} {r : Int → Int → zS → Option zS} {r' : Nat → Int32 → Int32 → gW → Option (gW)} {k63 : Int → Int → zS → Option zS} {k63' : Nat → Int32 → Int32 → gW → Option (gW)} {v1 : Int} {v1' : Int32} {v2 : Int} {v2' : Int32} {w : zS} {w' : gW} (hr : ∀ (a2 : Int) (a3 : Int) (Z : zS) (b2 : Int32) (b3 : Int32) (w : gW), b2 = Int32.ofInt a2 → b3 = Int32.ofInt a3 → oAt 7 lyZ w m (cvZ Z) → wF m (m + 27) w0 w → zR E (r a2 a3 Z) (r' m b2 b3 w)) (hk63 : ∀ (a2 : Int) (a3 : Int) (Z : zS) (b2 : Int32) (b3 : Int32) (w : gW), b2 = Int32.ofInt a2 → b3 = Int32.ofInt a3 → oAt 7 lyZ w m (cvZ Z) → wF m (m + 27) w0 w → zR E (k63 a2 a3 Z) (k63' m b2 b3 w)) (hv1 : v1' = Int32.ofInt v1) (hv2 : v2' = Int32.ofInt v2) (h_w : oAt 7 lyZ w' m (cvZ w)) (f_w : wF m (m + 27) w0 w') : zR E (zX7_settles_h40 F r k63 v1 v2 w) (mX7_settles_h40 F r' k63' m v1' v2' w') := by
  unfold zX7_settles_h40 mX7_settles_h40
  exact (R_FR h_w (k := 25) rfl
  (R_Ld h_w (k := 25) rfl (by decide) hv1 rfl (fun t46 t46' ht46 =>
  (R_FI h_w (k := 23) rfl (c := (zI w 23)) rfl (fun t49' ht49 =>
  (R_Rem (eMul hv2 ht46) ht49 (fun t52 t52' ht52 =>
  (R_Eq ht52 (eL (by decide) : (1 : Int32) = Int32.ofInt (1 : Int))
  (hk63 _ _ _ _ _ _ hv1 hv2 h_w f_w)
  (hr _ _ _ _ _ _ hv1 (eAdd hv2 (eL (by decide) : (1 : Int32) = Int32.ofInt (1 : Int))) h_w f_w)))))))))
set_option maxRecDepth 100000 in
theorem rX7_settles_l40 {F m : Nat} {E : zS → gW → Prop} {w0 : gW} {k63 : Int → Int → zS → Option zS} {k63' : Nat → Int32 → Int32 → gW → Option (gW)} (hk63 : ∀ (a2 : Int) (a3 : Int) (Z : zS) (b2 : Int32) (b3 : Int32) (w : gW), b2 = Int32.ofInt a2 → b3 = Int32.ofInt a3 → oAt 7 lyZ w m (cvZ Z) → wF m (m + 27) w0 w → zR E (k63 a2 a3 Z) (k63' m b2 b3 w)) : ∀ (n : Nat) (v1 : Int) (v2 : Int) (w : zS) (v1' : Int32) (v2' : Int32) (w' : gW), v1' = Int32.ofInt v1 → v2' = Int32.ofInt v2 → oAt 7 lyZ w' m (cvZ w) → wF m (m + 27) w0 w' → zR E (zX7_settles_l40 F k63 n v1 v2 w) (mX7_settles_l40 F k63' n m v1' v2' w') := by
  intro n
  induction n with
  | zero => intros; exact R_none
  | succ n ih =>
    intro v1 v2 w v1' v2' w' hv1 hv2 h_w f_w
    exact rX7_settles_h40 ih hk63 hv1 hv2 h_w f_w
set_option maxRecDepth 100000 in
theorem rX7_settles_h65 {F m : Nat} {E : zS → gW → Prop} {w0 : gW} {r : Int → Int → Int → zS → Option zS} {r' : Nat → Int32 → Int32 → Int32 → gW → Option (gW)} {k98 : Int → zS → Option zS} {k98' : Nat → Int32 → gW → Option (gW)} {v1 : Int} {v1' : Int32} {v2 : Int} {v2' : Int32} {v3 : Int} {v3' : Int32} {w : zS} {w' : gW} (hr : ∀ (a2 : Int) (a3 : Int) (a4 : Int) (Z : zS) (b2 : Int32) (b3 : Int32) (b4 : Int32) (w : gW), b2 = Int32.ofInt a2 → b3 = Int32.ofInt a3 → b4 = Int32.ofInt a4 → oAt 7 lyZ w m (cvZ Z) → wF m (m + 27) w0 w → zR E (r a2 a3 a4 Z) (r' m b2 b3 b4 w)) (hk98 : ∀ (a2 : Int) (Z : zS) (b2 : Int32) (w : gW), b2 = Int32.ofInt a2 → oAt 7 lyZ w m (cvZ Z) → wF m (m + 27) w0 w → zR E (k98 a2 Z) (k98' m b2 w)) (hv1 : v1' = Int32.ofInt v1) (hv2 : v2' = Int32.ofInt v2) (hv3 : v3' = Int32.ofInt v3) (h_w : oAt 7 lyZ w' m (cvZ w)) (f_w : wF m (m + 27) w0 w') : zR E (zX7_settles_h65 F r k98 v1 v2 v3 w) (mX7_settles_h65 F r' k98' m v1' v2' v3' w') := by
  unfold zX7_settles_h65 mX7_settles_h65
  exact (R_FI h_w (k := 24) rfl (c := (zI w 24)) rfl (fun t67' ht67 =>
  (R_Le ht67 hv3
  (hk98 _ _ _ _ hv1 h_w f_w)
  (R_FR h_w (k := 25) rfl
    (R_FR h_w (k := 25) rfl
    (R_Ld h_w (k := 25) rfl (by decide) hv3 rfl (fun t83 t83' ht83 =>
    (R_FI h_w (k := 23) rfl (c := (zI w 23)) rfl (fun t87' ht87 =>
    (R_Rem (eMul ht83 hv2) ht87 (fun t90 t90' ht90 =>
    (R_St h_w f_w (k := 25) rfl (by decide) hv3 ht90 (fun w91' h_w91 f_w91 =>
    (hr _ _ _ _ _ _ _ _ hv1 hv2 (eAdd hv3 (eL (by decide) : (1 : Int32) = Int32.ofInt (1 : Int))) h_w91 f_w91))))))))))))))
set_option maxRecDepth 100000 in
theorem rX7_settles_l65 {F m : Nat} {E : zS → gW → Prop} {w0 : gW} {k98 : Int → zS → Option zS} {k98' : Nat → Int32 → gW → Option (gW)} (hk98 : ∀ (a2 : Int) (Z : zS) (b2 : Int32) (w : gW), b2 = Int32.ofInt a2 → oAt 7 lyZ w m (cvZ Z) → wF m (m + 27) w0 w → zR E (k98 a2 Z) (k98' m b2 w)) : ∀ (n : Nat) (v1 : Int) (v2 : Int) (v3 : Int) (w : zS) (v1' : Int32) (v2' : Int32) (v3' : Int32) (w' : gW), v1' = Int32.ofInt v1 → v2' = Int32.ofInt v2 → v3' = Int32.ofInt v3 → oAt 7 lyZ w' m (cvZ w) → wF m (m + 27) w0 w' → zR E (zX7_settles_l65 F k98 n v1 v2 v3 w) (mX7_settles_l65 F k98' n m v1' v2' v3' w') := by
  intro n
  induction n with
  | zero => intros; exact R_none
  | succ n ih =>
    intro v1 v2 v3 w v1' v2' v3' w' hv1 hv2 hv3 h_w f_w
    exact rX7_settles_h65 ih hk98 hv1 hv2 hv3 h_w f_w
set_option maxRecDepth 100000 in
theorem rX7_settles_h124 {F m : Nat} {E : zS → gW → Prop} {w0 : gW} {r : Int → Int → Int → Int → zS → Option zS} {r' : Nat → Int32 → Int32 → Int32 → Int32 → gW → Option (gW)} {k189 : Int → Int → zS → Option zS} {k189' : Nat → Int32 → Int32 → gW → Option (gW)} {v1 : Int} {v1' : Int32} {v3 : Int} {v3' : Int32} {v4 : Int} {v4' : Int32} {v5 : Int} {v5' : Int32} {w : zS} {w' : gW} (hr : ∀ (a2 : Int) (a3 : Int) (a4 : Int) (a5 : Int) (Z : zS) (b2 : Int32) (b3 : Int32) (b4 : Int32) (b5 : Int32) (w : gW), b2 = Int32.ofInt a2 → b3 = Int32.ofInt a3 → b4 = Int32.ofInt a4 → b5 = Int32.ofInt a5 → oAt 7 lyZ w m (cvZ Z) → wF m (m + 27) w0 w → zR E (r a2 a3 a4 a5 Z) (r' m b2 b3 b4 b5 w)) (hk189 : ∀ (a2 : Int) (a3 : Int) (Z : zS) (b2 : Int32) (b3 : Int32) (w : gW), b2 = Int32.ofInt a2 → b3 = Int32.ofInt a3 → oAt 7 lyZ w m (cvZ Z) → wF m (m + 27) w0 w → zR E (k189 a2 a3 Z) (k189' m b2 b3 w)) (hv1 : v1' = Int32.ofInt v1) (hv3 : v3' = Int32.ofInt v3) (hv4 : v4' = Int32.ofInt v4) (hv5 : v5' = Int32.ofInt v5) (h_w : oAt 7 lyZ w' m (cvZ w)) (f_w : wF m (m + 27) w0 w') : zR E (zX7_settles_h124 F r k189 v1 v3 v4 v5 w) (mX7_settles_h124 F r' k189' m v1' v3' v4' v5' w') := by
  unfold zX7_settles_h124 mX7_settles_h124
  exact (R_FI h_w (k := 24) rfl (c := (zI w 24)) rfl (fun t127' ht127 =>
  (R_Le ht127 hv5
  (hk189 _ _ _ _ _ _ hv1 hv3 h_w f_w)
  (R_Le hv4 (eL (by decide) : (0 : Int32) = Int32.ofInt (0 : Int))
    (hk189 _ _ _ _ _ _ hv1 hv3 h_w f_w)
    (R_FR h_w (k := 26) rfl
      (R_FR h_w (k := 26) rfl
      (R_Ld h_w (k := 26) rfl (by decide) (eAdd (eMul (eL (by decide) : (98 : Int32) = Int32.ofInt (98 : Int)) hv3) hv5) rfl (fun t160 t160' ht160 =>
      (R_FI h_w (k := 23) rfl (c := (zI w 23)) rfl (fun t162' ht162 =>
      (R_FR h_w (k := 25) rfl
      (R_Ld h_w (k := 25) rfl (by decide) hv5 rfl (fun t174 t174' ht174 =>
      (R_FI h_w (k := 23) rfl (c := (zI w 23)) rfl (fun t178' ht178 =>
      (R_Rem (eAdd ht160 (eMul (eSub ht162 hv4) ht174)) ht178 (fun t181 t181' ht181 =>
      (R_St h_w f_w (k := 26) rfl (by decide) (eAdd (eMul (eL (by decide) : (98 : Int32) = Int32.ofInt (98 : Int)) hv3) hv5) ht181 (fun w182' h_w182 f_w182 =>
      (hr _ _ _ _ _ _ _ _ _ _ hv1 hv3 hv4 (eAdd hv5 (eL (by decide) : (1 : Int32) = Int32.ofInt (1 : Int))) h_w182 f_w182))))))))))))))))))))
set_option maxRecDepth 100000 in
theorem rX7_settles_l124 {F m : Nat} {E : zS → gW → Prop} {w0 : gW} {k189 : Int → Int → zS → Option zS} {k189' : Nat → Int32 → Int32 → gW → Option (gW)} (hk189 : ∀ (a2 : Int) (a3 : Int) (Z : zS) (b2 : Int32) (b3 : Int32) (w : gW), b2 = Int32.ofInt a2 → b3 = Int32.ofInt a3 → oAt 7 lyZ w m (cvZ Z) → wF m (m + 27) w0 w → zR E (k189 a2 a3 Z) (k189' m b2 b3 w)) : ∀ (n : Nat) (v1 : Int) (v3 : Int) (v4 : Int) (v5 : Int) (w : zS) (v1' : Int32) (v3' : Int32) (v4' : Int32) (v5' : Int32) (w' : gW), v1' = Int32.ofInt v1 → v3' = Int32.ofInt v3 → v4' = Int32.ofInt v4 → v5' = Int32.ofInt v5 → oAt 7 lyZ w' m (cvZ w) → wF m (m + 27) w0 w' → zR E (zX7_settles_l124 F k189 n v1 v3 v4 v5 w) (mX7_settles_l124 F k189' n m v1' v3' v4' v5' w') := by
  intro n
  induction n with
  | zero => intros; exact R_none
  | succ n ih =>
    intro v1 v3 v4 v5 w v1' v3' v4' v5' w' hv1 hv3 hv4 hv5 h_w f_w
    exact rX7_settles_h124 ih hk189 hv1 hv3 hv4 hv5 h_w f_w
set_option maxRecDepth 100000 in
theorem rX7_settles_b189 {F m : Nat} {E : zS → gW → Prop} {w0 : gW} {r : Int → Int → zS → Option zS} {r' : Nat → Int32 → Int32 → gW → Option (gW)} {k195 : Int → zS → Option zS} {k195' : Nat → Int32 → gW → Option (gW)} {v1 : Int} {v1' : Int32} {v3 : Int} {v3' : Int32} {w : zS} {w' : gW} (hr : ∀ (a2 : Int) (a3 : Int) (Z : zS) (b2 : Int32) (b3 : Int32) (w : gW), b2 = Int32.ofInt a2 → b3 = Int32.ofInt a3 → oAt 7 lyZ w m (cvZ Z) → wF m (m + 27) w0 w → zR E (r a2 a3 Z) (r' m b2 b3 w)) (hk195 : ∀ (a2 : Int) (Z : zS) (b2 : Int32) (w : gW), b2 = Int32.ofInt a2 → oAt 7 lyZ w m (cvZ Z) → wF m (m + 27) w0 w → zR E (k195 a2 Z) (k195' m b2 w)) (hv1 : v1' = Int32.ofInt v1) (hv3 : v3' = Int32.ofInt v3) (h_w : oAt 7 lyZ w' m (cvZ w)) (f_w : wF m (m + 27) w0 w') : zR E (zX7_settles_b189 F r k195 v1 v3 w) (mX7_settles_b189 F r' k195' m v1' v3' w') := by
  unfold zX7_settles_b189 mX7_settles_b189
  exact (hr _ _ _ _ _ _ hv1 (eAdd hv3 (eL (by decide) : (1 : Int32) = Int32.ofInt (1 : Int))) h_w f_w)
set_option maxRecDepth 100000 in
theorem rX7_settles_h100 {F m : Nat} {E : zS → gW → Prop} {w0 : gW} {r : Int → Int → zS → Option zS} {r' : Nat → Int32 → Int32 → gW → Option (gW)} {k195 : Int → zS → Option zS} {k195' : Nat → Int32 → gW → Option (gW)} {v1 : Int} {v1' : Int32} {v3 : Int} {v3' : Int32} {w : zS} {w' : gW} (hr : ∀ (a2 : Int) (a3 : Int) (Z : zS) (b2 : Int32) (b3 : Int32) (w : gW), b2 = Int32.ofInt a2 → b3 = Int32.ofInt a3 → oAt 7 lyZ w m (cvZ Z) → wF m (m + 27) w0 w → zR E (r a2 a3 Z) (r' m b2 b3 w)) (hk195 : ∀ (a2 : Int) (Z : zS) (b2 : Int32) (w : gW), b2 = Int32.ofInt a2 → oAt 7 lyZ w m (cvZ Z) → wF m (m + 27) w0 w → zR E (k195 a2 Z) (k195' m b2 w)) (hv1 : v1' = Int32.ofInt v1) (hv3 : v3' = Int32.ofInt v3) (h_w : oAt 7 lyZ w' m (cvZ w)) (f_w : wF m (m + 27) w0 w') : zR E (zX7_settles_h100 F r k195 v1 v3 w) (mX7_settles_h100 F r' k195' m v1' v3' w') := by
  unfold zX7_settles_h100 mX7_settles_h100
  exact (R_FI h_w (k := 28) rfl (c := (zI w 28)) rfl (fun t102' ht102 =>
  (R_Le ht102 hv3
  (hk195 _ _ _ _ hv1 h_w f_w)
  (R_FR h_w (k := 26) rfl
    (R_Ld h_w (k := 26) rfl (by decide) (eAdd (eMul (eL (by decide) : (98 : Int32) = Int32.ofInt (98 : Int)) hv3) hv1) rfl (fun t118 t118' ht118 =>
    (rX7_settles_l124 (by exact (fun v1 v3 w v1' v3' w' hv1 hv3 h_w f_w =>
      (rX7_settles_b189 hr hk195 hv1 hv3 h_w f_w))) F _ _ _ _ _ _ _ _ _ _ hv1 hv3 ht118 (eL (by decide) : (0 : Int32) = Int32.ofInt (0 : Int)) h_w f_w)))))))
set_option maxRecDepth 100000 in
theorem rX7_settles_l100 {F m : Nat} {E : zS → gW → Prop} {w0 : gW} {k195 : Int → zS → Option zS} {k195' : Nat → Int32 → gW → Option (gW)} (hk195 : ∀ (a2 : Int) (Z : zS) (b2 : Int32) (w : gW), b2 = Int32.ofInt a2 → oAt 7 lyZ w m (cvZ Z) → wF m (m + 27) w0 w → zR E (k195 a2 Z) (k195' m b2 w)) : ∀ (n : Nat) (v1 : Int) (v3 : Int) (w : zS) (v1' : Int32) (v3' : Int32) (w' : gW), v1' = Int32.ofInt v1 → v3' = Int32.ofInt v3 → oAt 7 lyZ w' m (cvZ w) → wF m (m + 27) w0 w' → zR E (zX7_settles_l100 F k195 n v1 v3 w) (mX7_settles_l100 F k195' n m v1' v3' w') := by
  intro n
  induction n with
  | zero => intros; exact R_none
  | succ n ih =>
    intro v1 v3 w v1' v3' w' hv1 hv3 h_w f_w
    exact rX7_settles_h100 ih hk195 hv1 hv3 h_w f_w
set_option maxRecDepth 100000 in
theorem rX7_settles_h233 {F m : Nat} {E : zS → gW → Prop} {w0 : gW} {r : Int → Int → Int → zS → Option zS} {r' : Nat → Int32 → Int32 → Int32 → gW → Option (gW)} {k274 : Int → Int → zS → Option zS} {k274' : Nat → Int32 → Int32 → gW → Option (gW)} {v1 : Int} {v1' : Int32} {v3 : Int} {v3' : Int32} {v4 : Int} {v4' : Int32} {w : zS} {w' : gW} (hr : ∀ (a2 : Int) (a3 : Int) (a4 : Int) (Z : zS) (b2 : Int32) (b3 : Int32) (b4 : Int32) (w : gW), b2 = Int32.ofInt a2 → b3 = Int32.ofInt a3 → b4 = Int32.ofInt a4 → oAt 7 lyZ w m (cvZ Z) → wF m (m + 27) w0 w → zR E (r a2 a3 a4 Z) (r' m b2 b3 b4 w)) (hk274 : ∀ (a2 : Int) (a3 : Int) (Z : zS) (b2 : Int32) (b3 : Int32) (w : gW), b2 = Int32.ofInt a2 → b3 = Int32.ofInt a3 → oAt 7 lyZ w m (cvZ Z) → wF m (m + 27) w0 w → zR E (k274 a2 a3 Z) (k274' m b2 b3 w)) (hv1 : v1' = Int32.ofInt v1) (hv3 : v3' = Int32.ofInt v3) (hv4 : v4' = Int32.ofInt v4) (h_w : oAt 7 lyZ w' m (cvZ w)) (f_w : wF m (m + 27) w0 w') : zR E (zX7_settles_h233 F r k274 v1 v3 v4 w) (mX7_settles_h233 F r' k274' m v1' v3' v4' w') := by
  unfold zX7_settles_h233 mX7_settles_h233
  exact (R_FI h_w (k := 24) rfl (c := (zI w 24)) rfl (fun t236' ht236 =>
  (R_Le ht236 hv4
  (hk274 _ _ _ _ _ _ hv1 hv3 h_w f_w)
  (R_FR h_w (k := 26) rfl
    (R_FR h_w (k := 26) rfl
    (R_Ld h_w (k := 26) rfl (by decide) (eAdd (eMul (eL (by decide) : (98 : Int32) = Int32.ofInt (98 : Int)) (eSub hv3 (eL (by decide) : (1 : Int32) = Int32.ofInt (1 : Int)))) hv4) rfl (fun t266 t266' ht266 =>
    (R_St h_w f_w (k := 26) rfl (by decide) (eAdd (eMul (eL (by decide) : (98 : Int32) = Int32.ofInt (98 : Int)) hv3) hv4) ht266 (fun w267' h_w267 f_w267 =>
    (hr _ _ _ _ _ _ _ _ hv1 hv3 (eAdd hv4 (eL (by decide) : (1 : Int32) = Int32.ofInt (1 : Int))) h_w267 f_w267))))))))))
set_option maxRecDepth 100000 in
theorem rX7_settles_l233 {F m : Nat} {E : zS → gW → Prop} {w0 : gW} {k274 : Int → Int → zS → Option zS} {k274' : Nat → Int32 → Int32 → gW → Option (gW)} (hk274 : ∀ (a2 : Int) (a3 : Int) (Z : zS) (b2 : Int32) (b3 : Int32) (w : gW), b2 = Int32.ofInt a2 → b3 = Int32.ofInt a3 → oAt 7 lyZ w m (cvZ Z) → wF m (m + 27) w0 w → zR E (k274 a2 a3 Z) (k274' m b2 b3 w)) : ∀ (n : Nat) (v1 : Int) (v3 : Int) (v4 : Int) (w : zS) (v1' : Int32) (v3' : Int32) (v4' : Int32) (w' : gW), v1' = Int32.ofInt v1 → v3' = Int32.ofInt v3 → v4' = Int32.ofInt v4 → oAt 7 lyZ w' m (cvZ w) → wF m (m + 27) w0 w' → zR E (zX7_settles_l233 F k274 n v1 v3 v4 w) (mX7_settles_l233 F k274' n m v1' v3' v4' w') := by
  intro n
  induction n with
  | zero => intros; exact R_none
  | succ n ih =>
    intro v1 v3 v4 w v1' v3' v4' w' hv1 hv3 hv4 h_w f_w
    exact rX7_settles_h233 ih hk274 hv1 hv3 hv4 h_w f_w
set_option maxRecDepth 100000 in
theorem rX7_settles_h200 {F m : Nat} {E : zS → gW → Prop} {w0 : gW} {r : Int → Int → zS → Option zS} {r' : Nat → Int32 → Int32 → gW → Option (gW)} {k280 : Int → Int → zS → Option zS} {k280' : Nat → Int32 → Int32 → gW → Option (gW)} {v1 : Int} {v1' : Int32} {v3 : Int} {v3' : Int32} {w : zS} {w' : gW} (hr : ∀ (a2 : Int) (a3 : Int) (Z : zS) (b2 : Int32) (b3 : Int32) (w : gW), b2 = Int32.ofInt a2 → b3 = Int32.ofInt a3 → oAt 7 lyZ w m (cvZ Z) → wF m (m + 27) w0 w → zR E (r a2 a3 Z) (r' m b2 b3 w)) (hk280 : ∀ (a2 : Int) (a3 : Int) (Z : zS) (b2 : Int32) (b3 : Int32) (w : gW), b2 = Int32.ofInt a2 → b3 = Int32.ofInt a3 → oAt 7 lyZ w m (cvZ Z) → wF m (m + 27) w0 w → zR E (k280 a2 a3 Z) (k280' m b2 b3 w)) (hv1 : v1' = Int32.ofInt v1) (hv3 : v3' = Int32.ofInt v3) (h_w : oAt 7 lyZ w' m (cvZ w)) (f_w : wF m (m + 27) w0 w') : zR E (zX7_settles_h200 F r k280 v1 v3 w) (mX7_settles_h200 F r' k280' m v1' v3' w') := by
  unfold zX7_settles_h200 mX7_settles_h200
  exact (R_Le hv3 (eL (by decide) : (0 : Int32) = Int32.ofInt (0 : Int))
  (hk280 _ _ _ _ _ _ hv1 hv3 h_w f_w)
  (R_FR h_w (k := 27) rfl
    (R_Ld h_w (k := 27) rfl (by decide) (eSub hv3 (eL (by decide) : (1 : Int32) = Int32.ofInt (1 : Int))) rfl (fun t211 t211' ht211 =>
    (R_Le ht211 hv1
    (hk280 _ _ _ _ _ _ hv1 hv3 h_w f_w)
    (R_FR h_w (k := 27) rfl
      (R_FR h_w (k := 27) rfl
      (R_Ld h_w (k := 27) rfl (by decide) (eSub hv3 (eL (by decide) : (1 : Int32) = Int32.ofInt (1 : Int))) rfl (fun t228 t228' ht228 =>
      (R_St h_w f_w (k := 27) rfl (by decide) hv3 ht228 (fun w229' h_w229 f_w229 =>
      (rX7_settles_l233 (by exact (fun v1 v3 w v1' v3' w' hv1 hv3 h_w f_w =>
        (hr _ _ _ _ _ _ hv1 (eAdd hv3 (eL (by decide) : (-1 : Int32) = Int32.ofInt (-1 : Int))) h_w f_w))) F _ _ _ _ _ _ _ _ hv1 hv3 (eL (by decide) : (0 : Int32) = Int32.ofInt (0 : Int)) h_w229 f_w229))))))))))))
set_option maxRecDepth 100000 in
theorem rX7_settles_l200 {F m : Nat} {E : zS → gW → Prop} {w0 : gW} {k280 : Int → Int → zS → Option zS} {k280' : Nat → Int32 → Int32 → gW → Option (gW)} (hk280 : ∀ (a2 : Int) (a3 : Int) (Z : zS) (b2 : Int32) (b3 : Int32) (w : gW), b2 = Int32.ofInt a2 → b3 = Int32.ofInt a3 → oAt 7 lyZ w m (cvZ Z) → wF m (m + 27) w0 w → zR E (k280 a2 a3 Z) (k280' m b2 b3 w)) : ∀ (n : Nat) (v1 : Int) (v3 : Int) (w : zS) (v1' : Int32) (v3' : Int32) (w' : gW), v1' = Int32.ofInt v1 → v3' = Int32.ofInt v3 → oAt 7 lyZ w' m (cvZ w) → wF m (m + 27) w0 w' → zR E (zX7_settles_l200 F k280 n v1 v3 w) (mX7_settles_l200 F k280' n m v1' v3' w') := by
  intro n
  induction n with
  | zero => intros; exact R_none
  | succ n ih =>
    intro v1 v3 w v1' v3' w' hv1 hv3 h_w f_w
    exact rX7_settles_h200 ih hk280 hv1 hv3 h_w f_w
set_option maxRecDepth 100000 in
theorem rX7_settles_h290 {F m : Nat} {E : zS → gW → Prop} {w0 : gW} {r : Int → Int → zS → Option zS} {r' : Nat → Int32 → Int32 → gW → Option (gW)} {k324 : zS → Option zS} {k324' : Nat → gW → Option (gW)} {v3 : Int} {v3' : Int32} {v4 : Int} {v4' : Int32} {w : zS} {w' : gW} (hr : ∀ (a2 : Int) (a3 : Int) (Z : zS) (b2 : Int32) (b3 : Int32) (w : gW), b2 = Int32.ofInt a2 → b3 = Int32.ofInt a3 → oAt 7 lyZ w m (cvZ Z) → wF m (m + 27) w0 w → zR E (r a2 a3 Z) (r' m b2 b3 w)) (hk324 : ∀ (Z : zS) (w : gW), oAt 7 lyZ w m (cvZ Z) → wF m (m + 27) w0 w → zR E (k324 Z) (k324' m w)) (hv3 : v3' = Int32.ofInt v3) (hv4 : v4' = Int32.ofInt v4) (h_w : oAt 7 lyZ w' m (cvZ w)) (f_w : wF m (m + 27) w0 w') : zR E (zX7_settles_h290 F r k324 v3 v4 w) (mX7_settles_h290 F r' k324' m v3' v4' w') := by
  unfold zX7_settles_h290 mX7_settles_h290
  exact (R_FI h_w (k := 24) rfl (c := (zI w 24)) rfl (fun t293' ht293 =>
  (R_Le ht293 hv4
  (hk324 _ _ h_w f_w)
  (R_FR h_w (k := 26) rfl
    (R_FR h_w (k := 25) rfl
    (R_Ld h_w (k := 25) rfl (by decide) hv4 rfl (fun t316 t316' ht316 =>
    (R_St h_w f_w (k := 26) rfl (by decide) (eAdd (eMul (eL (by decide) : (98 : Int32) = Int32.ofInt (98 : Int)) hv3) hv4) ht316 (fun w317' h_w317 f_w317 =>
    (hr _ _ _ _ _ _ hv3 (eAdd hv4 (eL (by decide) : (1 : Int32) = Int32.ofInt (1 : Int))) h_w317 f_w317))))))))))
set_option maxRecDepth 100000 in
theorem rX7_settles_l290 {F m : Nat} {E : zS → gW → Prop} {w0 : gW} {k324 : zS → Option zS} {k324' : Nat → gW → Option (gW)} (hk324 : ∀ (Z : zS) (w : gW), oAt 7 lyZ w m (cvZ Z) → wF m (m + 27) w0 w → zR E (k324 Z) (k324' m w)) : ∀ (n : Nat) (v3 : Int) (v4 : Int) (w : zS) (v3' : Int32) (v4' : Int32) (w' : gW), v3' = Int32.ofInt v3 → v4' = Int32.ofInt v4 → oAt 7 lyZ w' m (cvZ w) → wF m (m + 27) w0 w' → zR E (zX7_settles_l290 F k324 n v3 v4 w) (mX7_settles_l290 F k324' n m v3' v4' w') := by
  intro n
  induction n with
  | zero => intros; exact R_none
  | succ n ih =>
    intro v3 v4 w v3' v4' w' hv3 hv4 h_w f_w
    exact rX7_settles_h290 ih hk324 hv3 hv4 h_w f_w
set_option maxRecDepth 100000 in
theorem rX7_settles_b280 {F m : Nat} {w0 : gW} {v1 : Int} {v1' : Int32} {v3 : Int} {v3' : Int32} {w : zS} {w' : gW} (hv1 : v1' = Int32.ofInt v1) (hv3 : v3' = Int32.ofInt v3) (h_w : oAt 7 lyZ w' m (cvZ w)) (f_w : wF m (m + 27) w0 w') : zR (E0 m w0) (zX7_settles_b280 F v1 v3 w) (mX7_settles_b280 F m v1' v3' w') := by
  unfold zX7_settles_b280 mX7_settles_b280
  exact (R_FR h_w (k := 27) rfl
  (R_St h_w f_w (k := 27) rfl (by decide) hv3 hv1 (fun w286' h_w286 f_w286 =>
  (rX7_settles_l290 (by exact (fun w w' h_w f_w =>
    (R_FI h_w (k := 28) rfl (c := (zI w 28)) rfl (fun t326' ht326 =>
    (R_PI h_w f_w (k := 28) rfl (eAdd ht326 (eL (by decide) : (1 : Int32) = Int32.ofInt (1 : Int))) (fun w331' h_w331 f_w331 =>
    (R_ret0 h_w331 f_w331))))))) F _ _ _ _ _ _ hv3 (eL (by decide) : (0 : Int32) = Int32.ofInt (0 : Int)) h_w286 f_w286))))
set_option maxRecDepth 100000 in
theorem rX7_settles_b29 {F m : Nat} {w0 : gW} {v1 : Int} {v1' : Int32} {w : zS} {w' : gW} (hv1 : v1' = Int32.ofInt v1) (h_w : oAt 7 lyZ w' m (cvZ w)) (f_w : wF m (m + 27) w0 w') : zR (E0 m w0) (zX7_settles_b29 F v1 w) (mX7_settles_b29 F m v1' w') := by
  unfold zX7_settles_b29 mX7_settles_b29
  exact (R_FI h_w (k := 24) rfl (c := (zI w 24)) rfl (fun t31' ht31 =>
  (R_Eq hv1 ht31
  (R_ret0 h_w f_w)
  (rX7_settles_l40 (by exact (fun v1 v2 w v1' v2' w' hv1 hv2 h_w f_w =>
      (rX7_settles_l65 (by exact (fun v1 w v1' w' hv1 h_w f_w =>
        (rX7_settles_l100 (by exact (fun v1 w v1' w' hv1 h_w f_w =>
          (R_FI h_w (k := 28) rfl (c := (zI w 28)) rfl (fun t196' ht196 =>
          (rX7_settles_l200 (by exact (fun v1 v3 w v1' v3' w' hv1 hv3 h_w f_w =>
            (rX7_settles_b280 hv1 hv3 h_w f_w))) F _ _ _ _ _ _ hv1 ht196 h_w f_w))))) F _ _ _ _ _ _ hv1 (eL (by decide) : (0 : Int32) = Int32.ofInt (0 : Int)) h_w f_w))) F _ _ _ _ _ _ _ _ hv1 hv2 (eL (by decide) : (0 : Int32) = Int32.ofInt (0 : Int)) h_w f_w))) F _ _ _ _ _ _ hv1 (eL (by decide) : (1 : Int32) = Int32.ofInt (1 : Int)) h_w f_w))))
set_option maxRecDepth 100000 in
theorem rX7_settles {F m : Nat} {w : zS} {w' : gW} (h_w : oAt 7 lyZ w' m (cvZ w)) : zR (E0 m w') (zX7_settles F w) (mX7_settles F m w') := by
  have f_w : wF m (m + 27) w' w' := wF.rf
  unfold zX7_settles mX7_settles
  exact (R_O h_w
  (R_C0 (rX7_reduceLine h_w) f_w (fun q1 q1' h_q1 f_q1 =>
  (rX7_settles_l6 (by exact (fun v1 w v1' w' hv1 h_w f_w =>
    (rX7_settles_b29 hv1 h_w f_w))) F _ _ _ _ (eL (by decide) : (0 : Int32) = Int32.ofInt (0 : Int)) h_q1 f_q1))))
set_option maxRecDepth 100000 in
theorem rX7_sheet_h55 {F m : Nat} {w0 : gW} {r : Int → Int → zS → Option (Int × zS)} {r' : Nat → Int32 → Int32 → gW → Option (Int32 × gW)} {v1 : Int} {v1' : Int32} {v4 : Int} {v4' : Int32} {w : zS} {w' : gW} (hr : ∀ (a2 : Int) (a3 : Int) (Z : zS) (b2 : Int32) (b3 : Int32) (w : gW), b2 = Int32.ofInt a2 → b3 = Int32.ofInt a3 → oAt 7 lyZ w m (cvZ Z) → wF m (m + 27) w0 w → zR (E1 m w0) (r a2 a3 Z) (r' m b2 b3 w)) (hv1 : v1' = Int32.ofInt v1) (hv4 : v4' = Int32.ofInt v4) (h_w : oAt 7 lyZ w' m (cvZ w)) (f_w : wF m (m + 27) w0 w') : zR (E1 m w0) (zX7_sheet_h55 F r v1 v4 w) (mX7_sheet_h55 F r' m v1' v4' w') := by
  unfold zX7_sheet_h55 mX7_sheet_h55
  exact (R_Le (eL (by decide) : (144 : Int32) = Int32.ofInt (144 : Int)) hv4
  (R_ret1 (eL (by decide) : (1 : Int32) = Int32.ofInt (1 : Int)) h_w f_w)
  (R_FR h_w (k := 6) rfl
    (R_St h_w f_w (k := 6) rfl (by decide) (eAdd (eMul (eL (by decide) : (144 : Int32) = Int32.ofInt (144 : Int)) hv1) hv4) (eL (by decide) : (0 : Int32) = Int32.ofInt (0 : Int)) (fun w76' h_w76 f_w76 =>
    (hr _ _ _ _ _ _ hv1 (eAdd hv4 (eL (by decide) : (1 : Int32) = Int32.ofInt (1 : Int))) h_w76 f_w76)))))
set_option maxRecDepth 100000 in
theorem rX7_sheet_l55 {F m : Nat} {w0 : gW}   : ∀ (n : Nat) (v1 : Int) (v4 : Int) (w : zS) (v1' : Int32) (v4' : Int32) (w' : gW), v1' = Int32.ofInt v1 → v4' = Int32.ofInt v4 → oAt 7 lyZ w' m (cvZ w) → wF m (m + 27) w0 w' → zR (E1 m w0) (zX7_sheet_l55 F  n v1 v4 w) (mX7_sheet_l55 F  n m v1' v4' w') := by
  intro n
  induction n with
  | zero => intros; exact R_none
  | succ n ih =>
    intro v1 v4 w v1' v4' w' hv1 hv4 h_w f_w
    exact rX7_sheet_h55 ih  hv1 hv4 h_w f_w
set_option maxRecDepth 100000 in
theorem rX7_sheet {F m : Nat} {v1 : Int} {v1' : Int32} {v2 : Int} {v2' : Int32} {v3 : Int} {v3' : Int32} {w : zS} {w' : gW} (hv1 : v1' = Int32.ofInt v1) (hv2 : v2' = Int32.ofInt v2) (hv3 : v3' = Int32.ofInt v3) (h_w : oAt 7 lyZ w' m (cvZ w)) : zR (E1 m w') (zX7_sheet F v1 v2 v3 w) (mX7_sheet F m v1' v2' v3' w') := by
  have f_w : wF m (m + 27) w' w' := wF.rf
  unfold zX7_sheet mX7_sheet
  exact (R_C1 (rX7_in (congrArg Int32.toInt64 hv1) rfl rfl h_w) f_w (fun q6_1 q6_2 q6_1' q6_2' hq6 h_q6_2 f_q6_2 =>
  (R_Eq hq6 (eL (by decide) : (0 : Int32) = Int32.ofInt (0 : Int))
  (R_ret1 (eL (by decide) : (-1 : Int32) = Int32.ofInt (-1 : Int)) h_q6_2 f_q6_2)
  (R_C1 (rX7_in (congrArg Int32.toInt64 hv2) rfl rfl h_q6_2) f_q6_2 (fun q16_1 q16_2 q16_1' q16_2' hq16 h_q16_2 f_q16_2 =>
    (R_Eq hq16 (eL (by decide) : (0 : Int32) = Int32.ofInt (0 : Int))
    (R_ret1 (eL (by decide) : (-1 : Int32) = Int32.ofInt (-1 : Int)) h_q16_2 f_q16_2)
    (R_Le hv3 (eL (by decide) : (144 : Int32) = Int32.ofInt (144 : Int))
      (R_Le (eL (by decide) : (0 : Int32) = Int32.ofInt (0 : Int)) hv3
        (R_FR h_q16_2 (k := 4) rfl
          (R_St h_q16_2 f_q16_2 (k := 4) rfl (by decide) hv1 hv2 (fun w44' h_w44 f_w44 =>
          (R_FR h_w44 (k := 5) rfl
          (R_St h_w44 f_w44 (k := 5) rfl (by decide) hv1 hv3 (fun w51' h_w51 f_w51 =>
          (rX7_sheet_l55  F _ _ _ _ _ _ hv1 (eL (by decide) : (0 : Int32) = Int32.ofInt (0 : Int)) h_w51 f_w51)))))))
        (R_ret1 (eL (by decide) : (-14 : Int32) = Int32.ofInt (-14 : Int)) h_q16_2 f_q16_2))
      (R_ret1 (eL (by decide) : (-1 : Int32) = Int32.ofInt (-1 : Int)) h_q16_2 f_q16_2))))))))
set_option maxRecDepth 100000 in
theorem rX7_sumOf_h19 {F m : Nat} {E : zS → gW → Prop} {w0 : gW} {r : Int → Int → Int → zS → Option zS} {r' : Nat → Int32 → Int32 → Int32 → gW → Option (gW)} {k73 : Int → Int → zS → Option zS} {k73' : Nat → Int32 → Int32 → gW → Option (gW)} {v2 : Int} {v2' : Int32} {v3 : Int} {v3' : Int32} {v4 : Int} {v4' : Int32} {w : zS} {w' : gW} (hr : ∀ (a2 : Int) (a3 : Int) (a4 : Int) (Z : zS) (b2 : Int32) (b3 : Int32) (b4 : Int32) (w : gW), b2 = Int32.ofInt a2 → b3 = Int32.ofInt a3 → b4 = Int32.ofInt a4 → oAt 7 lyZ w m (cvZ Z) → wF m (m + 27) w0 w → zR E (r a2 a3 a4 Z) (r' m b2 b3 b4 w)) (hk73 : ∀ (a2 : Int) (a3 : Int) (Z : zS) (b2 : Int32) (b3 : Int32) (w : gW), b2 = Int32.ofInt a2 → b3 = Int32.ofInt a3 → oAt 7 lyZ w m (cvZ Z) → wF m (m + 27) w0 w → zR E (k73 a2 a3 Z) (k73' m b2 b3 w)) (hv2 : v2' = Int32.ofInt v2) (hv3 : v3' = Int32.ofInt v3) (hv4 : v4' = Int32.ofInt v4) (h_w : oAt 7 lyZ w' m (cvZ w)) (f_w : wF m (m + 27) w0 w') : zR E (zX7_sumOf_h19 F r k73 v2 v3 v4 w) (mX7_sumOf_h19 F r' k73' m v2' v3' v4' w') := by
  unfold zX7_sumOf_h19 mX7_sumOf_h19
  exact (R_FI h_w (k := 24) rfl (c := (zI w 24)) rfl (fun t22' ht22 =>
  (R_Le ht22 hv4
  (hk73 _ _ _ _ _ _ hv2 hv3 h_w f_w)
  (R_FR h_w (k := 25) rfl
    (R_FR h_w (k := 25) rfl
    (R_Ld h_w (k := 25) rfl (by decide) hv4 rfl (fun t40 t40' ht40 =>
    (R_FI h_w (k := 23) rfl (c := (zI w 23)) rfl (fun t43' ht43 =>
    (R_Rem hv2 ht43 (fun t46 t46' ht46 =>
    (R_FR h_w (k := 33) rfl
    (R_Ld h_w (k := 33) rfl (by decide) (eAdd (eMul (eL (by decide) : (98 : Int32) = Int32.ofInt (98 : Int)) hv3) hv4) rfl (fun t58 t58' ht58 =>
    (R_FI h_w (k := 23) rfl (c := (zI w 23)) rfl (fun t62' ht62 =>
    (R_Rem (eAdd ht40 (eMul ht46 ht58)) ht62 (fun t65 t65' ht65 =>
    (R_St h_w f_w (k := 25) rfl (by decide) hv4 ht65 (fun w66' h_w66 f_w66 =>
    (hr _ _ _ _ _ _ _ _ hv2 hv3 (eAdd hv4 (eL (by decide) : (1 : Int32) = Int32.ofInt (1 : Int))) h_w66 f_w66)))))))))))))))))))))
set_option maxRecDepth 100000 in
theorem rX7_sumOf_l19 {F m : Nat} {E : zS → gW → Prop} {w0 : gW} {k73 : Int → Int → zS → Option zS} {k73' : Nat → Int32 → Int32 → gW → Option (gW)} (hk73 : ∀ (a2 : Int) (a3 : Int) (Z : zS) (b2 : Int32) (b3 : Int32) (w : gW), b2 = Int32.ofInt a2 → b3 = Int32.ofInt a3 → oAt 7 lyZ w m (cvZ Z) → wF m (m + 27) w0 w → zR E (k73 a2 a3 Z) (k73' m b2 b3 w)) : ∀ (n : Nat) (v2 : Int) (v3 : Int) (v4 : Int) (w : zS) (v2' : Int32) (v3' : Int32) (v4' : Int32) (w' : gW), v2' = Int32.ofInt v2 → v3' = Int32.ofInt v3 → v4' = Int32.ofInt v4 → oAt 7 lyZ w' m (cvZ w) → wF m (m + 27) w0 w' → zR E (zX7_sumOf_l19 F k73 n v2 v3 v4 w) (mX7_sumOf_l19 F k73' n m v2' v3' v4' w') := by
  intro n
  induction n with
  | zero => intros; exact R_none
  | succ n ih =>
    intro v2 v3 v4 w v2' v3' v4' w' hv2 hv3 hv4 h_w f_w
    exact rX7_sumOf_h19 ih hk73 hv2 hv3 hv4 h_w f_w
set_option maxRecDepth 100000 in
theorem rX7_sumOf_h8 {F m : Nat} {w0 : gW} {r : Int → Int → zS → Option zS} {r' : Nat → Int32 → Int32 → gW → Option (gW)} {v2 : Int} {v2' : Int32} {v3 : Int} {v3' : Int32} {w : zS} {w' : gW} (hr : ∀ (a2 : Int) (a3 : Int) (Z : zS) (b2 : Int32) (b3 : Int32) (w : gW), b2 = Int32.ofInt a2 → b3 = Int32.ofInt a3 → oAt 7 lyZ w m (cvZ Z) → wF m (m + 27) w0 w → zR (E0 m w0) (r a2 a3 Z) (r' m b2 b3 w)) (hv2 : v2' = Int32.ofInt v2) (hv3 : v3' = Int32.ofInt v3) (h_w : oAt 7 lyZ w' m (cvZ w)) (f_w : wF m (m + 27) w0 w') : zR (E0 m w0) (zX7_sumOf_h8 F r v2 v3 w) (mX7_sumOf_h8 F r' m v2' v3' w') := by
  unfold zX7_sumOf_h8 mX7_sumOf_h8
  exact (R_FI h_w (k := 35) rfl (c := (zI w 35)) rfl (fun t10' ht10 =>
  (R_Le ht10 hv3
  (R_ret0 h_w f_w)
  (rX7_sumOf_l19 (by exact (fun v2 v3 w v2' v3' w' hv2 hv3 h_w f_w =>
      (R_FI h_w (k := 23) rfl (c := (zI w 23)) rfl (fun t75' ht75 =>
      (R_Div hv2 ht75 (fun t78 t78' ht78 =>
      (hr _ _ _ _ _ _ ht78 (eAdd hv3 (eL (by decide) : (1 : Int32) = Int32.ofInt (1 : Int))) h_w f_w))))))) F _ _ _ _ _ _ _ _ hv2 hv3 (eL (by decide) : (0 : Int32) = Int32.ofInt (0 : Int)) h_w f_w))))
set_option maxRecDepth 100000 in
theorem rX7_sumOf_l8 {F m : Nat} {w0 : gW}   : ∀ (n : Nat) (v2 : Int) (v3 : Int) (w : zS) (v2' : Int32) (v3' : Int32) (w' : gW), v2' = Int32.ofInt v2 → v3' = Int32.ofInt v3 → oAt 7 lyZ w' m (cvZ w) → wF m (m + 27) w0 w' → zR (E0 m w0) (zX7_sumOf_l8 F  n v2 v3 w) (mX7_sumOf_l8 F  n m v2' v3' w') := by
  intro n
  induction n with
  | zero => intros; exact R_none
  | succ n ih =>
    intro v2 v3 w v2' v3' w' hv2 hv3 h_w f_w
    exact rX7_sumOf_h8 ih  hv2 hv3 h_w f_w
set_option maxRecDepth 100000 in
theorem rX7_sumOf {F m : Nat} {v1 : Int} {v1' : Int32} {w : zS} {w' : gW} (hv1 : v1' = Int32.ofInt v1) (h_w : oAt 7 lyZ w' m (cvZ w)) : zR (E0 m w') (zX7_sumOf F v1 w) (mX7_sumOf F m v1' w') := by
  have f_w : wF m (m + 27) w' w' := wF.rf
  unfold zX7_sumOf mX7_sumOf
  exact (R_O h_w
  (R_C0 (rX7_clearLine h_w) f_w (fun q1 q1' h_q1 f_q1 =>
  (rX7_sumOf_l8  F _ _ _ _ _ _ hv1 (eL (by decide) : (0 : Int32) = Int32.ofInt (0 : Int)) h_q1 f_q1))))
set_option maxRecDepth 100000 in
theorem rX7_table_b154 {F m : Nat} {E : (Int × zS) → (Int32 × gW) → Prop} {w0 : gW} {r : Int → Int → Int → Int → zS → Option (Int × zS)} {r' : Nat → Int32 → Int32 → Int32 → Int32 → gW → Option (Int32 × gW)} {k170 : Int → Int → Int → zS → Option (Int × zS)} {k170' : Nat → Int32 → Int32 → Int32 → gW → Option (Int32 × gW)} {k143 : Int → Int → Int → zS → Option (Int × zS)} {k143' : Int32 → Int32 → Int32 → gW → Option (Int32 × gW)} {v1 : Int} {v1' : Int32} {v3 : Int} {v3' : Int32} {v5 : Int} {v5' : Int32} {v6 : Int} {v6' : Int32} {v7 : Int} {v7' : Int32} {w : zS} {w' : gW} (hr : ∀ (a2 : Int) (a3 : Int) (a4 : Int) (a5 : Int) (Z : zS) (b2 : Int32) (b3 : Int32) (b4 : Int32) (b5 : Int32) (w : gW), b2 = Int32.ofInt a2 → b3 = Int32.ofInt a3 → b4 = Int32.ofInt a4 → b5 = Int32.ofInt a5 → oAt 7 lyZ w m (cvZ Z) → wF m (m + 27) w0 w → zR E (r a2 a3 a4 a5 Z) (r' m b2 b3 b4 b5 w)) (hk170 : ∀ (a2 : Int) (a3 : Int) (a4 : Int) (Z : zS) (b2 : Int32) (b3 : Int32) (b4 : Int32) (w : gW), b2 = Int32.ofInt a2 → b3 = Int32.ofInt a3 → b4 = Int32.ofInt a4 → oAt 7 lyZ w m (cvZ Z) → wF m (m + 27) w0 w → zR E (k170 a2 a3 a4 Z) (k170' m b2 b3 b4 w)) (hk143 : ∀ (a1 : Int) (a2 : Int) (a3 : Int) (Z : zS) (b1 : Int32) (b2 : Int32) (b3 : Int32) (w : gW), b1 = Int32.ofInt a1 → b2 = Int32.ofInt a2 → b3 = Int32.ofInt a3 → oAt 7 lyZ w m (cvZ Z) → wF m (m + 27) w0 w → zR E (k143 a1 a2 a3 Z) (k143' b1 b2 b3 w)) (hv1 : v1' = Int32.ofInt v1) (hv3 : v3' = Int32.ofInt v3) (hv5 : v5' = Int32.ofInt v5) (hv6 : v6' = Int32.ofInt v6) (hv7 : v7' = Int32.ofInt v7) (h_w : oAt 7 lyZ w' m (cvZ w)) (f_w : wF m (m + 27) w0 w') : zR E (zX7_table_b154 F r k170 k143 v1 v3 v5 v6 v7 w) (mX7_table_b154 F r' k170' k143' m v1' v3' v5' v6' v7' w') := by
  unfold zX7_table_b154 mX7_table_b154
  exact (R_O h_w
  (R_C0 (rX7_set hv5 hv6 hv7 h_w) f_w (fun q161 q161' h_q161 f_q161 =>
  (hr _ _ _ _ _ _ _ _ _ _ hv1 hv3 hv5 (eAdd hv6 (eL (by decide) : (1 : Int32) = Int32.ofInt (1 : Int))) h_q161 f_q161))))
set_option maxRecDepth 100000 in
theorem rX7_table_b131 {F m : Nat} {E : (Int × zS) → (Int32 × gW) → Prop} {w0 : gW} {r : Int → Int → Int → Int → zS → Option (Int × zS)} {r' : Nat → Int32 → Int32 → Int32 → Int32 → gW → Option (Int32 × gW)} {k170 : Int → Int → Int → zS → Option (Int × zS)} {k170' : Nat → Int32 → Int32 → Int32 → gW → Option (Int32 × gW)} {k143 : Int → Int → Int → zS → Option (Int × zS)} {k143' : Int32 → Int32 → Int32 → gW → Option (Int32 × gW)} {v1 : Int} {v1' : Int32} {v3 : Int} {v3' : Int32} {v5 : Int} {v5' : Int32} {v6 : Int} {v6' : Int32} {v7 : Int} {v7' : Int32} {w : zS} {w' : gW} (hr : ∀ (a2 : Int) (a3 : Int) (a4 : Int) (a5 : Int) (Z : zS) (b2 : Int32) (b3 : Int32) (b4 : Int32) (b5 : Int32) (w : gW), b2 = Int32.ofInt a2 → b3 = Int32.ofInt a3 → b4 = Int32.ofInt a4 → b5 = Int32.ofInt a5 → oAt 7 lyZ w m (cvZ Z) → wF m (m + 27) w0 w → zR E (r a2 a3 a4 a5 Z) (r' m b2 b3 b4 b5 w)) (hk170 : ∀ (a2 : Int) (a3 : Int) (a4 : Int) (Z : zS) (b2 : Int32) (b3 : Int32) (b4 : Int32) (w : gW), b2 = Int32.ofInt a2 → b3 = Int32.ofInt a3 → b4 = Int32.ofInt a4 → oAt 7 lyZ w m (cvZ Z) → wF m (m + 27) w0 w → zR E (k170 a2 a3 a4 Z) (k170' m b2 b3 b4 w)) (hk143 : ∀ (a1 : Int) (a2 : Int) (a3 : Int) (Z : zS) (b1 : Int32) (b2 : Int32) (b3 : Int32) (w : gW), b1 = Int32.ofInt a1 → b2 = Int32.ofInt a2 → b3 = Int32.ofInt a3 → oAt 7 lyZ w m (cvZ Z) → wF m (m + 27) w0 w → zR E (k143 a1 a2 a3 Z) (k143' b1 b2 b3 w)) (hv1 : v1' = Int32.ofInt v1) (hv3 : v3' = Int32.ofInt v3) (hv5 : v5' = Int32.ofInt v5) (hv6 : v6' = Int32.ofInt v6) (hv7 : v7' = Int32.ofInt v7) (h_w : oAt 7 lyZ w' m (cvZ w)) (f_w : wF m (m + 27) w0 w') : zR E (zX7_table_b131 F r k170 k143 v1 v3 v5 v6 v7 w) (mX7_table_b131 F r' k170' k143' m v1' v3' v5' v6' v7' w') := by
  unfold zX7_table_b131 mX7_table_b131
  exact (R_Eq hv6 (eL (by decide) : (0 : Int32) = Int32.ofInt (0 : Int))
  (R_Eq hv7 hv5
    (rX7_table_b154 hr hk170 hk143 hv1 hv3 hv5 hv6 hv7 h_w f_w)
    (hk143 _ _ _ _ _ _ _ _ hv3 hv5 hv6 h_w f_w))
  (rX7_table_b154 hr hk170 hk143 hv1 hv3 hv5 hv6 hv7 h_w f_w))
set_option maxRecDepth 100000 in
theorem rX7_table_h79 {F m : Nat} {E : (Int × zS) → (Int32 × gW) → Prop} {w0 : gW} {r : Int → Int → Int → Int → zS → Option (Int × zS)} {r' : Nat → Int32 → Int32 → Int32 → Int32 → gW → Option (Int32 × gW)} {k170 : Int → Int → Int → zS → Option (Int × zS)} {k170' : Nat → Int32 → Int32 → Int32 → gW → Option (Int32 × gW)} {k143 : Int → Int → Int → zS → Option (Int × zS)} {k143' : Int32 → Int32 → Int32 → gW → Option (Int32 × gW)} {v1 : Int} {v1' : Int32} {v3 : Int} {v3' : Int32} {v5 : Int} {v5' : Int32} {v6 : Int} {v6' : Int32} {w : zS} {w' : gW} (hr : ∀ (a2 : Int) (a3 : Int) (a4 : Int) (a5 : Int) (Z : zS) (b2 : Int32) (b3 : Int32) (b4 : Int32) (b5 : Int32) (w : gW), b2 = Int32.ofInt a2 → b3 = Int32.ofInt a3 → b4 = Int32.ofInt a4 → b5 = Int32.ofInt a5 → oAt 7 lyZ w m (cvZ Z) → wF m (m + 27) w0 w → zR E (r a2 a3 a4 a5 Z) (r' m b2 b3 b4 b5 w)) (hk170 : ∀ (a2 : Int) (a3 : Int) (a4 : Int) (Z : zS) (b2 : Int32) (b3 : Int32) (b4 : Int32) (w : gW), b2 = Int32.ofInt a2 → b3 = Int32.ofInt a3 → b4 = Int32.ofInt a4 → oAt 7 lyZ w m (cvZ Z) → wF m (m + 27) w0 w → zR E (k170 a2 a3 a4 Z) (k170' m b2 b3 b4 w)) (hk143 : ∀ (a1 : Int) (a2 : Int) (a3 : Int) (Z : zS) (b1 : Int32) (b2 : Int32) (b3 : Int32) (w : gW), b1 = Int32.ofInt a1 → b2 = Int32.ofInt a2 → b3 = Int32.ofInt a3 → oAt 7 lyZ w m (cvZ Z) → wF m (m + 27) w0 w → zR E (k143 a1 a2 a3 Z) (k143' b1 b2 b3 w)) (hv1 : v1' = Int32.ofInt v1) (hv3 : v3' = Int32.ofInt v3) (hv5 : v5' = Int32.ofInt v5) (hv6 : v6' = Int32.ofInt v6) (h_w : oAt 7 lyZ w' m (cvZ w)) (f_w : wF m (m + 27) w0 w') : zR E (zX7_table_h79 F r k170 k143 v1 v3 v5 v6 w) (mX7_table_h79 F r' k170' k143' m v1' v3' v5' v6' w') := by
  unfold zX7_table_h79 mX7_table_h79
  exact (R_Le hv3 hv6
  (hk170 _ _ _ _ _ _ _ _ hv1 hv3 hv5 h_w f_w)
  (R_FR h_w (k := 6) rfl
    (R_Ld h_w (k := 6) rfl (by decide) (eAdd (eAdd (eMul (eL (by decide) : (144 : Int32) = Int32.ofInt (144 : Int)) hv1) (eMul hv3 hv5)) hv6) rfl (fun t102 t102' ht102 =>
    (R_C1 (rX7_in (congrArg Int32.toInt64 ht102) rfl (congrArg Int32.toInt64 (eSub hv3 (eL (by decide) : (1 : Int32) = Int32.ofInt (1 : Int)))) h_w) f_w (fun q113_1 q113_2 q113_1' q113_2' hq113 h_q113_2 f_q113_2 =>
    (R_Eq hq113 (eL (by decide) : (0 : Int32) = Int32.ofInt (0 : Int))
    (hk143 _ _ _ _ _ _ _ _ hv3 hv5 hv6 h_q113_2 f_q113_2)
    (R_Eq hv5 (eL (by decide) : (0 : Int32) = Int32.ofInt (0 : Int))
      (R_Eq ht102 hv6
        (rX7_table_b131 hr hk170 hk143 hv1 hv3 hv5 hv6 ht102 h_q113_2 f_q113_2)
        (hk143 _ _ _ _ _ _ _ _ hv3 hv5 hv6 h_q113_2 f_q113_2))
      (rX7_table_b131 hr hk170 hk143 hv1 hv3 hv5 hv6 ht102 h_q113_2 f_q113_2)))))))))
set_option maxRecDepth 100000 in
theorem rX7_table_l79 {F m : Nat} {E : (Int × zS) → (Int32 × gW) → Prop} {w0 : gW} {k170 : Int → Int → Int → zS → Option (Int × zS)} {k170' : Nat → Int32 → Int32 → Int32 → gW → Option (Int32 × gW)} {k143 : Int → Int → Int → zS → Option (Int × zS)} {k143' : Int32 → Int32 → Int32 → gW → Option (Int32 × gW)} (hk170 : ∀ (a2 : Int) (a3 : Int) (a4 : Int) (Z : zS) (b2 : Int32) (b3 : Int32) (b4 : Int32) (w : gW), b2 = Int32.ofInt a2 → b3 = Int32.ofInt a3 → b4 = Int32.ofInt a4 → oAt 7 lyZ w m (cvZ Z) → wF m (m + 27) w0 w → zR E (k170 a2 a3 a4 Z) (k170' m b2 b3 b4 w)) (hk143 : ∀ (a1 : Int) (a2 : Int) (a3 : Int) (Z : zS) (b1 : Int32) (b2 : Int32) (b3 : Int32) (w : gW), b1 = Int32.ofInt a1 → b2 = Int32.ofInt a2 → b3 = Int32.ofInt a3 → oAt 7 lyZ w m (cvZ Z) → wF m (m + 27) w0 w → zR E (k143 a1 a2 a3 Z) (k143' b1 b2 b3 w)) : ∀ (n : Nat) (v1 : Int) (v3 : Int) (v5 : Int) (v6 : Int) (w : zS) (v1' : Int32) (v3' : Int32) (v5' : Int32) (v6' : Int32) (w' : gW), v1' = Int32.ofInt v1 → v3' = Int32.ofInt v3 → v5' = Int32.ofInt v5 → v6' = Int32.ofInt v6 → oAt 7 lyZ w' m (cvZ w) → wF m (m + 27) w0 w' → zR E (zX7_table_l79 F k170 k143 n v1 v3 v5 v6 w) (mX7_table_l79 F k170' k143' n m v1' v3' v5' v6' w') := by
  intro n
  induction n with
  | zero => intros; exact R_none
  | succ n ih =>
    intro v1 v3 v5 v6 w v1' v3' v5' v6' w' hv1 hv3 hv5 hv6 h_w f_w
    exact rX7_table_h79 ih hk170 hk143 hv1 hv3 hv5 hv6 h_w f_w
set_option maxRecDepth 100000 in
theorem rX7_table_h70 {F m : Nat} {E : (Int × zS) → (Int32 × gW) → Prop} {w0 : gW} {r : Int → Int → Int → zS → Option (Int × zS)} {r' : Nat → Int32 → Int32 → Int32 → gW → Option (Int32 × gW)} {k176 : Int → zS → Option (Int × zS)} {k176' : Nat → Int32 → gW → Option (Int32 × gW)} {k143 : Int → Int → Int → zS → Option (Int × zS)} {k143' : Int32 → Int32 → Int32 → gW → Option (Int32 × gW)} {v1 : Int} {v1' : Int32} {v3 : Int} {v3' : Int32} {v5 : Int} {v5' : Int32} {w : zS} {w' : gW} (hr : ∀ (a2 : Int) (a3 : Int) (a4 : Int) (Z : zS) (b2 : Int32) (b3 : Int32) (b4 : Int32) (w : gW), b2 = Int32.ofInt a2 → b3 = Int32.ofInt a3 → b4 = Int32.ofInt a4 → oAt 7 lyZ w m (cvZ Z) → wF m (m + 27) w0 w → zR E (r a2 a3 a4 Z) (r' m b2 b3 b4 w)) (hk176 : ∀ (a2 : Int) (Z : zS) (b2 : Int32) (w : gW), b2 = Int32.ofInt a2 → oAt 7 lyZ w m (cvZ Z) → wF m (m + 27) w0 w → zR E (k176 a2 Z) (k176' m b2 w)) (hk143 : ∀ (a1 : Int) (a2 : Int) (a3 : Int) (Z : zS) (b1 : Int32) (b2 : Int32) (b3 : Int32) (w : gW), b1 = Int32.ofInt a1 → b2 = Int32.ofInt a2 → b3 = Int32.ofInt a3 → oAt 7 lyZ w m (cvZ Z) → wF m (m + 27) w0 w → zR E (k143 a1 a2 a3 Z) (k143' b1 b2 b3 w)) (hv1 : v1' = Int32.ofInt v1) (hv3 : v3' = Int32.ofInt v3) (hv5 : v5' = Int32.ofInt v5) (h_w : oAt 7 lyZ w' m (cvZ w)) (f_w : wF m (m + 27) w0 w') : zR E (zX7_table_h70 F r k176 k143 v1 v3 v5 w) (mX7_table_h70 F r' k176' k143' m v1' v3' v5' w') := by
  unfold zX7_table_h70 mX7_table_h70
  exact (R_Le hv3 hv5
  (hk176 _ _ _ _ hv3 h_w f_w)
  (rX7_table_l79 (by exact (fun v1 v3 v5 w v1' v3' v5' w' hv1 hv3 hv5 h_w f_w =>
      (hr _ _ _ _ _ _ _ _ hv1 hv3 (eAdd hv5 (eL (by decide) : (1 : Int32) = Int32.ofInt (1 : Int))) h_w f_w))) (by exact (fun v3 v5 v6 w v3' v5' v6' w' hv3 hv5 hv6 h_w f_w =>
      (hk143 _ _ _ _ _ _ _ _ hv3 hv5 hv6 h_w f_w))) F _ _ _ _ _ _ _ _ _ _ hv1 hv3 hv5 (eL (by decide) : (0 : Int32) = Int32.ofInt (0 : Int)) h_w f_w))
set_option maxRecDepth 100000 in
theorem rX7_table_l70 {F m : Nat} {E : (Int × zS) → (Int32 × gW) → Prop} {w0 : gW} {k176 : Int → zS → Option (Int × zS)} {k176' : Nat → Int32 → gW → Option (Int32 × gW)} {k143 : Int → Int → Int → zS → Option (Int × zS)} {k143' : Int32 → Int32 → Int32 → gW → Option (Int32 × gW)} (hk176 : ∀ (a2 : Int) (Z : zS) (b2 : Int32) (w : gW), b2 = Int32.ofInt a2 → oAt 7 lyZ w m (cvZ Z) → wF m (m + 27) w0 w → zR E (k176 a2 Z) (k176' m b2 w)) (hk143 : ∀ (a1 : Int) (a2 : Int) (a3 : Int) (Z : zS) (b1 : Int32) (b2 : Int32) (b3 : Int32) (w : gW), b1 = Int32.ofInt a1 → b2 = Int32.ofInt a2 → b3 = Int32.ofInt a3 → oAt 7 lyZ w m (cvZ Z) → wF m (m + 27) w0 w → zR E (k143 a1 a2 a3 Z) (k143' b1 b2 b3 w)) : ∀ (n : Nat) (v1 : Int) (v3 : Int) (v5 : Int) (w : zS) (v1' : Int32) (v3' : Int32) (v5' : Int32) (w' : gW), v1' = Int32.ofInt v1 → v3' = Int32.ofInt v3 → v5' = Int32.ofInt v5 → oAt 7 lyZ w' m (cvZ w) → wF m (m + 27) w0 w' → zR E (zX7_table_l70 F k176 k143 n v1 v3 v5 w) (mX7_table_l70 F k176' k143' n m v1' v3' v5' w') := by
  intro n
  induction n with
  | zero => intros; exact R_none
  | succ n ih =>
    intro v1 v3 v5 w v1' v3' v5' w' hv1 hv3 hv5 h_w f_w
    exact rX7_table_h70 ih hk176 hk143 hv1 hv3 hv5 h_w f_w
set_option maxRecDepth 100000 in
theorem rX7_table_h185 {F m : Nat} {w0 : gW} {r : Int → Int → Int → zS → Option (Int × zS)} {r' : Nat → Int32 → Int32 → Int32 → gW → Option (Int32 × gW)} {k269 : Int → Int → zS → Option (Int × zS)} {k269' : Nat → Int32 → Int32 → gW → Option (Int32 × gW)} {v3 : Int} {v3' : Int32} {v5 : Int} {v5' : Int32} {v6 : Int} {v6' : Int32} {w : zS} {w' : gW} (hr : ∀ (a2 : Int) (a3 : Int) (a4 : Int) (Z : zS) (b2 : Int32) (b3 : Int32) (b4 : Int32) (w : gW), b2 = Int32.ofInt a2 → b3 = Int32.ofInt a3 → b4 = Int32.ofInt a4 → oAt 7 lyZ w m (cvZ Z) → wF m (m + 27) w0 w → zR (E1 m w0) (r a2 a3 a4 Z) (r' m b2 b3 b4 w)) (hk269 : ∀ (a2 : Int) (a3 : Int) (Z : zS) (b2 : Int32) (b3 : Int32) (w : gW), b2 = Int32.ofInt a2 → b3 = Int32.ofInt a3 → oAt 7 lyZ w m (cvZ Z) → wF m (m + 27) w0 w → zR (E1 m w0) (k269 a2 a3 Z) (k269' m b2 b3 w)) (hv3 : v3' = Int32.ofInt v3) (hv5 : v5' = Int32.ofInt v5) (hv6 : v6' = Int32.ofInt v6) (h_w : oAt 7 lyZ w' m (cvZ w)) (f_w : wF m (m + 27) w0 w') : zR (E1 m w0) (zX7_table_h185 F r k269 v3 v5 v6 w) (mX7_table_h185 F r' k269' m v3' v5' v6' w') := by
  unfold zX7_table_h185 mX7_table_h185
  exact (R_Le (eMul (eMul hv3 hv3) hv3) hv6
  (hk269 _ _ _ _ _ _ hv3 hv5 h_w f_w)
  (R_Div hv6 (eMul hv3 hv3) (fun t200 t200' ht200 =>
    (R_Div hv6 hv3 (fun t206 t206' ht206 =>
    (R_Rem ht206 hv3 (fun t208 t208' ht208 =>
    (R_Rem hv6 hv3 (fun t214 t214' ht214 =>
    (R_O h_w
    (R_C1 (rX7_prod hv5 ht200 ht208 h_w) f_w (fun q227_1 q227_2 q227_1' q227_2' hq227 h_q227_2 f_q227_2 =>
    (R_O h_q227_2
    (R_C1 (rX7_prod hv5 hq227 ht214 h_q227_2) f_q227_2 (fun q232_1 q232_2 q232_1' q232_2' hq232 h_q232_2 f_q232_2 =>
    (R_O h_q232_2
    (R_C1 (rX7_prod hv5 ht208 ht214 h_q232_2) f_q232_2 (fun q247_1 q247_2 q247_1' q247_2' hq247 h_q247_2 f_q247_2 =>
    (R_O h_q247_2
    (R_C1 (rX7_prod hv5 ht200 hq247 h_q247_2) f_q247_2 (fun q250_1 q250_2 q250_1' q250_2' hq250 h_q250_2 f_q250_2 =>
    (R_Eq hq232 hq250
    (hr _ _ _ _ _ _ _ _ hv3 hv5 (eAdd hv6 (eL (by decide) : (1 : Int32) = Int32.ofInt (1 : Int))) h_q250_2 f_q250_2)
    (R_ret1 (eSub (eL (by decide) : (-1100 : Int32) = Int32.ofInt (-1100 : Int)) hv6) h_q250_2 f_q250_2)))))))))))))))))))))))
set_option maxRecDepth 100000 in
theorem rX7_table_l185 {F m : Nat} {w0 : gW} {k269 : Int → Int → zS → Option (Int × zS)} {k269' : Nat → Int32 → Int32 → gW → Option (Int32 × gW)} (hk269 : ∀ (a2 : Int) (a3 : Int) (Z : zS) (b2 : Int32) (b3 : Int32) (w : gW), b2 = Int32.ofInt a2 → b3 = Int32.ofInt a3 → oAt 7 lyZ w m (cvZ Z) → wF m (m + 27) w0 w → zR (E1 m w0) (k269 a2 a3 Z) (k269' m b2 b3 w)) : ∀ (n : Nat) (v3 : Int) (v5 : Int) (v6 : Int) (w : zS) (v3' : Int32) (v5' : Int32) (v6' : Int32) (w' : gW), v3' = Int32.ofInt v3 → v5' = Int32.ofInt v5 → v6' = Int32.ofInt v6 → oAt 7 lyZ w' m (cvZ w) → wF m (m + 27) w0 w' → zR (E1 m w0) (zX7_table_l185 F k269 n v3 v5 v6 w) (mX7_table_l185 F k269' n m v3' v5' v6' w') := by
  intro n
  induction n with
  | zero => intros; exact R_none
  | succ n ih =>
    intro v3 v5 v6 w v3' v5' v6' w' hv3 hv5 hv6 h_w f_w
    exact rX7_table_h185 ih hk269 hv3 hv5 hv6 h_w f_w
set_option maxRecDepth 100000 in
theorem rX7_table_b313 {F m : Nat} {E : (Int × zS) → (Int32 × gW) → Prop} {w0 : gW} {r : Int → Int → Int → Int → Int → zS → Option (Int × zS)} {r' : Nat → Int32 → Int32 → Int32 → Int32 → Int32 → gW → Option (Int32 × gW)} {k321 : Int → Int → Int → Int → zS → Option (Int × zS)} {k321' : Nat → Int32 → Int32 → Int32 → Int32 → gW → Option (Int32 × gW)} {v3 : Int} {v3' : Int32} {v5 : Int} {v5' : Int32} {v6 : Int} {v6' : Int32} {v8 : Int} {v8' : Int32} {s0 : Int} {s0' : Int32} {w : zS} {w' : gW} (hr : ∀ (a2 : Int) (a3 : Int) (a4 : Int) (a5 : Int) (a6 : Int) (Z : zS) (b2 : Int32) (b3 : Int32) (b4 : Int32) (b5 : Int32) (b6 : Int32) (w : gW), b2 = Int32.ofInt a2 → b3 = Int32.ofInt a3 → b4 = Int32.ofInt a4 → b5 = Int32.ofInt a5 → b6 = Int32.ofInt a6 → oAt 7 lyZ w m (cvZ Z) → wF m (m + 27) w0 w → zR E (r a2 a3 a4 a5 a6 Z) (r' m b2 b3 b4 b5 b6 w)) (hk321 : ∀ (a2 : Int) (a3 : Int) (a4 : Int) (a5 : Int) (Z : zS) (b2 : Int32) (b3 : Int32) (b4 : Int32) (b5 : Int32) (w : gW), b2 = Int32.ofInt a2 → b3 = Int32.ofInt a3 → b4 = Int32.ofInt a4 → b5 = Int32.ofInt a5 → oAt 7 lyZ w m (cvZ Z) → wF m (m + 27) w0 w → zR E (k321 a2 a3 a4 a5 Z) (k321' m b2 b3 b4 b5 w)) (hv3 : v3' = Int32.ofInt v3) (hv5 : v5' = Int32.ofInt v5) (hv6 : v6' = Int32.ofInt v6) (hv8 : v8' = Int32.ofInt v8) (hs0 : s0' = Int32.ofInt s0) (h_w : oAt 7 lyZ w' m (cvZ w)) (f_w : wF m (m + 27) w0 w') : zR E (zX7_table_b313 F r k321 v3 v5 v6 v8 s0 w) (mX7_table_b313 F r' k321' m v3' v5' v6' v8' s0' w') := by
  unfold zX7_table_b313 mX7_table_b313
  exact (hr _ _ _ _ _ _ _ _ _ _ _ _ hv3 hv5 hv6 hs0 (eAdd hv8 (eL (by decide) : (1 : Int32) = Int32.ofInt (1 : Int))) h_w f_w)
set_option maxRecDepth 100000 in
theorem rX7_table_b308 {F m : Nat} {E : (Int × zS) → (Int32 × gW) → Prop} {w0 : gW} {r : Int → Int → Int → Int → Int → zS → Option (Int × zS)} {r' : Nat → Int32 → Int32 → Int32 → Int32 → Int32 → gW → Option (Int32 × gW)} {k321 : Int → Int → Int → Int → zS → Option (Int × zS)} {k321' : Nat → Int32 → Int32 → Int32 → Int32 → gW → Option (Int32 × gW)} {v3 : Int} {v3' : Int32} {v5 : Int} {v5' : Int32} {v6 : Int} {v6' : Int32} {v8 : Int} {v8' : Int32} {w : zS} {w' : gW} (hr : ∀ (a2 : Int) (a3 : Int) (a4 : Int) (a5 : Int) (a6 : Int) (Z : zS) (b2 : Int32) (b3 : Int32) (b4 : Int32) (b5 : Int32) (b6 : Int32) (w : gW), b2 = Int32.ofInt a2 → b3 = Int32.ofInt a3 → b4 = Int32.ofInt a4 → b5 = Int32.ofInt a5 → b6 = Int32.ofInt a6 → oAt 7 lyZ w m (cvZ Z) → wF m (m + 27) w0 w → zR E (r a2 a3 a4 a5 a6 Z) (r' m b2 b3 b4 b5 b6 w)) (hk321 : ∀ (a2 : Int) (a3 : Int) (a4 : Int) (a5 : Int) (Z : zS) (b2 : Int32) (b3 : Int32) (b4 : Int32) (b5 : Int32) (w : gW), b2 = Int32.ofInt a2 → b3 = Int32.ofInt a3 → b4 = Int32.ofInt a4 → b5 = Int32.ofInt a5 → oAt 7 lyZ w m (cvZ Z) → wF m (m + 27) w0 w → zR E (k321 a2 a3 a4 a5 Z) (k321' m b2 b3 b4 b5 w)) (hv3 : v3' = Int32.ofInt v3) (hv5 : v5' = Int32.ofInt v5) (hv6 : v6' = Int32.ofInt v6) (hv8 : v8' = Int32.ofInt v8) (h_w : oAt 7 lyZ w' m (cvZ w)) (f_w : wF m (m + 27) w0 w') : zR E (zX7_table_b308 F r k321 v3 v5 v6 v8 w) (mX7_table_b308 F r' k321' m v3' v5' v6' v8' w') := by
  unfold zX7_table_b308 mX7_table_b308
  exact (rX7_table_b313 hr hk321 hv3 hv5 hv6 hv8 (eL (by decide) : (1 : Int32) = Int32.ofInt (1 : Int)) h_w f_w)
set_option maxRecDepth 100000 in
theorem rX7_table_h284 {F m : Nat} {E : (Int × zS) → (Int32 × gW) → Prop} {w0 : gW} {r : Int → Int → Int → Int → Int → zS → Option (Int × zS)} {r' : Nat → Int32 → Int32 → Int32 → Int32 → Int32 → gW → Option (Int32 × gW)} {k321 : Int → Int → Int → Int → zS → Option (Int × zS)} {k321' : Nat → Int32 → Int32 → Int32 → Int32 → gW → Option (Int32 × gW)} {v3 : Int} {v3' : Int32} {v5 : Int} {v5' : Int32} {v6 : Int} {v6' : Int32} {v7 : Int} {v7' : Int32} {v8 : Int} {v8' : Int32} {w : zS} {w' : gW} (hr : ∀ (a2 : Int) (a3 : Int) (a4 : Int) (a5 : Int) (a6 : Int) (Z : zS) (b2 : Int32) (b3 : Int32) (b4 : Int32) (b5 : Int32) (b6 : Int32) (w : gW), b2 = Int32.ofInt a2 → b3 = Int32.ofInt a3 → b4 = Int32.ofInt a4 → b5 = Int32.ofInt a5 → b6 = Int32.ofInt a6 → oAt 7 lyZ w m (cvZ Z) → wF m (m + 27) w0 w → zR E (r a2 a3 a4 a5 a6 Z) (r' m b2 b3 b4 b5 b6 w)) (hk321 : ∀ (a2 : Int) (a3 : Int) (a4 : Int) (a5 : Int) (Z : zS) (b2 : Int32) (b3 : Int32) (b4 : Int32) (b5 : Int32) (w : gW), b2 = Int32.ofInt a2 → b3 = Int32.ofInt a3 → b4 = Int32.ofInt a4 → b5 = Int32.ofInt a5 → oAt 7 lyZ w m (cvZ Z) → wF m (m + 27) w0 w → zR E (k321 a2 a3 a4 a5 Z) (k321' m b2 b3 b4 b5 w)) (hv3 : v3' = Int32.ofInt v3) (hv5 : v5' = Int32.ofInt v5) (hv6 : v6' = Int32.ofInt v6) (hv7 : v7' = Int32.ofInt v7) (hv8 : v8' = Int32.ofInt v8) (h_w : oAt 7 lyZ w' m (cvZ w)) (f_w : wF m (m + 27) w0 w') : zR E (zX7_table_h284 F r k321 v3 v5 v6 v7 v8 w) (mX7_table_h284 F r' k321' m v3' v5' v6' v7' v8' w') := by
  unfold zX7_table_h284 mX7_table_h284
  exact (R_Le hv3 hv8
  (hk321 _ _ _ _ _ _ _ _ _ _ hv3 hv5 hv6 hv7 h_w f_w)
  (R_Eq hv7 (eL (by decide) : (0 : Int32) = Int32.ofInt (0 : Int))
    (R_O h_w
      (R_C1 (rX7_prod hv5 hv6 hv8 h_w) f_w (fun q302_1 q302_2 q302_1' q302_2' hq302 h_q302_2 f_q302_2 =>
      (R_Eq hq302 (eL (by decide) : (0 : Int32) = Int32.ofInt (0 : Int))
      (rX7_table_b308 hr hk321 hv3 hv5 hv6 hv8 h_q302_2 f_q302_2)
      (rX7_table_b313 hr hk321 hv3 hv5 hv6 hv8 (eL (by decide) : (0 : Int32) = Int32.ofInt (0 : Int)) h_q302_2 f_q302_2)))))
    (rX7_table_b308 hr hk321 hv3 hv5 hv6 hv8 h_w f_w)))
set_option maxRecDepth 100000 in
theorem rX7_table_l284 {F m : Nat} {E : (Int × zS) → (Int32 × gW) → Prop} {w0 : gW} {k321 : Int → Int → Int → Int → zS → Option (Int × zS)} {k321' : Nat → Int32 → Int32 → Int32 → Int32 → gW → Option (Int32 × gW)} (hk321 : ∀ (a2 : Int) (a3 : Int) (a4 : Int) (a5 : Int) (Z : zS) (b2 : Int32) (b3 : Int32) (b4 : Int32) (b5 : Int32) (w : gW), b2 = Int32.ofInt a2 → b3 = Int32.ofInt a3 → b4 = Int32.ofInt a4 → b5 = Int32.ofInt a5 → oAt 7 lyZ w m (cvZ Z) → wF m (m + 27) w0 w → zR E (k321 a2 a3 a4 a5 Z) (k321' m b2 b3 b4 b5 w)) : ∀ (n : Nat) (v3 : Int) (v5 : Int) (v6 : Int) (v7 : Int) (v8 : Int) (w : zS) (v3' : Int32) (v5' : Int32) (v6' : Int32) (v7' : Int32) (v8' : Int32) (w' : gW), v3' = Int32.ofInt v3 → v5' = Int32.ofInt v5 → v6' = Int32.ofInt v6 → v7' = Int32.ofInt v7 → v8' = Int32.ofInt v8 → oAt 7 lyZ w' m (cvZ w) → wF m (m + 27) w0 w' → zR E (zX7_table_l284 F k321 n v3 v5 v6 v7 v8 w) (mX7_table_l284 F k321' n m v3' v5' v6' v7' v8' w') := by
  intro n
  induction n with
  | zero => intros; exact R_none
  | succ n ih =>
    intro v3 v5 v6 v7 v8 w v3' v5' v6' v7' v8' w' hv3 hv5 hv6 hv7 hv8 h_w f_w
    exact rX7_table_h284 ih hk321 hv3 hv5 hv6 hv7 hv8 h_w f_w
set_option maxRecDepth 100000 in
theorem rX7_table_h272 {F m : Nat} {w0 : gW} {r : Int → Int → Int → zS → Option (Int × zS)} {r' : Nat → Int32 → Int32 → Int32 → gW → Option (Int32 × gW)} {k339 : Int → zS → Option (Int × zS)} {k339' : Nat → Int32 → gW → Option (Int32 × gW)} {v3 : Int} {v3' : Int32} {v5 : Int} {v5' : Int32} {v6 : Int} {v6' : Int32} {w : zS} {w' : gW} (hr : ∀ (a2 : Int) (a3 : Int) (a4 : Int) (Z : zS) (b2 : Int32) (b3 : Int32) (b4 : Int32) (w : gW), b2 = Int32.ofInt a2 → b3 = Int32.ofInt a3 → b4 = Int32.ofInt a4 → oAt 7 lyZ w m (cvZ Z) → wF m (m + 27) w0 w → zR (E1 m w0) (r a2 a3 a4 Z) (r' m b2 b3 b4 w)) (hk339 : ∀ (a2 : Int) (Z : zS) (b2 : Int32) (w : gW), b2 = Int32.ofInt a2 → oAt 7 lyZ w m (cvZ Z) → wF m (m + 27) w0 w → zR (E1 m w0) (k339 a2 Z) (k339' m b2 w)) (hv3 : v3' = Int32.ofInt v3) (hv5 : v5' = Int32.ofInt v5) (hv6 : v6' = Int32.ofInt v6) (h_w : oAt 7 lyZ w' m (cvZ w)) (f_w : wF m (m + 27) w0 w') : zR (E1 m w0) (zX7_table_h272 F r k339 v3 v5 v6 w) (mX7_table_h272 F r' k339' m v3' v5' v6' w') := by
  unfold zX7_table_h272 mX7_table_h272
  exact (R_Le hv3 hv6
  (hk339 _ _ _ _ hv3 h_w f_w)
  (rX7_table_l284 (by exact (fun v3 v5 v6 v7 w v3' v5' v6' v7' w' hv3 hv5 hv6 hv7 h_w f_w =>
      (R_Eq hv7 (eL (by decide) : (0 : Int32) = Int32.ofInt (0 : Int))
      (R_ret1 (eSub (eL (by decide) : (-3100 : Int32) = Int32.ofInt (-3100 : Int)) hv6) h_w f_w)
      (hr _ _ _ _ _ _ _ _ hv3 hv5 (eAdd hv6 (eL (by decide) : (1 : Int32) = Int32.ofInt (1 : Int))) h_w f_w)))) F _ _ _ _ _ _ _ _ _ _ _ _ hv3 hv5 hv6 (eL (by decide) : (0 : Int32) = Int32.ofInt (0 : Int)) (eL (by decide) : (0 : Int32) = Int32.ofInt (0 : Int)) h_w f_w))
set_option maxRecDepth 100000 in
theorem rX7_table_l272 {F m : Nat} {w0 : gW} {k339 : Int → zS → Option (Int × zS)} {k339' : Nat → Int32 → gW → Option (Int32 × gW)} (hk339 : ∀ (a2 : Int) (Z : zS) (b2 : Int32) (w : gW), b2 = Int32.ofInt a2 → oAt 7 lyZ w m (cvZ Z) → wF m (m + 27) w0 w → zR (E1 m w0) (k339 a2 Z) (k339' m b2 w)) : ∀ (n : Nat) (v3 : Int) (v5 : Int) (v6 : Int) (w : zS) (v3' : Int32) (v5' : Int32) (v6' : Int32) (w' : gW), v3' = Int32.ofInt v3 → v5' = Int32.ofInt v5 → v6' = Int32.ofInt v6 → oAt 7 lyZ w' m (cvZ w) → wF m (m + 27) w0 w' → zR (E1 m w0) (zX7_table_l272 F k339 n v3 v5 v6 w) (mX7_table_l272 F k339' n m v3' v5' v6' w') := by
  intro n
  induction n with
  | zero => intros; exact R_none
  | succ n ih =>
    intro v3 v5 v6 w v3' v5' v6' w' hv3 hv5 hv6 h_w f_w
    exact rX7_table_h272 ih hk339 hv3 hv5 hv6 h_w f_w
set_option maxRecDepth 100000 in
theorem rX7_table_b143 {F m : Nat} {w0 : gW} {v3 : Int} {v3' : Int32} {v5 : Int} {v5' : Int32} {v6 : Int} {v6' : Int32} {w : zS} {w' : gW} (hv3 : v3' = Int32.ofInt v3) (hv5 : v5' = Int32.ofInt v5) (hv6 : v6' = Int32.ofInt v6) (h_w : oAt 7 lyZ w' m (cvZ w)) (f_w : wF m (m + 27) w0 w') : zR (E1 m w0) (zX7_table_b143 F v3 v5 v6 w) (mX7_table_b143 F v3' v5' v6' w') := by
  unfold zX7_table_b143 mX7_table_b143
  exact (R_ret1 (eSub (eL (by decide) : (-100 : Int32) = Int32.ofInt (-100 : Int)) (eAdd (eMul hv3 hv5) hv6)) h_w f_w)
set_option maxRecDepth 100000 in
theorem rX7_table {F m : Nat} {v1 : Int} {v1' : Int32} {v2 : Int} {v2' : Int32} {v3 : Int} {v3' : Int32} {w : zS} {w' : gW} (hv1 : v1' = Int32.ofInt v1) (hv2 : v2' = Int32.ofInt v2) (hv3 : v3' = Int32.ofInt v3) (h_w : oAt 7 lyZ w' m (cvZ w)) : zR (E1 m w') (zX7_table F v1 v2 v3 w) (mX7_table F m v1' v2' v3' w') := by
  have f_w : wF m (m + 27) w' w' := wF.rf
  unfold zX7_table mX7_table
  exact (R_C1 (rX7_in (congrArg Int32.toInt64 hv1) rfl rfl h_w) f_w (fun q6_1 q6_2 q6_1' q6_2' hq6 h_q6_2 f_q6_2 =>
  (R_Eq hq6 (eL (by decide) : (0 : Int32) = Int32.ofInt (0 : Int))
  (R_ret1 (eL (by decide) : (-1 : Int32) = Int32.ofInt (-1 : Int)) h_q6_2 f_q6_2)
  (R_C1 (rX7_in (congrArg Int32.toInt64 hv2) rfl rfl h_q6_2) f_q6_2 (fun q16_1 q16_2 q16_1' q16_2' hq16 h_q16_2 f_q16_2 =>
    (R_Eq hq16 (eL (by decide) : (0 : Int32) = Int32.ofInt (0 : Int))
    (R_ret1 (eL (by decide) : (-1 : Int32) = Int32.ofInt (-1 : Int)) h_q16_2 f_q16_2)
    (R_C1 (rX7_in (congrArg Int32.toInt64 hv3) rfl rfl h_q16_2) f_q16_2 (fun q28_1 q28_2 q28_1' q28_2' hq28 h_q28_2 f_q28_2 =>
      (R_Eq hq28 (eL (by decide) : (0 : Int32) = Int32.ofInt (0 : Int))
      (R_ret1 (eL (by decide) : (-1 : Int32) = Int32.ofInt (-1 : Int)) h_q28_2 f_q28_2)
      (R_O h_q28_2
        (R_C1 (rX7_faultOf hv1 hv2 (eMul hv3 hv3) h_q28_2) f_q28_2 (fun q42_1 q42_2 q42_1' q42_2' hq42 h_q42_2 f_q42_2 =>
        (R_Le (eL (by decide) : (0 : Int32) = Int32.ofInt (0 : Int)) hq42
        (R_FI h_q42_2 (k := 0) rfl (c := (zI q42_2 0)) rfl (fun t56' ht56 =>
          (R_Eq ht56 (eL (by decide) : (8 : Int32) = Int32.ofInt (8 : Int))
          (R_ret1 (eL (by decide) : (-3 : Int32) = Int32.ofInt (-3 : Int)) h_q42_2 f_q42_2)
          (rX7_table_l70 (by exact (fun v3 w v3' w' hv3 h_w f_w =>
              (R_FI h_w (k := 0) rfl (c := (zI w 0)) rfl (fun t177' ht177 =>
              (rX7_table_l185 (by exact (fun v3 v5 w v3' v5' w' hv3 hv5 h_w f_w =>
                (rX7_table_l272 (by exact (fun v3 w v3' w' hv3 h_w f_w =>
                  (R_O h_w
                  (R_C1 (rX7_added hv3 h_w) f_w (fun q341_1 q341_2 q341_1' q341_2' hq341 h_q341_2 f_q341_2 =>
                  (R_ret1 hq341 h_q341_2 f_q341_2)))))) F _ _ _ _ _ _ _ _ hv3 hv5 (eL (by decide) : (0 : Int32) = Int32.ofInt (0 : Int)) h_w f_w))) F _ _ _ _ _ _ _ _ hv3 ht177 (eL (by decide) : (0 : Int32) = Int32.ofInt (0 : Int)) h_w f_w))))) (by exact (fun v3 v5 v6 w v3' v5' v6' w' hv3 hv5 hv6 h_w f_w =>
              (rX7_table_b143 hv3 hv5 hv6 h_w f_w))) F _ _ _ _ _ _ _ _ hv1 hv3 (eL (by decide) : (0 : Int32) = Int32.ofInt (0 : Int)) h_q42_2 f_q42_2))))
        (R_ret1 hq42 h_q42_2 f_q42_2))))))))))))))
set_option maxRecDepth 100000 in
theorem rX7_twisted_b8 {F m : Nat} {w0 : gW} {w : zS} {w' : gW} (h_w : oAt 7 lyZ w' m (cvZ w)) (f_w : wF m (m + 27) w0 w') : zR (E1 m w0) (zX7_twisted_b8 F w) (mX7_twisted_b8 F w') := by
  unfold zX7_twisted_b8 mX7_twisted_b8
  exact (R_ret1 (eL (by decide) : (0 : Int32) = Int32.ofInt (0 : Int)) h_w f_w)
set_option maxRecDepth 100000 in
theorem rX7_twisted {F m : Nat} {v1 : Int} {v1' : Int32} {v2 : Int} {v2' : Int32} {v3 : Int} {v3' : Int32} {w : zS} {w' : gW} (hv1 : v1' = Int32.ofInt v1) (hv2 : v2' = Int32.ofInt v2) (hv3 : v3' = Int32.ofInt v3) (h_w : oAt 7 lyZ w' m (cvZ w)) : zR (E1 m w') (zX7_twisted F v1 v2 v3 w) (mX7_twisted F m v1' v2' v3' w') := by
  have f_w : wF m (m + 27) w' w' := wF.rf
  unfold zX7_twisted mX7_twisted
  exact (R_Eq hv1 (eL (by decide) : (0 : Int32) = Int32.ofInt (0 : Int))
  (rX7_twisted_b8 h_w f_w)
  (R_Eq hv2 (eL (by decide) : (0 : Int32) = Int32.ofInt (0 : Int))
    (rX7_twisted_b8 h_w f_w)
    (R_FR h_w (k := 25) rfl
      (R_O h_w
      (R_C1 (rX7_placeOf hv1 hv2 hv3 h_w) f_w (fun q20_1 q20_2 q20_1' q20_2' hq20 h_q20_2 f_q20_2 =>
      (R_Ld h_q20_2 (k := 25) rfl (by decide) hq20 rfl (fun t23 t23' ht23 =>
      (R_ret1 ht23 h_q20_2 f_q20_2)))))))))
set_option maxRecDepth 100000 in
theorem rX7_bounds_b153 {F m : Nat} {E : zS → gW → Prop} {w0 : gW} {r : Int → Int → Int → Int → Int → zS → Option zS} {r' : Nat → Int32 → Int32 → Int32 → Int32 → Int32 → gW → Option (gW)} {k162 : Int → Int → Int → Int → zS → Option zS} {k162' : Nat → Int32 → Int32 → Int32 → Int32 → gW → Option (gW)} {v1 : Int} {v1' : Int32} {v2 : Int} {v2' : Int32} {v3 : Int} {v3' : Int32} {v4 : Int} {v4' : Int32} {v5 : Int} {v5' : Int32} {s1 : Int} {s1' : Int32} {s2 : Int} {s2' : Int32} {w : zS} {w' : gW} (hr : ∀ (a2 : Int) (a3 : Int) (a4 : Int) (a5 : Int) (a6 : Int) (Z : zS) (b2 : Int32) (b3 : Int32) (b4 : Int32) (b5 : Int32) (b6 : Int32) (w : gW), b2 = Int32.ofInt a2 → b3 = Int32.ofInt a3 → b4 = Int32.ofInt a4 → b5 = Int32.ofInt a5 → b6 = Int32.ofInt a6 → oAt 7 lyZ w m (cvZ Z) → wF m (m + 27) w0 w → zR E (r a2 a3 a4 a5 a6 Z) (r' m b2 b3 b4 b5 b6 w)) (hk162 : ∀ (a2 : Int) (a3 : Int) (a4 : Int) (a5 : Int) (Z : zS) (b2 : Int32) (b3 : Int32) (b4 : Int32) (b5 : Int32) (w : gW), b2 = Int32.ofInt a2 → b3 = Int32.ofInt a3 → b4 = Int32.ofInt a4 → b5 = Int32.ofInt a5 → oAt 7 lyZ w m (cvZ Z) → wF m (m + 27) w0 w → zR E (k162 a2 a3 a4 a5 Z) (k162' m b2 b3 b4 b5 w)) (hv1 : v1' = Int32.ofInt v1) (hv2 : v2' = Int32.ofInt v2) (hv3 : v3' = Int32.ofInt v3) (hv4 : v4' = Int32.ofInt v4) (hv5 : v5' = Int32.ofInt v5) (hs1 : s1' = Int32.ofInt s1) (hs2 : s2' = Int32.ofInt s2) (h_w : oAt 7 lyZ w' m (cvZ w)) (f_w : wF m (m + 27) w0 w') : zR E (zX7_bounds_b153 F r k162 v1 v2 v3 v4 v5 s1 s2 w) (mX7_bounds_b153 F r' k162' m v1' v2' v3' v4' v5' (some m) s1' s2' w') := by
  unfold zX7_bounds_b153 mX7_bounds_b153
  exact (R_O h_w
  (R_C0 (rX7_addTo hs1 hs2 h_w) f_w (fun q153 q153' h_q153 f_q153 =>
  (hr _ _ _ _ _ _ _ _ _ _ _ _ hv1 hv2 hv3 hv4 (eAdd hv5 (eL (by decide) : (1 : Int32) = Int32.ofInt (1 : Int))) h_q153 f_q153))))
set_option maxRecDepth 100000 in
theorem rX7_bounds_b152 {F m : Nat} {E : zS → gW → Prop} {w0 : gW} {r : Int → Int → Int → Int → Int → zS → Option zS} {r' : Nat → Int32 → Int32 → Int32 → Int32 → Int32 → gW → Option (gW)} {k162 : Int → Int → Int → Int → zS → Option zS} {k162' : Nat → Int32 → Int32 → Int32 → Int32 → gW → Option (gW)} {v1 : Int} {v1' : Int32} {v2 : Int} {v2' : Int32} {v3 : Int} {v3' : Int32} {v4 : Int} {v4' : Int32} {v5 : Int} {v5' : Int32} {s1 : Int} {s1' : Int32} {w : zS} {w' : gW} (hr : ∀ (a2 : Int) (a3 : Int) (a4 : Int) (a5 : Int) (a6 : Int) (Z : zS) (b2 : Int32) (b3 : Int32) (b4 : Int32) (b5 : Int32) (b6 : Int32) (w : gW), b2 = Int32.ofInt a2 → b3 = Int32.ofInt a3 → b4 = Int32.ofInt a4 → b5 = Int32.ofInt a5 → b6 = Int32.ofInt a6 → oAt 7 lyZ w m (cvZ Z) → wF m (m + 27) w0 w → zR E (r a2 a3 a4 a5 a6 Z) (r' m b2 b3 b4 b5 b6 w)) (hk162 : ∀ (a2 : Int) (a3 : Int) (a4 : Int) (a5 : Int) (Z : zS) (b2 : Int32) (b3 : Int32) (b4 : Int32) (b5 : Int32) (w : gW), b2 = Int32.ofInt a2 → b3 = Int32.ofInt a3 → b4 = Int32.ofInt a4 → b5 = Int32.ofInt a5 → oAt 7 lyZ w m (cvZ Z) → wF m (m + 27) w0 w → zR E (k162 a2 a3 a4 a5 Z) (k162' m b2 b3 b4 b5 w)) (hv1 : v1' = Int32.ofInt v1) (hv2 : v2' = Int32.ofInt v2) (hv3 : v3' = Int32.ofInt v3) (hv4 : v4' = Int32.ofInt v4) (hv5 : v5' = Int32.ofInt v5) (hs1 : s1' = Int32.ofInt s1) (h_w : oAt 7 lyZ w' m (cvZ w)) (f_w : wF m (m + 27) w0 w') : zR E (zX7_bounds_b152 F r k162 v1 v2 v3 v4 v5 s1 w) (mX7_bounds_b152 F r' k162' m v1' v2' v3' v4' v5' (some m) s1' w') := by
  unfold zX7_bounds_b152 mX7_bounds_b152
  exact (rX7_bounds_b153 hr hk162 hv1 hv2 hv3 hv4 hv5 hs1 (eL (by decide) : (0 : Int32) = Int32.ofInt (0 : Int)) h_w f_w)
set_option maxRecDepth 100000 in
theorem rX7_bounds_b121 {F m : Nat} {E : zS → gW → Prop} {w0 : gW} {r : Int → Int → Int → Int → Int → zS → Option zS} {r' : Nat → Int32 → Int32 → Int32 → Int32 → Int32 → gW → Option (gW)} {k162 : Int → Int → Int → Int → zS → Option zS} {k162' : Nat → Int32 → Int32 → Int32 → Int32 → gW → Option (gW)} {v1 : Int} {v1' : Int32} {v2 : Int} {v2' : Int32} {v3 : Int} {v3' : Int32} {v4 : Int} {v4' : Int32} {v5 : Int} {v5' : Int32} {v6 : Int} {v6' : Int32} {s1 : Int} {s1' : Int32} {s2 : Int} {s2' : Int32} {w : zS} {w' : gW} (hr : ∀ (a2 : Int) (a3 : Int) (a4 : Int) (a5 : Int) (a6 : Int) (Z : zS) (b2 : Int32) (b3 : Int32) (b4 : Int32) (b5 : Int32) (b6 : Int32) (w : gW), b2 = Int32.ofInt a2 → b3 = Int32.ofInt a3 → b4 = Int32.ofInt a4 → b5 = Int32.ofInt a5 → b6 = Int32.ofInt a6 → oAt 7 lyZ w m (cvZ Z) → wF m (m + 27) w0 w → zR E (r a2 a3 a4 a5 a6 Z) (r' m b2 b3 b4 b5 b6 w)) (hk162 : ∀ (a2 : Int) (a3 : Int) (a4 : Int) (a5 : Int) (Z : zS) (b2 : Int32) (b3 : Int32) (b4 : Int32) (b5 : Int32) (w : gW), b2 = Int32.ofInt a2 → b3 = Int32.ofInt a3 → b4 = Int32.ofInt a4 → b5 = Int32.ofInt a5 → oAt 7 lyZ w m (cvZ Z) → wF m (m + 27) w0 w → zR E (k162 a2 a3 a4 a5 Z) (k162' m b2 b3 b4 b5 w)) (hv1 : v1' = Int32.ofInt v1) (hv2 : v2' = Int32.ofInt v2) (hv3 : v3' = Int32.ofInt v3) (hv4 : v4' = Int32.ofInt v4) (hv5 : v5' = Int32.ofInt v5) (hv6 : v6' = Int32.ofInt v6) (hs1 : s1' = Int32.ofInt s1) (hs2 : s2' = Int32.ofInt s2) (h_w : oAt 7 lyZ w' m (cvZ w)) (f_w : wF m (m + 27) w0 w') : zR E (zX7_bounds_b121 F r k162 v1 v2 v3 v4 v5 v6 s1 s2 w) (mX7_bounds_b121 F r' k162' m v1' v2' v3' v4' v5' v6' (some m) s1' s2' w') := by
  unfold zX7_bounds_b121 mX7_bounds_b121
  exact (R_O h_w
  (R_C0 (rX7_addTo hs1 hs2 h_w) f_w (fun q121 q121' h_q121 f_q121 =>
  (R_FI h_q121 (k := 38) rfl (c := (zI q121 38)) rfl (fun t129' ht129 =>
  (R_O h_q121
  (R_C1 (rX7_prod ht129 hv3 hv4 h_q121) f_q121 (fun q135_1 q135_2 q135_1' q135_2' hq135 h_q135_2 f_q135_2 =>
  (R_Eq hq135 hv1
  (R_Eq hv5 hv2
    (rX7_bounds_b153 hr hk162 hv1 hv2 hv3 hv4 hv5 hv6 (eL (by decide) : (-1 : Int32) = Int32.ofInt (-1 : Int)) h_q135_2 f_q135_2)
    (rX7_bounds_b152 hr hk162 hv1 hv2 hv3 hv4 hv5 hv6 h_q135_2 f_q135_2))
  (rX7_bounds_b152 hr hk162 hv1 hv2 hv3 hv4 hv5 hv6 h_q135_2 f_q135_2))))))))))
set_option maxRecDepth 100000 in
theorem rX7_bounds_b93 {F m : Nat} {E : zS → gW → Prop} {w0 : gW} {r : Int → Int → Int → Int → Int → zS → Option zS} {r' : Nat → Int32 → Int32 → Int32 → Int32 → Int32 → gW → Option (gW)} {k162 : Int → Int → Int → Int → zS → Option zS} {k162' : Nat → Int32 → Int32 → Int32 → Int32 → gW → Option (gW)} {v1 : Int} {v1' : Int32} {v2 : Int} {v2' : Int32} {v3 : Int} {v3' : Int32} {v4 : Int} {v4' : Int32} {v5 : Int} {v5' : Int32} {v6 : Int} {v6' : Int32} {s1 : Int} {s1' : Int32} {s2 : Int} {s2' : Int32} {w : zS} {w' : gW} (hr : ∀ (a2 : Int) (a3 : Int) (a4 : Int) (a5 : Int) (a6 : Int) (Z : zS) (b2 : Int32) (b3 : Int32) (b4 : Int32) (b5 : Int32) (b6 : Int32) (w : gW), b2 = Int32.ofInt a2 → b3 = Int32.ofInt a3 → b4 = Int32.ofInt a4 → b5 = Int32.ofInt a5 → b6 = Int32.ofInt a6 → oAt 7 lyZ w m (cvZ Z) → wF m (m + 27) w0 w → zR E (r a2 a3 a4 a5 a6 Z) (r' m b2 b3 b4 b5 b6 w)) (hk162 : ∀ (a2 : Int) (a3 : Int) (a4 : Int) (a5 : Int) (Z : zS) (b2 : Int32) (b3 : Int32) (b4 : Int32) (b5 : Int32) (w : gW), b2 = Int32.ofInt a2 → b3 = Int32.ofInt a3 → b4 = Int32.ofInt a4 → b5 = Int32.ofInt a5 → oAt 7 lyZ w m (cvZ Z) → wF m (m + 27) w0 w → zR E (k162 a2 a3 a4 a5 Z) (k162' m b2 b3 b4 b5 w)) (hv1 : v1' = Int32.ofInt v1) (hv2 : v2' = Int32.ofInt v2) (hv3 : v3' = Int32.ofInt v3) (hv4 : v4' = Int32.ofInt v4) (hv5 : v5' = Int32.ofInt v5) (hv6 : v6' = Int32.ofInt v6) (hs1 : s1' = Int32.ofInt s1) (hs2 : s2' = Int32.ofInt s2) (h_w : oAt 7 lyZ w' m (cvZ w)) (f_w : wF m (m + 27) w0 w') : zR E (zX7_bounds_b93 F r k162 v1 v2 v3 v4 v5 v6 s1 s2 w) (mX7_bounds_b93 F r' k162' m v1' v2' v3' v4' v5' v6' (some m) s1' s2' w') := by
  unfold zX7_bounds_b93 mX7_bounds_b93
  exact (R_O h_w
  (R_C0 (rX7_addTo hs1 hs2 h_w) f_w (fun q93 q93' h_q93 f_q93 =>
  (R_Eq hv4 hv1
  (R_FI h_q93 (k := 39) rfl (c := (zI q93 39)) rfl (fun t107' ht107 =>
    (R_O h_q93
    (R_C1 (rX7_matrix ht107 hv3 hv5 hv2 h_q93) f_q93 (fun q114_1 q114_2 q114_1' q114_2' hq114 h_q114_2 f_q114_2 =>
    (rX7_bounds_b121 hr hk162 hv1 hv2 hv3 hv4 hv5 hv6 hv6 hq114 h_q114_2 f_q114_2))))))
  (rX7_bounds_b121 hr hk162 hv1 hv2 hv3 hv4 hv5 hv6 hv6 (eL (by decide) : (0 : Int32) = Int32.ofInt (0 : Int)) h_q93 f_q93)))))
set_option maxRecDepth 100000 in
theorem rX7_bounds_b92 {F m : Nat} {E : zS → gW → Prop} {w0 : gW} {r : Int → Int → Int → Int → Int → zS → Option zS} {r' : Nat → Int32 → Int32 → Int32 → Int32 → Int32 → gW → Option (gW)} {k162 : Int → Int → Int → Int → zS → Option zS} {k162' : Nat → Int32 → Int32 → Int32 → Int32 → gW → Option (gW)} {v1 : Int} {v1' : Int32} {v2 : Int} {v2' : Int32} {v3 : Int} {v3' : Int32} {v4 : Int} {v4' : Int32} {v5 : Int} {v5' : Int32} {v6 : Int} {v6' : Int32} {s1 : Int} {s1' : Int32} {w : zS} {w' : gW} (hr : ∀ (a2 : Int) (a3 : Int) (a4 : Int) (a5 : Int) (a6 : Int) (Z : zS) (b2 : Int32) (b3 : Int32) (b4 : Int32) (b5 : Int32) (b6 : Int32) (w : gW), b2 = Int32.ofInt a2 → b3 = Int32.ofInt a3 → b4 = Int32.ofInt a4 → b5 = Int32.ofInt a5 → b6 = Int32.ofInt a6 → oAt 7 lyZ w m (cvZ Z) → wF m (m + 27) w0 w → zR E (r a2 a3 a4 a5 a6 Z) (r' m b2 b3 b4 b5 b6 w)) (hk162 : ∀ (a2 : Int) (a3 : Int) (a4 : Int) (a5 : Int) (Z : zS) (b2 : Int32) (b3 : Int32) (b4 : Int32) (b5 : Int32) (w : gW), b2 = Int32.ofInt a2 → b3 = Int32.ofInt a3 → b4 = Int32.ofInt a4 → b5 = Int32.ofInt a5 → oAt 7 lyZ w m (cvZ Z) → wF m (m + 27) w0 w → zR E (k162 a2 a3 a4 a5 Z) (k162' m b2 b3 b4 b5 w)) (hv1 : v1' = Int32.ofInt v1) (hv2 : v2' = Int32.ofInt v2) (hv3 : v3' = Int32.ofInt v3) (hv4 : v4' = Int32.ofInt v4) (hv5 : v5' = Int32.ofInt v5) (hv6 : v6' = Int32.ofInt v6) (hs1 : s1' = Int32.ofInt s1) (h_w : oAt 7 lyZ w' m (cvZ w)) (f_w : wF m (m + 27) w0 w') : zR E (zX7_bounds_b92 F r k162 v1 v2 v3 v4 v5 v6 s1 w) (mX7_bounds_b92 F r' k162' m v1' v2' v3' v4' v5' v6' (some m) s1' w') := by
  unfold zX7_bounds_b92 mX7_bounds_b92
  exact (rX7_bounds_b93 hr hk162 hv1 hv2 hv3 hv4 hv5 hv6 hs1 (eL (by decide) : (0 : Int32) = Int32.ofInt (0 : Int)) h_w f_w)
set_option maxRecDepth 100000 in
theorem rX7_bounds_h54 {F m : Nat} {E : zS → gW → Prop} {w0 : gW} {r : Int → Int → Int → Int → Int → zS → Option zS} {r' : Nat → Int32 → Int32 → Int32 → Int32 → Int32 → gW → Option (gW)} {k162 : Int → Int → Int → Int → zS → Option zS} {k162' : Nat → Int32 → Int32 → Int32 → Int32 → gW → Option (gW)} {v1 : Int} {v1' : Int32} {v2 : Int} {v2' : Int32} {v3 : Int} {v3' : Int32} {v4 : Int} {v4' : Int32} {v5 : Int} {v5' : Int32} {w : zS} {w' : gW} (hr : ∀ (a2 : Int) (a3 : Int) (a4 : Int) (a5 : Int) (a6 : Int) (Z : zS) (b2 : Int32) (b3 : Int32) (b4 : Int32) (b5 : Int32) (b6 : Int32) (w : gW), b2 = Int32.ofInt a2 → b3 = Int32.ofInt a3 → b4 = Int32.ofInt a4 → b5 = Int32.ofInt a5 → b6 = Int32.ofInt a6 → oAt 7 lyZ w m (cvZ Z) → wF m (m + 27) w0 w → zR E (r a2 a3 a4 a5 a6 Z) (r' m b2 b3 b4 b5 b6 w)) (hk162 : ∀ (a2 : Int) (a3 : Int) (a4 : Int) (a5 : Int) (Z : zS) (b2 : Int32) (b3 : Int32) (b4 : Int32) (b5 : Int32) (w : gW), b2 = Int32.ofInt a2 → b3 = Int32.ofInt a3 → b4 = Int32.ofInt a4 → b5 = Int32.ofInt a5 → oAt 7 lyZ w m (cvZ Z) → wF m (m + 27) w0 w → zR E (k162 a2 a3 a4 a5 Z) (k162' m b2 b3 b4 b5 w)) (hv1 : v1' = Int32.ofInt v1) (hv2 : v2' = Int32.ofInt v2) (hv3 : v3' = Int32.ofInt v3) (hv4 : v4' = Int32.ofInt v4) (hv5 : v5' = Int32.ofInt v5) (h_w : oAt 7 lyZ w' m (cvZ w)) (f_w : wF m (m + 27) w0 w') : zR E (zX7_bounds_h54 F r k162 v1 v2 v3 v4 v5 w) (mX7_bounds_h54 F r' k162' m v1' v2' v3' v4' v5' w') := by
  unfold zX7_bounds_h54 mX7_bounds_h54
  exact (R_FI h_w (k := 37) rfl (c := (zI w 37)) rfl (fun t57' ht57 =>
  (R_Le ht57 hv5
  (hk162 _ _ _ _ _ _ _ _ _ _ hv1 hv2 hv3 hv4 h_w f_w)
  (R_O h_w
    (R_C1 (rX7_placeOf hv3 hv4 hv5 h_w) f_w (fun q69_1 q69_2 q69_1' q69_2' hq69 h_q69_2 f_q69_2 =>
    (R_Eq hv3 hv1
    (R_Eq hv5 hv2
      (rX7_bounds_b93 hr hk162 hv1 hv2 hv3 hv4 hv5 hq69 hq69 (eL (by decide) : (1 : Int32) = Int32.ofInt (1 : Int)) h_q69_2 f_q69_2)
      (rX7_bounds_b92 hr hk162 hv1 hv2 hv3 hv4 hv5 hq69 hq69 h_q69_2 f_q69_2))
    (rX7_bounds_b92 hr hk162 hv1 hv2 hv3 hv4 hv5 hq69 hq69 h_q69_2 f_q69_2))))))))
set_option maxRecDepth 100000 in
theorem rX7_bounds_l54 {F m : Nat} {E : zS → gW → Prop} {w0 : gW} {k162 : Int → Int → Int → Int → zS → Option zS} {k162' : Nat → Int32 → Int32 → Int32 → Int32 → gW → Option (gW)} (hk162 : ∀ (a2 : Int) (a3 : Int) (a4 : Int) (a5 : Int) (Z : zS) (b2 : Int32) (b3 : Int32) (b4 : Int32) (b5 : Int32) (w : gW), b2 = Int32.ofInt a2 → b3 = Int32.ofInt a3 → b4 = Int32.ofInt a4 → b5 = Int32.ofInt a5 → oAt 7 lyZ w m (cvZ Z) → wF m (m + 27) w0 w → zR E (k162 a2 a3 a4 a5 Z) (k162' m b2 b3 b4 b5 w)) : ∀ (n : Nat) (v1 : Int) (v2 : Int) (v3 : Int) (v4 : Int) (v5 : Int) (w : zS) (v1' : Int32) (v2' : Int32) (v3' : Int32) (v4' : Int32) (v5' : Int32) (w' : gW), v1' = Int32.ofInt v1 → v2' = Int32.ofInt v2 → v3' = Int32.ofInt v3 → v4' = Int32.ofInt v4 → v5' = Int32.ofInt v5 → oAt 7 lyZ w' m (cvZ w) → wF m (m + 27) w0 w' → zR E (zX7_bounds_l54 F k162 n v1 v2 v3 v4 v5 w) (mX7_bounds_l54 F k162' n m v1' v2' v3' v4' v5' w') := by
  intro n
  induction n with
  | zero => intros; exact R_none
  | succ n ih =>
    intro v1 v2 v3 v4 v5 w v1' v2' v3' v4' v5' w' hv1 hv2 hv3 hv4 hv5 h_w f_w
    exact rX7_bounds_h54 ih hk162 hv1 hv2 hv3 hv4 hv5 h_w f_w
set_option maxRecDepth 100000 in
theorem rX7_bounds_h42 {F m : Nat} {E : zS → gW → Prop} {w0 : gW} {r : Int → Int → Int → Int → zS → Option zS} {r' : Nat → Int32 → Int32 → Int32 → Int32 → gW → Option (gW)} {k168 : Int → Int → Int → zS → Option zS} {k168' : Nat → Int32 → Int32 → Int32 → gW → Option (gW)} {v1 : Int} {v1' : Int32} {v2 : Int} {v2' : Int32} {v3 : Int} {v3' : Int32} {v4 : Int} {v4' : Int32} {w : zS} {w' : gW} (hr : ∀ (a2 : Int) (a3 : Int) (a4 : Int) (a5 : Int) (Z : zS) (b2 : Int32) (b3 : Int32) (b4 : Int32) (b5 : Int32) (w : gW), b2 = Int32.ofInt a2 → b3 = Int32.ofInt a3 → b4 = Int32.ofInt a4 → b5 = Int32.ofInt a5 → oAt 7 lyZ w m (cvZ Z) → wF m (m + 27) w0 w → zR E (r a2 a3 a4 a5 Z) (r' m b2 b3 b4 b5 w)) (hk168 : ∀ (a2 : Int) (a3 : Int) (a4 : Int) (Z : zS) (b2 : Int32) (b3 : Int32) (b4 : Int32) (w : gW), b2 = Int32.ofInt a2 → b3 = Int32.ofInt a3 → b4 = Int32.ofInt a4 → oAt 7 lyZ w m (cvZ Z) → wF m (m + 27) w0 w → zR E (k168 a2 a3 a4 Z) (k168' m b2 b3 b4 w)) (hv1 : v1' = Int32.ofInt v1) (hv2 : v2' = Int32.ofInt v2) (hv3 : v3' = Int32.ofInt v3) (hv4 : v4' = Int32.ofInt v4) (h_w : oAt 7 lyZ w' m (cvZ w)) (f_w : wF m (m + 27) w0 w') : zR E (zX7_bounds_h42 F r k168 v1 v2 v3 v4 w) (mX7_bounds_h42 F r' k168' m v1' v2' v3' v4' w') := by
  unfold zX7_bounds_h42 mX7_bounds_h42
  exact (R_FI h_w (k := 36) rfl (c := (zI w 36)) rfl (fun t45' ht45 =>
  (R_Le ht45 hv4
  (hk168 _ _ _ _ _ _ _ _ hv1 hv2 hv3 h_w f_w)
  (rX7_bounds_l54 (by exact (fun v1 v2 v3 v4 w v1' v2' v3' v4' w' hv1 hv2 hv3 hv4 h_w f_w =>
      (hr _ _ _ _ _ _ _ _ _ _ hv1 hv2 hv3 (eAdd hv4 (eL (by decide) : (1 : Int32) = Int32.ofInt (1 : Int))) h_w f_w))) F _ _ _ _ _ _ _ _ _ _ _ _ hv1 hv2 hv3 hv4 (eL (by decide) : (0 : Int32) = Int32.ofInt (0 : Int)) h_w f_w))))
set_option maxRecDepth 100000 in
theorem rX7_bounds_l42 {F m : Nat} {E : zS → gW → Prop} {w0 : gW} {k168 : Int → Int → Int → zS → Option zS} {k168' : Nat → Int32 → Int32 → Int32 → gW → Option (gW)} (hk168 : ∀ (a2 : Int) (a3 : Int) (a4 : Int) (Z : zS) (b2 : Int32) (b3 : Int32) (b4 : Int32) (w : gW), b2 = Int32.ofInt a2 → b3 = Int32.ofInt a3 → b4 = Int32.ofInt a4 → oAt 7 lyZ w m (cvZ Z) → wF m (m + 27) w0 w → zR E (k168 a2 a3 a4 Z) (k168' m b2 b3 b4 w)) : ∀ (n : Nat) (v1 : Int) (v2 : Int) (v3 : Int) (v4 : Int) (w : zS) (v1' : Int32) (v2' : Int32) (v3' : Int32) (v4' : Int32) (w' : gW), v1' = Int32.ofInt v1 → v2' = Int32.ofInt v2 → v3' = Int32.ofInt v3 → v4' = Int32.ofInt v4 → oAt 7 lyZ w' m (cvZ w) → wF m (m + 27) w0 w' → zR E (zX7_bounds_l42 F k168 n v1 v2 v3 v4 w) (mX7_bounds_l42 F k168' n m v1' v2' v3' v4' w') := by
  intro n
  induction n with
  | zero => intros; exact R_none
  | succ n ih =>
    intro v1 v2 v3 v4 w v1' v2' v3' v4' w' hv1 hv2 hv3 hv4 h_w f_w
    exact rX7_bounds_h42 ih hk168 hv1 hv2 hv3 hv4 h_w f_w
set_option maxRecDepth 100000 in
theorem rX7_bounds_h31 {F m : Nat} {E : zS → gW → Prop} {w0 : gW} {r : Int → Int → Int → zS → Option zS} {r' : Nat → Int32 → Int32 → Int32 → gW → Option (gW)} {k174 : Int → Int → zS → Option zS} {k174' : Nat → Int32 → Int32 → gW → Option (gW)} {v1 : Int} {v1' : Int32} {v2 : Int} {v2' : Int32} {v3 : Int} {v3' : Int32} {w : zS} {w' : gW} (hr : ∀ (a2 : Int) (a3 : Int) (a4 : Int) (Z : zS) (b2 : Int32) (b3 : Int32) (b4 : Int32) (w : gW), b2 = Int32.ofInt a2 → b3 = Int32.ofInt a3 → b4 = Int32.ofInt a4 → oAt 7 lyZ w m (cvZ Z) → wF m (m + 27) w0 w → zR E (r a2 a3 a4 Z) (r' m b2 b3 b4 w)) (hk174 : ∀ (a2 : Int) (a3 : Int) (Z : zS) (b2 : Int32) (b3 : Int32) (w : gW), b2 = Int32.ofInt a2 → b3 = Int32.ofInt a3 → oAt 7 lyZ w m (cvZ Z) → wF m (m + 27) w0 w → zR E (k174 a2 a3 Z) (k174' m b2 b3 w)) (hv1 : v1' = Int32.ofInt v1) (hv2 : v2' = Int32.ofInt v2) (hv3 : v3' = Int32.ofInt v3) (h_w : oAt 7 lyZ w' m (cvZ w)) (f_w : wF m (m + 27) w0 w') : zR E (zX7_bounds_h31 F r k174 v1 v2 v3 w) (mX7_bounds_h31 F r' k174' m v1' v2' v3' w') := by
  unfold zX7_bounds_h31 mX7_bounds_h31
  exact (R_FI h_w (k := 36) rfl (c := (zI w 36)) rfl (fun t33' ht33 =>
  (R_Le ht33 hv3
  (hk174 _ _ _ _ _ _ hv1 hv2 h_w f_w)
  (rX7_bounds_l42 (by exact (fun v1 v2 v3 w v1' v2' v3' w' hv1 hv2 hv3 h_w f_w =>
      (hr _ _ _ _ _ _ _ _ hv1 hv2 (eAdd hv3 (eL (by decide) : (1 : Int32) = Int32.ofInt (1 : Int))) h_w f_w))) F _ _ _ _ _ _ _ _ _ _ hv1 hv2 hv3 (eL (by decide) : (1 : Int32) = Int32.ofInt (1 : Int)) h_w f_w))))
