/-! .. and that the m-functions do what they say (laid by a program of mine) -/
set_option maxRecDepth 100000 in
theorem rX7_sound_h36 {F m : Nat} {w0 : gW} {r : Int → Int → Int → Int → Int → zS → Option (Int × zS)} {r' : Nat → Int32 → Int32 → Int32 → Int32 → Int32 → gW → Option (Int32 × gW)} {k77 : Int → Int → Int → Int → zS → Option (Int × zS)} {k77' : Nat → Int32 → Int32 → Int32 → Int32 → gW → Option (Int32 × gW)} {v1 : Int} {v1' : Int32} {v2 : Int} {v2' : Int32} {v3 : Int} {v3' : Int32} {v4 : Int} {v4' : Int32} {v5 : Int} {v5' : Int32} {w : zS} {w' : gW} (hr : ∀ (a2 : Int) (a3 : Int) (a4 : Int) (a5 : Int) (a6 : Int) (Z : zS) (b2 : Int32) (b3 : Int32) (b4 : Int32) (b5 : Int32) (b6 : Int32) (w : gW), b2 = Int32.ofInt a2 → b3 = Int32.ofInt a3 → b4 = Int32.ofInt a4 → b5 = Int32.ofInt a5 → b6 = Int32.ofInt a6 → oAt 7 lyZ w m (cvZ Z) → wF m (m + 27) w0 w → zR (E1 m w0) (r a2 a3 a4 a5 a6 Z) (r' m b2 b3 b4 b5 b6 w)) (hk77 : ∀ (a2 : Int) (a3 : Int) (a4 : Int) (a5 : Int) (Z : zS) (b2 : Int32) (b3 : Int32) (b4 : Int32) (b5 : Int32) (w : gW), b2 = Int32.ofInt a2 → b3 = Int32.ofInt a3 → b4 = Int32.ofInt a4 → b5 = Int32.ofInt a5 → oAt 7 lyZ w m (cvZ Z) → wF m (m + 27) w0 w → zR (E1 m w0) (k77 a2 a3 a4 a5 Z) (k77' m b2 b3 b4 b5 w)) (hv1 : v1' = Int32.ofInt v1) (hv2 : v2' = Int32.ofInt v2) (hv3 : v3' = Int32.ofInt v3) (hv4 : v4' = Int32.ofInt v4) (hv5 : v5' = Int32.ofInt v5) (h_w : oAt 7 lyZ w' m (cvZ w)) (f_w : wF m (m + 27) w0 w') : zR (E1 m w0) (zX7_sound_h36 F r k77 v1 v2 v3 v4 v5 w) (mX7_sound_h36 F r' k77' m v1' v2' v3' v4' v5' w') := by
  unfold zX7_sound_h36 mX7_sound_h36
  exact (R_Le hv3 hv5
  (hk77 _ _ _ _ _ _ _ _ _ _ hv1 hv2 hv3 hv4 h_w f_w)
  (R_O h_w
    (R_C1 (rX7_matrix hv1 (eL (by decide) : (0 : Int32) = Int32.ofInt (0 : Int)) hv4 hv5 h_w) f_w (fun q49_1 q49_2 q49_1' q49_2' hq49 h_q49_2 f_q49_2 =>
    (R_Eq hv4 hv5
    (rX7_sound_b64 hr hk77 hv1 hv2 hv3 hv4 hv5 hq49 (eL (by decide) : (1 : Int32) = Int32.ofInt (1 : Int)) h_q49_2 f_q49_2)
    (rX7_sound_b64 hr hk77 hv1 hv2 hv3 hv4 hv5 hq49 (eL (by decide) : (0 : Int32) = Int32.ofInt (0 : Int)) h_q49_2 f_q49_2))))))
set_option maxRecDepth 100000 in
theorem rX7_sound_l36 {F m : Nat} {w0 : gW} {k77 : Int → Int → Int → Int → zS → Option (Int × zS)} {k77' : Nat → Int32 → Int32 → Int32 → Int32 → gW → Option (Int32 × gW)} (hk77 : ∀ (a2 : Int) (a3 : Int) (a4 : Int) (a5 : Int) (Z : zS) (b2 : Int32) (b3 : Int32) (b4 : Int32) (b5 : Int32) (w : gW), b2 = Int32.ofInt a2 → b3 = Int32.ofInt a3 → b4 = Int32.ofInt a4 → b5 = Int32.ofInt a5 → oAt 7 lyZ w m (cvZ Z) → wF m (m + 27) w0 w → zR (E1 m w0) (k77 a2 a3 a4 a5 Z) (k77' m b2 b3 b4 b5 w)) : ∀ (n : Nat) (v1 : Int) (v2 : Int) (v3 : Int) (v4 : Int) (v5 : Int) (w : zS) (v1' : Int32) (v2' : Int32) (v3' : Int32) (v4' : Int32) (v5' : Int32) (w' : gW), v1' = Int32.ofInt v1 → v2' = Int32.ofInt v2 → v3' = Int32.ofInt v3 → v4' = Int32.ofInt v4 → v5' = Int32.ofInt v5 → oAt 7 lyZ w' m (cvZ w) → wF m (m + 27) w0 w' → zR (E1 m w0) (zX7_sound_l36 F k77 n v1 v2 v3 v4 v5 w) (mX7_sound_l36 F k77' n m v1' v2' v3' v4' v5' w') := by
  intro n
  induction n with
  | zero => intros; exact R_none
  | succ n ih =>
    intro v1 v2 v3 v4 v5 w v1' v2' v3' v4' v5' w' hv1 hv2 hv3 hv4 hv5 h_w f_w
    exact rX7_sound_h36 ih hk77 hv1 hv2 hv3 hv4 hv5 h_w f_w
set_option maxRecDepth 100000 in
theorem rX7_sound_h27 {F m : Nat} {w0 : gW} {r : Int → Int → Int → Int → zS → Option (Int × zS)} {r' : Nat → Int32 → Int32 → Int32 → Int32 → gW → Option (Int32 × gW)} {k83 : Int → Int → Int → zS → Option (Int × zS)} {k83' : Nat → Int32 → Int32 → Int32 → gW → Option (Int32 × gW)} {v1 : Int} {v1' : Int32} {v2 : Int} {v2' : Int32} {v3 : Int} {v3' : Int32} {v4 : Int} {v4' : Int32} {w : zS} {w' : gW} (hr : ∀ (a2 : Int) (a3 : Int) (a4 : Int) (a5 : Int) (Z : zS) (b2 : Int32) (b3 : Int32) (b4 : Int32) (b5 : Int32) (w : gW), b2 = Int32.ofInt a2 → b3 = Int32.ofInt a3 → b4 = Int32.ofInt a4 → b5 = Int32.ofInt a5 → oAt 7 lyZ w m (cvZ Z) → wF m (m + 27) w0 w → zR (E1 m w0) (r a2 a3 a4 a5 Z) (r' m b2 b3 b4 b5 w)) (hk83 : ∀ (a2 : Int) (a3 : Int) (a4 : Int) (Z : zS) (b2 : Int32) (b3 : Int32) (b4 : Int32) (w : gW), b2 = Int32.ofInt a2 → b3 = Int32.ofInt a3 → b4 = Int32.ofInt a4 → oAt 7 lyZ w m (cvZ Z) → wF m (m + 27) w0 w → zR (E1 m w0) (k83 a2 a3 a4 Z) (k83' m b2 b3 b4 w)) (hv1 : v1' = Int32.ofInt v1) (hv2 : v2' = Int32.ofInt v2) (hv3 : v3' = Int32.ofInt v3) (hv4 : v4' = Int32.ofInt v4) (h_w : oAt 7 lyZ w' m (cvZ w)) (f_w : wF m (m + 27) w0 w') : zR (E1 m w0) (zX7_sound_h27 F r k83 v1 v2 v3 v4 w) (mX7_sound_h27 F r' k83' m v1' v2' v3' v4' w') := by
  unfold zX7_sound_h27 mX7_sound_h27
  exact (R_Le hv3 hv4
  (hk83 _ _ _ _ _ _ _ _ hv1 hv2 hv3 h_w f_w)
  (rX7_sound_l36 (by exact (fun v1 v2 v3 v4 w v1' v2' v3' v4' w' hv1 hv2 hv3 hv4 h_w f_w =>
      (hr _ _ _ _ _ _ _ _ _ _ hv1 hv2 hv3 (eAdd hv4 (eL (by decide) : (1 : Int32) = Int32.ofInt (1 : Int))) h_w f_w))) F _ _ _ _ _ _ _ _ _ _ _ _ hv1 hv2 hv3 hv4 (eL (by decide) : (0 : Int32) = Int32.ofInt (0 : Int)) h_w f_w))
set_option maxRecDepth 100000 in
theorem rX7_sound_l27 {F m : Nat} {w0 : gW} {k83 : Int → Int → Int → zS → Option (Int × zS)} {k83' : Nat → Int32 → Int32 → Int32 → gW → Option (Int32 × gW)} (hk83 : ∀ (a2 : Int) (a3 : Int) (a4 : Int) (Z : zS) (b2 : Int32) (b3 : Int32) (b4 : Int32) (w : gW), b2 = Int32.ofInt a2 → b3 = Int32.ofInt a3 → b4 = Int32.ofInt a4 → oAt 7 lyZ w m (cvZ Z) → wF m (m + 27) w0 w → zR (E1 m w0) (k83 a2 a3 a4 Z) (k83' m b2 b3 b4 w)) : ∀ (n : Nat) (v1 : Int) (v2 : Int) (v3 : Int) (v4 : Int) (w : zS) (v1' : Int32) (v2' : Int32) (v3' : Int32) (v4' : Int32) (w' : gW), v1' = Int32.ofInt v1 → v2' = Int32.ofInt v2 → v3' = Int32.ofInt v3 → v4' = Int32.ofInt v4 → oAt 7 lyZ w' m (cvZ w) → wF m (m + 27) w0 w' → zR (E1 m w0) (zX7_sound_l27 F k83 n v1 v2 v3 v4 w) (mX7_sound_l27 F k83' n m v1' v2' v3' v4' w') := by
  intro n
  induction n with
  | zero => intros; exact R_none
  | succ n ih =>
    intro v1 v2 v3 v4 w v1' v2' v3' v4' w' hv1 hv2 hv3 hv4 h_w f_w
    exact rX7_sound_h27 ih hk83 hv1 hv2 hv3 hv4 h_w f_w
set_option maxRecDepth 100000 in
theorem rX7_sound_b180 {F m : Nat} {E : (Int × zS) → (Int32 × gW) → Prop} {w0 : gW} {r : Int → Int → Int → Int → Int → Int → Int → zS → Option (Int × zS)} {r' : Nat → Int32 → Int32 → Int32 → Int32 → Int32 → Int32 → Int32 → gW → Option (Int32 × gW)} {k234 : Int → Int → Int → Int → Int → Int → zS → Option (Int × zS)} {k234' : Nat → Int32 → Int32 → Int32 → Int32 → Int32 → Int32 → gW → Option (Int32 × gW)} {k213 : Int → Int → Int → zS → Option (Int × zS)} {k213' : Nat → Int32 → Int32 → Int32 → gW → Option (Int32 × gW)} {v1 : Int} {v1' : Int32} {v2 : Int} {v2' : Int32} {v3 : Int} {v3' : Int32} {v4 : Int} {v4' : Int32} {v5 : Int} {v5' : Int32} {v6 : Int} {v6' : Int32} {v7 : Int} {v7' : Int32} {s0 : Int} {s0' : Int32} {s1 : Int} {s1' : Int32} {w : zS} {w' : gW} (hr : ∀ (a2 : Int) (a3 : Int) (a4 : Int) (a5 : Int) (a6 : Int) (a7 : Int) (a8 : Int) (Z : zS) (b2 : Int32) (b3 : Int32) (b4 : Int32) (b5 : Int32) (b6 : Int32) (b7 : Int32) (b8 : Int32) (w : gW), b2 = Int32.ofInt a2 → b3 = Int32.ofInt a3 → b4 = Int32.ofInt a4 → b5 = Int32.ofInt a5 → b6 = Int32.ofInt a6 → b7 = Int32.ofInt a7 → b8 = Int32.ofInt a8 → oAt 7 lyZ w m (cvZ Z) → wF m (m + 27) w0 w → zR E (r a2 a3 a4 a5 a6 a7 a8 Z) (r' m b2 b3 b4 b5 b6 b7 b8 w)) (hk234 : ∀ (a2 : Int) (a3 : Int) (a4 : Int) (a5 : Int) (a6 : Int) (a7 : Int) (Z : zS) (b2 : Int32) (b3 : Int32) (b4 : Int32) (b5 : Int32) (b6 : Int32) (b7 : Int32) (w : gW), b2 = Int32.ofInt a2 → b3 = Int32.ofInt a3 → b4 = Int32.ofInt a4 → b5 = Int32.ofInt a5 → b6 = Int32.ofInt a6 → b7 = Int32.ofInt a7 → oAt 7 lyZ w m (cvZ Z) → wF m (m + 27) w0 w → zR E (k234 a2 a3 a4 a5 a6 a7 Z) (k234' m b2 b3 b4 b5 b6 b7 w)) (hk213 : ∀ (a2 : Int) (a3 : Int) (a4 : Int) (Z : zS) (b2 : Int32) (b3 : Int32) (b4 : Int32) (w : gW), b2 = Int32.ofInt a2 → b3 = Int32.ofInt a3 → b4 = Int32.ofInt a4 → oAt 7 lyZ w m (cvZ Z) → wF m (m + 27) w0 w → zR E (k213 a2 a3 a4 Z) (k213' m b2 b3 b4 w)) (hv1 : v1' = Int32.ofInt v1) (hv2 : v2' = Int32.ofInt v2) (hv3 : v3' = Int32.ofInt v3) (hv4 : v4' = Int32.ofInt v4) (hv5 : v5' = Int32.ofInt v5) (hv6 : v6' = Int32.ofInt v6) (hv7 : v7' = Int32.ofInt v7) (hs0 : s0' = Int32.ofInt s0) (hs1 : s1' = Int32.ofInt s1) (h_w : oAt 7 lyZ w' m (cvZ w)) (f_w : wF m (m + 27) w0 w') : zR E (zX7_sound_b180 F r k234 k213 v1 v2 v3 v4 v5 v6 v7 s0 s1 w) (mX7_sound_b180 F r' k234' k213' m v1' v2' v3' v4' v5' v6' v7' s0' s1' w') := by
  unfold zX7_sound_b180 mX7_sound_b180
  exact (R_FR h_w (k := 9) rfl
  (R_Ld h_w (k := 9) rfl (by decide) hv1 rfl (fun t190 t190' ht190 =>
  (R_Rem (eAdd hs0 hs1) ht190 (fun t191 t191' ht191 =>
  (R_O h_w
  (R_C1 (rX7_prod hv2 hv4 hv5 h_w) f_w (fun q200_1 q200_2 q200_1' q200_2' hq200 h_q200_2 f_q200_2 =>
  (R_O h_q200_2
  (R_C1 (rX7_matrix hv1 hq200 hv6 hv7 h_q200_2) f_q200_2 (fun q207_1 q207_2 q207_1' q207_2' hq207 h_q207_2 f_q207_2 =>
  (R_Eq ht191 hq207
  (hr _ _ _ _ _ _ _ _ _ _ _ _ _ _ _ _ hv1 hv2 hv3 hv4 hv5 hv6 (eAdd hv7 (eL (by decide) : (1 : Int32) = Int32.ofInt (1 : Int))) h_q207_2 f_q207_2)
  (hk213 _ _ _ _ _ _ _ _ hv2 hv4 hv5 h_q207_2 f_q207_2)))))))))))))
set_option maxRecDepth 100000 in
theorem rX7_sound_h123 {F m : Nat} {E : (Int × zS) → (Int32 × gW) → Prop} {w0 : gW} {r : Int → Int → Int → Int → Int → Int → Int → zS → Option (Int × zS)} {r' : Nat → Int32 → Int32 → Int32 → Int32 → Int32 → Int32 → Int32 → gW → Option (Int32 × gW)} {k234 : Int → Int → Int → Int → Int → Int → zS → Option (Int × zS)} {k234' : Nat → Int32 → Int32 → Int32 → Int32 → Int32 → Int32 → gW → Option (Int32 × gW)} {k213 : Int → Int → Int → zS → Option (Int × zS)} {k213' : Nat → Int32 → Int32 → Int32 → gW → Option (Int32 × gW)} {v1 : Int} {v1' : Int32} {v2 : Int} {v2' : Int32} {v3 : Int} {v3' : Int32} {v4 : Int} {v4' : Int32} {v5 : Int} {v5' : Int32} {v6 : Int} {v6' : Int32} {v7 : Int} {v7' : Int32} {w : zS} {w' : gW} (hr : ∀ (a2 : Int) (a3 : Int) (a4 : Int) (a5 : Int) (a6 : Int) (a7 : Int) (a8 : Int) (Z : zS) (b2 : Int32) (b3 : Int32) (b4 : Int32) (b5 : Int32) (b6 : Int32) (b7 : Int32) (b8 : Int32) (w : gW), b2 = Int32.ofInt a2 → b3 = Int32.ofInt a3 → b4 = Int32.ofInt a4 → b5 = Int32.ofInt a5 → b6 = Int32.ofInt a6 → b7 = Int32.ofInt a7 → b8 = Int32.ofInt a8 → oAt 7 lyZ w m (cvZ Z) → wF m (m + 27) w0 w → zR E (r a2 a3 a4 a5 a6 a7 a8 Z) (r' m b2 b3 b4 b5 b6 b7 b8 w)) (hk234 : ∀ (a2 : Int) (a3 : Int) (a4 : Int) (a5 : Int) (a6 : Int) (a7 : Int) (Z : zS) (b2 : Int32) (b3 : Int32) (b4 : Int32) (b5 : Int32) (b6 : Int32) (b7 : Int32) (w : gW), b2 = Int32.ofInt a2 → b3 = Int32.ofInt a3 → b4 = Int32.ofInt a4 → b5 = Int32.ofInt a5 → b6 = Int32.ofInt a6 → b7 = Int32.ofInt a7 → oAt 7 lyZ w m (cvZ Z) → wF m (m + 27) w0 w → zR E (k234 a2 a3 a4 a5 a6 a7 Z) (k234' m b2 b3 b4 b5 b6 b7 w)) (hk213 : ∀ (a2 : Int) (a3 : Int) (a4 : Int) (Z : zS) (b2 : Int32) (b3 : Int32) (b4 : Int32) (w : gW), b2 = Int32.ofInt a2 → b3 = Int32.ofInt a3 → b4 = Int32.ofInt a4 → oAt 7 lyZ w m (cvZ Z) → wF m (m + 27) w0 w → zR E (k213 a2 a3 a4 Z) (k213' m b2 b3 b4 w)) (hv1 : v1' = Int32.ofInt v1) (hv2 : v2' = Int32.ofInt v2) (hv3 : v3' = Int32.ofInt v3) (hv4 : v4' = Int32.ofInt v4) (hv5 : v5' = Int32.ofInt v5) (hv6 : v6' = Int32.ofInt v6) (hv7 : v7' = Int32.ofInt v7) (h_w : oAt 7 lyZ w' m (cvZ w)) (f_w : wF m (m + 27) w0 w') : zR E (zX7_sound_h123 F r k234 k213 v1 v2 v3 v4 v5 v6 v7 w) (mX7_sound_h123 F r' k234' k213' m v1' v2' v3' v4' v5' v6' v7' w') := by
  unfold zX7_sound_h123 mX7_sound_h123
  exact (R_Le hv3 hv7
  (hk234 _ _ _ _ _ _ _ _ _ _ _ _ _ _ hv1 hv2 hv3 hv4 hv5 hv6 h_w f_w)
  (R_O h_w
    (R_C1 (rX7_matrix hv1 hv4 hv6 (eL (by decide) : (0 : Int32) = Int32.ofInt (0 : Int)) h_w) f_w (fun q136_1 q136_2 q136_1' q136_2' hq136 h_q136_2 f_q136_2 =>
    (R_O h_q136_2
    (R_C1 (rX7_matrix hv1 hv5 (eL (by decide) : (0 : Int32) = Int32.ofInt (0 : Int)) hv7 h_q136_2) f_q136_2 (fun q146_1 q146_2 q146_1' q146_2' hq146 h_q146_2 f_q146_2 =>
    (R_Eq hv3 (eL (by decide) : (2 : Int32) = Int32.ofInt (2 : Int))
    (R_O h_q146_2
      (R_C1 (rX7_matrix hv1 hv4 hv6 (eL (by decide) : (1 : Int32) = Int32.ofInt (1 : Int)) h_q146_2) f_q146_2 (fun q162_1 q162_2 q162_1' q162_2' hq162 h_q162_2 f_q162_2 =>
      (R_O h_q162_2
      (R_C1 (rX7_matrix hv1 hv5 (eL (by decide) : (1 : Int32) = Int32.ofInt (1 : Int)) hv7 h_q162_2) f_q162_2 (fun q172_1 q172_2 q172_1' q172_2' hq172 h_q172_2 f_q172_2 =>
      (rX7_sound_b180 hr hk234 hk213 hv1 hv2 hv3 hv4 hv5 hv6 hv7 (eMul hq136 hq146) (eMul hq162 hq172) h_q172_2 f_q172_2)))))))
    (rX7_sound_b180 hr hk234 hk213 hv1 hv2 hv3 hv4 hv5 hv6 hv7 (eMul hq136 hq146) (eL (by decide) : (0 : Int32) = Int32.ofInt (0 : Int)) h_q146_2 f_q146_2)))))))))
set_option maxRecDepth 100000 in
theorem rX7_sound_l123 {F m : Nat} {E : (Int × zS) → (Int32 × gW) → Prop} {w0 : gW} {k234 : Int → Int → Int → Int → Int → Int → zS → Option (Int × zS)} {k234' : Nat → Int32 → Int32 → Int32 → Int32 → Int32 → Int32 → gW → Option (Int32 × gW)} {k213 : Int → Int → Int → zS → Option (Int × zS)} {k213' : Nat → Int32 → Int32 → Int32 → gW → Option (Int32 × gW)} (hk234 : ∀ (a2 : Int) (a3 : Int) (a4 : Int) (a5 : Int) (a6 : Int) (a7 : Int) (Z : zS) (b2 : Int32) (b3 : Int32) (b4 : Int32) (b5 : Int32) (b6 : Int32) (b7 : Int32) (w : gW), b2 = Int32.ofInt a2 → b3 = Int32.ofInt a3 → b4 = Int32.ofInt a4 → b5 = Int32.ofInt a5 → b6 = Int32.ofInt a6 → b7 = Int32.ofInt a7 → oAt 7 lyZ w m (cvZ Z) → wF m (m + 27) w0 w → zR E (k234 a2 a3 a4 a5 a6 a7 Z) (k234' m b2 b3 b4 b5 b6 b7 w)) (hk213 : ∀ (a2 : Int) (a3 : Int) (a4 : Int) (Z : zS) (b2 : Int32) (b3 : Int32) (b4 : Int32) (w : gW), b2 = Int32.ofInt a2 → b3 = Int32.ofInt a3 → b4 = Int32.ofInt a4 → oAt 7 lyZ w m (cvZ Z) → wF m (m + 27) w0 w → zR E (k213 a2 a3 a4 Z) (k213' m b2 b3 b4 w)) : ∀ (n : Nat) (v1 : Int) (v2 : Int) (v3 : Int) (v4 : Int) (v5 : Int) (v6 : Int) (v7 : Int) (w : zS) (v1' : Int32) (v2' : Int32) (v3' : Int32) (v4' : Int32) (v5' : Int32) (v6' : Int32) (v7' : Int32) (w' : gW), v1' = Int32.ofInt v1 → v2' = Int32.ofInt v2 → v3' = Int32.ofInt v3 → v4' = Int32.ofInt v4 → v5' = Int32.ofInt v5 → v6' = Int32.ofInt v6 → v7' = Int32.ofInt v7 → oAt 7 lyZ w' m (cvZ w) → wF m (m + 27) w0 w' → zR E (zX7_sound_l123 F k234 k213 n v1 v2 v3 v4 v5 v6 v7 w) (mX7_sound_l123 F k234' k213' n m v1' v2' v3' v4' v5' v6' v7' w') := by
  intro n
  induction n with
  | zero => intros; exact R_none
  | succ n ih =>
    intro v1 v2 v3 v4 v5 v6 v7 w v1' v2' v3' v4' v5' v6' v7' w' hv1 hv2 hv3 hv4 hv5 hv6 hv7 h_w f_w
    exact rX7_sound_h123 ih hk234 hk213 hv1 hv2 hv3 hv4 hv5 hv6 hv7 h_w f_w
set_option maxRecDepth 100000 in
theorem rX7_sound_h114 {F m : Nat} {E : (Int × zS) → (Int32 × gW) → Prop} {w0 : gW} {r : Int → Int → Int → Int → Int → Int → zS → Option (Int × zS)} {r' : Nat → Int32 → Int32 → Int32 → Int32 → Int32 → Int32 → gW → Option (Int32 × gW)} {k240 : Int → Int → Int → Int → Int → zS → Option (Int × zS)} {k240' : Nat → Int32 → Int32 → Int32 → Int32 → Int32 → gW → Option (Int32 × gW)} {k213 : Int → Int → Int → zS → Option (Int × zS)} {k213' : Nat → Int32 → Int32 → Int32 → gW → Option (Int32 × gW)} {v1 : Int} {v1' : Int32} {v2 : Int} {v2' : Int32} {v3 : Int} {v3' : Int32} {v4 : Int} {v4' : Int32} {v5 : Int} {v5' : Int32} {v6 : Int} {v6' : Int32} {w : zS} {w' : gW} (hr : ∀ (a2 : Int) (a3 : Int) (a4 : Int) (a5 : Int) (a6 : Int) (a7 : Int) (Z : zS) (b2 : Int32) (b3 : Int32) (b4 : Int32) (b5 : Int32) (b6 : Int32) (b7 : Int32) (w : gW), b2 = Int32.ofInt a2 → b3 = Int32.ofInt a3 → b4 = Int32.ofInt a4 → b5 = Int32.ofInt a5 → b6 = Int32.ofInt a6 → b7 = Int32.ofInt a7 → oAt 7 lyZ w m (cvZ Z) → wF m (m + 27) w0 w → zR E (r a2 a3 a4 a5 a6 a7 Z) (r' m b2 b3 b4 b5 b6 b7 w)) (hk240 : ∀ (a2 : Int) (a3 : Int) (a4 : Int) (a5 : Int) (a6 : Int) (Z : zS) (b2 : Int32) (b3 : Int32) (b4 : Int32) (b5 : Int32) (b6 : Int32) (w : gW), b2 = Int32.ofInt a2 → b3 = Int32.ofInt a3 → b4 = Int32.ofInt a4 → b5 = Int32.ofInt a5 → b6 = Int32.ofInt a6 → oAt 7 lyZ w m (cvZ Z) → wF m (m + 27) w0 w → zR E (k240 a2 a3 a4 a5 a6 Z) (k240' m b2 b3 b4 b5 b6 w)) (hk213 : ∀ (a2 : Int) (a3 : Int) (a4 : Int) (Z : zS) (b2 : Int32) (b3 : Int32) (b4 : Int32) (w : gW), b2 = Int32.ofInt a2 → b3 = Int32.ofInt a3 → b4 = Int32.ofInt a4 → oAt 7 lyZ w m (cvZ Z) → wF m (m + 27) w0 w → zR E (k213 a2 a3 a4 Z) (k213' m b2 b3 b4 w)) (hv1 : v1' = Int32.ofInt v1) (hv2 : v2' = Int32.ofInt v2) (hv3 : v3' = Int32.ofInt v3) (hv4 : v4' = Int32.ofInt v4) (hv5 : v5' = Int32.ofInt v5) (hv6 : v6' = Int32.ofInt v6) (h_w : oAt 7 lyZ w' m (cvZ w)) (f_w : wF m (m + 27) w0 w') : zR E (zX7_sound_h114 F r k240 k213 v1 v2 v3 v4 v5 v6 w) (mX7_sound_h114 F r' k240' k213' m v1' v2' v3' v4' v5' v6' w') := by
  unfold zX7_sound_h114 mX7_sound_h114
  exact (R_Le hv3 hv6
  (hk240 _ _ _ _ _ _ _ _ _ _ _ _ hv1 hv2 hv3 hv4 hv5 h_w f_w)
  (rX7_sound_l123 (by exact (fun v1 v2 v3 v4 v5 v6 w v1' v2' v3' v4' v5' v6' w' hv1 hv2 hv3 hv4 hv5 hv6 h_w f_w =>
      (hr _ _ _ _ _ _ _ _ _ _ _ _ _ _ hv1 hv2 hv3 hv4 hv5 (eAdd hv6 (eL (by decide) : (1 : Int32) = Int32.ofInt (1 : Int))) h_w f_w))) (by exact (fun v2 v4 v5 w v2' v4' v5' w' hv2 hv4 hv5 h_w f_w =>
      (hk213 _ _ _ _ _ _ _ _ hv2 hv4 hv5 h_w f_w))) F _ _ _ _ _ _ _ _ _ _ _ _ _ _ _ _ hv1 hv2 hv3 hv4 hv5 hv6 (eL (by decide) : (0 : Int32) = Int32.ofInt (0 : Int)) h_w f_w))
set_option maxRecDepth 100000 in
theorem rX7_sound_l114 {F m : Nat} {E : (Int × zS) → (Int32 × gW) → Prop} {w0 : gW} {k240 : Int → Int → Int → Int → Int → zS → Option (Int × zS)} {k240' : Nat → Int32 → Int32 → Int32 → Int32 → Int32 → gW → Option (Int32 × gW)} {k213 : Int → Int → Int → zS → Option (Int × zS)} {k213' : Nat → Int32 → Int32 → Int32 → gW → Option (Int32 × gW)} (hk240 : ∀ (a2 : Int) (a3 : Int) (a4 : Int) (a5 : Int) (a6 : Int) (Z : zS) (b2 : Int32) (b3 : Int32) (b4 : Int32) (b5 : Int32) (b6 : Int32) (w : gW), b2 = Int32.ofInt a2 → b3 = Int32.ofInt a3 → b4 = Int32.ofInt a4 → b5 = Int32.ofInt a5 → b6 = Int32.ofInt a6 → oAt 7 lyZ w m (cvZ Z) → wF m (m + 27) w0 w → zR E (k240 a2 a3 a4 a5 a6 Z) (k240' m b2 b3 b4 b5 b6 w)) (hk213 : ∀ (a2 : Int) (a3 : Int) (a4 : Int) (Z : zS) (b2 : Int32) (b3 : Int32) (b4 : Int32) (w : gW), b2 = Int32.ofInt a2 → b3 = Int32.ofInt a3 → b4 = Int32.ofInt a4 → oAt 7 lyZ w m (cvZ Z) → wF m (m + 27) w0 w → zR E (k213 a2 a3 a4 Z) (k213' m b2 b3 b4 w)) : ∀ (n : Nat) (v1 : Int) (v2 : Int) (v3 : Int) (v4 : Int) (v5 : Int) (v6 : Int) (w : zS) (v1' : Int32) (v2' : Int32) (v3' : Int32) (v4' : Int32) (v5' : Int32) (v6' : Int32) (w' : gW), v1' = Int32.ofInt v1 → v2' = Int32.ofInt v2 → v3' = Int32.ofInt v3 → v4' = Int32.ofInt v4 → v5' = Int32.ofInt v5 → v6' = Int32.ofInt v6 → oAt 7 lyZ w' m (cvZ w) → wF m (m + 27) w0 w' → zR E (zX7_sound_l114 F k240 k213 n v1 v2 v3 v4 v5 v6 w) (mX7_sound_l114 F k240' k213' n m v1' v2' v3' v4' v5' v6' w') := by
  intro n
  induction n with
  | zero => intros; exact R_none
  | succ n ih =>
    intro v1 v2 v3 v4 v5 v6 w v1' v2' v3' v4' v5' v6' w' hv1 hv2 hv3 hv4 hv5 hv6 h_w f_w
    exact rX7_sound_h114 ih hk240 hk213 hv1 hv2 hv3 hv4 hv5 hv6 h_w f_w
set_option maxRecDepth 100000 in
theorem rX7_sound_h100 {F m : Nat} {E : (Int × zS) → (Int32 × gW) → Prop} {w0 : gW} {r : Int → Int → Int → Int → Int → zS → Option (Int × zS)} {r' : Nat → Int32 → Int32 → Int32 → Int32 → Int32 → gW → Option (Int32 × gW)} {k246 : Int → Int → Int → Int → zS → Option (Int × zS)} {k246' : Nat → Int32 → Int32 → Int32 → Int32 → gW → Option (Int32 × gW)} {k213 : Int → Int → Int → zS → Option (Int × zS)} {k213' : Nat → Int32 → Int32 → Int32 → gW → Option (Int32 × gW)} {v1 : Int} {v1' : Int32} {v2 : Int} {v2' : Int32} {v3 : Int} {v3' : Int32} {v4 : Int} {v4' : Int32} {v5 : Int} {v5' : Int32} {w : zS} {w' : gW} (hr : ∀ (a2 : Int) (a3 : Int) (a4 : Int) (a5 : Int) (a6 : Int) (Z : zS) (b2 : Int32) (b3 : Int32) (b4 : Int32) (b5 : Int32) (b6 : Int32) (w : gW), b2 = Int32.ofInt a2 → b3 = Int32.ofInt a3 → b4 = Int32.ofInt a4 → b5 = Int32.ofInt a5 → b6 = Int32.ofInt a6 → oAt 7 lyZ w m (cvZ Z) → wF m (m + 27) w0 w → zR E (r a2 a3 a4 a5 a6 Z) (r' m b2 b3 b4 b5 b6 w)) (hk246 : ∀ (a2 : Int) (a3 : Int) (a4 : Int) (a5 : Int) (Z : zS) (b2 : Int32) (b3 : Int32) (b4 : Int32) (b5 : Int32) (w : gW), b2 = Int32.ofInt a2 → b3 = Int32.ofInt a3 → b4 = Int32.ofInt a4 → b5 = Int32.ofInt a5 → oAt 7 lyZ w m (cvZ Z) → wF m (m + 27) w0 w → zR E (k246 a2 a3 a4 a5 Z) (k246' m b2 b3 b4 b5 w)) (hk213 : ∀ (a2 : Int) (a3 : Int) (a4 : Int) (Z : zS) (b2 : Int32) (b3 : Int32) (b4 : Int32) (w : gW), b2 = Int32.ofInt a2 → b3 = Int32.ofInt a3 → b4 = Int32.ofInt a4 → oAt 7 lyZ w m (cvZ Z) → wF m (m + 27) w0 w → zR E (k213 a2 a3 a4 Z) (k213' m b2 b3 b4 w)) (hv1 : v1' = Int32.ofInt v1) (hv2 : v2' = Int32.ofInt v2) (hv3 : v3' = Int32.ofInt v3) (hv4 : v4' = Int32.ofInt v4) (hv5 : v5' = Int32.ofInt v5) (h_w : oAt 7 lyZ w' m (cvZ w)) (f_w : wF m (m + 27) w0 w') : zR E (zX7_sound_h100 F r k246 k213 v1 v2 v3 v4 v5 w) (mX7_sound_h100 F r' k246' k213' m v1' v2' v3' v4' v5' w') := by
  unfold zX7_sound_h100 mX7_sound_h100
  exact (R_FR h_w (k := 1) rfl
  (R_Ld h_w (k := 1) rfl (by decide) hv2 rfl (fun t107 t107' ht107 =>
  (R_Le ht107 hv5
  (hk246 _ _ _ _ _ _ _ _ _ _ hv1 hv2 hv3 hv4 h_w f_w)
  (rX7_sound_l114 (by exact (fun v1 v2 v3 v4 v5 w v1' v2' v3' v4' v5' w' hv1 hv2 hv3 hv4 hv5 h_w f_w =>
      (hr _ _ _ _ _ _ _ _ _ _ _ _ hv1 hv2 hv3 hv4 (eAdd hv5 (eL (by decide) : (1 : Int32) = Int32.ofInt (1 : Int))) h_w f_w))) (by exact (fun v2 v4 v5 w v2' v4' v5' w' hv2 hv4 hv5 h_w f_w =>
      (hk213 _ _ _ _ _ _ _ _ hv2 hv4 hv5 h_w f_w))) F _ _ _ _ _ _ _ _ _ _ _ _ _ _ hv1 hv2 hv3 hv4 hv5 (eL (by decide) : (0 : Int32) = Int32.ofInt (0 : Int)) h_w f_w)))))
set_option maxRecDepth 100000 in
theorem rX7_sound_l100 {F m : Nat} {E : (Int × zS) → (Int32 × gW) → Prop} {w0 : gW} {k246 : Int → Int → Int → Int → zS → Option (Int × zS)} {k246' : Nat → Int32 → Int32 → Int32 → Int32 → gW → Option (Int32 × gW)} {k213 : Int → Int → Int → zS → Option (Int × zS)} {k213' : Nat → Int32 → Int32 → Int32 → gW → Option (Int32 × gW)} (hk246 : ∀ (a2 : Int) (a3 : Int) (a4 : Int) (a5 : Int) (Z : zS) (b2 : Int32) (b3 : Int32) (b4 : Int32) (b5 : Int32) (w : gW), b2 = Int32.ofInt a2 → b3 = Int32.ofInt a3 → b4 = Int32.ofInt a4 → b5 = Int32.ofInt a5 → oAt 7 lyZ w m (cvZ Z) → wF m (m + 27) w0 w → zR E (k246 a2 a3 a4 a5 Z) (k246' m b2 b3 b4 b5 w)) (hk213 : ∀ (a2 : Int) (a3 : Int) (a4 : Int) (Z : zS) (b2 : Int32) (b3 : Int32) (b4 : Int32) (w : gW), b2 = Int32.ofInt a2 → b3 = Int32.ofInt a3 → b4 = Int32.ofInt a4 → oAt 7 lyZ w m (cvZ Z) → wF m (m + 27) w0 w → zR E (k213 a2 a3 a4 Z) (k213' m b2 b3 b4 w)) : ∀ (n : Nat) (v1 : Int) (v2 : Int) (v3 : Int) (v4 : Int) (v5 : Int) (w : zS) (v1' : Int32) (v2' : Int32) (v3' : Int32) (v4' : Int32) (v5' : Int32) (w' : gW), v1' = Int32.ofInt v1 → v2' = Int32.ofInt v2 → v3' = Int32.ofInt v3 → v4' = Int32.ofInt v4 → v5' = Int32.ofInt v5 → oAt 7 lyZ w' m (cvZ w) → wF m (m + 27) w0 w' → zR E (zX7_sound_l100 F k246 k213 n v1 v2 v3 v4 v5 w) (mX7_sound_l100 F k246' k213' n m v1' v2' v3' v4' v5' w') := by
  intro n
  induction n with
  | zero => intros; exact R_none
  | succ n ih =>
    intro v1 v2 v3 v4 v5 w v1' v2' v3' v4' v5' w' hv1 hv2 hv3 hv4 hv5 h_w f_w
    exact rX7_sound_h100 ih hk246 hk213 hv1 hv2 hv3 hv4 hv5 h_w f_w
set_option maxRecDepth 100000 in
theorem rX7_sound_h86 {F m : Nat} {w0 : gW} {r : Int → Int → Int → Int → zS → Option (Int × zS)} {r' : Nat → Int32 → Int32 → Int32 → Int32 → gW → Option (Int32 × gW)} {k213 : Int → Int → Int → zS → Option (Int × zS)} {k213' : Nat → Int32 → Int32 → Int32 → gW → Option (Int32 × gW)} {v1 : Int} {v1' : Int32} {v2 : Int} {v2' : Int32} {v3 : Int} {v3' : Int32} {v4 : Int} {v4' : Int32} {w : zS} {w' : gW} (hr : ∀ (a2 : Int) (a3 : Int) (a4 : Int) (a5 : Int) (Z : zS) (b2 : Int32) (b3 : Int32) (b4 : Int32) (b5 : Int32) (w : gW), b2 = Int32.ofInt a2 → b3 = Int32.ofInt a3 → b4 = Int32.ofInt a4 → b5 = Int32.ofInt a5 → oAt 7 lyZ w m (cvZ Z) → wF m (m + 27) w0 w → zR (E1 m w0) (r a2 a3 a4 a5 Z) (r' m b2 b3 b4 b5 w)) (hk213 : ∀ (a2 : Int) (a3 : Int) (a4 : Int) (Z : zS) (b2 : Int32) (b3 : Int32) (b4 : Int32) (w : gW), b2 = Int32.ofInt a2 → b3 = Int32.ofInt a3 → b4 = Int32.ofInt a4 → oAt 7 lyZ w m (cvZ Z) → wF m (m + 27) w0 w → zR (E1 m w0) (k213 a2 a3 a4 Z) (k213' m b2 b3 b4 w)) (hv1 : v1' = Int32.ofInt v1) (hv2 : v2' = Int32.ofInt v2) (hv3 : v3' = Int32.ofInt v3) (hv4 : v4' = Int32.ofInt v4) (h_w : oAt 7 lyZ w' m (cvZ w)) (f_w : wF m (m + 27) w0 w') : zR (E1 m w0) (zX7_sound_h86 F r k213 v1 v2 v3 v4 w) (mX7_sound_h86 F r' k213' m v1' v2' v3' v4' w') := by
  unfold zX7_sound_h86 mX7_sound_h86
  exact (R_FR h_w (k := 1) rfl
  (R_Ld h_w (k := 1) rfl (by decide) hv2 rfl (fun t93 t93' ht93 =>
  (R_Le ht93 hv4
  (R_ret1 (eL (by decide) : (0 : Int32) = Int32.ofInt (0 : Int)) h_w f_w)
  (rX7_sound_l100 (by exact (fun v1 v2 v3 v4 w v1' v2' v3' v4' w' hv1 hv2 hv3 hv4 h_w f_w =>
      (hr _ _ _ _ _ _ _ _ _ _ hv1 hv2 hv3 (eAdd hv4 (eL (by decide) : (1 : Int32) = Int32.ofInt (1 : Int))) h_w f_w))) (by exact (fun v2 v4 v5 w v2' v4' v5' w' hv2 hv4 hv5 h_w f_w =>
      (hk213 _ _ _ _ _ _ _ _ hv2 hv4 hv5 h_w f_w))) F _ _ _ _ _ _ _ _ _ _ _ _ hv1 hv2 hv3 hv4 (eL (by decide) : (0 : Int32) = Int32.ofInt (0 : Int)) h_w f_w)))))
set_option maxRecDepth 100000 in
theorem rX7_sound_l86 {F m : Nat} {w0 : gW} {k213 : Int → Int → Int → zS → Option (Int × zS)} {k213' : Nat → Int32 → Int32 → Int32 → gW → Option (Int32 × gW)} (hk213 : ∀ (a2 : Int) (a3 : Int) (a4 : Int) (Z : zS) (b2 : Int32) (b3 : Int32) (b4 : Int32) (w : gW), b2 = Int32.ofInt a2 → b3 = Int32.ofInt a3 → b4 = Int32.ofInt a4 → oAt 7 lyZ w m (cvZ Z) → wF m (m + 27) w0 w → zR (E1 m w0) (k213 a2 a3 a4 Z) (k213' m b2 b3 b4 w)) : ∀ (n : Nat) (v1 : Int) (v2 : Int) (v3 : Int) (v4 : Int) (w : zS) (v1' : Int32) (v2' : Int32) (v3' : Int32) (v4' : Int32) (w' : gW), v1' = Int32.ofInt v1 → v2' = Int32.ofInt v2 → v3' = Int32.ofInt v3 → v4' = Int32.ofInt v4 → oAt 7 lyZ w' m (cvZ w) → wF m (m + 27) w0 w' → zR (E1 m w0) (zX7_sound_l86 F k213 n v1 v2 v3 v4 w) (mX7_sound_l86 F k213' n m v1' v2' v3' v4' w') := by
  intro n
  induction n with
  | zero => intros; exact R_none
  | succ n ih =>
    intro v1 v2 v3 v4 w v1' v2' v3' v4' w' hv1 hv2 hv3 hv4 h_w f_w
    exact rX7_sound_h86 ih hk213 hv1 hv2 hv3 hv4 h_w f_w
set_option maxRecDepth 100000 in
theorem rX7_sound {F m : Nat} {v1 : Int} {v1' : Int32} {w : zS} {w' : gW} (hv1 : v1' = Int32.ofInt v1) (h_w : oAt 7 lyZ w' m (cvZ w)) : zR (E1 m w') (zX7_sound F v1 w) (mX7_sound F m v1' w') := by
  have f_w : wF m (m + 27) w' w' := wF.rf
  unfold zX7_sound mX7_sound
  exact (R_O h_w
  (R_C1 (rX7_isModule hv1 h_w) f_w (fun q2_1 q2_2 q2_1' q2_2' hq2 h_q2_2 f_q2_2 =>
  (R_Eq hq2 (eL (by decide) : (0 : Int32) = Int32.ofInt (0 : Int))
  (R_ret1 (eL (by decide) : (-1 : Int32) = Int32.ofInt (-1 : Int)) h_q2_2 f_q2_2)
  (R_FR h_q2_2 (k := 8) rfl
    (R_Ld h_q2_2 (k := 8) rfl (by decide) hv1 rfl (fun t15 t15' ht15 =>
    (R_FR h_q2_2 (k := 10) rfl
    (R_Ld h_q2_2 (k := 10) rfl (by decide) hv1 rfl (fun t22 t22' ht22 =>
    (rX7_sound_l27 (by exact (fun v1 v2 v3 w v1' v2' v3' w' hv1 hv2 hv3 h_w f_w =>
      (rX7_sound_l86 (by exact (fun v2 v4 v5 w v2' v4' v5' w' hv2 hv4 hv5 h_w f_w =>
        (R_FR h_w (k := 1) rfl
        (R_Ld h_w (k := 1) rfl (by decide) hv2 rfl (fun t219 t219' ht219 =>
        (R_ret1 (eAdd (eAdd (eL (by decide) : (1 : Int32) = Int32.ofInt (1 : Int)) (eMul ht219 hv4)) hv5) h_w f_w)))))) F _ _ _ _ _ _ _ _ _ _ hv1 hv2 hv3 (eL (by decide) : (0 : Int32) = Int32.ofInt (0 : Int)) h_w f_w))) F _ _ _ _ _ _ _ _ _ _ hv1 ht15 ht22 (eL (by decide) : (0 : Int32) = Int32.ofInt (0 : Int)) h_q2_2 f_q2_2)))))))))))
set_option maxRecDepth 100000 in
theorem rX7_turnsMade_b102 {F m : Nat} {E : (Int × zS) → (Int32 × gW) → Prop} {w0 : gW} {r : Int → Int → Int → Int → zS → Option (Int × zS)} {r' : Nat → Int32 → Int32 → Int32 → Int32 → gW → Option (Int32 × gW)} {k108 : Int → Int → Int → zS → Option (Int × zS)} {k108' : Nat → Int32 → Int32 → Int32 → gW → Option (Int32 × gW)} {v1 : Int} {v1' : Int32} {v2 : Int} {v2' : Int32} {v3 : Int} {v3' : Int32} {v4 : Int} {v4' : Int32} {w : zS} {w' : gW} (hr : ∀ (a2 : Int) (a3 : Int) (a4 : Int) (a5 : Int) (Z : zS) (b2 : Int32) (b3 : Int32) (b4 : Int32) (b5 : Int32) (w : gW), b2 = Int32.ofInt a2 → b3 = Int32.ofInt a3 → b4 = Int32.ofInt a4 → b5 = Int32.ofInt a5 → oAt 7 lyZ w m (cvZ Z) → wF m (m + 27) w0 w → zR E (r a2 a3 a4 a5 Z) (r' m b2 b3 b4 b5 w)) (hk108 : ∀ (a2 : Int) (a3 : Int) (a4 : Int) (Z : zS) (b2 : Int32) (b3 : Int32) (b4 : Int32) (w : gW), b2 = Int32.ofInt a2 → b3 = Int32.ofInt a3 → b4 = Int32.ofInt a4 → oAt 7 lyZ w m (cvZ Z) → wF m (m + 27) w0 w → zR E (k108 a2 a3 a4 Z) (k108' m b2 b3 b4 w)) (hv1 : v1' = Int32.ofInt v1) (hv2 : v2' = Int32.ofInt v2) (hv3 : v3' = Int32.ofInt v3) (hv4 : v4' = Int32.ofInt v4) (h_w : oAt 7 lyZ w' m (cvZ w)) (f_w : wF m (m + 27) w0 w') : zR E (zX7_turnsMade_b102 F r k108 v1 v2 v3 v4 w) (mX7_turnsMade_b102 F r' k108' m v1' v2' v3' v4' w') := by
  unfold zX7_turnsMade_b102 mX7_turnsMade_b102
  exact (hr _ _ _ _ _ _ _ _ _ _ hv1 hv2 hv3 (eAdd hv4 (eL (by decide) : (1 : Int32) = Int32.ofInt (1 : Int))) h_w f_w)
set_option maxRecDepth 100000 in
theorem rX7_turnsMade_h32 {F m : Nat} {E : (Int × zS) → (Int32 × gW) → Prop} {w0 : gW} {r : Int → Int → Int → Int → zS → Option (Int × zS)} {r' : Nat → Int32 → Int32 → Int32 → Int32 → gW → Option (Int32 × gW)} {k108 : Int → Int → Int → zS → Option (Int × zS)} {k108' : Nat → Int32 → Int32 → Int32 → gW → Option (Int32 × gW)} {v1 : Int} {v1' : Int32} {v2 : Int} {v2' : Int32} {v3 : Int} {v3' : Int32} {v4 : Int} {v4' : Int32} {w : zS} {w' : gW} (hr : ∀ (a2 : Int) (a3 : Int) (a4 : Int) (a5 : Int) (Z : zS) (b2 : Int32) (b3 : Int32) (b4 : Int32) (b5 : Int32) (w : gW), b2 = Int32.ofInt a2 → b3 = Int32.ofInt a3 → b4 = Int32.ofInt a4 → b5 = Int32.ofInt a5 → oAt 7 lyZ w m (cvZ Z) → wF m (m + 27) w0 w → zR E (r a2 a3 a4 a5 Z) (r' m b2 b3 b4 b5 w)) (hk108 : ∀ (a2 : Int) (a3 : Int) (a4 : Int) (Z : zS) (b2 : Int32) (b3 : Int32) (b4 : Int32) (w : gW), b2 = Int32.ofInt a2 → b3 = Int32.ofInt a3 → b4 = Int32.ofInt a4 → oAt 7 lyZ w m (cvZ Z) → wF m (m + 27) w0 w → zR E (k108 a2 a3 a4 Z) (k108' m b2 b3 b4 w)) (hv1 : v1' = Int32.ofInt v1) (hv2 : v2' = Int32.ofInt v2) (hv3 : v3' = Int32.ofInt v3) (hv4 : v4' = Int32.ofInt v4) (h_w : oAt 7 lyZ w' m (cvZ w)) (f_w : wF m (m + 27) w0 w') : zR E (zX7_turnsMade_h32 F r k108 v1 v2 v3 v4 w) (mX7_turnsMade_h32 F r' k108' m v1' v2' v3' v4' w') := by
  unfold zX7_turnsMade_h32 mX7_turnsMade_h32
  exact (R_FR h_w (k := 1) rfl
  (R_Ld h_w (k := 1) rfl (by decide) hv1 rfl (fun t39 t39' ht39 =>
  (R_Le ht39 hv4
  (hk108 _ _ _ _ _ _ _ _ hv1 hv2 hv3 h_w f_w)
  (R_O h_w
    (R_C1 (rX7_prod hv1 hv3 hv4 h_w) f_w (fun q52_1 q52_2 q52_1' q52_2' hq52 h_q52_2 f_q52_2 =>
    (R_O h_q52_2
    (R_C1 (rX7_inverse hv1 hv3 h_q52_2) f_q52_2 (fun q58_1 q58_2 q58_1' q58_2' hq58 h_q58_2 f_q58_2 =>
    (R_O h_q58_2
    (R_C1 (rX7_prod hv1 hq52 hq58 h_q58_2) f_q58_2 (fun q61_1 q61_2 q61_1' q61_2' hq61 h_q61_2 f_q61_2 =>
    (R_O h_q61_2
    (R_C1 (rX7_inverse hv1 hv4 h_q61_2) f_q61_2 (fun q68_1 q68_2 q68_1' q68_2' hq68 h_q68_2 f_q68_2 =>
    (R_O h_q68_2
    (R_C1 (rX7_prod hv1 hq61 hq68 h_q68_2) f_q68_2 (fun q71_1 q71_2 q71_1' q71_2' hq71 h_q71_2 f_q71_2 =>
    (R_O h_q71_2
    (R_C1 (rX7_isMade hq71 h_q71_2) f_q71_2 (fun q79_1 q79_2 q79_1' q79_2' hq79 h_q79_2 f_q79_2 =>
    (R_Eq hq79 (eL (by decide) : (0 : Int32) = Int32.ofInt (0 : Int))
    (R_FR h_q79_2 (k := 12) rfl
      (R_St h_q79_2 f_q79_2 (k := 12) rfl (by decide) hv2 hq71 (fun w92' h_w92 f_w92 =>
      (R_O h_w92
      (R_C0 (rX7_makes hv1 (eAdd hv2 (eL (by decide) : (1 : Int32) = Int32.ofInt (1 : Int))) h_w92) f_w92 (fun q99 q99' h_q99 f_q99 =>
      (rX7_turnsMade_b102 hr hk108 hv1 (eAdd hv2 (eL (by decide) : (1 : Int32) = Int32.ofInt (1 : Int))) hv3 hv4 h_q99 f_q99)))))))
    (rX7_turnsMade_b102 hr hk108 hv1 hv2 hv3 hv4 h_q79_2 f_q79_2))))))))))))))))))))))))
set_option maxRecDepth 100000 in
theorem rX7_turnsMade_l32 {F m : Nat} {E : (Int × zS) → (Int32 × gW) → Prop} {w0 : gW} {k108 : Int → Int → Int → zS → Option (Int × zS)} {k108' : Nat → Int32 → Int32 → Int32 → gW → Option (Int32 × gW)} (hk108 : ∀ (a2 : Int) (a3 : Int) (a4 : Int) (Z : zS) (b2 : Int32) (b3 : Int32) (b4 : Int32) (w : gW), b2 = Int32.ofInt a2 → b3 = Int32.ofInt a3 → b4 = Int32.ofInt a4 → oAt 7 lyZ w m (cvZ Z) → wF m (m + 27) w0 w → zR E (k108 a2 a3 a4 Z) (k108' m b2 b3 b4 w)) : ∀ (n : Nat) (v1 : Int) (v2 : Int) (v3 : Int) (v4 : Int) (w : zS) (v1' : Int32) (v2' : Int32) (v3' : Int32) (v4' : Int32) (w' : gW), v1' = Int32.ofInt v1 → v2' = Int32.ofInt v2 → v3' = Int32.ofInt v3 → v4' = Int32.ofInt v4 → oAt 7 lyZ w' m (cvZ w) → wF m (m + 27) w0 w' → zR E (zX7_turnsMade_l32 F k108 n v1 v2 v3 v4 w) (mX7_turnsMade_l32 F k108' n m v1' v2' v3' v4' w') := by
  intro n
  induction n with
  | zero => intros; exact R_none
  | succ n ih =>
    intro v1 v2 v3 v4 w v1' v2' v3' v4' w' hv1 hv2 hv3 hv4 h_w f_w
    exact rX7_turnsMade_h32 ih hk108 hv1 hv2 hv3 hv4 h_w f_w
set_option maxRecDepth 100000 in
theorem rX7_turnsMade_h19 {F m : Nat} {E : (Int × zS) → (Int32 × gW) → Prop} {w0 : gW} {r : Int → Int → Int → zS → Option (Int × zS)} {r' : Nat → Int32 → Int32 → Int32 → gW → Option (Int32 × gW)} {k114 : zS → Option (Int × zS)} {k114' : Nat → gW → Option (Int32 × gW)} {v1 : Int} {v1' : Int32} {v2 : Int} {v2' : Int32} {v3 : Int} {v3' : Int32} {w : zS} {w' : gW} (hr : ∀ (a2 : Int) (a3 : Int) (a4 : Int) (Z : zS) (b2 : Int32) (b3 : Int32) (b4 : Int32) (w : gW), b2 = Int32.ofInt a2 → b3 = Int32.ofInt a3 → b4 = Int32.ofInt a4 → oAt 7 lyZ w m (cvZ Z) → wF m (m + 27) w0 w → zR E (r a2 a3 a4 Z) (r' m b2 b3 b4 w)) (hk114 : ∀ (Z : zS) (w : gW), oAt 7 lyZ w m (cvZ Z) → wF m (m + 27) w0 w → zR E (k114 Z) (k114' m w)) (hv1 : v1' = Int32.ofInt v1) (hv2 : v2' = Int32.ofInt v2) (hv3 : v3' = Int32.ofInt v3) (h_w : oAt 7 lyZ w' m (cvZ w)) (f_w : wF m (m + 27) w0 w') : zR E (zX7_turnsMade_h19 F r k114 v1 v2 v3 w) (mX7_turnsMade_h19 F r' k114' m v1' v2' v3' w') := by
  unfold zX7_turnsMade_h19 mX7_turnsMade_h19
  exact (R_FR h_w (k := 1) rfl
  (R_Ld h_w (k := 1) rfl (by decide) hv1 rfl (fun t25 t25' ht25 =>
  (R_Le ht25 hv3
  (hk114 _ _ h_w f_w)
  (rX7_turnsMade_l32 (by exact (fun v1 v2 v3 w v1' v2' v3' w' hv1 hv2 hv3 h_w f_w =>
      (hr _ _ _ _ _ _ _ _ hv1 hv2 (eAdd hv3 (eL (by decide) : (1 : Int32) = Int32.ofInt (1 : Int))) h_w f_w))) F _ _ _ _ _ _ _ _ _ _ hv1 hv2 hv3 (eL (by decide) : (0 : Int32) = Int32.ofInt (0 : Int)) h_w f_w)))))
set_option maxRecDepth 100000 in
theorem rX7_turnsMade_l19 {F m : Nat} {E : (Int × zS) → (Int32 × gW) → Prop} {w0 : gW} {k114 : zS → Option (Int × zS)} {k114' : Nat → gW → Option (Int32 × gW)} (hk114 : ∀ (Z : zS) (w : gW), oAt 7 lyZ w m (cvZ Z) → wF m (m + 27) w0 w → zR E (k114 Z) (k114' m w)) : ∀ (n : Nat) (v1 : Int) (v2 : Int) (v3 : Int) (w : zS) (v1' : Int32) (v2' : Int32) (v3' : Int32) (w' : gW), v1' = Int32.ofInt v1 → v2' = Int32.ofInt v2 → v3' = Int32.ofInt v3 → oAt 7 lyZ w' m (cvZ w) → wF m (m + 27) w0 w' → zR E (zX7_turnsMade_l19 F k114 n v1 v2 v3 w) (mX7_turnsMade_l19 F k114' n m v1' v2' v3' w') := by
  intro n
  induction n with
  | zero => intros; exact R_none
  | succ n ih =>
    intro v1 v2 v3 w v1' v2' v3' w' hv1 hv2 hv3 h_w f_w
    exact rX7_turnsMade_h19 ih hk114 hv1 hv2 hv3 h_w f_w
set_option maxRecDepth 100000 in
theorem rX7_turnsMade {F m : Nat} {v1 : Int} {v1' : Int32} {w : zS} {w' : gW} (hv1 : v1' = Int32.ofInt v1) (h_w : oAt 7 lyZ w' m (cvZ w)) : zR (E1 m w') (zX7_turnsMade F v1 w) (mX7_turnsMade F m v1' w') := by
  have f_w : wF m (m + 27) w' w' := wF.rf
  unfold zX7_turnsMade mX7_turnsMade
  exact (R_PJ h_w f_w (k := 15) rfl rfl (fun w4' h_w4 f_w4 =>
  (R_PJ h_w4 f_w4 (k := 16) rfl rfl (fun w9' h_w9 f_w9 =>
  (R_PI h_w9 f_w9 (k := 14) rfl (eL (by decide) : (1 : Int32) = Int32.ofInt (1 : Int)) (fun w14' h_w14 f_w14 =>
  (rX7_turnsMade_l19 (by exact (fun w w' h_w f_w =>
    (R_FI h_w (k := 14) rfl (c := (zI w 14)) rfl (fun t115' ht115 =>
    (R_ret1 ht115 h_w f_w))))) F _ _ _ _ _ _ _ _ hv1 (eL (by decide) : (0 : Int32) = Int32.ofInt (0 : Int)) (eL (by decide) : (0 : Int32) = Int32.ofInt (0 : Int)) h_w14 f_w14)))))))
set_option maxRecDepth 100000 in
theorem rX7_about_b87 {F m : Nat} {E : (Int × zS) → (Int32 × gW) → Prop} {w0 : gW} {r : Int → Int → Int → Int → Int → zS → Option (Int × zS)} {r' : Nat → Int32 → Int32 → Int32 → Int32 → Int32 → gW → Option (Int32 × gW)} {k96 : Int → Int → Int → zS → Option (Int × zS)} {k96' : Int32 → Int32 → Int32 → gW → Option (Int32 × gW)} {v1 : Int} {v1' : Int32} {v2 : Int} {v2' : Int32} {v3 : Int} {v3' : Int32} {v5 : Int} {v5' : Int32} {s0 : Int} {s0' : Int32} {s1 : Int} {s1' : Int32} {w : zS} {w' : gW} (hr : ∀ (a2 : Int) (a3 : Int) (a4 : Int) (a5 : Int) (a6 : Int) (Z : zS) (b2 : Int32) (b3 : Int32) (b4 : Int32) (b5 : Int32) (b6 : Int32) (w : gW), b2 = Int32.ofInt a2 → b3 = Int32.ofInt a3 → b4 = Int32.ofInt a4 → b5 = Int32.ofInt a5 → b6 = Int32.ofInt a6 → oAt 7 lyZ w m (cvZ Z) → wF m (m + 27) w0 w → zR E (r a2 a3 a4 a5 a6 Z) (r' m b2 b3 b4 b5 b6 w)) (hk96 : ∀ (a1 : Int) (a2 : Int) (a3 : Int) (Z : zS) (b1 : Int32) (b2 : Int32) (b3 : Int32) (w : gW), b1 = Int32.ofInt a1 → b2 = Int32.ofInt a2 → b3 = Int32.ofInt a3 → oAt 7 lyZ w m (cvZ Z) → wF m (m + 27) w0 w → zR E (k96 a1 a2 a3 Z) (k96' b1 b2 b3 w)) (hv1 : v1' = Int32.ofInt v1) (hv2 : v2' = Int32.ofInt v2) (hv3 : v3' = Int32.ofInt v3) (hv5 : v5' = Int32.ofInt v5) (hs0 : s0' = Int32.ofInt s0) (hs1 : s1' = Int32.ofInt s1) (h_w : oAt 7 lyZ w' m (cvZ w)) (f_w : wF m (m + 27) w0 w') : zR E (zX7_about_b87 F r k96 v1 v2 v3 v5 s0 s1 w) (mX7_about_b87 F r' k96' m v1' v2' v3' v5' s0' s1' w') := by
  unfold zX7_about_b87 mX7_about_b87
  exact (hr _ _ _ _ _ _ _ _ _ _ _ _ hv1 hv2 hv3 (eAdd hs0 hs1) (eAdd hv5 (eL (by decide) : (1 : Int32) = Int32.ofInt (1 : Int))) h_w f_w)
set_option maxRecDepth 100000 in
theorem rX7_about_h63 {F m : Nat} {E : (Int × zS) → (Int32 × gW) → Prop} {w0 : gW} {r : Int → Int → Int → Int → Int → zS → Option (Int × zS)} {r' : Nat → Int32 → Int32 → Int32 → Int32 → Int32 → gW → Option (Int32 × gW)} {k96 : Int → Int → Int → zS → Option (Int × zS)} {k96' : Int32 → Int32 → Int32 → gW → Option (Int32 × gW)} {v1 : Int} {v1' : Int32} {v2 : Int} {v2' : Int32} {v3 : Int} {v3' : Int32} {v4 : Int} {v4' : Int32} {v5 : Int} {v5' : Int32} {w : zS} {w' : gW} (hr : ∀ (a2 : Int) (a3 : Int) (a4 : Int) (a5 : Int) (a6 : Int) (Z : zS) (b2 : Int32) (b3 : Int32) (b4 : Int32) (b5 : Int32) (b6 : Int32) (w : gW), b2 = Int32.ofInt a2 → b3 = Int32.ofInt a3 → b4 = Int32.ofInt a4 → b5 = Int32.ofInt a5 → b6 = Int32.ofInt a6 → oAt 7 lyZ w m (cvZ Z) → wF m (m + 27) w0 w → zR E (r a2 a3 a4 a5 a6 Z) (r' m b2 b3 b4 b5 b6 w)) (hk96 : ∀ (a1 : Int) (a2 : Int) (a3 : Int) (Z : zS) (b1 : Int32) (b2 : Int32) (b3 : Int32) (w : gW), b1 = Int32.ofInt a1 → b2 = Int32.ofInt a2 → b3 = Int32.ofInt a3 → oAt 7 lyZ w m (cvZ Z) → wF m (m + 27) w0 w → zR E (k96 a1 a2 a3 Z) (k96' b1 b2 b3 w)) (hv1 : v1' = Int32.ofInt v1) (hv2 : v2' = Int32.ofInt v2) (hv3 : v3' = Int32.ofInt v3) (hv4 : v4' = Int32.ofInt v4) (hv5 : v5' = Int32.ofInt v5) (h_w : oAt 7 lyZ w' m (cvZ w)) (f_w : wF m (m + 27) w0 w') : zR E (zX7_about_h63 F r k96 v1 v2 v3 v4 v5 w) (mX7_about_h63 F r' k96' m v1' v2' v3' v4' v5' w') := by
  unfold zX7_about_h63 mX7_about_h63
  exact (R_Le hv3 hv5
  (hk96 _ _ _ _ _ _ _ _ hv2 hv3 hv4 h_w f_w)
  (R_O h_w
    (R_C1 (rX7_friends hv1 hv5 h_w) f_w (fun q75_1 q75_2 q75_1' q75_2' hq75 h_q75_2 f_q75_2 =>
    (R_Eq hq75 hv3
    (rX7_about_b87 hr hk96 hv1 hv2 hv3 hv5 hv4 (eL (by decide) : (1 : Int32) = Int32.ofInt (1 : Int)) h_q75_2 f_q75_2)
    (rX7_about_b87 hr hk96 hv1 hv2 hv3 hv5 hv4 (eL (by decide) : (0 : Int32) = Int32.ofInt (0 : Int)) h_q75_2 f_q75_2))))))
set_option maxRecDepth 100000 in
theorem rX7_about_l63 {F m : Nat} {E : (Int × zS) → (Int32 × gW) → Prop} {w0 : gW} {k96 : Int → Int → Int → zS → Option (Int × zS)} {k96' : Int32 → Int32 → Int32 → gW → Option (Int32 × gW)} (hk96 : ∀ (a1 : Int) (a2 : Int) (a3 : Int) (Z : zS) (b1 : Int32) (b2 : Int32) (b3 : Int32) (w : gW), b1 = Int32.ofInt a1 → b2 = Int32.ofInt a2 → b3 = Int32.ofInt a3 → oAt 7 lyZ w m (cvZ Z) → wF m (m + 27) w0 w → zR E (k96 a1 a2 a3 Z) (k96' b1 b2 b3 w)) : ∀ (n : Nat) (v1 : Int) (v2 : Int) (v3 : Int) (v4 : Int) (v5 : Int) (w : zS) (v1' : Int32) (v2' : Int32) (v3' : Int32) (v4' : Int32) (v5' : Int32) (w' : gW), v1' = Int32.ofInt v1 → v2' = Int32.ofInt v2 → v3' = Int32.ofInt v3 → v4' = Int32.ofInt v4 → v5' = Int32.ofInt v5 → oAt 7 lyZ w' m (cvZ w) → wF m (m + 27) w0 w' → zR E (zX7_about_l63 F k96 n v1 v2 v3 v4 v5 w) (mX7_about_l63 F k96' n m v1' v2' v3' v4' v5' w') := by
  intro n
  induction n with
  | zero => intros; exact R_none
  | succ n ih =>
    intro v1 v2 v3 v4 v5 w v1' v2' v3' v4' v5' w' hv1 hv2 hv3 hv4 hv5 h_w f_w
    exact rX7_about_h63 ih hk96 hv1 hv2 hv3 hv4 hv5 h_w f_w
set_option maxRecDepth 100000 in
theorem rX7_about_h148 {F m : Nat} {E : (Int × zS) → (Int32 × gW) → Prop} {w0 : gW} {r : Int → Int → Int → Int → Int → Int → zS → Option (Int × zS)} {r' : Nat → Int32 → Int32 → Int32 → Int32 → Int32 → Int32 → gW → Option (Int32 × gW)} {k166 : Int → Int → Int → Int → zS → Option (Int × zS)} {k166' : Nat → Int32 → Int32 → Int32 → Int32 → gW → Option (Int32 × gW)} {v1 : Int} {v1' : Int32} {v3 : Int} {v3' : Int32} {v4 : Int} {v4' : Int32} {v5 : Int} {v5' : Int32} {v6 : Int} {v6' : Int32} {v7 : Int} {v7' : Int32} {w : zS} {w' : gW} (hr : ∀ (a2 : Int) (a3 : Int) (a4 : Int) (a5 : Int) (a6 : Int) (a7 : Int) (Z : zS) (b2 : Int32) (b3 : Int32) (b4 : Int32) (b5 : Int32) (b6 : Int32) (b7 : Int32) (w : gW), b2 = Int32.ofInt a2 → b3 = Int32.ofInt a3 → b4 = Int32.ofInt a4 → b5 = Int32.ofInt a5 → b6 = Int32.ofInt a6 → b7 = Int32.ofInt a7 → oAt 7 lyZ w m (cvZ Z) → wF m (m + 27) w0 w → zR E (r a2 a3 a4 a5 a6 a7 Z) (r' m b2 b3 b4 b5 b6 b7 w)) (hk166 : ∀ (a2 : Int) (a3 : Int) (a4 : Int) (a5 : Int) (Z : zS) (b2 : Int32) (b3 : Int32) (b4 : Int32) (b5 : Int32) (w : gW), b2 = Int32.ofInt a2 → b3 = Int32.ofInt a3 → b4 = Int32.ofInt a4 → b5 = Int32.ofInt a5 → oAt 7 lyZ w m (cvZ Z) → wF m (m + 27) w0 w → zR E (k166 a2 a3 a4 a5 Z) (k166' m b2 b3 b4 b5 w)) (hv1 : v1' = Int32.ofInt v1) (hv3 : v3' = Int32.ofInt v3) (hv4 : v4' = Int32.ofInt v4) (hv5 : v5' = Int32.ofInt v5) (hv6 : v6' = Int32.ofInt v6) (hv7 : v7' = Int32.ofInt v7) (h_w : oAt 7 lyZ w' m (cvZ w)) (f_w : wF m (m + 27) w0 w') : zR E (zX7_about_h148 F r k166 v1 v3 v4 v5 v6 v7 w) (mX7_about_h148 F r' k166' m v1' v3' v4' v5' v6' v7' w') := by
  unfold zX7_about_h148 mX7_about_h148
  exact (R_Rem hv7 hv6 (fun t152 t152' ht152 =>
  (R_Eq ht152 (eL (by decide) : (0 : Int32) = Int32.ofInt (0 : Int))
  (hk166 _ _ _ _ _ _ _ _ _ _ hv1 hv3 hv5 hv7 h_w f_w)
  (hr _ _ _ _ _ _ _ _ _ _ _ _ _ _ hv1 hv3 hv4 hv5 hv6 (eAdd hv7 hv4) h_w f_w))))
set_option maxRecDepth 100000 in
theorem rX7_about_l148 {F m : Nat} {E : (Int × zS) → (Int32 × gW) → Prop} {w0 : gW} {k166 : Int → Int → Int → Int → zS → Option (Int × zS)} {k166' : Nat → Int32 → Int32 → Int32 → Int32 → gW → Option (Int32 × gW)} (hk166 : ∀ (a2 : Int) (a3 : Int) (a4 : Int) (a5 : Int) (Z : zS) (b2 : Int32) (b3 : Int32) (b4 : Int32) (b5 : Int32) (w : gW), b2 = Int32.ofInt a2 → b3 = Int32.ofInt a3 → b4 = Int32.ofInt a4 → b5 = Int32.ofInt a5 → oAt 7 lyZ w m (cvZ Z) → wF m (m + 27) w0 w → zR E (k166 a2 a3 a4 a5 Z) (k166' m b2 b3 b4 b5 w)) : ∀ (n : Nat) (v1 : Int) (v3 : Int) (v4 : Int) (v5 : Int) (v6 : Int) (v7 : Int) (w : zS) (v1' : Int32) (v3' : Int32) (v4' : Int32) (v5' : Int32) (v6' : Int32) (v7' : Int32) (w' : gW), v1' = Int32.ofInt v1 → v3' = Int32.ofInt v3 → v4' = Int32.ofInt v4 → v5' = Int32.ofInt v5 → v6' = Int32.ofInt v6 → v7' = Int32.ofInt v7 → oAt 7 lyZ w' m (cvZ w) → wF m (m + 27) w0 w' → zR E (zX7_about_l148 F k166 n v1 v3 v4 v5 v6 v7 w) (mX7_about_l148 F k166' n m v1' v3' v4' v5' v6' v7' w') := by
  intro n
  induction n with
  | zero => intros; exact R_none
  | succ n ih =>
    intro v1 v3 v4 v5 v6 v7 w v1' v3' v4' v5' v6' v7' w' hv1 hv3 hv4 hv5 hv6 hv7 h_w f_w
    exact rX7_about_h148 ih hk166 hv1 hv3 hv4 hv5 hv6 hv7 h_w f_w
set_option maxRecDepth 100000 in
theorem rX7_about_h129 {F m : Nat} {w0 : gW} {r : Int → Int → Int → Int → zS → Option (Int × zS)} {r' : Nat → Int32 → Int32 → Int32 → Int32 → gW → Option (Int32 × gW)} {v1 : Int} {v1' : Int32} {v3 : Int} {v3' : Int32} {v4 : Int} {v4' : Int32} {v5 : Int} {v5' : Int32} {w : zS} {w' : gW} (hr : ∀ (a2 : Int) (a3 : Int) (a4 : Int) (a5 : Int) (Z : zS) (b2 : Int32) (b3 : Int32) (b4 : Int32) (b5 : Int32) (w : gW), b2 = Int32.ofInt a2 → b3 = Int32.ofInt a3 → b4 = Int32.ofInt a4 → b5 = Int32.ofInt a5 → oAt 7 lyZ w m (cvZ Z) → wF m (m + 27) w0 w → zR (E1 m w0) (r a2 a3 a4 a5 Z) (r' m b2 b3 b4 b5 w)) (hv1 : v1' = Int32.ofInt v1) (hv3 : v3' = Int32.ofInt v3) (hv4 : v4' = Int32.ofInt v4) (hv5 : v5' = Int32.ofInt v5) (h_w : oAt 7 lyZ w' m (cvZ w)) (f_w : wF m (m + 27) w0 w') : zR (E1 m w0) (zX7_about_h129 F r v1 v3 v4 v5 w) (mX7_about_h129 F r' m v1' v3' v4' v5' w') := by
  unfold zX7_about_h129 mX7_about_h129
  exact (R_Le hv3 hv5
  (R_ret1 hv4 h_w f_w)
  (R_O h_w
    (R_C1 (rX7_orderOf hv1 hv5 h_w) f_w (fun q139_1 q139_2 q139_1' q139_2' hq139 h_q139_2 f_q139_2 =>
    (rX7_about_l148 (by exact (fun v1 v3 v5 v7 w v1' v3' v5' v7' w' hv1 hv3 hv5 hv7 h_w f_w =>
      (hr _ _ _ _ _ _ _ _ _ _ hv1 hv3 hv7 (eAdd hv5 (eL (by decide) : (1 : Int32) = Int32.ofInt (1 : Int))) h_w f_w))) F _ _ _ _ _ _ _ _ _ _ _ _ _ _ hv1 hv3 hv4 hv5 hq139 hv4 h_q139_2 f_q139_2)))))
set_option maxRecDepth 100000 in
theorem rX7_about_l129 {F m : Nat} {w0 : gW}   : ∀ (n : Nat) (v1 : Int) (v3 : Int) (v4 : Int) (v5 : Int) (w : zS) (v1' : Int32) (v3' : Int32) (v4' : Int32) (v5' : Int32) (w' : gW), v1' = Int32.ofInt v1 → v3' = Int32.ofInt v3 → v4' = Int32.ofInt v4 → v5' = Int32.ofInt v5 → oAt 7 lyZ w' m (cvZ w) → wF m (m + 27) w0 w' → zR (E1 m w0) (zX7_about_l129 F  n v1 v3 v4 v5 w) (mX7_about_l129 F  n m v1' v3' v4' v5' w') := by
  intro n
  induction n with
  | zero => intros; exact R_none
  | succ n ih =>
    intro v1 v3 v4 v5 w v1' v3' v4' v5' w' hv1 hv3 hv4 hv5 h_w f_w
    exact rX7_about_h129 ih  hv1 hv3 hv4 hv5 h_w f_w
set_option maxRecDepth 100000 in
theorem rX7_about_b207 {F m : Nat} {E : (Int × zS) → (Int32 × gW) → Prop} {w0 : gW} {r : Int → Int → Int → Int → zS → Option (Int × zS)} {r' : Nat → Int32 → Int32 → Int32 → Int32 → gW → Option (Int32 × gW)} {v1 : Int} {v1' : Int32} {v3 : Int} {v3' : Int32} {v5 : Int} {v5' : Int32} {s0 : Int} {s0' : Int32} {s1 : Int} {s1' : Int32} {w : zS} {w' : gW} (hr : ∀ (a2 : Int) (a3 : Int) (a4 : Int) (a5 : Int) (Z : zS) (b2 : Int32) (b3 : Int32) (b4 : Int32) (b5 : Int32) (w : gW), b2 = Int32.ofInt a2 → b3 = Int32.ofInt a3 → b4 = Int32.ofInt a4 → b5 = Int32.ofInt a5 → oAt 7 lyZ w m (cvZ Z) → wF m (m + 27) w0 w → zR E (r a2 a3 a4 a5 Z) (r' m b2 b3 b4 b5 w)) (hv1 : v1' = Int32.ofInt v1) (hv3 : v3' = Int32.ofInt v3) (hv5 : v5' = Int32.ofInt v5) (hs0 : s0' = Int32.ofInt s0) (hs1 : s1' = Int32.ofInt s1) (h_w : oAt 7 lyZ w' m (cvZ w)) (f_w : wF m (m + 27) w0 w') : zR E (zX7_about_b207 F r v1 v3 v5 s0 s1 w) (mX7_about_b207 F r' m v1' v3' v5' s0' s1' w') := by
  unfold zX7_about_b207 mX7_about_b207
  exact (hr _ _ _ _ _ _ _ _ _ _ hv1 hv3 (eAdd hs0 hs1) (eAdd hv5 (eL (by decide) : (1 : Int32) = Int32.ofInt (1 : Int))) h_w f_w)
set_option maxRecDepth 100000 in
theorem rX7_about_h182 {F m : Nat} {w0 : gW} {r : Int → Int → Int → Int → zS → Option (Int × zS)} {r' : Nat → Int32 → Int32 → Int32 → Int32 → gW → Option (Int32 × gW)} {v1 : Int} {v1' : Int32} {v3 : Int} {v3' : Int32} {v4 : Int} {v4' : Int32} {v5 : Int} {v5' : Int32} {w : zS} {w' : gW} (hr : ∀ (a2 : Int) (a3 : Int) (a4 : Int) (a5 : Int) (Z : zS) (b2 : Int32) (b3 : Int32) (b4 : Int32) (b5 : Int32) (w : gW), b2 = Int32.ofInt a2 → b3 = Int32.ofInt a3 → b4 = Int32.ofInt a4 → b5 = Int32.ofInt a5 → oAt 7 lyZ w m (cvZ Z) → wF m (m + 27) w0 w → zR (E1 m w0) (r a2 a3 a4 a5 Z) (r' m b2 b3 b4 b5 w)) (hv1 : v1' = Int32.ofInt v1) (hv3 : v3' = Int32.ofInt v3) (hv4 : v4' = Int32.ofInt v4) (hv5 : v5' = Int32.ofInt v5) (h_w : oAt 7 lyZ w' m (cvZ w)) (f_w : wF m (m + 27) w0 w') : zR (E1 m w0) (zX7_about_h182 F r v1 v3 v4 v5 w) (mX7_about_h182 F r' m v1' v3' v4' v5' w') := by
  unfold zX7_about_h182 mX7_about_h182
  exact (R_Le hv3 hv5
  (R_ret1 hv4 h_w f_w)
  (R_O h_w
    (R_C1 (rX7_leastTurned hv1 hv5 h_w) f_w (fun q194_1 q194_2 q194_1' q194_2' hq194 h_q194_2 f_q194_2 =>
    (R_Eq hq194 hv5
    (rX7_about_b207 hr hv1 hv3 hv5 hv4 (eL (by decide) : (1 : Int32) = Int32.ofInt (1 : Int)) h_q194_2 f_q194_2)
    (rX7_about_b207 hr hv1 hv3 hv5 hv4 (eL (by decide) : (0 : Int32) = Int32.ofInt (0 : Int)) h_q194_2 f_q194_2))))))
set_option maxRecDepth 100000 in
theorem rX7_about_l182 {F m : Nat} {w0 : gW}   : ∀ (n : Nat) (v1 : Int) (v3 : Int) (v4 : Int) (v5 : Int) (w : zS) (v1' : Int32) (v3' : Int32) (v4' : Int32) (v5' : Int32) (w' : gW), v1' = Int32.ofInt v1 → v3' = Int32.ofInt v3 → v4' = Int32.ofInt v4 → v5' = Int32.ofInt v5 → oAt 7 lyZ w' m (cvZ w) → wF m (m + 27) w0 w' → zR (E1 m w0) (zX7_about_l182 F  n v1 v3 v4 v5 w) (mX7_about_l182 F  n m v1' v3' v4' v5' w') := by
  intro n
  induction n with
  | zero => intros; exact R_none
  | succ n ih =>
    intro v1 v3 v4 v5 w v1' v3' v4' v5' w' hv1 hv3 hv4 hv5 h_w f_w
    exact rX7_about_h182 ih  hv1 hv3 hv4 hv5 h_w f_w
set_option maxRecDepth 100000 in
theorem rX7_about {F m : Nat} {v1 : Int} {v1' : Int32} {v2 : Int} {v2' : Int32} {w : zS} {w' : gW} (hv1 : v1' = Int32.ofInt v1) (hv2 : v2' = Int32.ofInt v2) (h_w : oAt 7 lyZ w' m (cvZ w)) : zR (E1 m w') (zX7_about F v1 v2 w) (mX7_about F m v1' v2' w') := by
  have f_w : wF m (m + 27) w' w' := wF.rf
  unfold zX7_about mX7_about
  exact (R_O h_w
  (R_C1 (rX7_isGroup hv1 h_w) f_w (fun q2_1 q2_2 q2_1' q2_2' hq2 h_q2_2 f_q2_2 =>
  (R_Eq hq2 (eL (by decide) : (0 : Int32) = Int32.ofInt (0 : Int))
  (R_ret1 (eL (by decide) : (-1 : Int32) = Int32.ofInt (-1 : Int)) h_q2_2 f_q2_2)
  (R_FR h_q2_2 (k := 1) rfl
    (R_Ld h_q2_2 (k := 1) rfl (by decide) hv1 rfl (fun t15 t15' ht15 =>
    (R_Eq hv2 (eL (by decide) : (0 : Int32) = Int32.ofInt (0 : Int))
    (rX7_about_l63 (by exact (fun v2 v3 v4 w v2' v3' v4' w' hv2 hv3 hv4 h_w f_w =>
        (R_Eq hv2 (eL (by decide) : (0 : Int32) = Int32.ofInt (0 : Int))
        (R_ret1 hv4 h_w f_w)
        (R_Eq hv4 hv3
          (R_ret1 (eL (by decide) : (1 : Int32) = Int32.ofInt (1 : Int)) h_w f_w)
          (R_ret1 (eL (by decide) : (0 : Int32) = Int32.ofInt (0 : Int)) h_w f_w))))) F _ _ _ _ _ _ _ _ _ _ _ _ hv1 hv2 ht15 (eL (by decide) : (0 : Int32) = Int32.ofInt (0 : Int)) (eL (by decide) : (0 : Int32) = Int32.ofInt (0 : Int)) h_q2_2 f_q2_2)
    (R_Eq hv2 (eL (by decide) : (1 : Int32) = Int32.ofInt (1 : Int))
      (R_O h_q2_2
        (R_C1 (rX7_turnsMade hv1 h_q2_2) f_q2_2 (fun q119_1 q119_2 q119_1' q119_2' hq119 h_q119_2 f_q119_2 =>
        (R_ret1 hq119 h_q119_2 f_q119_2))))
      (R_Eq hv2 (eL (by decide) : (2 : Int32) = Int32.ofInt (2 : Int))
        (rX7_about_l129  F _ _ _ _ _ _ _ _ _ _ hv1 ht15 (eL (by decide) : (1 : Int32) = Int32.ofInt (1 : Int)) (eL (by decide) : (0 : Int32) = Int32.ofInt (0 : Int)) h_q2_2 f_q2_2)
        (R_Eq hv2 (eL (by decide) : (3 : Int32) = Int32.ofInt (3 : Int))
          (rX7_about_l182  F _ _ _ _ _ _ _ _ _ _ hv1 ht15 (eL (by decide) : (0 : Int32) = Int32.ofInt (0 : Int)) (eL (by decide) : (0 : Int32) = Int32.ofInt (0 : Int)) h_q2_2 f_q2_2)
          (R_Eq hv2 (eL (by decide) : (4 : Int32) = Int32.ofInt (4 : Int))
            (rX7_about_l63 (by exact (fun v2 v3 v4 w v2' v3' v4' w' hv2 hv3 hv4 h_w f_w =>
                (R_Eq hv2 (eL (by decide) : (0 : Int32) = Int32.ofInt (0 : Int))
                (R_ret1 hv4 h_w f_w)
                (R_Eq hv4 hv3
                  (R_ret1 (eL (by decide) : (1 : Int32) = Int32.ofInt (1 : Int)) h_w f_w)
                  (R_ret1 (eL (by decide) : (0 : Int32) = Int32.ofInt (0 : Int)) h_w f_w))))) F _ _ _ _ _ _ _ _ _ _ _ _ hv1 hv2 ht15 (eL (by decide) : (0 : Int32) = Int32.ofInt (0 : Int)) (eL (by decide) : (0 : Int32) = Int32.ofInt (0 : Int)) h_q2_2 f_q2_2)
            (R_Eq hv2 (eL (by decide) : (5 : Int32) = Int32.ofInt (5 : Int))
              (R_O h_q2_2
                (R_C1 (rX7_leastMakers hv1 h_q2_2) f_q2_2 (fun q221_1 q221_2 q221_1' q221_2' hq221 h_q221_2 f_q221_2 =>
                (R_ret1 hq221 h_q221_2 f_q221_2))))
              (R_ret1 (eL (by decide) : (-1 : Int32) = Int32.ofInt (-1 : Int)) h_q2_2 f_q2_2))))))))))))))
set_option maxRecDepth 100000 in
theorem rX7_acts_b50 {F m : Nat} {w0 : gW} {v1 : Int} {v1' : Int32} {v2 : Int} {v2' : Int32} {v3 : Int} {v3' : Int32} {v4 : Int} {v4' : Int32} {v5 : Int} {v5' : Int32} {v6 : Int} {v6' : Int32} {v7 : Int} {v7' : Int32} {s0 : Int} {s0' : Int32} {w : zS} {w' : gW} (hv1 : v1' = Int32.ofInt v1) (hv2 : v2' = Int32.ofInt v2) (hv3 : v3' = Int32.ofInt v3) (hv4 : v4' = Int32.ofInt v4) (hv5 : v5' = Int32.ofInt v5) (hv6 : v6' = Int32.ofInt v6) (hv7 : v7' = Int32.ofInt v7) (hs0 : s0' = Int32.ofInt s0) (h_w : oAt 7 lyZ w' m (cvZ w)) (f_w : wF m (m + 27) w0 w') : zR (E1 m w0) (zX7_acts_b50 F v1 v2 v3 v4 v5 v6 v7 s0 w) (mX7_acts_b50 F m v1' v2' v3' v4' v5' v6' v7' s0' w') := by
  unfold zX7_acts_b50 mX7_acts_b50
  exact (R_C1 (rX7_in (congrArg Int32.toInt64 hv3) rfl (congrArg Int32.toInt64 hv7) h_w) f_w (fun q58_1 q58_2 q58_1' q58_2' hq58 h_q58_2 f_q58_2 =>
  (R_Eq hq58 (eL (by decide) : (0 : Int32) = Int32.ofInt (0 : Int))
  (R_ret1 (eL (by decide) : (-1 : Int32) = Int32.ofInt (-1 : Int)) h_q58_2 f_q58_2)
  (R_C1 (rX7_in (congrArg Int32.toInt64 hv4) rfl (congrArg Int32.toInt64 hs0) h_q58_2) f_q58_2 (fun q71_1 q71_2 q71_1' q71_2' hq71 h_q71_2 f_q71_2 =>
    (R_Eq hq71 (eL (by decide) : (0 : Int32) = Int32.ofInt (0 : Int))
    (R_ret1 (eL (by decide) : (-1 : Int32) = Int32.ofInt (-1 : Int)) h_q71_2 f_q71_2)
    (R_C1 (rX7_in (congrArg Int32.toInt64 hv5) rfl (congrArg Int32.toInt64 hs0) h_q71_2) f_q71_2 (fun q84_1 q84_2 q84_1' q84_2' hq84 h_q84_2 f_q84_2 =>
      (R_Eq hq84 (eL (by decide) : (0 : Int32) = Int32.ofInt (0 : Int))
      (R_ret1 (eL (by decide) : (-1 : Int32) = Int32.ofInt (-1 : Int)) h_q84_2 f_q84_2)
      (R_C1 (rX7_in (congrArg Int32.toInt64 hv6) rfl (congrArg Int32.toInt64 hs0) h_q84_2) f_q84_2 (fun q97_1 q97_2 q97_1' q97_2' hq97 h_q97_2 f_q97_2 =>
        (R_Eq hq97 (eL (by decide) : (0 : Int32) = Int32.ofInt (0 : Int))
        (R_ret1 (eL (by decide) : (-1 : Int32) = Int32.ofInt (-1 : Int)) h_q97_2 f_q97_2)
        (R_FR h_q97_2 (k := 11) rfl
          (R_St h_q97_2 f_q97_2 (k := 11) rfl (by decide) (eAdd (eMul (eL (by decide) : (32 : Int32) = Int32.ofInt (32 : Int)) hv1) (eMul (eL (by decide) : (4 : Int32) = Int32.ofInt (4 : Int)) hv2)) hv3 (fun w122' h_w122 f_w122 =>
          (R_FR h_w122 (k := 11) rfl
          (R_St h_w122 f_w122 (k := 11) rfl (by decide) (eAdd (eAdd (eMul (eL (by decide) : (32 : Int32) = Int32.ofInt (32 : Int)) hv1) (eMul (eL (by decide) : (4 : Int32) = Int32.ofInt (4 : Int)) hv2)) (eL (by decide) : (1 : Int32) = Int32.ofInt (1 : Int))) hv4 (fun w133' h_w133 f_w133 =>
          (R_FR h_w133 (k := 11) rfl
          (R_St h_w133 f_w133 (k := 11) rfl (by decide) (eAdd (eAdd (eMul (eL (by decide) : (32 : Int32) = Int32.ofInt (32 : Int)) hv1) (eMul (eL (by decide) : (4 : Int32) = Int32.ofInt (4 : Int)) hv2)) (eL (by decide) : (2 : Int32) = Int32.ofInt (2 : Int))) hv5 (fun w144' h_w144 f_w144 =>
          (R_FR h_w144 (k := 11) rfl
          (R_St h_w144 f_w144 (k := 11) rfl (by decide) (eAdd (eAdd (eMul (eL (by decide) : (32 : Int32) = Int32.ofInt (32 : Int)) hv1) (eMul (eL (by decide) : (4 : Int32) = Int32.ofInt (4 : Int)) hv2)) (eL (by decide) : (3 : Int32) = Int32.ofInt (3 : Int))) hv6 (fun w155' h_w155 f_w155 =>
          (R_PI h_w155 f_w155 (k := 29) rfl (eL (by decide) : (-4 : Int32) = Int32.ofInt (-4 : Int)) (fun w159' h_w159 f_w159 =>
          (R_ret1 (eL (by decide) : (1 : Int32) = Int32.ofInt (1 : Int)) h_w159 f_w159)))))))))))))))))))))))))))
set_option maxRecDepth 100000 in
theorem rX7_acts {F m : Nat} {v1 : Int} {v1' : Int32} {v2 : Int} {v2' : Int32} {v3 : Int} {v3' : Int32} {v4 : Int} {v4' : Int32} {v5 : Int} {v5' : Int32} {v6 : Int} {v6' : Int32} {w : zS} {w' : gW} (hv1 : v1' = Int32.ofInt v1) (hv2 : v2' = Int32.ofInt v2) (hv3 : v3' = Int32.ofInt v3) (hv4 : v4' = Int32.ofInt v4) (hv5 : v5' = Int32.ofInt v5) (hv6 : v6' = Int32.ofInt v6) (h_w : oAt 7 lyZ w' m (cvZ w)) : zR (E1 m w') (zX7_acts F v1 v2 v3 v4 v5 v6 w) (mX7_acts F m v1' v2' v3' v4' v5' v6' w') := by
  have f_w : wF m (m + 27) w' w' := wF.rf
  unfold zX7_acts mX7_acts
  exact (R_O h_w
  (R_C1 (rX7_isModule hv1 h_w) f_w (fun q2_1 q2_2 q2_1' q2_2' hq2 h_q2_2 f_q2_2 =>
  (R_Eq hq2 (eL (by decide) : (0 : Int32) = Int32.ofInt (0 : Int))
  (R_ret1 (eL (by decide) : (-1 : Int32) = Int32.ofInt (-1 : Int)) h_q2_2 f_q2_2)
  (R_FR h_q2_2 (k := 8) rfl
    (R_Ld h_q2_2 (k := 8) rfl (by decide) hv1 rfl (fun t14 t14' ht14 =>
    (R_O h_q2_2
    (R_C1 (rX7_isElement ht14 hv2 h_q2_2) f_q2_2 (fun q16_1 q16_2 q16_1' q16_2' hq16 h_q16_2 f_q16_2 =>
    (R_Eq hq16 (eL (by decide) : (0 : Int32) = Int32.ofInt (0 : Int))
    (R_ret1 (eL (by decide) : (-1 : Int32) = Int32.ofInt (-1 : Int)) h_q16_2 f_q16_2)
    (R_FR h_q16_2 (k := 9) rfl
      (R_Ld h_q16_2 (k := 9) rfl (by decide) hv1 rfl (fun t29 t29' ht29 =>
      (R_FR h_q16_2 (k := 10) rfl
      (R_Ld h_q16_2 (k := 10) rfl (by decide) hv1 rfl (fun t39 t39' ht39 =>
      (R_Eq ht39 (eL (by decide) : (1 : Int32) = Int32.ofInt (1 : Int))
      (rX7_acts_b50 hv1 hv2 hv3 hv4 hv5 hv6 (eSub ht29 (eL (by decide) : (1 : Int32) = Int32.ofInt (1 : Int))) (eL (by decide) : (0 : Int32) = Int32.ofInt (0 : Int)) h_q16_2 f_q16_2)
      (rX7_acts_b50 hv1 hv2 hv3 hv4 hv5 hv6 (eSub ht29 (eL (by decide) : (1 : Int32) = Int32.ofInt (1 : Int))) (eSub ht29 (eL (by decide) : (1 : Int32) = Int32.ofInt (1 : Int))) h_q16_2 f_q16_2)))))))))))))))))))
set_option maxRecDepth 100000 in
theorem rX7_element {F m : Nat} {v1 : Int} {v1' : Int32} {v2 : Int} {v2' : Int32} {v3 : Int} {v3' : Int32} {w : zS} {w' : gW} (hv1 : v1' = Int32.ofInt v1) (hv2 : v2' = Int32.ofInt v2) (hv3 : v3' = Int32.ofInt v3) (h_w : oAt 7 lyZ w' m (cvZ w)) : zR (E1 m w') (zX7_element F v1 v2 v3 w) (mX7_element F m v1' v2' v3' w') := by
  have f_w : wF m (m + 27) w' w' := wF.rf
  unfold zX7_element mX7_element
  exact (R_O h_w
  (R_C1 (rX7_isElement hv1 hv2 h_w) f_w (fun q3_1 q3_2 q3_1' q3_2' hq3 h_q3_2 f_q3_2 =>
  (R_Eq hq3 (eL (by decide) : (0 : Int32) = Int32.ofInt (0 : Int))
  (R_ret1 (eL (by decide) : (-1 : Int32) = Int32.ofInt (-1 : Int)) h_q3_2 f_q3_2)
  (R_Eq hv3 (eL (by decide) : (0 : Int32) = Int32.ofInt (0 : Int))
    (R_O h_q3_2
      (R_C1 (rX7_inverse hv1 hv2 h_q3_2) f_q3_2 (fun q47_1 q47_2 q47_1' q47_2' hq47 h_q47_2 f_q47_2 =>
      (R_ret1 hq47 h_q47_2 f_q47_2))))
    (R_Eq hv3 (eL (by decide) : (1 : Int32) = Int32.ofInt (1 : Int))
      (R_O h_q3_2
        (R_C1 (rX7_orderOf hv1 hv2 h_q3_2) f_q3_2 (fun q54_1 q54_2 q54_1' q54_2' hq54 h_q54_2 f_q54_2 =>
        (R_ret1 hq54 h_q54_2 f_q54_2))))
      (R_Eq hv3 (eL (by decide) : (2 : Int32) = Int32.ofInt (2 : Int))
        (R_O h_q3_2
          (R_C1 (rX7_friends hv1 hv2 h_q3_2) f_q3_2 (fun q61_1 q61_2 q61_1' q61_2' hq61 h_q61_2 f_q61_2 =>
          (R_ret1 hq61 h_q61_2 f_q61_2))))
        (R_Eq hv3 (eL (by decide) : (3 : Int32) = Int32.ofInt (3 : Int))
          (R_O h_q3_2
            (R_C1 (rX7_leastTurned hv1 hv2 h_q3_2) f_q3_2 (fun q68_1 q68_2 q68_1' q68_2' hq68 h_q68_2 f_q68_2 =>
            (R_ret1 hq68 h_q68_2 f_q68_2))))
          (R_ret1 (eL (by decide) : (-1 : Int32) = Int32.ofInt (-1 : Int)) h_q3_2 f_q3_2)))))))))
set_option maxRecDepth 100000 in
theorem rX7_know_h76 {F m : Nat} {E : zS → gW → Prop} {w0 : gW} {r : Int → Int → zS → Option zS} {r' : Nat → Int32 → Int32 → gW → Option (gW)} {k107 : Int → zS → Option zS} {k107' : Nat → Int32 → gW → Option (gW)} {v2 : Int} {v2' : Int32} {v3 : Int} {v3' : Int32} {w : zS} {w' : gW} (hr : ∀ (a2 : Int) (a3 : Int) (Z : zS) (b2 : Int32) (b3 : Int32) (w : gW), b2 = Int32.ofInt a2 → b3 = Int32.ofInt a3 → oAt 7 lyZ w m (cvZ Z) → wF m (m + 27) w0 w → zR E (r a2 a3 Z) (r' m b2 b3 w)) (hk107 : ∀ (a2 : Int) (Z : zS) (b2 : Int32) (w : gW), b2 = Int32.ofInt a2 → oAt 7 lyZ w m (cvZ Z) → wF m (m + 27) w0 w → zR E (k107 a2 Z) (k107' m b2 w)) (hv2 : v2' = Int32.ofInt v2) (hv3 : v3' = Int32.ofInt v3) (h_w : oAt 7 lyZ w' m (cvZ w)) (f_w : wF m (m + 27) w0 w') : zR E (zX7_know_h76 F r k107 v2 v3 w) (mX7_know_h76 F r' k107' m v2' v3' w') := by
  unfold zX7_know_h76 mX7_know_h76
  exact (R_FI h_w (k := 24) rfl (c := (zI w 24)) rfl (fun t78' ht78 =>
  (R_Le ht78 hv3
  (hk107 _ _ _ _ hv2 h_w f_w)
  (R_FR h_w (k := 25) rfl
    (R_FR h_w (k := 34) rfl
    (R_Ld h_w (k := 34) rfl (by decide) (eAdd (eMul (eL (by decide) : (98 : Int32) = Int32.ofInt (98 : Int)) hv2) hv3) rfl (fun t99 t99' ht99 =>
    (R_St h_w f_w (k := 25) rfl (by decide) hv3 ht99 (fun w100' h_w100 f_w100 =>
    (hr _ _ _ _ _ _ hv2 (eAdd hv3 (eL (by decide) : (1 : Int32) = Int32.ofInt (1 : Int))) h_w100 f_w100))))))))))
set_option maxRecDepth 100000 in
theorem rX7_know_l76 {F m : Nat} {E : zS → gW → Prop} {w0 : gW} {k107 : Int → zS → Option zS} {k107' : Nat → Int32 → gW → Option (gW)} (hk107 : ∀ (a2 : Int) (Z : zS) (b2 : Int32) (w : gW), b2 = Int32.ofInt a2 → oAt 7 lyZ w m (cvZ Z) → wF m (m + 27) w0 w → zR E (k107 a2 Z) (k107' m b2 w)) : ∀ (n : Nat) (v2 : Int) (v3 : Int) (w : zS) (v2' : Int32) (v3' : Int32) (w' : gW), v2' = Int32.ofInt v2 → v3' = Int32.ofInt v3 → oAt 7 lyZ w' m (cvZ w) → wF m (m + 27) w0 w' → zR E (zX7_know_l76 F k107 n v2 v3 w) (mX7_know_l76 F k107' n m v2' v3' w') := by
  intro n
  induction n with
  | zero => intros; exact R_none
  | succ n ih =>
    intro v2 v3 w v2' v3' w' hv2 hv3 h_w f_w
    exact rX7_know_h76 ih hk107 hv2 hv3 h_w f_w
set_option maxRecDepth 100000 in
theorem rX7_know_h64 {F m : Nat} {E : zS → gW → Prop} {w0 : gW} {r : Int → zS → Option zS} {r' : Nat → Int32 → gW → Option (gW)} {k121 : zS → Option zS} {k121' : Nat → gW → Option (gW)} {v2 : Int} {v2' : Int32} {w : zS} {w' : gW} (hr : ∀ (a2 : Int) (Z : zS) (b2 : Int32) (w : gW), b2 = Int32.ofInt a2 → oAt 7 lyZ w m (cvZ Z) → wF m (m + 27) w0 w → zR E (r a2 Z) (r' m b2 w)) (hk121 : ∀ (Z : zS) (w : gW), oAt 7 lyZ w m (cvZ Z) → wF m (m + 27) w0 w → zR E (k121 Z) (k121' m w)) (hv2 : v2' = Int32.ofInt v2) (h_w : oAt 7 lyZ w' m (cvZ w)) (f_w : wF m (m + 27) w0 w') : zR E (zX7_know_h64 F r k121 v2 w) (mX7_know_h64 F r' k121' m v2' w') := by
  unfold zX7_know_h64 mX7_know_h64
  exact (R_FR h_w (k := 30) rfl
  (R_Ld h_w (k := 30) rfl (by decide) (eL (by decide) : (3 : Int32) = Int32.ofInt (3 : Int)) rfl (fun t70 t70' ht70 =>
  (R_Le ht70 hv2
  (hk121 _ _ h_w f_w)
  (rX7_know_l76 (by exact (fun v2 w v2' w' hv2 h_w f_w =>
      (R_O h_w
      (R_C0 (rX7_lessBound h_w) f_w (fun q108 q108' h_q108 f_q108 =>
      (R_O h_q108
      (R_C0 (rX7_settles h_q108) f_q108 (fun q112 q112' h_q112 f_q112 =>
      (hr _ _ _ _ (eAdd hv2 (eL (by decide) : (1 : Int32) = Int32.ofInt (1 : Int))) h_q112 f_q112))))))))) F _ _ _ _ _ _ hv2 (eL (by decide) : (0 : Int32) = Int32.ofInt (0 : Int)) h_w f_w)))))
set_option maxRecDepth 100000 in
theorem rX7_know_l64 {F m : Nat} {E : zS → gW → Prop} {w0 : gW} {k121 : zS → Option zS} {k121' : Nat → gW → Option (gW)} (hk121 : ∀ (Z : zS) (w : gW), oAt 7 lyZ w m (cvZ Z) → wF m (m + 27) w0 w → zR E (k121 Z) (k121' m w)) : ∀ (n : Nat) (v2 : Int) (w : zS) (v2' : Int32) (w' : gW), v2' = Int32.ofInt v2 → oAt 7 lyZ w' m (cvZ w) → wF m (m + 27) w0 w' → zR E (zX7_know_l64 F k121 n v2 w) (mX7_know_l64 F k121' n m v2' w') := by
  intro n
  induction n with
  | zero => intros; exact R_none
  | succ n ih =>
    intro v2 w v2' w' hv2 h_w f_w
    exact rX7_know_h64 ih hk121 hv2 h_w f_w
set_option maxRecDepth 100000 in
theorem rX7_know_h131 {F m : Nat} {w0 : gW} {r : Int → zS → Option zS} {r' : Nat → Int32 → gW → Option (gW)} {v2 : Int} {v2' : Int32} {w : zS} {w' : gW} (hr : ∀ (a2 : Int) (Z : zS) (b2 : Int32) (w : gW), b2 = Int32.ofInt a2 → oAt 7 lyZ w m (cvZ Z) → wF m (m + 27) w0 w → zR (E0 m w0) (r a2 Z) (r' m b2 w)) (hv2 : v2' = Int32.ofInt v2) (h_w : oAt 7 lyZ w' m (cvZ w)) (f_w : wF m (m + 27) w0 w') : zR (E0 m w0) (zX7_know_h131 F r v2 w) (mX7_know_h131 F r' m v2' w') := by
  unfold zX7_know_h131 mX7_know_h131
  exact (R_FI h_w (k := 28) rfl (c := (zI w 28)) rfl (fun t135' ht135 =>
  (R_Le (eMul (eL (by decide) : (98 : Int32) = Int32.ofInt (98 : Int)) ht135) hv2
  (R_ret0 h_w f_w)
  (R_FR h_w (k := 33) rfl
    (R_FR h_w (k := 26) rfl
    (R_Ld h_w (k := 26) rfl (by decide) hv2 rfl (fun t152 t152' ht152 =>
    (R_St h_w f_w (k := 33) rfl (by decide) hv2 ht152 (fun w153' h_w153 f_w153 =>
    (hr _ _ _ _ (eAdd hv2 (eL (by decide) : (1 : Int32) = Int32.ofInt (1 : Int))) h_w153 f_w153))))))))))
set_option maxRecDepth 100000 in
theorem rX7_know_l131 {F m : Nat} {w0 : gW}   : ∀ (n : Nat) (v2 : Int) (w : zS) (v2' : Int32) (w' : gW), v2' = Int32.ofInt v2 → oAt 7 lyZ w' m (cvZ w) → wF m (m + 27) w0 w' → zR (E0 m w0) (zX7_know_l131 F  n v2 w) (mX7_know_l131 F  n m v2' w') := by
  intro n
  induction n with
  | zero => intros; exact R_none
  | succ n ih =>
    intro v2 w v2' w' hv2 h_w f_w
    exact rX7_know_h131 ih  hv2 h_w f_w
set_option maxRecDepth 100000 in
theorem rX7_know {F m : Nat} {v1 : Int} {v1' : Int32} {w : zS} {w' : gW} (hv1 : v1' = Int32.ofInt v1) (h_w : oAt 7 lyZ w' m (cvZ w)) : zR (E0 m w') (zX7_know F v1 w) (mX7_know F m v1' w') := by
  have f_w : wF m (m + 27) w' w' := wF.rf
  unfold zX7_know mX7_know
  exact (R_O h_w
  (R_C0 (rX7_start hv1 h_w) f_w (fun q2 q2' h_q2 f_q2 =>
  (R_FI h_q2 (k := 29) rfl (c := (zI q2 29)) rfl (fun t6' ht6 =>
  (R_Eq ht6 hv1
  (R_FI h_q2 (k := 36) rfl (c := (zI q2 36)) rfl (fun t15' ht15 =>
    (R_FI h_q2 (k := 36) rfl (c := (zI q2 36)) rfl (fun t21' ht21 =>
    (R_FI h_q2 (k := 37) rfl (c := (zI q2 37)) rfl (fun t28' ht28 =>
    (R_PI h_q2 f_q2 (k := 24) rfl (eMul (eMul (eSub ht15 (eL (by decide) : (1 : Int32) = Int32.ofInt (1 : Int))) (eSub ht21 (eL (by decide) : (1 : Int32) = Int32.ofInt (1 : Int)))) ht28) (fun w32' h_w32 f_w32 =>
    (R_ret0 h_w32 f_w32)))))))))
  (R_PI h_q2 f_q2 (k := 29) rfl hv1 (fun w38' h_w38 f_w38 =>
    (R_O h_w38
    (R_C0 (rX7_dimensionNone h_w38) f_w38 (fun q42 q42' h_q42 f_q42 =>
    (R_O h_q42
    (R_C0 (rX7_dimensionOne h_q42) f_q42 (fun q46 q46' h_q46 f_q46 =>
    (R_O h_q46
    (R_C0 (rX7_pairs h_q46) f_q46 (fun q50 q50' h_q50 f_q50 =>
    (R_O h_q50
    (R_C0 (rX7_bounds h_q50) f_q50 (fun q54 q54' h_q54 f_q54 =>
    (R_PI h_q54 f_q54 (k := 28) rfl (eL (by decide) : (0 : Int32) = Int32.ofInt (0 : Int)) (fun w59' h_w59 f_w59 =>
    (rX7_know_l64 (by exact (fun w w' h_w f_w =>
      (R_FI h_w (k := 28) rfl (c := (zI w 28)) rfl (fun t123' ht123 =>
      (R_PI h_w f_w (k := 35) rfl ht123 (fun w126' h_w126 f_w126 =>
      (rX7_know_l131  F _ _ _ _ (eL (by decide) : (0 : Int32) = Int32.ofInt (0 : Int)) h_w126 f_w126))))))) F _ _ _ _ (eL (by decide) : (0 : Int32) = Int32.ofInt (0 : Int)) h_w59 f_w59)))))))))))))))))))))))
set_option maxRecDepth 100000 in
theorem rX7_made {F m : Nat} {v1 : Int} {v1' : Int32} {v2 : Int} {v2' : Int32} {v3 : Int} {v3' : Int32} {w : zS} {w' : gW} (hv1 : v1' = Int32.ofInt v1) (hv2 : v2' = Int32.ofInt v2) (hv3 : v3' = Int32.ofInt v3) (h_w : oAt 7 lyZ w' m (cvZ w)) : zR (E1 m w') (zX7_made F v1 v2 v3 w) (mX7_made F m v1' v2' v3' w') := by
  have f_w : wF m (m + 27) w' w' := wF.rf
  unfold zX7_made mX7_made
  exact (R_O h_w
  (R_C1 (rX7_isElement hv1 hv2 h_w) f_w (fun q3_1 q3_2 q3_1' q3_2' hq3 h_q3_2 f_q3_2 =>
  (R_Eq hq3 (eL (by decide) : (0 : Int32) = Int32.ofInt (0 : Int))
  (R_ret1 (eL (by decide) : (-1 : Int32) = Int32.ofInt (-1 : Int)) h_q3_2 f_q3_2)
  (R_O h_q3_2
    (R_C1 (rX7_isElement hv1 hv3 h_q3_2) f_q3_2 (fun q12_1 q12_2 q12_1' q12_2' hq12 h_q12_2 f_q12_2 =>
    (R_Eq hq12 (eL (by decide) : (0 : Int32) = Int32.ofInt (0 : Int))
    (R_ret1 (eL (by decide) : (-1 : Int32) = Int32.ofInt (-1 : Int)) h_q12_2 f_q12_2)
    (R_FR h_q12_2 (k := 12) rfl
      (R_St h_q12_2 f_q12_2 (k := 12) rfl (by decide) (eL (by decide) : (0 : Int32) = Int32.ofInt (0 : Int)) hv2 (fun w26' h_w26 f_w26 =>
      (R_FR h_w26 (k := 12) rfl
      (R_St h_w26 f_w26 (k := 12) rfl (by decide) (eL (by decide) : (1 : Int32) = Int32.ofInt (1 : Int)) hv3 (fun w33' h_w33 f_w33 =>
      (R_O h_w33
      (R_C0 (rX7_makes hv1 (eL (by decide) : (2 : Int32) = Int32.ofInt (2 : Int)) h_w33) f_w33 (fun q37 q37' h_q37 f_q37 =>
      (R_FI h_q37 (k := 14) rfl (c := (zI q37 14)) rfl (fun t41' ht41 =>
      (R_ret1 ht41 h_q37 f_q37))))))))))))))))))))
set_option maxRecDepth 100000 in
theorem rX7_product_b28 {F m : Nat} {w0 : gW} {w : zS} {w' : gW} (h_w : oAt 7 lyZ w' m (cvZ w)) (f_w : wF m (m + 27) w0 w') : zR (E1 m w0) (zX7_product_b28 F w) (mX7_product_b28 F w') := by
  unfold zX7_product_b28 mX7_product_b28
  exact (R_ret1 (eL (by decide) : (-1 : Int32) = Int32.ofInt (-1 : Int)) h_w f_w)
set_option maxRecDepth 100000 in
theorem rX7_product {F m : Nat} {v1 : Int} {v1' : Int32} {v2 : Int} {v2' : Int32} {v3 : Int} {v3' : Int32} {w : zS} {w' : gW} (hv1 : v1' = Int32.ofInt v1) (hv2 : v2' = Int32.ofInt v2) (hv3 : v3' = Int32.ofInt v3) (h_w : oAt 7 lyZ w' m (cvZ w)) : zR (E1 m w') (zX7_product F v1 v2 v3 w) (mX7_product F m v1' v2' v3' w') := by
  have f_w : wF m (m + 27) w' w' := wF.rf
  unfold zX7_product mX7_product
  exact (R_O h_w
  (R_C1 (rX7_isElement hv1 hv2 h_w) f_w (fun q3_1 q3_2 q3_1' q3_2' hq3 h_q3_2 f_q3_2 =>
  (R_Eq hq3 (eL (by decide) : (0 : Int32) = Int32.ofInt (0 : Int))
  (rX7_product_b28 h_q3_2 f_q3_2)
  (R_O h_q3_2
    (R_C1 (rX7_isElement hv1 hv3 h_q3_2) f_q3_2 (fun q12_1 q12_2 q12_1' q12_2' hq12 h_q12_2 f_q12_2 =>
    (R_Eq hq12 (eL (by decide) : (0 : Int32) = Int32.ofInt (0 : Int))
    (rX7_product_b28 h_q12_2 f_q12_2)
    (R_O h_q12_2
      (R_C1 (rX7_prod hv1 hv2 hv3 h_q12_2) f_q12_2 (fun q22_1 q22_2 q22_1' q22_2' hq22 h_q22_2 f_q22_2 =>
      (R_ret1 hq22 h_q22_2 f_q22_2))))))))))))
set_option maxRecDepth 100000 in
theorem rX7_same_h50 {F m : Nat} {w0 : gW} {r : Int → Int → Int → Int → zS → Option (Int × zS)} {r' : Nat → Int32 → Int32 → Int32 → Int32 → gW → Option (Int32 × gW)} {k86 : Int → Int → Int → zS → Option (Int × zS)} {k86' : Nat → Int32 → Int32 → Int32 → gW → Option (Int32 × gW)} {v1 : Int} {v1' : Int32} {v2 : Int} {v2' : Int32} {v3 : Int} {v3' : Int32} {v4 : Int} {v4' : Int32} {w : zS} {w' : gW} (hr : ∀ (a2 : Int) (a3 : Int) (a4 : Int) (a5 : Int) (Z : zS) (b2 : Int32) (b3 : Int32) (b4 : Int32) (b5 : Int32) (w : gW), b2 = Int32.ofInt a2 → b3 = Int32.ofInt a3 → b4 = Int32.ofInt a4 → b5 = Int32.ofInt a5 → oAt 7 lyZ w m (cvZ Z) → wF m (m + 27) w0 w → zR (E1 m w0) (r a2 a3 a4 a5 Z) (r' m b2 b3 b4 b5 w)) (hk86 : ∀ (a2 : Int) (a3 : Int) (a4 : Int) (Z : zS) (b2 : Int32) (b3 : Int32) (b4 : Int32) (w : gW), b2 = Int32.ofInt a2 → b3 = Int32.ofInt a3 → b4 = Int32.ofInt a4 → oAt 7 lyZ w m (cvZ Z) → wF m (m + 27) w0 w → zR (E1 m w0) (k86 a2 a3 a4 Z) (k86' m b2 b3 b4 w)) (hv1 : v1' = Int32.ofInt v1) (hv2 : v2' = Int32.ofInt v2) (hv3 : v3' = Int32.ofInt v3) (hv4 : v4' = Int32.ofInt v4) (h_w : oAt 7 lyZ w' m (cvZ w)) (f_w : wF m (m + 27) w0 w') : zR (E1 m w0) (zX7_same_h50 F r k86 v1 v2 v3 v4 w) (mX7_same_h50 F r' k86' m v1' v2' v3' v4' w') := by
  unfold zX7_same_h50 mX7_same_h50
  exact (R_FR h_w (k := 1) rfl
  (R_Ld h_w (k := 1) rfl (by decide) hv1 rfl (fun t57 t57' ht57 =>
  (R_Lt ht57 hv4
  (hk86 _ _ _ _ _ _ _ _ hv1 hv2 hv3 h_w f_w)
  (R_O h_w
    (R_C1 (rX7_ofOrder hv1 hv4 h_w) f_w (fun q65_1 q65_2 q65_1' q65_2' hq65 h_q65_2 f_q65_2 =>
    (R_O h_q65_2
    (R_C1 (rX7_ofOrder hv2 hv4 h_q65_2) f_q65_2 (fun q72_1 q72_2 q72_1' q72_2' hq72 h_q72_2 f_q72_2 =>
    (R_Eq hq65 hq72
    (hr _ _ _ _ _ _ _ _ _ _ hv1 hv2 hv3 (eAdd hv4 (eL (by decide) : (1 : Int32) = Int32.ofInt (1 : Int))) h_q72_2 f_q72_2)
    (R_ret1 (eL (by decide) : (0 : Int32) = Int32.ofInt (0 : Int)) h_q72_2 f_q72_2))))))))))))
set_option maxRecDepth 100000 in
theorem rX7_same_l50 {F m : Nat} {w0 : gW} {k86 : Int → Int → Int → zS → Option (Int × zS)} {k86' : Nat → Int32 → Int32 → Int32 → gW → Option (Int32 × gW)} (hk86 : ∀ (a2 : Int) (a3 : Int) (a4 : Int) (Z : zS) (b2 : Int32) (b3 : Int32) (b4 : Int32) (w : gW), b2 = Int32.ofInt a2 → b3 = Int32.ofInt a3 → b4 = Int32.ofInt a4 → oAt 7 lyZ w m (cvZ Z) → wF m (m + 27) w0 w → zR (E1 m w0) (k86 a2 a3 a4 Z) (k86' m b2 b3 b4 w)) : ∀ (n : Nat) (v1 : Int) (v2 : Int) (v3 : Int) (v4 : Int) (w : zS) (v1' : Int32) (v2' : Int32) (v3' : Int32) (v4' : Int32) (w' : gW), v1' = Int32.ofInt v1 → v2' = Int32.ofInt v2 → v3' = Int32.ofInt v3 → v4' = Int32.ofInt v4 → oAt 7 lyZ w' m (cvZ w) → wF m (m + 27) w0 w' → zR (E1 m w0) (zX7_same_l50 F k86 n v1 v2 v3 v4 w) (mX7_same_l50 F k86' n m v1' v2' v3' v4' w') := by
  intro n
  induction n with
  | zero => intros; exact R_none
  | succ n ih =>
    intro v1 v2 v3 v4 w v1' v2' v3' v4' w' hv1 hv2 hv3 hv4 h_w f_w
    exact rX7_same_h50 ih hk86 hv1 hv2 hv3 hv4 h_w f_w
set_option maxRecDepth 100000 in
theorem rX7_same_h103 {F m : Nat} {E : (Int × zS) → (Int32 × gW) → Prop} {w0 : gW} {r : Int → Int → Int → Int → Int → zS → Option (Int × zS)} {r' : Nat → Int32 → Int32 → Int32 → Int32 → Int32 → gW → Option (Int32 × gW)} {k132 : Int → Int → Int → Int → zS → Option (Int × zS)} {k132' : Nat → Int32 → Int32 → Int32 → Int32 → gW → Option (Int32 × gW)} {v1 : Int} {v1' : Int32} {v2 : Int} {v2' : Int32} {v3 : Int} {v3' : Int32} {v4 : Int} {v4' : Int32} {v5 : Int} {v5' : Int32} {w : zS} {w' : gW} (hr : ∀ (a2 : Int) (a3 : Int) (a4 : Int) (a5 : Int) (a6 : Int) (Z : zS) (b2 : Int32) (b3 : Int32) (b4 : Int32) (b5 : Int32) (b6 : Int32) (w : gW), b2 = Int32.ofInt a2 → b3 = Int32.ofInt a3 → b4 = Int32.ofInt a4 → b5 = Int32.ofInt a5 → b6 = Int32.ofInt a6 → oAt 7 lyZ w m (cvZ Z) → wF m (m + 27) w0 w → zR E (r a2 a3 a4 a5 a6 Z) (r' m b2 b3 b4 b5 b6 w)) (hk132 : ∀ (a2 : Int) (a3 : Int) (a4 : Int) (a5 : Int) (Z : zS) (b2 : Int32) (b3 : Int32) (b4 : Int32) (b5 : Int32) (w : gW), b2 = Int32.ofInt a2 → b3 = Int32.ofInt a3 → b4 = Int32.ofInt a4 → b5 = Int32.ofInt a5 → oAt 7 lyZ w m (cvZ Z) → wF m (m + 27) w0 w → zR E (k132 a2 a3 a4 a5 Z) (k132' m b2 b3 b4 b5 w)) (hv1 : v1' = Int32.ofInt v1) (hv2 : v2' = Int32.ofInt v2) (hv3 : v3' = Int32.ofInt v3) (hv4 : v4' = Int32.ofInt v4) (hv5 : v5' = Int32.ofInt v5) (h_w : oAt 7 lyZ w' m (cvZ w)) (f_w : wF m (m + 27) w0 w') : zR E (zX7_same_h103 F r k132 v1 v2 v3 v4 v5 w) (mX7_same_h103 F r' k132' m v1' v2' v3' v4' v5' w') := by
  unfold zX7_same_h103 mX7_same_h103
  exact (R_Le hv4 hv5
  (hk132 _ _ _ _ _ _ _ _ _ _ hv1 hv2 hv3 hv4 h_w f_w)
  (R_FR h_w (k := 21) rfl
    (R_O h_w
    (R_C1 (rX7_nextLike hv1 hv2 hv5 (eL (by decide) : (0 : Int32) = Int32.ofInt (0 : Int)) h_w) f_w (fun q122_1 q122_2 q122_1' q122_2' hq122 h_q122_2 f_q122_2 =>
    (R_St h_q122_2 f_q122_2 (k := 21) rfl (by decide) hv5 hq122 (fun w125' h_w125 f_w125 =>
    (hr _ _ _ _ _ _ _ _ _ _ _ _ hv1 hv2 hv3 hv4 (eAdd hv5 (eL (by decide) : (1 : Int32) = Int32.ofInt (1 : Int))) h_w125 f_w125))))))))
set_option maxRecDepth 100000 in
theorem rX7_same_l103 {F m : Nat} {E : (Int × zS) → (Int32 × gW) → Prop} {w0 : gW} {k132 : Int → Int → Int → Int → zS → Option (Int × zS)} {k132' : Nat → Int32 → Int32 → Int32 → Int32 → gW → Option (Int32 × gW)} (hk132 : ∀ (a2 : Int) (a3 : Int) (a4 : Int) (a5 : Int) (Z : zS) (b2 : Int32) (b3 : Int32) (b4 : Int32) (b5 : Int32) (w : gW), b2 = Int32.ofInt a2 → b3 = Int32.ofInt a3 → b4 = Int32.ofInt a4 → b5 = Int32.ofInt a5 → oAt 7 lyZ w m (cvZ Z) → wF m (m + 27) w0 w → zR E (k132 a2 a3 a4 a5 Z) (k132' m b2 b3 b4 b5 w)) : ∀ (n : Nat) (v1 : Int) (v2 : Int) (v3 : Int) (v4 : Int) (v5 : Int) (w : zS) (v1' : Int32) (v2' : Int32) (v3' : Int32) (v4' : Int32) (v5' : Int32) (w' : gW), v1' = Int32.ofInt v1 → v2' = Int32.ofInt v2 → v3' = Int32.ofInt v3 → v4' = Int32.ofInt v4 → v5' = Int32.ofInt v5 → oAt 7 lyZ w' m (cvZ w) → wF m (m + 27) w0 w' → zR E (zX7_same_l103 F k132 n v1 v2 v3 v4 v5 w) (mX7_same_l103 F k132' n m v1' v2' v3' v4' v5' w') := by
  intro n
  induction n with
  | zero => intros; exact R_none
  | succ n ih =>
    intro v1 v2 v3 v4 v5 w v1' v2' v3' v4' v5' w' hv1 hv2 hv3 hv4 hv5 h_w f_w
    exact rX7_same_h103 ih hk132 hv1 hv2 hv3 hv4 hv5 h_w f_w
set_option maxRecDepth 100000 in
theorem rX7_same_b232 {F m : Nat} {E : (Int × zS) → (Int32 × gW) → Prop} {w0 : gW} {r : Int → Int → Int → Int → Int → Int → Int → zS → Option (Int × zS)} {r' : Nat → Int32 → Int32 → Int32 → Int32 → Int32 → Int32 → Int32 → gW → Option (Int32 × gW)} {k261 : Int → Int → Int → Int → Int → Int → zS → Option (Int × zS)} {k261' : Nat → Int32 → Int32 → Int32 → Int32 → Int32 → Int32 → gW → Option (Int32 × gW)} {v1 : Int} {v1' : Int32} {v2 : Int} {v2' : Int32} {v3 : Int} {v3' : Int32} {v4 : Int} {v4' : Int32} {v5 : Int} {v5' : Int32} {v7 : Int} {v7' : Int32} {s0 : Int} {s0' : Int32} {w : zS} {w' : gW} (hr : ∀ (a2 : Int) (a3 : Int) (a4 : Int) (a5 : Int) (a6 : Int) (a7 : Int) (a8 : Int) (Z : zS) (b2 : Int32) (b3 : Int32) (b4 : Int32) (b5 : Int32) (b6 : Int32) (b7 : Int32) (b8 : Int32) (w : gW), b2 = Int32.ofInt a2 → b3 = Int32.ofInt a3 → b4 = Int32.ofInt a4 → b5 = Int32.ofInt a5 → b6 = Int32.ofInt a6 → b7 = Int32.ofInt a7 → b8 = Int32.ofInt a8 → oAt 7 lyZ w m (cvZ Z) → wF m (m + 27) w0 w → zR E (r a2 a3 a4 a5 a6 a7 a8 Z) (r' m b2 b3 b4 b5 b6 b7 b8 w)) (hk261 : ∀ (a2 : Int) (a3 : Int) (a4 : Int) (a5 : Int) (a6 : Int) (a7 : Int) (Z : zS) (b2 : Int32) (b3 : Int32) (b4 : Int32) (b5 : Int32) (b6 : Int32) (b7 : Int32) (w : gW), b2 = Int32.ofInt a2 → b3 = Int32.ofInt a3 → b4 = Int32.ofInt a4 → b5 = Int32.ofInt a5 → b6 = Int32.ofInt a6 → b7 = Int32.ofInt a7 → oAt 7 lyZ w m (cvZ Z) → wF m (m + 27) w0 w → zR E (k261 a2 a3 a4 a5 a6 a7 Z) (k261' m b2 b3 b4 b5 b6 b7 w)) (hv1 : v1' = Int32.ofInt v1) (hv2 : v2' = Int32.ofInt v2) (hv3 : v3' = Int32.ofInt v3) (hv4 : v4' = Int32.ofInt v4) (hv5 : v5' = Int32.ofInt v5) (hv7 : v7' = Int32.ofInt v7) (hs0 : s0' = Int32.ofInt s0) (h_w : oAt 7 lyZ w' m (cvZ w)) (f_w : wF m (m + 27) w0 w') : zR E (zX7_same_b232 F r k261 v1 v2 v3 v4 v5 v7 s0 w) (mX7_same_b232 F r' k261' m v1' v2' v3' v4' v5' v7' s0' w') := by
  unfold zX7_same_b232 mX7_same_b232
  exact (R_Eq hs0 (eL (by decide) : (0 : Int32) = Int32.ofInt (0 : Int))
  (hr _ _ _ _ _ _ _ _ _ _ _ _ _ _ _ _ hv1 hv2 hv3 hv4 hv5 hv7 hs0 h_w f_w)
  (R_FR h_w (k := 21) rfl
    (R_O h_w
    (R_C1 (rX7_nextLike hv1 hv2 hv7 (eL (by decide) : (0 : Int32) = Int32.ofInt (0 : Int)) h_w) f_w (fun q251_1 q251_2 q251_1' q251_2' hq251 h_q251_2 f_q251_2 =>
    (R_St h_q251_2 f_q251_2 (k := 21) rfl (by decide) hv7 hq251 (fun w254' h_w254 f_w254 =>
    (hr _ _ _ _ _ _ _ _ _ _ _ _ _ _ _ _ hv1 hv2 hv3 hv4 hv5 (eAdd hv7 (eL (by decide) : (-1 : Int32) = Int32.ofInt (-1 : Int))) hs0 h_w254 f_w254))))))))
set_option maxRecDepth 100000 in
theorem rX7_same_h177 {F m : Nat} {E : (Int × zS) → (Int32 × gW) → Prop} {w0 : gW} {r : Int → Int → Int → Int → Int → Int → Int → zS → Option (Int × zS)} {r' : Nat → Int32 → Int32 → Int32 → Int32 → Int32 → Int32 → Int32 → gW → Option (Int32 × gW)} {k261 : Int → Int → Int → Int → Int → Int → zS → Option (Int × zS)} {k261' : Nat → Int32 → Int32 → Int32 → Int32 → Int32 → Int32 → gW → Option (Int32 × gW)} {v1 : Int} {v1' : Int32} {v2 : Int} {v2' : Int32} {v3 : Int} {v3' : Int32} {v4 : Int} {v4' : Int32} {v5 : Int} {v5' : Int32} {v7 : Int} {v7' : Int32} {v8 : Int} {v8' : Int32} {w : zS} {w' : gW} (hr : ∀ (a2 : Int) (a3 : Int) (a4 : Int) (a5 : Int) (a6 : Int) (a7 : Int) (a8 : Int) (Z : zS) (b2 : Int32) (b3 : Int32) (b4 : Int32) (b5 : Int32) (b6 : Int32) (b7 : Int32) (b8 : Int32) (w : gW), b2 = Int32.ofInt a2 → b3 = Int32.ofInt a3 → b4 = Int32.ofInt a4 → b5 = Int32.ofInt a5 → b6 = Int32.ofInt a6 → b7 = Int32.ofInt a7 → b8 = Int32.ofInt a8 → oAt 7 lyZ w m (cvZ Z) → wF m (m + 27) w0 w → zR E (r a2 a3 a4 a5 a6 a7 a8 Z) (r' m b2 b3 b4 b5 b6 b7 b8 w)) (hk261 : ∀ (a2 : Int) (a3 : Int) (a4 : Int) (a5 : Int) (a6 : Int) (a7 : Int) (Z : zS) (b2 : Int32) (b3 : Int32) (b4 : Int32) (b5 : Int32) (b6 : Int32) (b7 : Int32) (w : gW), b2 = Int32.ofInt a2 → b3 = Int32.ofInt a3 → b4 = Int32.ofInt a4 → b5 = Int32.ofInt a5 → b6 = Int32.ofInt a6 → b7 = Int32.ofInt a7 → oAt 7 lyZ w m (cvZ Z) → wF m (m + 27) w0 w → zR E (k261 a2 a3 a4 a5 a6 a7 Z) (k261' m b2 b3 b4 b5 b6 b7 w)) (hv1 : v1' = Int32.ofInt v1) (hv2 : v2' = Int32.ofInt v2) (hv3 : v3' = Int32.ofInt v3) (hv4 : v4' = Int32.ofInt v4) (hv5 : v5' = Int32.ofInt v5) (hv7 : v7' = Int32.ofInt v7) (hv8 : v8' = Int32.ofInt v8) (h_w : oAt 7 lyZ w' m (cvZ w)) (f_w : wF m (m + 27) w0 w') : zR E (zX7_same_h177 F r k261 v1 v2 v3 v4 v5 v7 v8 w) (mX7_same_h177 F r' k261' m v1' v2' v3' v4' v5' v7' v8' w') := by
  unfold zX7_same_h177 mX7_same_h177
  exact (R_Lt hv7 (eL (by decide) : (0 : Int32) = Int32.ofInt (0 : Int))
  (hk261 _ _ _ _ _ _ _ _ _ _ _ _ _ _ hv1 hv2 hv3 hv4 hv5 hv8 h_w f_w)
  (R_Eq hv8 (eL (by decide) : (0 : Int32) = Int32.ofInt (0 : Int))
    (hk261 _ _ _ _ _ _ _ _ _ _ _ _ _ _ hv1 hv2 hv3 hv4 hv5 hv8 h_w f_w)
    (R_FR h_w (k := 21) rfl
      (R_FR h_w (k := 21) rfl
      (R_Ld h_w (k := 21) rfl (by decide) hv7 rfl (fun t204 t204' ht204 =>
      (R_O h_w
      (R_C1 (rX7_nextLike hv1 hv2 hv7 (eAdd ht204 (eL (by decide) : (1 : Int32) = Int32.ofInt (1 : Int))) h_w) f_w (fun q207_1 q207_2 q207_1' q207_2' hq207 h_q207_2 f_q207_2 =>
      (R_St h_q207_2 f_q207_2 (k := 21) rfl (by decide) hv7 hq207 (fun w210' h_w210 f_w210 =>
      (R_FR h_w210 (k := 21) rfl
      (R_Ld h_w210 (k := 21) rfl (by decide) hv7 rfl (fun t217 t217' ht217 =>
      (R_FR h_w210 (k := 1) rfl
      (R_Ld h_w210 (k := 1) rfl (by decide) hv2 rfl (fun t223 t223' ht223 =>
      (R_Eq ht217 ht223
      (rX7_same_b232 hr hk261 hv1 hv2 hv3 hv4 hv5 hv7 (eL (by decide) : (1 : Int32) = Int32.ofInt (1 : Int)) h_w210 f_w210)
      (rX7_same_b232 hr hk261 hv1 hv2 hv3 hv4 hv5 hv7 (eL (by decide) : (0 : Int32) = Int32.ofInt (0 : Int)) h_w210 f_w210)))))))))))))))))))
set_option maxRecDepth 100000 in
theorem rX7_same_l177 {F m : Nat} {E : (Int × zS) → (Int32 × gW) → Prop} {w0 : gW} {k261 : Int → Int → Int → Int → Int → Int → zS → Option (Int × zS)} {k261' : Nat → Int32 → Int32 → Int32 → Int32 → Int32 → Int32 → gW → Option (Int32 × gW)} (hk261 : ∀ (a2 : Int) (a3 : Int) (a4 : Int) (a5 : Int) (a6 : Int) (a7 : Int) (Z : zS) (b2 : Int32) (b3 : Int32) (b4 : Int32) (b5 : Int32) (b6 : Int32) (b7 : Int32) (w : gW), b2 = Int32.ofInt a2 → b3 = Int32.ofInt a3 → b4 = Int32.ofInt a4 → b5 = Int32.ofInt a5 → b6 = Int32.ofInt a6 → b7 = Int32.ofInt a7 → oAt 7 lyZ w m (cvZ Z) → wF m (m + 27) w0 w → zR E (k261 a2 a3 a4 a5 a6 a7 Z) (k261' m b2 b3 b4 b5 b6 b7 w)) : ∀ (n : Nat) (v1 : Int) (v2 : Int) (v3 : Int) (v4 : Int) (v5 : Int) (v7 : Int) (v8 : Int) (w : zS) (v1' : Int32) (v2' : Int32) (v3' : Int32) (v4' : Int32) (v5' : Int32) (v7' : Int32) (v8' : Int32) (w' : gW), v1' = Int32.ofInt v1 → v2' = Int32.ofInt v2 → v3' = Int32.ofInt v3 → v4' = Int32.ofInt v4 → v5' = Int32.ofInt v5 → v7' = Int32.ofInt v7 → v8' = Int32.ofInt v8 → oAt 7 lyZ w' m (cvZ w) → wF m (m + 27) w0 w' → zR E (zX7_same_l177 F k261 n v1 v2 v3 v4 v5 v7 v8 w) (mX7_same_l177 F k261' n m v1' v2' v3' v4' v5' v7' v8' w') := by
  intro n
  induction n with
  | zero => intros; exact R_none
  | succ n ih =>
    intro v1 v2 v3 v4 v5 v7 v8 w v1' v2' v3' v4' v5' v7' v8' w' hv1 hv2 hv3 hv4 hv5 hv7 hv8 h_w f_w
    exact rX7_same_h177 ih hk261 hv1 hv2 hv3 hv4 hv5 hv7 hv8 h_w f_w
set_option maxRecDepth 100000 in
theorem rX7_same_b271 {F m : Nat} {E : (Int × zS) → (Int32 × gW) → Prop} {w0 : gW} {r : Int → Int → Int → Int → Int → Int → zS → Option (Int × zS)} {r' : Nat → Int32 → Int32 → Int32 → Int32 → Int32 → Int32 → gW → Option (Int32 × gW)} {v1 : Int} {v1' : Int32} {v2 : Int} {v2' : Int32} {v3 : Int} {v3' : Int32} {v4 : Int} {v4' : Int32} {v5 : Int} {v5' : Int32} {s0 : Int} {s0' : Int32} {w : zS} {w' : gW} (hr : ∀ (a2 : Int) (a3 : Int) (a4 : Int) (a5 : Int) (a6 : Int) (a7 : Int) (Z : zS) (b2 : Int32) (b3 : Int32) (b4 : Int32) (b5 : Int32) (b6 : Int32) (b7 : Int32) (w : gW), b2 = Int32.ofInt a2 → b3 = Int32.ofInt a3 → b4 = Int32.ofInt a4 → b5 = Int32.ofInt a5 → b6 = Int32.ofInt a6 → b7 = Int32.ofInt a7 → oAt 7 lyZ w m (cvZ Z) → wF m (m + 27) w0 w → zR E (r a2 a3 a4 a5 a6 a7 Z) (r' m b2 b3 b4 b5 b6 b7 w)) (hv1 : v1' = Int32.ofInt v1) (hv2 : v2' = Int32.ofInt v2) (hv3 : v3' = Int32.ofInt v3) (hv4 : v4' = Int32.ofInt v4) (hv5 : v5' = Int32.ofInt v5) (hs0 : s0' = Int32.ofInt s0) (h_w : oAt 7 lyZ w' m (cvZ w)) (f_w : wF m (m + 27) w0 w') : zR E (zX7_same_b271 F r v1 v2 v3 v4 v5 s0 w) (mX7_same_b271 F r' m v1' v2' v3' v4' v5' s0' w') := by
  unfold zX7_same_b271 mX7_same_b271
  exact (hr _ _ _ _ _ _ _ _ _ _ _ _ _ _ hv1 hv2 hv3 hv4 hv5 hs0 h_w f_w)
set_option maxRecDepth 100000 in
theorem rX7_same_b261 {F m : Nat} {E : (Int × zS) → (Int32 × gW) → Prop} {w0 : gW} {r : Int → Int → Int → Int → Int → Int → zS → Option (Int × zS)} {r' : Nat → Int32 → Int32 → Int32 → Int32 → Int32 → Int32 → gW → Option (Int32 × gW)} {v1 : Int} {v1' : Int32} {v2 : Int} {v2' : Int32} {v3 : Int} {v3' : Int32} {v4 : Int} {v4' : Int32} {v5 : Int} {v5' : Int32} {v8 : Int} {v8' : Int32} {w : zS} {w' : gW} (hr : ∀ (a2 : Int) (a3 : Int) (a4 : Int) (a5 : Int) (a6 : Int) (a7 : Int) (Z : zS) (b2 : Int32) (b3 : Int32) (b4 : Int32) (b5 : Int32) (b6 : Int32) (b7 : Int32) (w : gW), b2 = Int32.ofInt a2 → b3 = Int32.ofInt a3 → b4 = Int32.ofInt a4 → b5 = Int32.ofInt a5 → b6 = Int32.ofInt a6 → b7 = Int32.ofInt a7 → oAt 7 lyZ w m (cvZ Z) → wF m (m + 27) w0 w → zR E (r a2 a3 a4 a5 a6 a7 Z) (r' m b2 b3 b4 b5 b6 b7 w)) (hv1 : v1' = Int32.ofInt v1) (hv2 : v2' = Int32.ofInt v2) (hv3 : v3' = Int32.ofInt v3) (hv4 : v4' = Int32.ofInt v4) (hv5 : v5' = Int32.ofInt v5) (hv8 : v8' = Int32.ofInt v8) (h_w : oAt 7 lyZ w' m (cvZ w)) (f_w : wF m (m + 27) w0 w') : zR E (zX7_same_b261 F r v1 v2 v3 v4 v5 v8 w) (mX7_same_b261 F r' m v1' v2' v3' v4' v5' v8' w') := by
  unfold zX7_same_b261 mX7_same_b261
  exact (R_Eq hv8 (eL (by decide) : (0 : Int32) = Int32.ofInt (0 : Int))
  (rX7_same_b271 hr hv1 hv2 hv3 hv4 hv5 (eL (by decide) : (1 : Int32) = Int32.ofInt (1 : Int)) h_w f_w)
  (rX7_same_b271 hr hv1 hv2 hv3 hv4 hv5 (eL (by decide) : (0 : Int32) = Int32.ofInt (0 : Int)) h_w f_w))
set_option maxRecDepth 100000 in
theorem rX7_same_h138 {F m : Nat} {w0 : gW} {r : Int → Int → Int → Int → Int → Int → zS → Option (Int × zS)} {r' : Nat → Int32 → Int32 → Int32 → Int32 → Int32 → Int32 → gW → Option (Int32 × gW)} {v1 : Int} {v1' : Int32} {v2 : Int} {v2' : Int32} {v3 : Int} {v3' : Int32} {v4 : Int} {v4' : Int32} {v5 : Int} {v5' : Int32} {v6 : Int} {v6' : Int32} {w : zS} {w' : gW} (hr : ∀ (a2 : Int) (a3 : Int) (a4 : Int) (a5 : Int) (a6 : Int) (a7 : Int) (Z : zS) (b2 : Int32) (b3 : Int32) (b4 : Int32) (b5 : Int32) (b6 : Int32) (b7 : Int32) (w : gW), b2 = Int32.ofInt a2 → b3 = Int32.ofInt a3 → b4 = Int32.ofInt a4 → b5 = Int32.ofInt a5 → b6 = Int32.ofInt a6 → b7 = Int32.ofInt a7 → oAt 7 lyZ w m (cvZ Z) → wF m (m + 27) w0 w → zR (E1 m w0) (r a2 a3 a4 a5 a6 a7 Z) (r' m b2 b3 b4 b5 b6 b7 w)) (hv1 : v1' = Int32.ofInt v1) (hv2 : v2' = Int32.ofInt v2) (hv3 : v3' = Int32.ofInt v3) (hv4 : v4' = Int32.ofInt v4) (hv5 : v5' = Int32.ofInt v5) (hv6 : v6' = Int32.ofInt v6) (h_w : oAt 7 lyZ w' m (cvZ w)) (f_w : wF m (m + 27) w0 w') : zR (E1 m w0) (zX7_same_h138 F r v1 v2 v3 v4 v5 v6 w) (mX7_same_h138 F r' m v1' v2' v3' v4' v5' v6' w') := by
  unfold zX7_same_h138 mX7_same_h138
  exact (R_Eq hv6 (eL (by decide) : (0 : Int32) = Int32.ofInt (0 : Int))
  (R_ret1 (eL (by decide) : (0 : Int32) = Int32.ofInt (0 : Int)) h_w f_w)
  (R_Eq hv5 hv3
    (R_ret1 (eL (by decide) : (-5 : Int32) = Int32.ofInt (-5 : Int)) h_w f_w)
    (R_O h_w
      (R_C1 (rX7_goes hv1 hv2 hv4 h_w) f_w (fun q160_1 q160_2 q160_1' q160_2' hq160 h_q160_2 f_q160_2 =>
      (R_Eq hq160 (eL (by decide) : (0 : Int32) = Int32.ofInt (0 : Int))
      (rX7_same_l177 (by exact (fun v1 v2 v3 v4 v5 v8 w v1' v2' v3' v4' v5' v8' w' hv1 hv2 hv3 hv4 hv5 hv8 h_w f_w =>
          (rX7_same_b261 hr hv1 hv2 hv3 hv4 hv5 hv8 h_w f_w))) F _ _ _ _ _ _ _ _ _ _ _ _ _ _ _ _ hv1 hv2 hv3 hv4 (eAdd hv5 (eL (by decide) : (1 : Int32) = Int32.ofInt (1 : Int))) (eSub hv4 (eL (by decide) : (1 : Int32) = Int32.ofInt (1 : Int))) (eL (by decide) : (1 : Int32) = Int32.ofInt (1 : Int)) h_q160_2 f_q160_2)
      (R_ret1 (eL (by decide) : (1 : Int32) = Int32.ofInt (1 : Int)) h_q160_2 f_q160_2)))))))
set_option maxRecDepth 100000 in
theorem rX7_same_l138 {F m : Nat} {w0 : gW}   : ∀ (n : Nat) (v1 : Int) (v2 : Int) (v3 : Int) (v4 : Int) (v5 : Int) (v6 : Int) (w : zS) (v1' : Int32) (v2' : Int32) (v3' : Int32) (v4' : Int32) (v5' : Int32) (v6' : Int32) (w' : gW), v1' = Int32.ofInt v1 → v2' = Int32.ofInt v2 → v3' = Int32.ofInt v3 → v4' = Int32.ofInt v4 → v5' = Int32.ofInt v5 → v6' = Int32.ofInt v6 → oAt 7 lyZ w' m (cvZ w) → wF m (m + 27) w0 w' → zR (E1 m w0) (zX7_same_l138 F  n v1 v2 v3 v4 v5 v6 w) (mX7_same_l138 F  n m v1' v2' v3' v4' v5' v6' w') := by
  intro n
  induction n with
  | zero => intros; exact R_none
  | succ n ih =>
    intro v1 v2 v3 v4 v5 v6 w v1' v2' v3' v4' v5' v6' w' hv1 hv2 hv3 hv4 hv5 hv6 h_w f_w
    exact rX7_same_h138 ih  hv1 hv2 hv3 hv4 hv5 hv6 h_w f_w
set_option maxRecDepth 100000 in
theorem rX7_same {F m : Nat} {v1 : Int} {v1' : Int32} {v2 : Int} {v2' : Int32} {v3 : Int} {v3' : Int32} {w : zS} {w' : gW} (hv1 : v1' = Int32.ofInt v1) (hv2 : v2' = Int32.ofInt v2) (hv3 : v3' = Int32.ofInt v3) (h_w : oAt 7 lyZ w' m (cvZ w)) : zR (E1 m w') (zX7_same F v1 v2 v3 w) (mX7_same F m v1' v2' v3' w') := by
  have f_w : wF m (m + 27) w' w' := wF.rf
  unfold zX7_same mX7_same
  exact (R_O h_w
  (R_C1 (rX7_isGroup hv1 h_w) f_w (fun q2_1 q2_2 q2_1' q2_2' hq2 h_q2_2 f_q2_2 =>
  (R_Eq hq2 (eL (by decide) : (0 : Int32) = Int32.ofInt (0 : Int))
  (R_ret1 (eL (by decide) : (-1 : Int32) = Int32.ofInt (-1 : Int)) h_q2_2 f_q2_2)
  (R_O h_q2_2
    (R_C1 (rX7_isGroup hv2 h_q2_2) f_q2_2 (fun q10_1 q10_2 q10_1' q10_2' hq10 h_q10_2 f_q10_2 =>
    (R_Eq hq10 (eL (by decide) : (0 : Int32) = Int32.ofInt (0 : Int))
    (R_ret1 (eL (by decide) : (-1 : Int32) = Int32.ofInt (-1 : Int)) h_q10_2 f_q10_2)
    (R_C1 (rX7_in (congrArg Int32.toInt64 hv3) rfl rfl h_q10_2) f_q10_2 (fun q22_1 q22_2 q22_1' q22_2' hq22 h_q22_2 f_q22_2 =>
      (R_Eq hq22 (eL (by decide) : (0 : Int32) = Int32.ofInt (0 : Int))
      (R_ret1 (eL (by decide) : (-1 : Int32) = Int32.ofInt (-1 : Int)) h_q22_2 f_q22_2)
      (R_FR h_q22_2 (k := 1) rfl
        (R_Ld h_q22_2 (k := 1) rfl (by decide) hv1 rfl (fun t35 t35' ht35 =>
        (R_FR h_q22_2 (k := 1) rfl
        (R_Ld h_q22_2 (k := 1) rfl (by decide) hv2 rfl (fun t41 t41' ht41 =>
        (R_Eq ht35 ht41
        (rX7_same_l50 (by exact (fun v1 v2 v3 w v1' v2' v3' w' hv1 hv2 hv3 h_w f_w =>
            (R_O h_w
            (R_C1 (rX7_leastMakers hv1 h_w) f_w (fun q88_1 q88_2 q88_1' q88_2' hq88 h_q88_2 f_q88_2 =>
            (R_O h_q88_2
            (R_C0 (rX7_leastRow hv1 hq88 h_q88_2) f_q88_2 (fun q97 q97' h_q97 f_q97 =>
            (rX7_same_l103 (by exact (fun v1 v2 v3 v4 w v1' v2' v3' v4' w' hv1 hv2 hv3 hv4 h_w f_w =>
              (rX7_same_l138  F _ _ _ _ _ _ _ _ _ _ _ _ _ _ hv1 hv2 hv3 hv4 (eL (by decide) : (0 : Int32) = Int32.ofInt (0 : Int)) (eL (by decide) : (1 : Int32) = Int32.ofInt (1 : Int)) h_w f_w))) F _ _ _ _ _ _ _ _ _ _ _ _ hv1 hv2 hv3 hq88 (eL (by decide) : (0 : Int32) = Int32.ofInt (0 : Int)) h_q97 f_q97))))))))) F _ _ _ _ _ _ _ _ _ _ hv1 hv2 hv3 (eL (by decide) : (1 : Int32) = Int32.ofInt (1 : Int)) h_q22_2 f_q22_2)
        (R_ret1 (eL (by decide) : (0 : Int32) = Int32.ofInt (0 : Int)) h_q22_2 f_q22_2)))))))))))))))))))
set_option maxRecDepth 100000 in
theorem rX7_classOf_b211 {F m : Nat} {E : (Int × zS) → (Int32 × gW) → Prop} {w0 : gW} {r : Int → Int → Int → Int → zS → Option (Int × zS)} {r' : Nat → Int32 → Int32 → Int32 → Int32 → gW → Option (Int32 × gW)} {k217 : Int → Int → Int → zS → Option (Int × zS)} {k217' : Nat → Int32 → Int32 → Int32 → gW → Option (Int32 × gW)} {v2 : Int} {v2' : Int32} {v5 : Int} {v5' : Int32} {v6 : Int} {v6' : Int32} {v7 : Int} {v7' : Int32} {w : zS} {w' : gW} (hr : ∀ (a2 : Int) (a3 : Int) (a4 : Int) (a5 : Int) (Z : zS) (b2 : Int32) (b3 : Int32) (b4 : Int32) (b5 : Int32) (w : gW), b2 = Int32.ofInt a2 → b3 = Int32.ofInt a3 → b4 = Int32.ofInt a4 → b5 = Int32.ofInt a5 → oAt 7 lyZ w m (cvZ Z) → wF m (m + 27) w0 w → zR E (r a2 a3 a4 a5 Z) (r' m b2 b3 b4 b5 w)) (hk217 : ∀ (a2 : Int) (a3 : Int) (a4 : Int) (Z : zS) (b2 : Int32) (b3 : Int32) (b4 : Int32) (w : gW), b2 = Int32.ofInt a2 → b3 = Int32.ofInt a3 → b4 = Int32.ofInt a4 → oAt 7 lyZ w m (cvZ Z) → wF m (m + 27) w0 w → zR E (k217 a2 a3 a4 Z) (k217' m b2 b3 b4 w)) (hv2 : v2' = Int32.ofInt v2) (hv5 : v5' = Int32.ofInt v5) (hv6 : v6' = Int32.ofInt v6) (hv7 : v7' = Int32.ofInt v7) (h_w : oAt 7 lyZ w' m (cvZ w)) (f_w : wF m (m + 27) w0 w') : zR E (zX7_classOf_b211 F r k217 v2 v5 v6 v7 w) (mX7_classOf_b211 F r' k217' m v2' v5' v6' v7' w') := by
  unfold zX7_classOf_b211 mX7_classOf_b211
  exact (hr _ _ _ _ _ _ _ _ _ _ hv2 hv5 hv6 (eAdd hv7 (eL (by decide) : (1 : Int32) = Int32.ofInt (1 : Int))) h_w f_w)
set_option maxRecDepth 100000 in
theorem rX7_classOf_b203 {F m : Nat} {w0 : gW} {r : Int → Int → Int → Int → zS → Option (Int × zS)} {r' : Nat → Int32 → Int32 → Int32 → Int32 → gW → Option (Int32 × gW)} {k217 : Int → Int → Int → zS → Option (Int × zS)} {k217' : Nat → Int32 → Int32 → Int32 → gW → Option (Int32 × gW)} {v2 : Int} {v2' : Int32} {v5 : Int} {v5' : Int32} {v6 : Int} {v6' : Int32} {v7 : Int} {v7' : Int32} {v8 : Int} {v8' : Int32} {w : zS} {w' : gW} (hr : ∀ (a2 : Int) (a3 : Int) (a4 : Int) (a5 : Int) (Z : zS) (b2 : Int32) (b3 : Int32) (b4 : Int32) (b5 : Int32) (w : gW), b2 = Int32.ofInt a2 → b3 = Int32.ofInt a3 → b4 = Int32.ofInt a4 → b5 = Int32.ofInt a5 → oAt 7 lyZ w m (cvZ Z) → wF m (m + 27) w0 w → zR (E1 m w0) (r a2 a3 a4 a5 Z) (r' m b2 b3 b4 b5 w)) (hk217 : ∀ (a2 : Int) (a3 : Int) (a4 : Int) (Z : zS) (b2 : Int32) (b3 : Int32) (b4 : Int32) (w : gW), b2 = Int32.ofInt a2 → b3 = Int32.ofInt a3 → b4 = Int32.ofInt a4 → oAt 7 lyZ w m (cvZ Z) → wF m (m + 27) w0 w → zR (E1 m w0) (k217 a2 a3 a4 Z) (k217' m b2 b3 b4 w)) (hv2 : v2' = Int32.ofInt v2) (hv5 : v5' = Int32.ofInt v5) (hv6 : v6' = Int32.ofInt v6) (hv7 : v7' = Int32.ofInt v7) (hv8 : v8' = Int32.ofInt v8) (h_w : oAt 7 lyZ w' m (cvZ w)) (f_w : wF m (m + 27) w0 w') : zR (E1 m w0) (zX7_classOf_b203 F r k217 v2 v5 v6 v7 v8 w) (mX7_classOf_b203 F r' k217' m v2' v5' v6' v7' v8' w') := by
  unfold zX7_classOf_b203 mX7_classOf_b203
  exact (R_Eq hv8 (eL (by decide) : (0 : Int32) = Int32.ofInt (0 : Int))
  (rX7_classOf_b211 hr hk217 hv2 hv5 hv6 hv7 h_w f_w)
  (R_ret1 (eL (by decide) : (-4 : Int32) = Int32.ofInt (-4 : Int)) h_w f_w))
set_option maxRecDepth 100000 in
theorem rX7_classOf_b171 {F m : Nat} {w0 : gW} {r : Int → Int → Int → Int → zS → Option (Int × zS)} {r' : Nat → Int32 → Int32 → Int32 → Int32 → gW → Option (Int32 × gW)} {k217 : Int → Int → Int → zS → Option (Int × zS)} {k217' : Nat → Int32 → Int32 → Int32 → gW → Option (Int32 × gW)} {v2 : Int} {v2' : Int32} {v5 : Int} {v5' : Int32} {v6 : Int} {v6' : Int32} {v7 : Int} {v7' : Int32} {s0 : Int} {s0' : Int32} {w : zS} {w' : gW} (hr : ∀ (a2 : Int) (a3 : Int) (a4 : Int) (a5 : Int) (Z : zS) (b2 : Int32) (b3 : Int32) (b4 : Int32) (b5 : Int32) (w : gW), b2 = Int32.ofInt a2 → b3 = Int32.ofInt a3 → b4 = Int32.ofInt a4 → b5 = Int32.ofInt a5 → oAt 7 lyZ w m (cvZ Z) → wF m (m + 27) w0 w → zR (E1 m w0) (r a2 a3 a4 a5 Z) (r' m b2 b3 b4 b5 w)) (hk217 : ∀ (a2 : Int) (a3 : Int) (a4 : Int) (Z : zS) (b2 : Int32) (b3 : Int32) (b4 : Int32) (w : gW), b2 = Int32.ofInt a2 → b3 = Int32.ofInt a3 → b4 = Int32.ofInt a4 → oAt 7 lyZ w m (cvZ Z) → wF m (m + 27) w0 w → zR (E1 m w0) (k217 a2 a3 a4 Z) (k217' m b2 b3 b4 w)) (hv2 : v2' = Int32.ofInt v2) (hv5 : v5' = Int32.ofInt v5) (hv6 : v6' = Int32.ofInt v6) (hv7 : v7' = Int32.ofInt v7) (hs0 : s0' = Int32.ofInt s0) (h_w : oAt 7 lyZ w' m (cvZ w)) (f_w : wF m (m + 27) w0 w') : zR (E1 m w0) (zX7_classOf_b171 F r k217 v2 v5 v6 v7 s0 w) (mX7_classOf_b171 F r' k217' m v2' v5' v6' v7' s0' w') := by
  unfold zX7_classOf_b171 mX7_classOf_b171
  exact (R_Le hv5 (eL (by decide) : (0 : Int32) = Int32.ofInt (0 : Int))
  (rX7_classOf_b203 hr hk217 hv2 hv5 hv6 hv7 hs0 h_w f_w)
  (R_Le hv6 (eL (by decide) : (0 : Int32) = Int32.ofInt (0 : Int))
    (rX7_classOf_b203 hr hk217 hv2 hv5 hv6 hv7 hs0 h_w f_w)
    (R_FR h_w (k := 25) rfl
      (R_O h_w
      (R_C1 (rX7_placeOf hv5 hv6 hv7 h_w) f_w (fun q194_1 q194_2 q194_1' q194_2' hq194 h_q194_2 f_q194_2 =>
      (R_St h_q194_2 f_q194_2 (k := 25) rfl (by decide) hq194 hs0 (fun w199' h_w199 f_w199 =>
      (rX7_classOf_b211 hr hk217 hv2 hv5 hv6 hv7 h_w199 f_w199)))))))))
set_option maxRecDepth 100000 in
theorem rX7_classOf_h109 {F m : Nat} {w0 : gW} {r : Int → Int → Int → Int → zS → Option (Int × zS)} {r' : Nat → Int32 → Int32 → Int32 → Int32 → gW → Option (Int32 × gW)} {k217 : Int → Int → Int → zS → Option (Int × zS)} {k217' : Nat → Int32 → Int32 → Int32 → gW → Option (Int32 × gW)} {v2 : Int} {v2' : Int32} {v5 : Int} {v5' : Int32} {v6 : Int} {v6' : Int32} {v7 : Int} {v7' : Int32} {w : zS} {w' : gW} (hr : ∀ (a2 : Int) (a3 : Int) (a4 : Int) (a5 : Int) (Z : zS) (b2 : Int32) (b3 : Int32) (b4 : Int32) (b5 : Int32) (w : gW), b2 = Int32.ofInt a2 → b3 = Int32.ofInt a3 → b4 = Int32.ofInt a4 → b5 = Int32.ofInt a5 → oAt 7 lyZ w m (cvZ Z) → wF m (m + 27) w0 w → zR (E1 m w0) (r a2 a3 a4 a5 Z) (r' m b2 b3 b4 b5 w)) (hk217 : ∀ (a2 : Int) (a3 : Int) (a4 : Int) (Z : zS) (b2 : Int32) (b3 : Int32) (b4 : Int32) (w : gW), b2 = Int32.ofInt a2 → b3 = Int32.ofInt a3 → b4 = Int32.ofInt a4 → oAt 7 lyZ w m (cvZ Z) → wF m (m + 27) w0 w → zR (E1 m w0) (k217 a2 a3 a4 Z) (k217' m b2 b3 b4 w)) (hv2 : v2' = Int32.ofInt v2) (hv5 : v5' = Int32.ofInt v5) (hv6 : v6' = Int32.ofInt v6) (hv7 : v7' = Int32.ofInt v7) (h_w : oAt 7 lyZ w' m (cvZ w)) (f_w : wF m (m + 27) w0 w') : zR (E1 m w0) (zX7_classOf_h109 F r k217 v2 v5 v6 v7 w) (mX7_classOf_h109 F r' k217' m v2' v5' v6' v7' w') := by
  unfold zX7_classOf_h109 mX7_classOf_h109
  exact (R_FI h_w (k := 37) rfl (c := (zI w 37)) rfl (fun t112' ht112 =>
  (R_Le ht112 hv7
  (hk217 _ _ _ _ _ _ _ _ hv2 hv5 hv6 h_w f_w)
  (R_FR h_w (k := 6) rfl
    (R_FI h_w (k := 37) rfl (c := (zI w 37)) rfl (fun t128' ht128 =>
    (R_FI h_w (k := 36) rfl (c := (zI w 36)) rfl (fun t132' ht132 =>
    (R_Ld h_w (k := 6) rfl (by decide) (eAdd (eAdd (eMul (eL (by decide) : (144 : Int32) = Int32.ofInt (144 : Int)) hv2) (eMul ht128 (eAdd (eMul ht132 hv5) hv6))) hv7) rfl (fun t146 t146' ht146 =>
    (R_FI h_w (k := 23) rfl (c := (zI w 23)) rfl (fun t148' ht148 =>
    (R_Rem ht146 ht148 (fun t151 t151' ht151 =>
    (R_Le (eL (by decide) : (0 : Int32) = Int32.ofInt (0 : Int)) ht151
    (rX7_classOf_b171 hr hk217 hv2 hv5 hv6 hv7 ht151 h_w f_w)
    (R_FI h_w (k := 23) rfl (c := (zI w 23)) rfl (fun t162' ht162 =>
      (rX7_classOf_b171 hr hk217 hv2 hv5 hv6 hv7 (eAdd ht151 ht162) h_w f_w))))))))))))))))))
set_option maxRecDepth 100000 in
theorem rX7_classOf_l109 {F m : Nat} {w0 : gW} {k217 : Int → Int → Int → zS → Option (Int × zS)} {k217' : Nat → Int32 → Int32 → Int32 → gW → Option (Int32 × gW)} (hk217 : ∀ (a2 : Int) (a3 : Int) (a4 : Int) (Z : zS) (b2 : Int32) (b3 : Int32) (b4 : Int32) (w : gW), b2 = Int32.ofInt a2 → b3 = Int32.ofInt a3 → b4 = Int32.ofInt a4 → oAt 7 lyZ w m (cvZ Z) → wF m (m + 27) w0 w → zR (E1 m w0) (k217 a2 a3 a4 Z) (k217' m b2 b3 b4 w)) : ∀ (n : Nat) (v2 : Int) (v5 : Int) (v6 : Int) (v7 : Int) (w : zS) (v2' : Int32) (v5' : Int32) (v6' : Int32) (v7' : Int32) (w' : gW), v2' = Int32.ofInt v2 → v5' = Int32.ofInt v5 → v6' = Int32.ofInt v6 → v7' = Int32.ofInt v7 → oAt 7 lyZ w' m (cvZ w) → wF m (m + 27) w0 w' → zR (E1 m w0) (zX7_classOf_l109 F k217 n v2 v5 v6 v7 w) (mX7_classOf_l109 F k217' n m v2' v5' v6' v7' w') := by
  intro n
  induction n with
  | zero => intros; exact R_none
  | succ n ih =>
    intro v2 v5 v6 v7 w v2' v5' v6' v7' w' hv2 hv5 hv6 hv7 h_w f_w
    exact rX7_classOf_h109 ih hk217 hv2 hv5 hv6 hv7 h_w f_w
set_option maxRecDepth 100000 in
theorem rX7_classOf_h97 {F m : Nat} {w0 : gW} {r : Int → Int → Int → zS → Option (Int × zS)} {r' : Nat → Int32 → Int32 → Int32 → gW → Option (Int32 × gW)} {k223 : Int → Int → zS → Option (Int × zS)} {k223' : Nat → Int32 → Int32 → gW → Option (Int32 × gW)} {v2 : Int} {v2' : Int32} {v5 : Int} {v5' : Int32} {v6 : Int} {v6' : Int32} {w : zS} {w' : gW} (hr : ∀ (a2 : Int) (a3 : Int) (a4 : Int) (Z : zS) (b2 : Int32) (b3 : Int32) (b4 : Int32) (w : gW), b2 = Int32.ofInt a2 → b3 = Int32.ofInt a3 → b4 = Int32.ofInt a4 → oAt 7 lyZ w m (cvZ Z) → wF m (m + 27) w0 w → zR (E1 m w0) (r a2 a3 a4 Z) (r' m b2 b3 b4 w)) (hk223 : ∀ (a2 : Int) (a3 : Int) (Z : zS) (b2 : Int32) (b3 : Int32) (w : gW), b2 = Int32.ofInt a2 → b3 = Int32.ofInt a3 → oAt 7 lyZ w m (cvZ Z) → wF m (m + 27) w0 w → zR (E1 m w0) (k223 a2 a3 Z) (k223' m b2 b3 w)) (hv2 : v2' = Int32.ofInt v2) (hv5 : v5' = Int32.ofInt v5) (hv6 : v6' = Int32.ofInt v6) (h_w : oAt 7 lyZ w' m (cvZ w)) (f_w : wF m (m + 27) w0 w') : zR (E1 m w0) (zX7_classOf_h97 F r k223 v2 v5 v6 w) (mX7_classOf_h97 F r' k223' m v2' v5' v6' w') := by
  unfold zX7_classOf_h97 mX7_classOf_h97
  exact (R_FI h_w (k := 36) rfl (c := (zI w 36)) rfl (fun t100' ht100 =>
  (R_Le ht100 hv6
  (hk223 _ _ _ _ _ _ hv2 hv5 h_w f_w)
  (rX7_classOf_l109 (by exact (fun v2 v5 v6 w v2' v5' v6' w' hv2 hv5 hv6 h_w f_w =>
      (hr _ _ _ _ _ _ _ _ hv2 hv5 (eAdd hv6 (eL (by decide) : (1 : Int32) = Int32.ofInt (1 : Int))) h_w f_w))) F _ _ _ _ _ _ _ _ _ _ hv2 hv5 hv6 (eL (by decide) : (0 : Int32) = Int32.ofInt (0 : Int)) h_w f_w))))
set_option maxRecDepth 100000 in
theorem rX7_classOf_l97 {F m : Nat} {w0 : gW} {k223 : Int → Int → zS → Option (Int × zS)} {k223' : Nat → Int32 → Int32 → gW → Option (Int32 × gW)} (hk223 : ∀ (a2 : Int) (a3 : Int) (Z : zS) (b2 : Int32) (b3 : Int32) (w : gW), b2 = Int32.ofInt a2 → b3 = Int32.ofInt a3 → oAt 7 lyZ w m (cvZ Z) → wF m (m + 27) w0 w → zR (E1 m w0) (k223 a2 a3 Z) (k223' m b2 b3 w)) : ∀ (n : Nat) (v2 : Int) (v5 : Int) (v6 : Int) (w : zS) (v2' : Int32) (v5' : Int32) (v6' : Int32) (w' : gW), v2' = Int32.ofInt v2 → v5' = Int32.ofInt v5 → v6' = Int32.ofInt v6 → oAt 7 lyZ w' m (cvZ w) → wF m (m + 27) w0 w' → zR (E1 m w0) (zX7_classOf_l97 F k223 n v2 v5 v6 w) (mX7_classOf_l97 F k223' n m v2' v5' v6' w') := by
  intro n
  induction n with
  | zero => intros; exact R_none
  | succ n ih =>
    intro v2 v5 v6 w v2' v5' v6' w' hv2 hv5 hv6 h_w f_w
    exact rX7_classOf_h97 ih hk223 hv2 hv5 hv6 h_w f_w
set_option maxRecDepth 100000 in
theorem rX7_classOf_h85 {F m : Nat} {w0 : gW} {r : Int → Int → zS → Option (Int × zS)} {r' : Nat → Int32 → Int32 → gW → Option (Int32 × gW)} {k229 : zS → Option (Int × zS)} {k229' : Nat → gW → Option (Int32 × gW)} {v2 : Int} {v2' : Int32} {v5 : Int} {v5' : Int32} {w : zS} {w' : gW} (hr : ∀ (a2 : Int) (a3 : Int) (Z : zS) (b2 : Int32) (b3 : Int32) (w : gW), b2 = Int32.ofInt a2 → b3 = Int32.ofInt a3 → oAt 7 lyZ w m (cvZ Z) → wF m (m + 27) w0 w → zR (E1 m w0) (r a2 a3 Z) (r' m b2 b3 w)) (hk229 : ∀ (Z : zS) (w : gW), oAt 7 lyZ w m (cvZ Z) → wF m (m + 27) w0 w → zR (E1 m w0) (k229 Z) (k229' m w)) (hv2 : v2' = Int32.ofInt v2) (hv5 : v5' = Int32.ofInt v5) (h_w : oAt 7 lyZ w' m (cvZ w)) (f_w : wF m (m + 27) w0 w') : zR (E1 m w0) (zX7_classOf_h85 F r k229 v2 v5 w) (mX7_classOf_h85 F r' k229' m v2' v5' w') := by
  unfold zX7_classOf_h85 mX7_classOf_h85
  exact (R_FI h_w (k := 36) rfl (c := (zI w 36)) rfl (fun t88' ht88 =>
  (R_Le ht88 hv5
  (hk229 _ _ h_w f_w)
  (rX7_classOf_l97 (by exact (fun v2 v5 w v2' v5' w' hv2 hv5 h_w f_w =>
      (hr _ _ _ _ _ _ hv2 (eAdd hv5 (eL (by decide) : (1 : Int32) = Int32.ofInt (1 : Int))) h_w f_w))) F _ _ _ _ _ _ _ _ hv2 hv5 (eL (by decide) : (0 : Int32) = Int32.ofInt (0 : Int)) h_w f_w))))
set_option maxRecDepth 100000 in
theorem rX7_classOf_l85 {F m : Nat} {w0 : gW} {k229 : zS → Option (Int × zS)} {k229' : Nat → gW → Option (Int32 × gW)} (hk229 : ∀ (Z : zS) (w : gW), oAt 7 lyZ w m (cvZ Z) → wF m (m + 27) w0 w → zR (E1 m w0) (k229 Z) (k229' m w)) : ∀ (n : Nat) (v2 : Int) (v5 : Int) (w : zS) (v2' : Int32) (v5' : Int32) (w' : gW), v2' = Int32.ofInt v2 → v5' = Int32.ofInt v5 → oAt 7 lyZ w' m (cvZ w) → wF m (m + 27) w0 w' → zR (E1 m w0) (zX7_classOf_l85 F k229 n v2 v5 w) (mX7_classOf_l85 F k229' n m v2' v5' w') := by
  intro n
  induction n with
  | zero => intros; exact R_none
  | succ n ih =>
    intro v2 v5 w v2' v5' w' hv2 hv5 h_w f_w
    exact rX7_classOf_h85 ih hk229 hv2 hv5 h_w f_w
set_option maxRecDepth 100000 in
theorem rX7_classOf {F m : Nat} {v1 : Int} {v1' : Int32} {v2 : Int} {v2' : Int32} {v3 : Int} {v3' : Int32} {w : zS} {w' : gW} (hv1 : v1' = Int32.ofInt v1) (hv2 : v2' = Int32.ofInt v2) (hv3 : v3' = Int32.ofInt v3) (h_w : oAt 7 lyZ w' m (cvZ w)) : zR (E1 m w') (zX7_classOf F v1 v2 v3 w) (mX7_classOf F m v1' v2' v3' w') := by
  have f_w : wF m (m + 27) w' w' := wF.rf
  unfold zX7_classOf mX7_classOf
  exact (R_O h_w
  (R_C1 (rX7_isModule hv1 h_w) f_w (fun q2_1 q2_2 q2_1' q2_2' hq2 h_q2_2 f_q2_2 =>
  (R_Eq hq2 (eL (by decide) : (0 : Int32) = Int32.ofInt (0 : Int))
  (R_ret1 (eL (by decide) : (-1 : Int32) = Int32.ofInt (-1 : Int)) h_q2_2 f_q2_2)
  (R_C1 (rX7_in (congrArg Int32.toInt64 hv2) rfl rfl h_q2_2) f_q2_2 (fun q14_1 q14_2 q14_1' q14_2' hq14 h_q14_2 f_q14_2 =>
    (R_Eq hq14 (eL (by decide) : (0 : Int32) = Int32.ofInt (0 : Int))
    (R_ret1 (eL (by decide) : (-1 : Int32) = Int32.ofInt (-1 : Int)) h_q14_2 f_q14_2)
    (R_C1 (rX7_in (congrArg Int32.toInt64 hv3) rfl rfl h_q14_2) f_q14_2 (fun q24_1 q24_2 q24_1' q24_2' hq24 h_q24_2 f_q24_2 =>
      (R_Eq hq24 (eL (by decide) : (0 : Int32) = Int32.ofInt (0 : Int))
      (R_ret1 (eL (by decide) : (-1 : Int32) = Int32.ofInt (-1 : Int)) h_q24_2 f_q24_2)
      (R_O h_q24_2
        (R_C1 (rX7_sound hv1 h_q24_2) f_q24_2 (fun q34_1 q34_2 q34_1' q34_2' hq34 h_q34_2 f_q34_2 =>
        (R_Eq hq34 (eL (by decide) : (0 : Int32) = Int32.ofInt (0 : Int))
        (R_O h_q34_2
          (R_C0 (rX7_know hv1 h_q34_2) f_q34_2 (fun q45 q45' h_q45 f_q45 =>
          (R_FI h_q45 (k := 37) rfl (c := (zI q45 37)) rfl (fun t52' ht52 =>
          (R_FI h_q45 (k := 36) rfl (c := (zI q45 36)) rfl (fun t56' ht56 =>
          (R_FI h_q45 (k := 36) rfl (c := (zI q45 36)) rfl (fun t61' ht61 =>
          (R_O h_q45
          (R_C1 (rX7_faultOf hv2 hv3 (eMul (eMul ht52 ht56) ht61) h_q45) f_q45 (fun q65_1 q65_2 q65_1' q65_2' hq65 h_q65_2 f_q65_2 =>
          (R_Le (eL (by decide) : (0 : Int32) = Int32.ofInt (0 : Int)) hq65
          (R_O h_q65_2
            (R_C0 (rX7_clearLine h_q65_2) f_q65_2 (fun q79 q79' h_q79 f_q79 =>
            (rX7_classOf_l85 (by exact (fun w w' h_w f_w =>
              (R_O h_w
              (R_C1 (rX7_isCocycle h_w) f_w (fun q230_1 q230_2 q230_1' q230_2' hq230 h_q230_2 f_q230_2 =>
              (R_Eq hq230 (eL (by decide) : (0 : Int32) = Int32.ofInt (0 : Int))
              (R_ret1 (eL (by decide) : (-4 : Int32) = Int32.ofInt (-4 : Int)) h_q230_2 f_q230_2)
              (R_O h_q230_2
                (R_C1 (rX7_classOfLine h_q230_2) f_q230_2 (fun q237_1 q237_2 q237_1' q237_2' hq237 h_q237_2 f_q237_2 =>
                (R_ret1 hq237 h_q237_2 f_q237_2)))))))))) F _ _ _ _ _ _ hv2 (eL (by decide) : (0 : Int32) = Int32.ofInt (0 : Int)) h_q79 f_q79))))
          (R_ret1 hq65 h_q65_2 f_q65_2))))))))))))))
        (R_ret1 (eL (by decide) : (-2 : Int32) = Int32.ofInt (-2 : Int)) h_q34_2 f_q34_2)))))))))))))))
set_option maxRecDepth 100000 in
theorem rX7_dimension {F m : Nat} {v1 : Int} {v1' : Int32} {v2 : Int} {v2' : Int32} {w : zS} {w' : gW} (hv1 : v1' = Int32.ofInt v1) (hv2 : v2' = Int32.ofInt v2) (h_w : oAt 7 lyZ w' m (cvZ w)) : zR (E1 m w') (zX7_dimension F v1 v2 w) (mX7_dimension F m v1' v2' w') := by
  have f_w : wF m (m + 27) w' w' := wF.rf
  unfold zX7_dimension mX7_dimension
  exact (R_O h_w
  (R_C1 (rX7_isModule hv1 h_w) f_w (fun q2_1 q2_2 q2_1' q2_2' hq2 h_q2_2 f_q2_2 =>
  (R_Eq hq2 (eL (by decide) : (0 : Int32) = Int32.ofInt (0 : Int))
  (R_ret1 (eL (by decide) : (-1 : Int32) = Int32.ofInt (-1 : Int)) h_q2_2 f_q2_2)
  (R_C1 (rX7_in (congrArg Int32.toInt64 hv2) rfl rfl h_q2_2) f_q2_2 (fun q14_1 q14_2 q14_1' q14_2' hq14 h_q14_2 f_q14_2 =>
    (R_Eq hq14 (eL (by decide) : (0 : Int32) = Int32.ofInt (0 : Int))
    (R_ret1 (eL (by decide) : (-1 : Int32) = Int32.ofInt (-1 : Int)) h_q14_2 f_q14_2)
    (R_O h_q14_2
      (R_C1 (rX7_sound hv1 h_q14_2) f_q14_2 (fun q24_1 q24_2 q24_1' q24_2' hq24 h_q24_2 f_q24_2 =>
      (R_Eq hq24 (eL (by decide) : (0 : Int32) = Int32.ofInt (0 : Int))
      (R_O h_q24_2
        (R_C0 (rX7_know hv1 h_q24_2) f_q24_2 (fun q35 q35' h_q35 f_q35 =>
        (R_Le (eL (by decide) : (5 : Int32) = Int32.ofInt (5 : Int)) hv2
        (R_Eq hv2 (eL (by decide) : (5 : Int32) = Int32.ofInt (5 : Int))
          (R_FI h_q35 (k := 35) rfl (c := (zI q35 35)) rfl (fun t58' ht58 =>
            (R_ret1 ht58 h_q35 f_q35)))
          (R_FR h_q35 (k := 30) rfl
            (R_Ld h_q35 (k := 30) rfl (by decide) (eL (by decide) : (1 : Int32) = Int32.ofInt (1 : Int)) rfl (fun t69 t69' ht69 =>
            (R_FR h_q35 (k := 30) rfl
            (R_Ld h_q35 (k := 30) rfl (by decide) (eL (by decide) : (2 : Int32) = Int32.ofInt (2 : Int)) rfl (fun t75 t75' ht75 =>
            (R_ret1 (eSub ht69 ht75) h_q35 f_q35))))))))
        (R_FR h_q35 (k := 30) rfl
          (R_Ld h_q35 (k := 30) rfl (by decide) hv2 rfl (fun t48 t48' ht48 =>
          (R_ret1 ht48 h_q35 f_q35))))))))
      (R_ret1 (eL (by decide) : (-2 : Int32) = Int32.ofInt (-2 : Int)) h_q24_2 f_q24_2))))))))))))
set_option maxRecDepth 100000 in
theorem rX7_lacks {F m : Nat} {v1 : Int} {v1' : Int32} {v2 : Int} {v2' : Int32} {w : zS} {w' : gW} (hv1 : v1' = Int32.ofInt v1) (hv2 : v2' = Int32.ofInt v2) (h_w : oAt 7 lyZ w' m (cvZ w)) : zR (E1 m w') (zX7_lacks F v1 v2 w) (mX7_lacks F m v1' v2' w') := by
  have f_w : wF m (m + 27) w' w' := wF.rf
  unfold zX7_lacks mX7_lacks
  exact (R_O h_w
  (R_C1 (rX7_isModule hv1 h_w) f_w (fun q2_1 q2_2 q2_1' q2_2' hq2 h_q2_2 f_q2_2 =>
  (R_Eq hq2 (eL (by decide) : (0 : Int32) = Int32.ofInt (0 : Int))
  (R_ret1 (eL (by decide) : (-1 : Int32) = Int32.ofInt (-1 : Int)) h_q2_2 f_q2_2)
  (R_Le (eL (by decide) : (0 : Int32) = Int32.ofInt (0 : Int)) hv2
    (R_O h_q2_2
      (R_C1 (rX7_sound hv1 h_q2_2) f_q2_2 (fun q16_1 q16_2 q16_1' q16_2' hq16 h_q16_2 f_q16_2 =>
      (R_Eq hq16 (eL (by decide) : (0 : Int32) = Int32.ofInt (0 : Int))
      (R_O h_q16_2
        (R_C0 (rX7_know hv1 h_q16_2) f_q16_2 (fun q27 q27' h_q27 f_q27 =>
        (R_FI h_q27 (k := 23) rfl (c := (zI q27 23)) rfl (fun t34' ht34 =>
        (R_FI h_q27 (k := 35) rfl (c := (zI q27 35)) rfl (fun t38' ht38 =>
        (R_C1 (rX7_power ht34 ht38 h_q27) f_q27 (fun q41_1 q41_2 q41_1' q41_2' hq41 h_q41_2 f_q41_2 =>
        (R_C1 (rX7_in (congrArg Int32.toInt64 hv2) rfl (congrArg Int32.toInt64 (eSub hq41 (eL (by decide) : (1 : Int32) = Int32.ofInt (1 : Int)))) h_q41_2) f_q41_2 (fun q47_1 q47_2 q47_1' q47_2' hq47 h_q47_2 f_q47_2 =>
        (R_Eq hq47 (eL (by decide) : (0 : Int32) = Int32.ofInt (0 : Int))
        (R_ret1 (eL (by decide) : (-1 : Int32) = Int32.ofInt (-1 : Int)) h_q47_2 f_q47_2)
        (R_ret1 (eL (by decide) : (0 : Int32) = Int32.ofInt (0 : Int)) h_q47_2 f_q47_2)))))))))))))
      (R_ret1 (eL (by decide) : (-2 : Int32) = Int32.ofInt (-2 : Int)) h_q16_2 f_q16_2)))))
    (R_ret1 (eL (by decide) : (-1 : Int32) = Int32.ofInt (-1 : Int)) h_q2_2 f_q2_2))))))
set_option maxRecDepth 100000 in
theorem rX7_over_b225 {F m : Nat} {E : (Int × zS) → (Int32 × gW) → Prop} {w0 : gW} {r : Int → Int → Int → Int → Int → Int → Int → Int → zS → Option (Int × zS)} {r' : Nat → Int32 → Int32 → Int32 → Int32 → Int32 → Int32 → Int32 → Int32 → gW → Option (Int32 × gW)} {k258 : Int → Int → Int → Int → Int → Int → zS → Option (Int × zS)} {k258' : Nat → Int32 → Int32 → Int32 → Int32 → Int32 → Int32 → gW → Option (Int32 × gW)} {v4 : Int} {v4' : Int32} {v5 : Int} {v5' : Int32} {v6 : Int} {v6' : Int32} {v7 : Int} {v7' : Int32} {v8 : Int} {v8' : Int32} {v9 : Int} {v9' : Int32} {v10 : Int} {v10' : Int32} {v11 : Int} {v11' : Int32} {s0 : Int} {s0' : Int32} {s1 : Int} {s1' : Int32} {w : zS} {w' : gW} (hr : ∀ (a2 : Int) (a3 : Int) (a4 : Int) (a5 : Int) (a6 : Int) (a7 : Int) (a8 : Int) (a9 : Int) (Z : zS) (b2 : Int32) (b3 : Int32) (b4 : Int32) (b5 : Int32) (b6 : Int32) (b7 : Int32) (b8 : Int32) (b9 : Int32) (w : gW), b2 = Int32.ofInt a2 → b3 = Int32.ofInt a3 → b4 = Int32.ofInt a4 → b5 = Int32.ofInt a5 → b6 = Int32.ofInt a6 → b7 = Int32.ofInt a7 → b8 = Int32.ofInt a8 → b9 = Int32.ofInt a9 → oAt 7 lyZ w m (cvZ Z) → wF m (m + 27) w0 w → zR E (r a2 a3 a4 a5 a6 a7 a8 a9 Z) (r' m b2 b3 b4 b5 b6 b7 b8 b9 w)) (hk258 : ∀ (a2 : Int) (a3 : Int) (a4 : Int) (a5 : Int) (a6 : Int) (a7 : Int) (Z : zS) (b2 : Int32) (b3 : Int32) (b4 : Int32) (b5 : Int32) (b6 : Int32) (b7 : Int32) (w : gW), b2 = Int32.ofInt a2 → b3 = Int32.ofInt a3 → b4 = Int32.ofInt a4 → b5 = Int32.ofInt a5 → b6 = Int32.ofInt a6 → b7 = Int32.ofInt a7 → oAt 7 lyZ w m (cvZ Z) → wF m (m + 27) w0 w → zR E (k258 a2 a3 a4 a5 a6 a7 Z) (k258' m b2 b3 b4 b5 b6 b7 w)) (hv4 : v4' = Int32.ofInt v4) (hv5 : v5' = Int32.ofInt v5) (hv6 : v6' = Int32.ofInt v6) (hv7 : v7' = Int32.ofInt v7) (hv8 : v8' = Int32.ofInt v8) (hv9 : v9' = Int32.ofInt v9) (hv10 : v10' = Int32.ofInt v10) (hv11 : v11' = Int32.ofInt v11) (hs0 : s0' = Int32.ofInt s0) (hs1 : s1' = Int32.ofInt s1) (h_w : oAt 7 lyZ w' m (cvZ w)) (f_w : wF m (m + 27) w0 w') : zR E (zX7_over_b225 F r k258 v4 v5 v6 v7 v8 v9 v10 v11 s0 s1 w) (mX7_over_b225 F r' k258' m v4' v5' v6' v7' v8' v9' v10' v11' s0' s1' w') := by
  unfold zX7_over_b225 mX7_over_b225
  exact (R_FI h_w (k := 23) rfl (c := (zI w 23)) rfl (fun t235' ht235 =>
  (R_Rem (eAdd hs0 hs1) ht235 (fun t238 t238' ht238 =>
  (R_FI h_w (k := 23) rfl (c := (zI w 23)) rfl (fun t246' ht246 =>
  (hr _ _ _ _ _ _ _ _ _ _ _ _ _ _ _ _ _ _ hv4 hv5 hv6 hv7 hv8 (eAdd hv9 (eMul hv10 ht238)) (eMul hv10 ht246) (eAdd hv11 (eL (by decide) : (1 : Int32) = Int32.ofInt (1 : Int))) h_w f_w)))))))
set_option maxRecDepth 100000 in
theorem rX7_over_b145 {F m : Nat} {E : (Int × zS) → (Int32 × gW) → Prop} {w0 : gW} {r : Int → Int → Int → Int → Int → Int → Int → Int → zS → Option (Int × zS)} {r' : Nat → Int32 → Int32 → Int32 → Int32 → Int32 → Int32 → Int32 → Int32 → gW → Option (Int32 × gW)} {k258 : Int → Int → Int → Int → Int → Int → zS → Option (Int × zS)} {k258' : Nat → Int32 → Int32 → Int32 → Int32 → Int32 → Int32 → gW → Option (Int32 × gW)} {v4 : Int} {v4' : Int32} {v5 : Int} {v5' : Int32} {v6 : Int} {v6' : Int32} {v7 : Int} {v7' : Int32} {v8 : Int} {v8' : Int32} {v9 : Int} {v9' : Int32} {v10 : Int} {v10' : Int32} {v11 : Int} {v11' : Int32} {s0 : Int} {s0' : Int32} {w : zS} {w' : gW} (hr : ∀ (a2 : Int) (a3 : Int) (a4 : Int) (a5 : Int) (a6 : Int) (a7 : Int) (a8 : Int) (a9 : Int) (Z : zS) (b2 : Int32) (b3 : Int32) (b4 : Int32) (b5 : Int32) (b6 : Int32) (b7 : Int32) (b8 : Int32) (b9 : Int32) (w : gW), b2 = Int32.ofInt a2 → b3 = Int32.ofInt a3 → b4 = Int32.ofInt a4 → b5 = Int32.ofInt a5 → b6 = Int32.ofInt a6 → b7 = Int32.ofInt a7 → b8 = Int32.ofInt a8 → b9 = Int32.ofInt a9 → oAt 7 lyZ w m (cvZ Z) → wF m (m + 27) w0 w → zR E (r a2 a3 a4 a5 a6 a7 a8 a9 Z) (r' m b2 b3 b4 b5 b6 b7 b8 b9 w)) (hk258 : ∀ (a2 : Int) (a3 : Int) (a4 : Int) (a5 : Int) (a6 : Int) (a7 : Int) (Z : zS) (b2 : Int32) (b3 : Int32) (b4 : Int32) (b5 : Int32) (b6 : Int32) (b7 : Int32) (w : gW), b2 = Int32.ofInt a2 → b3 = Int32.ofInt a3 → b4 = Int32.ofInt a4 → b5 = Int32.ofInt a5 → b6 = Int32.ofInt a6 → b7 = Int32.ofInt a7 → oAt 7 lyZ w m (cvZ Z) → wF m (m + 27) w0 w → zR E (k258 a2 a3 a4 a5 a6 a7 Z) (k258' m b2 b3 b4 b5 b6 b7 w)) (hv4 : v4' = Int32.ofInt v4) (hv5 : v5' = Int32.ofInt v5) (hv6 : v6' = Int32.ofInt v6) (hv7 : v7' = Int32.ofInt v7) (hv8 : v8' = Int32.ofInt v8) (hv9 : v9' = Int32.ofInt v9) (hv10 : v10' = Int32.ofInt v10) (hv11 : v11' = Int32.ofInt v11) (hs0 : s0' = Int32.ofInt s0) (h_w : oAt 7 lyZ w' m (cvZ w)) (f_w : wF m (m + 27) w0 w') : zR E (zX7_over_b145 F r k258 v4 v5 v6 v7 v8 v9 v10 v11 s0 w) (mX7_over_b145 F r' k258' m v4' v5' v6' v7' v8' v9' v10' v11' s0' w') := by
  unfold zX7_over_b145 mX7_over_b145
  exact (R_O h_w
  (R_C1 (rX7_twisted hv7 hv8 hv11 h_w) f_w (fun q152_1 q152_2 q152_1' q152_2' hq152 h_q152_2 f_q152_2 =>
  (R_FI h_q152_2 (k := 39) rfl (c := (zI q152_2 39)) rfl (fun t162' ht162 =>
  (R_O h_q152_2
  (R_C1 (rX7_matrix ht162 hv7 hv11 (eL (by decide) : (0 : Int32) = Int32.ofInt (0 : Int)) h_q152_2) f_q152_2 (fun q170_1 q170_2 q170_1' q170_2' hq170 h_q170_2 f_q170_2 =>
  (R_Rem hv6 hv4 (fun t177 t177' ht177 =>
  (R_FI h_q170_2 (k := 23) rfl (c := (zI q170_2 23)) rfl (fun t179' ht179 =>
  (R_Rem ht177 ht179 (fun t182 t182' ht182 =>
  (R_FI h_q170_2 (k := 37) rfl (c := (zI q170_2 37)) rfl (fun t190' ht190 =>
  (R_Eq ht190 (eL (by decide) : (2 : Int32) = Int32.ofInt (2 : Int))
  (R_FI h_q170_2 (k := 39) rfl (c := (zI q170_2 39)) rfl (fun t199' ht199 =>
    (R_O h_q170_2
    (R_C1 (rX7_matrix ht199 hv7 hv11 (eL (by decide) : (1 : Int32) = Int32.ofInt (1 : Int)) h_q170_2) f_q170_2 (fun q207_1 q207_2 q207_1' q207_2' hq207 h_q207_2 f_q207_2 =>
    (R_Rem hv6 hv4 (fun t214 t214' ht214 =>
    (R_FI h_q207_2 (k := 23) rfl (c := (zI q207_2 23)) rfl (fun t216' ht216 =>
    (R_Div ht214 ht216 (fun t219 t219' ht219 =>
    (rX7_over_b225 hr hk258 hv4 hv5 hv6 hv7 hv8 hv9 hv10 hv11 (eAdd (eAdd hs0 hq152) (eMul hq170 ht182)) (eMul hq207 ht219) h_q207_2 f_q207_2))))))))))))
  (rX7_over_b225 hr hk258 hv4 hv5 hv6 hv7 hv8 hv9 hv10 hv11 (eAdd (eAdd hs0 hq152) (eMul hq170 ht182)) (eL (by decide) : (0 : Int32) = Int32.ofInt (0 : Int)) h_q170_2 f_q170_2))))))))))))))))))
set_option maxRecDepth 100000 in
theorem rX7_over_h108 {F m : Nat} {E : (Int × zS) → (Int32 × gW) → Prop} {w0 : gW} {r : Int → Int → Int → Int → Int → Int → Int → Int → zS → Option (Int × zS)} {r' : Nat → Int32 → Int32 → Int32 → Int32 → Int32 → Int32 → Int32 → Int32 → gW → Option (Int32 × gW)} {k258 : Int → Int → Int → Int → Int → Int → zS → Option (Int × zS)} {k258' : Nat → Int32 → Int32 → Int32 → Int32 → Int32 → Int32 → gW → Option (Int32 × gW)} {v4 : Int} {v4' : Int32} {v5 : Int} {v5' : Int32} {v6 : Int} {v6' : Int32} {v7 : Int} {v7' : Int32} {v8 : Int} {v8' : Int32} {v9 : Int} {v9' : Int32} {v10 : Int} {v10' : Int32} {v11 : Int} {v11' : Int32} {w : zS} {w' : gW} (hr : ∀ (a2 : Int) (a3 : Int) (a4 : Int) (a5 : Int) (a6 : Int) (a7 : Int) (a8 : Int) (a9 : Int) (Z : zS) (b2 : Int32) (b3 : Int32) (b4 : Int32) (b5 : Int32) (b6 : Int32) (b7 : Int32) (b8 : Int32) (b9 : Int32) (w : gW), b2 = Int32.ofInt a2 → b3 = Int32.ofInt a3 → b4 = Int32.ofInt a4 → b5 = Int32.ofInt a5 → b6 = Int32.ofInt a6 → b7 = Int32.ofInt a7 → b8 = Int32.ofInt a8 → b9 = Int32.ofInt a9 → oAt 7 lyZ w m (cvZ Z) → wF m (m + 27) w0 w → zR E (r a2 a3 a4 a5 a6 a7 a8 a9 Z) (r' m b2 b3 b4 b5 b6 b7 b8 b9 w)) (hk258 : ∀ (a2 : Int) (a3 : Int) (a4 : Int) (a5 : Int) (a6 : Int) (a7 : Int) (Z : zS) (b2 : Int32) (b3 : Int32) (b4 : Int32) (b5 : Int32) (b6 : Int32) (b7 : Int32) (w : gW), b2 = Int32.ofInt a2 → b3 = Int32.ofInt a3 → b4 = Int32.ofInt a4 → b5 = Int32.ofInt a5 → b6 = Int32.ofInt a6 → b7 = Int32.ofInt a7 → oAt 7 lyZ w m (cvZ Z) → wF m (m + 27) w0 w → zR E (k258 a2 a3 a4 a5 a6 a7 Z) (k258' m b2 b3 b4 b5 b6 b7 w)) (hv4 : v4' = Int32.ofInt v4) (hv5 : v5' = Int32.ofInt v5) (hv6 : v6' = Int32.ofInt v6) (hv7 : v7' = Int32.ofInt v7) (hv8 : v8' = Int32.ofInt v8) (hv9 : v9' = Int32.ofInt v9) (hv10 : v10' = Int32.ofInt v10) (hv11 : v11' = Int32.ofInt v11) (h_w : oAt 7 lyZ w' m (cvZ w)) (f_w : wF m (m + 27) w0 w') : zR E (zX7_over_h108 F r k258 v4 v5 v6 v7 v8 v9 v10 v11 w) (mX7_over_h108 F r' k258' m v4' v5' v6' v7' v8' v9' v10' v11' w') := by
  unfold zX7_over_h108 mX7_over_h108
  exact (R_FI h_w (k := 37) rfl (c := (zI w 37)) rfl (fun t111' ht111 =>
  (R_Le ht111 hv11
  (hk258 _ _ _ _ _ _ _ _ _ _ _ _ _ _ hv4 hv5 hv6 hv7 hv8 hv9 h_w f_w)
  (R_Eq hv11 (eL (by decide) : (0 : Int32) = Int32.ofInt (0 : Int))
    (R_Rem hv5 hv4 (fun t126 t126' ht126 =>
      (R_FI h_w (k := 23) rfl (c := (zI w 23)) rfl (fun t128' ht128 =>
      (R_Rem ht126 ht128 (fun t131 t131' ht131 =>
      (rX7_over_b145 hr hk258 hv4 hv5 hv6 hv7 hv8 hv9 hv10 hv11 ht131 h_w f_w)))))))
    (R_Rem hv5 hv4 (fun t139 t139' ht139 =>
      (R_FI h_w (k := 23) rfl (c := (zI w 23)) rfl (fun t141' ht141 =>
      (R_Div ht139 ht141 (fun t144 t144' ht144 =>
      (rX7_over_b145 hr hk258 hv4 hv5 hv6 hv7 hv8 hv9 hv10 hv11 ht144 h_w f_w)))))))))))
set_option maxRecDepth 100000 in
theorem rX7_over_l108 {F m : Nat} {E : (Int × zS) → (Int32 × gW) → Prop} {w0 : gW} {k258 : Int → Int → Int → Int → Int → Int → zS → Option (Int × zS)} {k258' : Nat → Int32 → Int32 → Int32 → Int32 → Int32 → Int32 → gW → Option (Int32 × gW)} (hk258 : ∀ (a2 : Int) (a3 : Int) (a4 : Int) (a5 : Int) (a6 : Int) (a7 : Int) (Z : zS) (b2 : Int32) (b3 : Int32) (b4 : Int32) (b5 : Int32) (b6 : Int32) (b7 : Int32) (w : gW), b2 = Int32.ofInt a2 → b3 = Int32.ofInt a3 → b4 = Int32.ofInt a4 → b5 = Int32.ofInt a5 → b6 = Int32.ofInt a6 → b7 = Int32.ofInt a7 → oAt 7 lyZ w m (cvZ Z) → wF m (m + 27) w0 w → zR E (k258 a2 a3 a4 a5 a6 a7 Z) (k258' m b2 b3 b4 b5 b6 b7 w)) : ∀ (n : Nat) (v4 : Int) (v5 : Int) (v6 : Int) (v7 : Int) (v8 : Int) (v9 : Int) (v10 : Int) (v11 : Int) (w : zS) (v4' : Int32) (v5' : Int32) (v6' : Int32) (v7' : Int32) (v8' : Int32) (v9' : Int32) (v10' : Int32) (v11' : Int32) (w' : gW), v4' = Int32.ofInt v4 → v5' = Int32.ofInt v5 → v6' = Int32.ofInt v6 → v7' = Int32.ofInt v7 → v8' = Int32.ofInt v8 → v9' = Int32.ofInt v9 → v10' = Int32.ofInt v10 → v11' = Int32.ofInt v11 → oAt 7 lyZ w' m (cvZ w) → wF m (m + 27) w0 w' → zR E (zX7_over_l108 F k258 n v4 v5 v6 v7 v8 v9 v10 v11 w) (mX7_over_l108 F k258' n m v4' v5' v6' v7' v8' v9' v10' v11' w') := by
  intro n
  induction n with
  | zero => intros; exact R_none
  | succ n ih =>
    intro v4 v5 v6 v7 v8 v9 v10 v11 w v4' v5' v6' v7' v8' v9' v10' v11' w' hv4 hv5 hv6 hv7 hv8 hv9 hv10 hv11 h_w f_w
    exact rX7_over_h108 ih hk258 hv4 hv5 hv6 hv7 hv8 hv9 hv10 hv11 h_w f_w
set_option maxRecDepth 100000 in
theorem rX7_over_h73 {F m : Nat} {E : (Int × zS) → (Int32 × gW) → Prop} {w0 : gW} {r : Int → Int → Int → zS → Option (Int × zS)} {r' : Nat → Int32 → Int32 → Int32 → gW → Option (Int32 × gW)} {k290 : Int → Int → zS → Option (Int × zS)} {k290' : Nat → Int32 → Int32 → gW → Option (Int32 × gW)} {v4 : Int} {v4' : Int32} {v5 : Int} {v5' : Int32} {v6 : Int} {v6' : Int32} {w : zS} {w' : gW} (hr : ∀ (a2 : Int) (a3 : Int) (a4 : Int) (Z : zS) (b2 : Int32) (b3 : Int32) (b4 : Int32) (w : gW), b2 = Int32.ofInt a2 → b3 = Int32.ofInt a3 → b4 = Int32.ofInt a4 → oAt 7 lyZ w m (cvZ Z) → wF m (m + 27) w0 w → zR E (r a2 a3 a4 Z) (r' m b2 b3 b4 w)) (hk290 : ∀ (a2 : Int) (a3 : Int) (Z : zS) (b2 : Int32) (b3 : Int32) (w : gW), b2 = Int32.ofInt a2 → b3 = Int32.ofInt a3 → oAt 7 lyZ w m (cvZ Z) → wF m (m + 27) w0 w → zR E (k290 a2 a3 Z) (k290' m b2 b3 w)) (hv4 : v4' = Int32.ofInt v4) (hv5 : v5' = Int32.ofInt v5) (hv6 : v6' = Int32.ofInt v6) (h_w : oAt 7 lyZ w' m (cvZ w)) (f_w : wF m (m + 27) w0 w') : zR E (zX7_over_h73 F r k290 v4 v5 v6 w) (mX7_over_h73 F r' k290' m v4' v5' v6' w') := by
  unfold zX7_over_h73 mX7_over_h73
  exact (R_FI h_w (k := 36) rfl (c := (zI w 36)) rfl (fun t78' ht78 =>
  (R_Le (eMul hv4 ht78) hv6
  (hk290 _ _ _ _ _ _ hv4 hv5 h_w f_w)
  (R_Div hv5 hv4 (fun t89 t89' ht89 =>
    (R_Div hv6 hv4 (fun t96 t96' ht96 =>
    (rX7_over_l108 (by exact (fun v4 v5 v6 v7 v8 v9 w v4' v5' v6' v7' v8' v9' w' hv4 hv5 hv6 hv7 hv8 hv9 h_w f_w =>
      (R_FI h_w (k := 38) rfl (c := (zI w 38)) rfl (fun t267' ht267 =>
      (R_O h_w
      (R_C1 (rX7_prod ht267 hv7 hv8 h_w) f_w (fun q274_1 q274_2 q274_1' q274_2' hq274 h_q274_2 f_q274_2 =>
      (R_O h_q274_2
      (R_C0 (rX7_set hv5 hv6 (eAdd (eMul hv4 hq274) hv9) h_q274_2) f_q274_2 (fun q281 q281' h_q281 f_q281 =>
      (hr _ _ _ _ _ _ _ _ hv4 hv5 (eAdd hv6 (eL (by decide) : (1 : Int32) = Int32.ofInt (1 : Int))) h_q281 f_q281))))))))))) F _ _ _ _ _ _ _ _ _ _ _ _ _ _ _ _ _ _ hv4 hv5 hv6 ht89 ht96 (eL (by decide) : (0 : Int32) = Int32.ofInt (0 : Int)) (eL (by decide) : (1 : Int32) = Int32.ofInt (1 : Int)) (eL (by decide) : (0 : Int32) = Int32.ofInt (0 : Int)) h_w f_w))))))))
set_option maxRecDepth 100000 in
theorem rX7_over_l73 {F m : Nat} {E : (Int × zS) → (Int32 × gW) → Prop} {w0 : gW} {k290 : Int → Int → zS → Option (Int × zS)} {k290' : Nat → Int32 → Int32 → gW → Option (Int32 × gW)} (hk290 : ∀ (a2 : Int) (a3 : Int) (Z : zS) (b2 : Int32) (b3 : Int32) (w : gW), b2 = Int32.ofInt a2 → b3 = Int32.ofInt a3 → oAt 7 lyZ w m (cvZ Z) → wF m (m + 27) w0 w → zR E (k290 a2 a3 Z) (k290' m b2 b3 w)) : ∀ (n : Nat) (v4 : Int) (v5 : Int) (v6 : Int) (w : zS) (v4' : Int32) (v5' : Int32) (v6' : Int32) (w' : gW), v4' = Int32.ofInt v4 → v5' = Int32.ofInt v5 → v6' = Int32.ofInt v6 → oAt 7 lyZ w' m (cvZ w) → wF m (m + 27) w0 w' → zR E (zX7_over_l73 F k290 n v4 v5 v6 w) (mX7_over_l73 F k290' n m v4' v5' v6' w') := by
  intro n
  induction n with
  | zero => intros; exact R_none
  | succ n ih =>
    intro v4 v5 v6 w v4' v5' v6' w' hv4 hv5 hv6 h_w f_w
    exact rX7_over_h73 ih hk290 hv4 hv5 hv6 h_w f_w
set_option maxRecDepth 100000 in
theorem rX7_over_h58 {F m : Nat} {E : (Int × zS) → (Int32 × gW) → Prop} {w0 : gW} {r : Int → Int → zS → Option (Int × zS)} {r' : Nat → Int32 → Int32 → gW → Option (Int32 × gW)} {k296 : Int → zS → Option (Int × zS)} {k296' : Nat → Int32 → gW → Option (Int32 × gW)} {v4 : Int} {v4' : Int32} {v5 : Int} {v5' : Int32} {w : zS} {w' : gW} (hr : ∀ (a2 : Int) (a3 : Int) (Z : zS) (b2 : Int32) (b3 : Int32) (w : gW), b2 = Int32.ofInt a2 → b3 = Int32.ofInt a3 → oAt 7 lyZ w m (cvZ Z) → wF m (m + 27) w0 w → zR E (r a2 a3 Z) (r' m b2 b3 w)) (hk296 : ∀ (a2 : Int) (Z : zS) (b2 : Int32) (w : gW), b2 = Int32.ofInt a2 → oAt 7 lyZ w m (cvZ Z) → wF m (m + 27) w0 w → zR E (k296 a2 Z) (k296' m b2 w)) (hv4 : v4' = Int32.ofInt v4) (hv5 : v5' = Int32.ofInt v5) (h_w : oAt 7 lyZ w' m (cvZ w)) (f_w : wF m (m + 27) w0 w') : zR E (zX7_over_h58 F r k296 v4 v5 w) (mX7_over_h58 F r' k296' m v4' v5' w') := by
  unfold zX7_over_h58 mX7_over_h58
  exact (R_FI h_w (k := 36) rfl (c := (zI w 36)) rfl (fun t63' ht63 =>
  (R_Le (eMul hv4 ht63) hv5
  (hk296 _ _ _ _ hv4 h_w f_w)
  (rX7_over_l73 (by exact (fun v4 v5 w v4' v5' w' hv4 hv5 h_w f_w =>
      (hr _ _ _ _ _ _ hv4 (eAdd hv5 (eL (by decide) : (1 : Int32) = Int32.ofInt (1 : Int))) h_w f_w))) F _ _ _ _ _ _ _ _ hv4 hv5 (eL (by decide) : (0 : Int32) = Int32.ofInt (0 : Int)) h_w f_w))))
set_option maxRecDepth 100000 in
theorem rX7_over_l58 {F m : Nat} {E : (Int × zS) → (Int32 × gW) → Prop} {w0 : gW} {k296 : Int → zS → Option (Int × zS)} {k296' : Nat → Int32 → gW → Option (Int32 × gW)} (hk296 : ∀ (a2 : Int) (Z : zS) (b2 : Int32) (w : gW), b2 = Int32.ofInt a2 → oAt 7 lyZ w m (cvZ Z) → wF m (m + 27) w0 w → zR E (k296 a2 Z) (k296' m b2 w)) : ∀ (n : Nat) (v4 : Int) (v5 : Int) (w : zS) (v4' : Int32) (v5' : Int32) (w' : gW), v4' = Int32.ofInt v4 → v5' = Int32.ofInt v5 → oAt 7 lyZ w' m (cvZ w) → wF m (m + 27) w0 w' → zR E (zX7_over_l58 F k296 n v4 v5 w) (mX7_over_l58 F k296' n m v4' v5' w') := by
  intro n
  induction n with
  | zero => intros; exact R_none
  | succ n ih =>
    intro v4 v5 w v4' v5' w' hv4 hv5 h_w f_w
    exact rX7_over_h58 ih hk296 hv4 hv5 h_w f_w
set_option maxRecDepth 100000 in
theorem rX7_over {F m : Nat} {v1 : Int} {v1' : Int32} {v2 : Int} {v2' : Int32} {w : zS} {w' : gW} (hv1 : v1' = Int32.ofInt v1) (hv2 : v2' = Int32.ofInt v2) (h_w : oAt 7 lyZ w' m (cvZ w)) : zR (E1 m w') (zX7_over F v1 v2 w) (mX7_over F m v1' v2' w') := by
  have f_w : wF m (m + 27) w' w' := wF.rf
  unfold zX7_over mX7_over
  exact (R_O h_w
  (R_C1 (rX7_lacks hv1 hv2 h_w) f_w (fun q3_1 q3_2 q3_1' q3_2' hq3 h_q3_2 f_q3_2 =>
  (R_Le (eL (by decide) : (0 : Int32) = Int32.ofInt (0 : Int)) hq3
  (R_FI h_q3_2 (k := 23) rfl (c := (zI q3_2 23)) rfl (fun t14' ht14 =>
    (R_FI h_q3_2 (k := 37) rfl (c := (zI q3_2 37)) rfl (fun t18' ht18 =>
    (R_C1 (rX7_power ht14 ht18 h_q3_2) f_q3_2 (fun q21_1 q21_2 q21_1' q21_2' hq21 h_q21_2 f_q21_2 =>
    (R_FI h_q21_2 (k := 0) rfl (c := (zI q21_2 0)) rfl (fun t27' ht27 =>
    (R_Eq ht27 (eL (by decide) : (8 : Int32) = Int32.ofInt (8 : Int))
    (R_ret1 (eL (by decide) : (-3 : Int32) = Int32.ofInt (-3 : Int)) h_q21_2 f_q21_2)
    (R_FI h_q21_2 (k := 36) rfl (c := (zI q21_2 36)) rfl (fun t38' ht38 =>
      (R_Le (eMul hq21 ht38) (eL (by decide) : (48 : Int32) = Int32.ofInt (48 : Int))
      (R_O h_q21_2
        (R_C0 (rX7_sumOf hv2 h_q21_2) f_q21_2 (fun q52 q52' h_q52 f_q52 =>
        (rX7_over_l58 (by exact (fun v4 w v4' w' hv4 h_w f_w =>
          (R_FI h_w (k := 36) rfl (c := (zI w 36)) rfl (fun t300' ht300 =>
          (R_O h_w
          (R_C1 (rX7_added (eMul hv4 ht300) h_w) f_w (fun q304_1 q304_2 q304_1' q304_2' hq304 h_q304_2 f_q304_2 =>
          (R_ret1 hq304 h_q304_2 f_q304_2)))))))) F _ _ _ _ _ _ hq21 (eL (by decide) : (0 : Int32) = Int32.ofInt (0 : Int)) h_q52 f_q52))))
      (R_ret1 (eL (by decide) : (-3 : Int32) = Int32.ofInt (-3 : Int)) h_q21_2 f_q21_2)))))))))))))
  (R_ret1 hq3 h_q3_2 f_q3_2)))))
set_option maxRecDepth 100000 in
theorem rX7_parts {F m : Nat} {v1 : Int} {v1' : Int32} {v2 : Int} {v2' : Int32} {w : zS} {w' : gW} (hv1 : v1' = Int32.ofInt v1) (hv2 : v2' = Int32.ofInt v2) (h_w : oAt 7 lyZ w' m (cvZ w)) : zR (E1 m w') (zX7_parts F v1 v2 w) (mX7_parts F m v1' v2' w') := by
  have f_w : wF m (m + 27) w' w' := wF.rf
  unfold zX7_parts mX7_parts
  exact (R_O h_w
  (R_C1 (rX7_lacks hv1 hv2 h_w) f_w (fun q3_1 q3_2 q3_1' q3_2' hq3 h_q3_2 f_q3_2 =>
  (R_Le (eL (by decide) : (0 : Int32) = Int32.ofInt (0 : Int)) hq3
  (R_Eq hv2 (eL (by decide) : (0 : Int32) = Int32.ofInt (0 : Int))
    (R_FI h_q3_2 (k := 23) rfl (c := (zI q3_2 23)) rfl (fun t20' ht20 =>
      (R_FR h_q3_2 (k := 30) rfl
      (R_Ld h_q3_2 (k := 30) rfl (by decide) (eL (by decide) : (1 : Int32) = Int32.ofInt (1 : Int)) rfl (fun t28 t28' ht28 =>
      (R_C1 (rX7_power ht20 ht28 h_q3_2) f_q3_2 (fun q29_1 q29_2 q29_1' q29_2' hq29 h_q29_2 f_q29_2 =>
      (R_ret1 hq29 h_q29_2 f_q29_2))))))))
    (R_ret1 (eL (by decide) : (0 : Int32) = Int32.ofInt (0 : Int)) h_q3_2 f_q3_2))
  (R_ret1 hq3 h_q3_2 f_q3_2)))))
set_option maxRecDepth 100000 in
theorem rX7_sum_h43 {F m : Nat} {w0 : gW} {r : Int → Int → Int → Int → Int → zS → Option (Int × zS)} {r' : Nat → Int32 → Int32 → Int32 → Int32 → Int32 → gW → Option (Int32 × gW)} {v2 : Int} {v2' : Int32} {v3 : Int} {v3' : Int32} {v5 : Int} {v5' : Int32} {v6 : Int} {v6' : Int32} {v7 : Int} {v7' : Int32} {w : zS} {w' : gW} (hr : ∀ (a2 : Int) (a3 : Int) (a4 : Int) (a5 : Int) (a6 : Int) (Z : zS) (b2 : Int32) (b3 : Int32) (b4 : Int32) (b5 : Int32) (b6 : Int32) (w : gW), b2 = Int32.ofInt a2 → b3 = Int32.ofInt a3 → b4 = Int32.ofInt a4 → b5 = Int32.ofInt a5 → b6 = Int32.ofInt a6 → oAt 7 lyZ w m (cvZ Z) → wF m (m + 27) w0 w → zR (E1 m w0) (r a2 a3 a4 a5 a6 Z) (r' m b2 b3 b4 b5 b6 w)) (hv2 : v2' = Int32.ofInt v2) (hv3 : v3' = Int32.ofInt v3) (hv5 : v5' = Int32.ofInt v5) (hv6 : v6' = Int32.ofInt v6) (hv7 : v7' = Int32.ofInt v7) (h_w : oAt 7 lyZ w' m (cvZ w)) (f_w : wF m (m + 27) w0 w') : zR (E1 m w0) (zX7_sum_h43 F r v2 v3 v5 v6 v7 w) (mX7_sum_h43 F r' m v2' v3' v5' v6' v7' w') := by
  unfold zX7_sum_h43 mX7_sum_h43
  exact (R_FI h_w (k := 35) rfl (c := (zI w 35)) rfl (fun t46' ht46 =>
  (R_Le ht46 hv7
  (R_ret1 hv5 h_w f_w)
  (R_Div hv2 hv6 (fun t57 t57' ht57 =>
    (R_FI h_w (k := 23) rfl (c := (zI w 23)) rfl (fun t59' ht59 =>
    (R_Rem ht57 ht59 (fun t62 t62' ht62 =>
    (R_Div hv3 hv6 (fun t66 t66' ht66 =>
    (R_FI h_w (k := 23) rfl (c := (zI w 23)) rfl (fun t68' ht68 =>
    (R_Rem ht66 ht68 (fun t71 t71' ht71 =>
    (R_FI h_w (k := 23) rfl (c := (zI w 23)) rfl (fun t74' ht74 =>
    (R_Rem (eAdd ht62 ht71) ht74 (fun t77 t77' ht77 =>
    (R_FI h_w (k := 23) rfl (c := (zI w 23)) rfl (fun t87' ht87 =>
    (hr _ _ _ _ _ _ _ _ _ _ _ _ hv2 hv3 (eAdd hv5 (eMul ht77 hv6)) (eMul hv6 ht87) (eAdd hv7 (eL (by decide) : (1 : Int32) = Int32.ofInt (1 : Int))) h_w f_w))))))))))))))))))))))
set_option maxRecDepth 100000 in
theorem rX7_sum_l43 {F m : Nat} {w0 : gW}   : ∀ (n : Nat) (v2 : Int) (v3 : Int) (v5 : Int) (v6 : Int) (v7 : Int) (w : zS) (v2' : Int32) (v3' : Int32) (v5' : Int32) (v6' : Int32) (v7' : Int32) (w' : gW), v2' = Int32.ofInt v2 → v3' = Int32.ofInt v3 → v5' = Int32.ofInt v5 → v6' = Int32.ofInt v6 → v7' = Int32.ofInt v7 → oAt 7 lyZ w' m (cvZ w) → wF m (m + 27) w0 w' → zR (E1 m w0) (zX7_sum_l43 F  n v2 v3 v5 v6 v7 w) (mX7_sum_l43 F  n m v2' v3' v5' v6' v7' w') := by
  intro n
  induction n with
  | zero => intros; exact R_none
  | succ n ih =>
    intro v2 v3 v5 v6 v7 w v2' v3' v5' v6' v7' w' hv2 hv3 hv5 hv6 hv7 h_w f_w
    exact rX7_sum_h43 ih  hv2 hv3 hv5 hv6 hv7 h_w f_w
set_option maxRecDepth 100000 in
theorem rX7_sum_b24 {F m : Nat} {w0 : gW} {v2 : Int} {v2' : Int32} {v3 : Int} {v3' : Int32} {s0 : Int} {s0' : Int32} {w : zS} {w' : gW} (hv2 : v2' = Int32.ofInt v2) (hv3 : v3' = Int32.ofInt v3) (hs0 : s0' = Int32.ofInt s0) (h_w : oAt 7 lyZ w' m (cvZ w)) (f_w : wF m (m + 27) w0 w') : zR (E1 m w0) (zX7_sum_b24 F v2 v3 s0 w) (mX7_sum_b24 F m v2' v3' s0' w') := by
  unfold zX7_sum_b24 mX7_sum_b24
  exact (R_Le (eL (by decide) : (0 : Int32) = Int32.ofInt (0 : Int)) hs0
  (rX7_sum_l43  F _ _ _ _ _ _ _ _ _ _ _ _ hv2 hv3 (eL (by decide) : (0 : Int32) = Int32.ofInt (0 : Int)) (eL (by decide) : (1 : Int32) = Int32.ofInt (1 : Int)) (eL (by decide) : (0 : Int32) = Int32.ofInt (0 : Int)) h_w f_w)
  (R_ret1 hs0 h_w f_w))
set_option maxRecDepth 100000 in
theorem rX7_sum {F m : Nat} {v1 : Int} {v1' : Int32} {v2 : Int} {v2' : Int32} {v3 : Int} {v3' : Int32} {w : zS} {w' : gW} (hv1 : v1' = Int32.ofInt v1) (hv2 : v2' = Int32.ofInt v2) (hv3 : v3' = Int32.ofInt v3) (h_w : oAt 7 lyZ w' m (cvZ w)) : zR (E1 m w') (zX7_sum F v1 v2 v3 w) (mX7_sum F m v1' v2' v3' w') := by
  have f_w : wF m (m + 27) w' w' := wF.rf
  unfold zX7_sum mX7_sum
  exact (R_O h_w
  (R_C1 (rX7_lacks hv1 hv2 h_w) f_w (fun q3_1 q3_2 q3_1' q3_2' hq3 h_q3_2 f_q3_2 =>
  (R_Le (eL (by decide) : (0 : Int32) = Int32.ofInt (0 : Int)) hq3
  (R_O h_q3_2
    (R_C1 (rX7_lacks hv1 hv3 h_q3_2) f_q3_2 (fun q21_1 q21_2 q21_1' q21_2' hq21 h_q21_2 f_q21_2 =>
    (rX7_sum_b24 hv2 hv3 hq21 h_q21_2 f_q21_2))))
  (rX7_sum_b24 hv2 hv3 hq3 h_q3_2 f_q3_2)))))
set_option maxRecDepth 100000 in
theorem rX7_times_h53 {F m : Nat} {w0 : gW} {r : Int → Int → Int → Int → Int → zS → Option (Int × zS)} {r' : Nat → Int32 → Int32 → Int32 → Int32 → Int32 → gW → Option (Int32 × gW)} {v2 : Int} {v2' : Int32} {v3 : Int} {v3' : Int32} {v5 : Int} {v5' : Int32} {v6 : Int} {v6' : Int32} {v7 : Int} {v7' : Int32} {w : zS} {w' : gW} (hr : ∀ (a2 : Int) (a3 : Int) (a4 : Int) (a5 : Int) (a6 : Int) (Z : zS) (b2 : Int32) (b3 : Int32) (b4 : Int32) (b5 : Int32) (b6 : Int32) (w : gW), b2 = Int32.ofInt a2 → b3 = Int32.ofInt a3 → b4 = Int32.ofInt a4 → b5 = Int32.ofInt a5 → b6 = Int32.ofInt a6 → oAt 7 lyZ w m (cvZ Z) → wF m (m + 27) w0 w → zR (E1 m w0) (r a2 a3 a4 a5 a6 Z) (r' m b2 b3 b4 b5 b6 w)) (hv2 : v2' = Int32.ofInt v2) (hv3 : v3' = Int32.ofInt v3) (hv5 : v5' = Int32.ofInt v5) (hv6 : v6' = Int32.ofInt v6) (hv7 : v7' = Int32.ofInt v7) (h_w : oAt 7 lyZ w' m (cvZ w)) (f_w : wF m (m + 27) w0 w') : zR (E1 m w0) (zX7_times_h53 F r v2 v3 v5 v6 v7 w) (mX7_times_h53 F r' m v2' v3' v5' v6' v7' w') := by
  unfold zX7_times_h53 mX7_times_h53
  exact (R_FI h_w (k := 35) rfl (c := (zI w 35)) rfl (fun t56' ht56 =>
  (R_Le ht56 hv7
  (R_ret1 hv5 h_w f_w)
  (R_Div hv2 hv6 (fun t67 t67' ht67 =>
    (R_FI h_w (k := 23) rfl (c := (zI w 23)) rfl (fun t69' ht69 =>
    (R_Rem ht67 ht69 (fun t72 t72' ht72 =>
    (R_FI h_w (k := 23) rfl (c := (zI w 23)) rfl (fun t76' ht76 =>
    (R_Rem (eMul ht72 hv3) ht76 (fun t79 t79' ht79 =>
    (R_FI h_w (k := 23) rfl (c := (zI w 23)) rfl (fun t89' ht89 =>
    (hr _ _ _ _ _ _ _ _ _ _ _ _ hv2 hv3 (eAdd hv5 (eMul ht79 hv6)) (eMul hv6 ht89) (eAdd hv7 (eL (by decide) : (1 : Int32) = Int32.ofInt (1 : Int))) h_w f_w))))))))))))))))
set_option maxRecDepth 100000 in
theorem rX7_times_l53 {F m : Nat} {w0 : gW}   : ∀ (n : Nat) (v2 : Int) (v3 : Int) (v5 : Int) (v6 : Int) (v7 : Int) (w : zS) (v2' : Int32) (v3' : Int32) (v5' : Int32) (v6' : Int32) (v7' : Int32) (w' : gW), v2' = Int32.ofInt v2 → v3' = Int32.ofInt v3 → v5' = Int32.ofInt v5 → v6' = Int32.ofInt v6 → v7' = Int32.ofInt v7 → oAt 7 lyZ w' m (cvZ w) → wF m (m + 27) w0 w' → zR (E1 m w0) (zX7_times_l53 F  n v2 v3 v5 v6 v7 w) (mX7_times_l53 F  n m v2' v3' v5' v6' v7' w') := by
  intro n
  induction n with
  | zero => intros; exact R_none
  | succ n ih =>
    intro v2 v3 v5 v6 v7 w v2' v3' v5' v6' v7' w' hv2 hv3 hv5 hv6 hv7 h_w f_w
    exact rX7_times_h53 ih  hv2 hv3 hv5 hv6 hv7 h_w f_w
set_option maxRecDepth 100000 in
theorem rX7_times {F m : Nat} {v1 : Int} {v1' : Int32} {v2 : Int} {v2' : Int32} {v3 : Int} {v3' : Int32} {w : zS} {w' : gW} (hv1 : v1' = Int32.ofInt v1) (hv2 : v2' = Int32.ofInt v2) (hv3 : v3' = Int32.ofInt v3) (h_w : oAt 7 lyZ w' m (cvZ w)) : zR (E1 m w') (zX7_times F v1 v2 v3 w) (mX7_times F m v1' v2' v3' w') := by
  have f_w : wF m (m + 27) w' w' := wF.rf
  unfold zX7_times mX7_times
  exact (R_O h_w
  (R_C1 (rX7_isModule hv1 h_w) f_w (fun q2_1 q2_2 q2_1' q2_2' hq2 h_q2_2 f_q2_2 =>
  (R_Eq hq2 (eL (by decide) : (0 : Int32) = Int32.ofInt (0 : Int))
  (R_ret1 (eL (by decide) : (-1 : Int32) = Int32.ofInt (-1 : Int)) h_q2_2 f_q2_2)
  (R_FR h_q2_2 (k := 9) rfl
    (R_Ld h_q2_2 (k := 9) rfl (by decide) hv1 rfl (fun t16 t16' ht16 =>
    (R_C1 (rX7_in (congrArg Int32.toInt64 hv3) rfl (congrArg Int32.toInt64 (eSub ht16 (eL (by decide) : (1 : Int32) = Int32.ofInt (1 : Int)))) h_q2_2) f_q2_2 (fun q20_1 q20_2 q20_1' q20_2' hq20 h_q20_2 f_q20_2 =>
    (R_Eq hq20 (eL (by decide) : (0 : Int32) = Int32.ofInt (0 : Int))
    (R_ret1 (eL (by decide) : (-1 : Int32) = Int32.ofInt (-1 : Int)) h_q20_2 f_q20_2)
    (R_O h_q20_2
      (R_C1 (rX7_lacks hv1 hv2 h_q20_2) f_q20_2 (fun q31_1 q31_2 q31_1' q31_2' hq31 h_q31_2 f_q31_2 =>
      (R_Le (eL (by decide) : (0 : Int32) = Int32.ofInt (0 : Int)) hq31
      (rX7_times_l53  F _ _ _ _ _ _ _ _ _ _ _ _ hv2 hv3 (eL (by decide) : (0 : Int32) = Int32.ofInt (0 : Int)) (eL (by decide) : (1 : Int32) = Int32.ofInt (1 : Int)) (eL (by decide) : (0 : Int32) = Int32.ofInt (0 : Int)) h_q31_2 f_q31_2)
      (R_ret1 hq31 h_q31_2 f_q31_2)))))))))))))))
set_option maxRecDepth 100000 in
theorem rX7_twist {F m : Nat} {v1 : Int} {v1' : Int32} {v2 : Int} {v2' : Int32} {v3 : Int} {v3' : Int32} {v4 : Int} {v4' : Int32} {v5 : Int} {v5' : Int32} {w : zS} {w' : gW} (hv1 : v1' = Int32.ofInt v1) (hv2 : v2' = Int32.ofInt v2) (hv3 : v3' = Int32.ofInt v3) (hv4 : v4' = Int32.ofInt v4) (hv5 : v5' = Int32.ofInt v5) (h_w : oAt 7 lyZ w' m (cvZ w)) : zR (E1 m w') (zX7_twist F v1 v2 v3 v4 v5 w) (mX7_twist F m v1' v2' v3' v4' v5' w') := by
  have f_w : wF m (m + 27) w' w' := wF.rf
  unfold zX7_twist mX7_twist
  exact (R_O h_w
  (R_C1 (rX7_isModule hv1 h_w) f_w (fun q2_1 q2_2 q2_1' q2_2' hq2 h_q2_2 f_q2_2 =>
  (R_Eq hq2 (eL (by decide) : (0 : Int32) = Int32.ofInt (0 : Int))
  (R_ret1 (eL (by decide) : (-1 : Int32) = Int32.ofInt (-1 : Int)) h_q2_2 f_q2_2)
  (R_FR h_q2_2 (k := 8) rfl
    (R_Ld h_q2_2 (k := 8) rfl (by decide) hv1 rfl (fun t14 t14' ht14 =>
    (R_O h_q2_2
    (R_C1 (rX7_isElement ht14 hv3 h_q2_2) f_q2_2 (fun q16_1 q16_2 q16_1' q16_2' hq16 h_q16_2 f_q16_2 =>
    (R_Eq hq16 (eL (by decide) : (0 : Int32) = Int32.ofInt (0 : Int))
    (R_ret1 (eL (by decide) : (-1 : Int32) = Int32.ofInt (-1 : Int)) h_q16_2 f_q16_2)
    (R_FR h_q16_2 (k := 8) rfl
      (R_Ld h_q16_2 (k := 8) rfl (by decide) hv1 rfl (fun t28 t28' ht28 =>
      (R_O h_q16_2
      (R_C1 (rX7_isElement ht28 hv4 h_q16_2) f_q16_2 (fun q31_1 q31_2 q31_1' q31_2' hq31 h_q31_2 f_q31_2 =>
      (R_Eq hq31 (eL (by decide) : (0 : Int32) = Int32.ofInt (0 : Int))
      (R_ret1 (eL (by decide) : (-1 : Int32) = Int32.ofInt (-1 : Int)) h_q31_2 f_q31_2)
      (R_FR h_q31_2 (k := 10) rfl
        (R_Ld h_q31_2 (k := 10) rfl (by decide) hv1 rfl (fun t46 t46' ht46 =>
        (R_C1 (rX7_in (congrArg Int32.toInt64 hv5) rfl (congrArg Int32.toInt64 (eSub ht46 (eL (by decide) : (1 : Int32) = Int32.ofInt (1 : Int)))) h_q31_2) f_q31_2 (fun q50_1 q50_2 q50_1' q50_2' hq50 h_q50_2 f_q50_2 =>
        (R_Eq hq50 (eL (by decide) : (0 : Int32) = Int32.ofInt (0 : Int))
        (R_ret1 (eL (by decide) : (-1 : Int32) = Int32.ofInt (-1 : Int)) h_q50_2 f_q50_2)
        (R_O h_q50_2
          (R_C1 (rX7_lacks hv1 hv2 h_q50_2) f_q50_2 (fun q61_1 q61_2 q61_1' q61_2' hq61 h_q61_2 f_q61_2 =>
          (R_Le (eL (by decide) : (0 : Int32) = Int32.ofInt (0 : Int)) hq61
          (R_O h_q61_2
            (R_C0 (rX7_sumOf hv2 h_q61_2) f_q61_2 (fun q76 q76' h_q76 f_q76 =>
            (R_O h_q76
            (R_C1 (rX7_twisted hv3 hv4 hv5 h_q76) f_q76 (fun q85_1 q85_2 q85_1' q85_2' hq85 h_q85_2 f_q85_2 =>
            (R_ret1 hq85 h_q85_2 f_q85_2)))))))
          (R_ret1 hq61 h_q61_2 f_q61_2)))))))))))))))))))))))))))))
