/-! THE METHODS AS FUNCTIONS OVER MY WORLD (laid by a program of mine) -/
def mJ13_bitCount_95d88 (F : Nat) (v0 : Int64) (w : gW) : Option (Int32 × gW) :=
  some ((((((((((((v0 - (((v0).toUInt64 >>> (((1 : Int32)).toInt64.toUInt64 &&& Int64.toUInt64 63)).toInt64 &&& (6148914691236517205 : Int64))) &&& (3689348814741910323 : Int64)) + ((((v0 - (((v0).toUInt64 >>> (((1 : Int32)).toInt64.toUInt64 &&& Int64.toUInt64 63)).toInt64 &&& (6148914691236517205 : Int64)))).toUInt64 >>> (((2 : Int32)).toInt64.toUInt64 &&& Int64.toUInt64 63)).toInt64 &&& (3689348814741910323 : Int64))) + (((((v0 - (((v0).toUInt64 >>> (((1 : Int32)).toInt64.toUInt64 &&& Int64.toUInt64 63)).toInt64 &&& (6148914691236517205 : Int64))) &&& (3689348814741910323 : Int64)) + ((((v0 - (((v0).toUInt64 >>> (((1 : Int32)).toInt64.toUInt64 &&& Int64.toUInt64 63)).toInt64 &&& (6148914691236517205 : Int64)))).toUInt64 >>> (((2 : Int32)).toInt64.toUInt64 &&& Int64.toUInt64 63)).toInt64 &&& (3689348814741910323 : Int64)))).toUInt64 >>> (((4 : Int32)).toInt64.toUInt64 &&& Int64.toUInt64 63)).toInt64) &&& (1085102592571150095 : Int64)) + (((((((v0 - (((v0).toUInt64 >>> (((1 : Int32)).toInt64.toUInt64 &&& Int64.toUInt64 63)).toInt64 &&& (6148914691236517205 : Int64))) &&& (3689348814741910323 : Int64)) + ((((v0 - (((v0).toUInt64 >>> (((1 : Int32)).toInt64.toUInt64 &&& Int64.toUInt64 63)).toInt64 &&& (6148914691236517205 : Int64)))).toUInt64 >>> (((2 : Int32)).toInt64.toUInt64 &&& Int64.toUInt64 63)).toInt64 &&& (3689348814741910323 : Int64))) + (((((v0 - (((v0).toUInt64 >>> (((1 : Int32)).toInt64.toUInt64 &&& Int64.toUInt64 63)).toInt64 &&& (6148914691236517205 : Int64))) &&& (3689348814741910323 : Int64)) + ((((v0 - (((v0).toUInt64 >>> (((1 : Int32)).toInt64.toUInt64 &&& Int64.toUInt64 63)).toInt64 &&& (6148914691236517205 : Int64)))).toUInt64 >>> (((2 : Int32)).toInt64.toUInt64 &&& Int64.toUInt64 63)).toInt64 &&& (3689348814741910323 : Int64)))).toUInt64 >>> (((4 : Int32)).toInt64.toUInt64 &&& Int64.toUInt64 63)).toInt64) &&& (1085102592571150095 : Int64))).toUInt64 >>> (((8 : Int32)).toInt64.toUInt64 &&& Int64.toUInt64 63)).toInt64) + ((((((((v0 - (((v0).toUInt64 >>> (((1 : Int32)).toInt64.toUInt64 &&& Int64.toUInt64 63)).toInt64 &&& (6148914691236517205 : Int64))) &&& (3689348814741910323 : Int64)) + ((((v0 - (((v0).toUInt64 >>> (((1 : Int32)).toInt64.toUInt64 &&& Int64.toUInt64 63)).toInt64 &&& (6148914691236517205 : Int64)))).toUInt64 >>> (((2 : Int32)).toInt64.toUInt64 &&& Int64.toUInt64 63)).toInt64 &&& (3689348814741910323 : Int64))) + (((((v0 - (((v0).toUInt64 >>> (((1 : Int32)).toInt64.toUInt64 &&& Int64.toUInt64 63)).toInt64 &&& (6148914691236517205 : Int64))) &&& (3689348814741910323 : Int64)) + ((((v0 - (((v0).toUInt64 >>> (((1 : Int32)).toInt64.toUInt64 &&& Int64.toUInt64 63)).toInt64 &&& (6148914691236517205 : Int64)))).toUInt64 >>> (((2 : Int32)).toInt64.toUInt64 &&& Int64.toUInt64 63)).toInt64 &&& (3689348814741910323 : Int64)))).toUInt64 >>> (((4 : Int32)).toInt64.toUInt64 &&& Int64.toUInt64 63)).toInt64) &&& (1085102592571150095 : Int64)) + (((((((v0 - (((v0).toUInt64 >>> (((1 : Int32)).toInt64.toUInt64 &&& Int64.toUInt64 63)).toInt64 &&& (6148914691236517205 : Int64))) &&& (3689348814741910323 : Int64)) + ((((v0 - (((v0).toUInt64 >>> (((1 : Int32)).toInt64.toUInt64 &&& Int64.toUInt64 63)).toInt64 &&& (6148914691236517205 : Int64)))).toUInt64 >>> (((2 : Int32)).toInt64.toUInt64 &&& Int64.toUInt64 63)).toInt64 &&& (3689348814741910323 : Int64))) + (((((v0 - (((v0).toUInt64 >>> (((1 : Int32)).toInt64.toUInt64 &&& Int64.toUInt64 63)).toInt64 &&& (6148914691236517205 : Int64))) &&& (3689348814741910323 : Int64)) + ((((v0 - (((v0).toUInt64 >>> (((1 : Int32)).toInt64.toUInt64 &&& Int64.toUInt64 63)).toInt64 &&& (6148914691236517205 : Int64)))).toUInt64 >>> (((2 : Int32)).toInt64.toUInt64 &&& Int64.toUInt64 63)).toInt64 &&& (3689348814741910323 : Int64)))).toUInt64 >>> (((4 : Int32)).toInt64.toUInt64 &&& Int64.toUInt64 63)).toInt64) &&& (1085102592571150095 : Int64))).toUInt64 >>> (((8 : Int32)).toInt64.toUInt64 &&& Int64.toUInt64 63)).toInt64)).toUInt64 >>> (((16 : Int32)).toInt64.toUInt64 &&& Int64.toUInt64 63)).toInt64) + (((((((((v0 - (((v0).toUInt64 >>> (((1 : Int32)).toInt64.toUInt64 &&& Int64.toUInt64 63)).toInt64 &&& (6148914691236517205 : Int64))) &&& (3689348814741910323 : Int64)) + ((((v0 - (((v0).toUInt64 >>> (((1 : Int32)).toInt64.toUInt64 &&& Int64.toUInt64 63)).toInt64 &&& (6148914691236517205 : Int64)))).toUInt64 >>> (((2 : Int32)).toInt64.toUInt64 &&& Int64.toUInt64 63)).toInt64 &&& (3689348814741910323 : Int64))) + (((((v0 - (((v0).toUInt64 >>> (((1 : Int32)).toInt64.toUInt64 &&& Int64.toUInt64 63)).toInt64 &&& (6148914691236517205 : Int64))) &&& (3689348814741910323 : Int64)) + ((((v0 - (((v0).toUInt64 >>> (((1 : Int32)).toInt64.toUInt64 &&& Int64.toUInt64 63)).toInt64 &&& (6148914691236517205 : Int64)))).toUInt64 >>> (((2 : Int32)).toInt64.toUInt64 &&& Int64.toUInt64 63)).toInt64 &&& (3689348814741910323 : Int64)))).toUInt64 >>> (((4 : Int32)).toInt64.toUInt64 &&& Int64.toUInt64 63)).toInt64) &&& (1085102592571150095 : Int64)) + (((((((v0 - (((v0).toUInt64 >>> (((1 : Int32)).toInt64.toUInt64 &&& Int64.toUInt64 63)).toInt64 &&& (6148914691236517205 : Int64))) &&& (3689348814741910323 : Int64)) + ((((v0 - (((v0).toUInt64 >>> (((1 : Int32)).toInt64.toUInt64 &&& Int64.toUInt64 63)).toInt64 &&& (6148914691236517205 : Int64)))).toUInt64 >>> (((2 : Int32)).toInt64.toUInt64 &&& Int64.toUInt64 63)).toInt64 &&& (3689348814741910323 : Int64))) + (((((v0 - (((v0).toUInt64 >>> (((1 : Int32)).toInt64.toUInt64 &&& Int64.toUInt64 63)).toInt64 &&& (6148914691236517205 : Int64))) &&& (3689348814741910323 : Int64)) + ((((v0 - (((v0).toUInt64 >>> (((1 : Int32)).toInt64.toUInt64 &&& Int64.toUInt64 63)).toInt64 &&& (6148914691236517205 : Int64)))).toUInt64 >>> (((2 : Int32)).toInt64.toUInt64 &&& Int64.toUInt64 63)).toInt64 &&& (3689348814741910323 : Int64)))).toUInt64 >>> (((4 : Int32)).toInt64.toUInt64 &&& Int64.toUInt64 63)).toInt64) &&& (1085102592571150095 : Int64))).toUInt64 >>> (((8 : Int32)).toInt64.toUInt64 &&& Int64.toUInt64 63)).toInt64) + ((((((((v0 - (((v0).toUInt64 >>> (((1 : Int32)).toInt64.toUInt64 &&& Int64.toUInt64 63)).toInt64 &&& (6148914691236517205 : Int64))) &&& (3689348814741910323 : Int64)) + ((((v0 - (((v0).toUInt64 >>> (((1 : Int32)).toInt64.toUInt64 &&& Int64.toUInt64 63)).toInt64 &&& (6148914691236517205 : Int64)))).toUInt64 >>> (((2 : Int32)).toInt64.toUInt64 &&& Int64.toUInt64 63)).toInt64 &&& (3689348814741910323 : Int64))) + (((((v0 - (((v0).toUInt64 >>> (((1 : Int32)).toInt64.toUInt64 &&& Int64.toUInt64 63)).toInt64 &&& (6148914691236517205 : Int64))) &&& (3689348814741910323 : Int64)) + ((((v0 - (((v0).toUInt64 >>> (((1 : Int32)).toInt64.toUInt64 &&& Int64.toUInt64 63)).toInt64 &&& (6148914691236517205 : Int64)))).toUInt64 >>> (((2 : Int32)).toInt64.toUInt64 &&& Int64.toUInt64 63)).toInt64 &&& (3689348814741910323 : Int64)))).toUInt64 >>> (((4 : Int32)).toInt64.toUInt64 &&& Int64.toUInt64 63)).toInt64) &&& (1085102592571150095 : Int64)) + (((((((v0 - (((v0).toUInt64 >>> (((1 : Int32)).toInt64.toUInt64 &&& Int64.toUInt64 63)).toInt64 &&& (6148914691236517205 : Int64))) &&& (3689348814741910323 : Int64)) + ((((v0 - (((v0).toUInt64 >>> (((1 : Int32)).toInt64.toUInt64 &&& Int64.toUInt64 63)).toInt64 &&& (6148914691236517205 : Int64)))).toUInt64 >>> (((2 : Int32)).toInt64.toUInt64 &&& Int64.toUInt64 63)).toInt64 &&& (3689348814741910323 : Int64))) + (((((v0 - (((v0).toUInt64 >>> (((1 : Int32)).toInt64.toUInt64 &&& Int64.toUInt64 63)).toInt64 &&& (6148914691236517205 : Int64))) &&& (3689348814741910323 : Int64)) + ((((v0 - (((v0).toUInt64 >>> (((1 : Int32)).toInt64.toUInt64 &&& Int64.toUInt64 63)).toInt64 &&& (6148914691236517205 : Int64)))).toUInt64 >>> (((2 : Int32)).toInt64.toUInt64 &&& Int64.toUInt64 63)).toInt64 &&& (3689348814741910323 : Int64)))).toUInt64 >>> (((4 : Int32)).toInt64.toUInt64 &&& Int64.toUInt64 63)).toInt64) &&& (1085102592571150095 : Int64))).toUInt64 >>> (((8 : Int32)).toInt64.toUInt64 &&& Int64.toUInt64 63)).toInt64)).toUInt64 >>> (((16 : Int32)).toInt64.toUInt64 &&& Int64.toUInt64 63)).toInt64)).toUInt64 >>> (((32 : Int32)).toInt64.toUInt64 &&& Int64.toUInt64 63)).toInt64)).toInt32) &&& (127 : Int32)), w)
def mJ7_fill_53178_h5 (F : Nat) (r : (Option Nat) → Int32 → Int32 → Int32 → gW → Option (gW)) (v0 : Option Nat) (v1 : Int32) (v2 : Int32) (v3 : Int32) (w : gW) : Option (gW) :=
  if v3 ≤ v2 then
    (some w)
  else
    ((gSI v0 v2 v1 w).bind fun w13 =>
    r v0 v1 (v2 + (1 : Int32)) v3 w13)
def mJ7_fill_53178_l5 (F : Nat) : Nat → (Option Nat) → Int32 → Int32 → Int32 → gW → Option (gW)
  | 0, _, _, _, _, _ => none
  | n + 1, v0, v1, v2, v3, w => mJ7_fill_53178_h5 F (mJ7_fill_53178_l5 F n) v0 v1 v2 v3 w
def mJ7_fill_53178 (F : Nat) (v0 : Option Nat) (v1 : Int32) (w : gW) : Option (gW) :=
  (gLen v0 w).bind fun t3 =>
  mJ7_fill_53178_l5 F F v0 v1 (0 : Int32) t3 w
def mJ9_floorMod_7cf53 (F : Nat) (v0 : Int32) (v1 : Int32) (w : gW) : Option (Int32 × gW) :=
  (gRem v0 v1).bind fun t2 =>
  if 0 ≤ (v0 ^^^ v1) then
    (some (t2, w))
  else
    (if t2 = 0 then
      (some (t2, w))
    else
      (some ((t2 + v1), w)))
def mJ9_max_7cf53 (F : Nat) (v0 : Int32) (v1 : Int32) (w : gW) : Option (Int32 × gW) :=
  if v0 < v1 then
    (some (v1, w))
  else
    (some (v0, w))
def mJ9_min_7cf53 (F : Nat) (v0 : Int32) (v1 : Int32) (w : gW) : Option (Int32 × gW) :=
  if v1 < v0 then
    (some (v1, w))
  else
    (some (v0, w))
def mX0_entry (F : Nat) (v0 : Nat) (v1 : Int32) (v2 : Int32) (v3 : Int32) (w : gW) : Option (Int32 × gW) :=
  (gFR 0 0 (some v0) w).bind fun t1 =>
  (gLI t1 ((((v1 * (2 : Int32)) + v2) * (2 : Int32)) + v3) w).bind fun t13 =>
  some (t13, w)
def mX0_isNumber_b16 (F : Nat)  (w : gW) : Option (Int32 × gW) :=
  some ((0 : Int32), w)
def mX0_isNumber (F : Nat) (v0 : Nat) (v1 : Int32) (w : gW) : Option (Int32 × gW) :=
  if v1 < 0 then
    (mX0_isNumber_b16 F w)
  else
    ((gFI 0 3 (some v0) w).bind fun t6 =>
    if t6 ≤ v1 then
      (mX0_isNumber_b16 F w)
    else
      (some ((1 : Int32), w)))
def mX0_place (F : Nat) (v0 : Nat) (v1 : Int32) (v2 : Int32) (v3 : Int32) (w : gW) : Option (Int32 × gW) :=
  (gFR 0 2 (some v0) w).bind fun t4 =>
  (gFI 2 7 t4 w).bind fun t7 =>
  (gFI 0 4 (some v0) w).bind fun t18 =>
  some (((((((v1 - (1 : Int32)) * (t7 - (1 : Int32))) + v2) - (1 : Int32)) * t18) + v3), w)
def mX0_places (F : Nat) (v0 : Nat) (w : gW) : Option (Int32 × gW) :=
  (gFR 0 2 (some v0) w).bind fun t1 =>
  (gFI 2 7 t1 w).bind fun t4 =>
  (gFR 0 2 (some v0) w).bind fun t10 =>
  (gFI 2 7 t10 w).bind fun t13 =>
  (gFI 0 4 (some v0) w).bind fun t20 =>
  some ((((t4 - (1 : Int32)) * (t13 - (1 : Int32))) * t20), w)
def mX0_put (F : Nat) (v0 : Nat) (v1 : Int32) (v2 : Int32) (v3 : Int32) (v4 : Int32) (v5 : Int32) (w : gW) : Option (gW) :=
  (gFR 0 0 (some v0) w).bind fun t8 =>
  (gSI t8 ((v1 * (2 : Int32)) * (2 : Int32)) v2 w).bind fun w14 =>
  (gFR 0 0 (some v0) w14).bind fun t16 =>
  (gSI t16 (((v1 * (2 : Int32)) * (2 : Int32)) + (1 : Int32)) v3 w14).bind fun w24 =>
  (gFR 0 0 (some v0) w24).bind fun t26 =>
  (gSI t26 (((v1 * (2 : Int32)) * (2 : Int32)) + (2 : Int32)) v4 w24).bind fun w35 =>
  (gFR 0 0 (some v0) w35).bind fun t37 =>
  (gSI t37 (((v1 * (2 : Int32)) * (2 : Int32)) + (3 : Int32)) v5 w35).bind fun w46 =>
  (gP 0 6 (some v0) (.inl (0 : Int32)) w46).bind fun w49 =>
  some w49
def mX1_firstNotZero_h2 (F : Nat) (r : Nat → (Option Nat) → Int32 → gW → Option (Int32 × gW)) (v0 : Nat) (v1 : Option Nat) (v2 : Int32) (w : gW) : Option (Int32 × gW) :=
  (gFI 1 3 (some v0) w).bind fun t4 =>
  if t4 ≤ v2 then
    (some ((-1 : Int32), w))
  else
    ((gLI v1 v2 w).bind fun t12 =>
    if t12 = 0 then
      (r v0 v1 (v2 + (1 : Int32)) w)
    else
      (some (v2, w)))
def mX1_firstNotZero_l2 (F : Nat) : Nat → Nat → (Option Nat) → Int32 → gW → Option (Int32 × gW)
  | 0, _, _, _, _ => none
  | n + 1, v0, v1, v2, w => mX1_firstNotZero_h2 F (mX1_firstNotZero_l2 F n) v0 v1 v2 w
def mX1_firstNotZero (F : Nat) (v0 : Nat) (v1 : Option Nat) (w : gW) : Option (Int32 × gW) :=
  mX1_firstNotZero_l2 F F v0 v1 (0 : Int32) w
def mX1_leadOf (F : Nat) (v0 : Nat) (v1 : Int32) (w : gW) : Option (Int32 × gW) :=
  (gFR 1 1 (some v0) w).bind fun t1 =>
  (gLI t1 v1 w).bind fun t5 =>
  some (t5, w)
def mX1_leadsAt (F : Nat) (v0 : Nat) (v1 : Int32) (w : gW) : Option (Int32 × gW) :=
  (gFR 1 2 (some v0) w).bind fun t1 =>
  (gLI t1 v1 w).bind fun t5 =>
  if t5 < 0 then
    (some ((0 : Int32), w))
  else
    (some ((1 : Int32), w))
def mX1_number (F : Nat) (v0 : Nat) (v1 : Int32) (v2 : Int32) (w : gW) : Option (Int32 × gW) :=
  (gFR 1 0 (some v0) w).bind fun t1 =>
  (gLI t1 ((v1 * (98 : Int32)) + v2) w).bind fun t10 =>
  some (t10, w)
def mX2_has_b16 (F : Nat)  (w : gW) : Option (Int32 × gW) :=
  some ((0 : Int32), w)
def mX2_has (F : Nat) (v0 : Nat) (v1 : Int32) (w : gW) : Option (Int32 × gW) :=
  if v1 < 0 then
    (mX2_has_b16 F w)
  else
    ((gFI 2 7 (some v0) w).bind fun t6 =>
    if t6 ≤ v1 then
      (mX2_has_b16 F w)
    else
      (some ((1 : Int32), w)))
def mX2_init (F : Nat) (v0 : Nat) (w : gW) : Option (gW) :=
  (gNI 2304 (2304 : Int32) w).bind fun w8 =>
  (gP 2 0 (some v0) (.inr (.inr (some w.2))) w8).bind fun w10 =>
  (gNI 48 (48 : Int32) w10).bind fun w16 =>
  (gP 2 1 (some v0) (.inr (.inr (some w10.2))) w16).bind fun w18 =>
  (gNI 48 (48 : Int32) w18).bind fun w24 =>
  (gP 2 2 (some v0) (.inr (.inr (some w18.2))) w24).bind fun w26 =>
  (gNI 48 (48 : Int32) w26).bind fun w32 =>
  (gP 2 3 (some v0) (.inr (.inr (some w26.2))) w32).bind fun w34 =>
  (gNI 48 (48 : Int32) w34).bind fun w40 =>
  (gP 2 4 (some v0) (.inr (.inr (some w34.2))) w40).bind fun w42 =>
  (gNI 5 (5 : Int32) w42).bind fun w47 =>
  (gP 2 5 (some v0) (.inr (.inr (some w42.2))) w47).bind fun w49 =>
  some w49
def mX2_mul (F : Nat) (v0 : Nat) (v1 : Int32) (v2 : Int32) (w : gW) : Option (Int32 × gW) :=
  (gFR 2 0 (some v0) w).bind fun t1 =>
  (gLI t1 ((v1 * (48 : Int32)) + v2) w).bind fun t10 =>
  some (t10, w)
def mX2_set (F : Nat) (v0 : Nat) (v1 : Int32) (v2 : Int32) (v3 : Int32) (w : gW) : Option (gW) :=
  (gFR 2 0 (some v0) w).bind fun t1 =>
  (gSI t1 ((v1 * (48 : Int32)) + v2) v3 w).bind fun w11 =>
  some w11
def mX3_init (F : Nat) (v0 : Nat) (w : gW) : Option (gW) :=
  (gNI 48 (48 : Int32) w).bind fun w7 =>
  (gP 3 0 (some v0) (.inr (.inr (some w.2))) w7).bind fun w9 =>
  (gNI 48 (48 : Int32) w9).bind fun w15 =>
  (gP 3 1 (some v0) (.inr (.inr (some w9.2))) w15).bind fun w17 =>
  (gNI 48 (48 : Int32) w17).bind fun w23 =>
  (gP 3 2 (some v0) (.inr (.inr (some w17.2))) w23).bind fun w25 =>
  (gNI 48 (48 : Int32) w25).bind fun w31 =>
  (gP 3 3 (some v0) (.inr (.inr (some w25.2))) w31).bind fun w33 =>
  (gNI 48 (48 : Int32) w33).bind fun w39 =>
  (gP 3 4 (some v0) (.inr (.inr (some w33.2))) w39).bind fun w41 =>
  (gNI 5 (5 : Int32) w41).bind fun w46 =>
  (gP 3 5 (some v0) (.inr (.inr (some w41.2))) w46).bind fun w48 =>
  (gNI 49 (49 : Int32) w48).bind fun w54 =>
  (gP 3 6 (some v0) (.inr (.inr (some w48.2))) w54).bind fun w56 =>
  some w56
def mX3_nextOfPeriod_h3 (F : Nat) (r : (Option Nat) → Int32 → Int32 → gW → Option (Int32 × gW)) (v1 : Option Nat) (v2 : Int32) (v4 : Int32) (w : gW) : Option (Int32 × gW) :=
  (gFI 2 7 v1 w).bind fun t6 =>
  if t6 ≤ v4 then
    (some ((-1 : Int32), w))
  else
    ((gFR 2 4 v1 w).bind fun t13 =>
    (gLI t13 v4 w).bind fun t18 =>
    if t18 = v2 then
      (some (v4, w))
    else
      (r v1 v2 (v4 + (1 : Int32)) w))
def mX3_nextOfPeriod_l3 (F : Nat) : Nat → (Option Nat) → Int32 → Int32 → gW → Option (Int32 × gW)
  | 0, _, _, _, _ => none
  | n + 1, v1, v2, v4, w => mX3_nextOfPeriod_h3 F (mX3_nextOfPeriod_l3 F n) v1 v2 v4 w
def mX3_nextOfPeriod (F : Nat) (v0 : Nat) (v1 : Option Nat) (v2 : Int32) (v3 : Int32) (w : gW) : Option (Int32 × gW) :=
  mX3_nextOfPeriod_l3 F F v1 v2 v3 w
def mX4_faultOfReading (F : Nat) (v0 : Nat) (v1 : Int32) (v2 : Int32) (w : gW) : Option (Int32 × gW) :=
  (gFI 4 1 (some v0) w).bind fun t1 =>
  if t1 = (-1 : Int32) then
    (some ((1 : Int32), w))
  else
    ((gFI 4 1 (some v0) w).bind fun t11 =>
    if t11 = v1 then
      ((gFI 4 2 (some v0) w).bind fun t21 =>
      if v2 ≤ t21 then
        (some ((0 : Int32), w))
      else
        (some ((2 : Int32), w)))
    else
      (some ((3 : Int32), w)))
def mX4_init (F : Nat) (v0 : Nat) (w : gW) : Option (gW) :=
  (gNI 144 (144 : Int32) w).bind fun w8 =>
  (gP 4 0 (some v0) (.inr (.inr (some w.2))) w8).bind fun w10 =>
  (gP 4 1 (some v0) (.inl (-1 : Int32)) w10).bind fun w15 =>
  some w15
def mX4_put_b18 (F : Nat) (s0 : Option Nat) (s1 : Int32) (s2 : Int32) (w : gW) : Option (gW) :=
  (gSI s0 s1 s2 w).bind fun w18 =>
  some w18
def mX4_put (F : Nat) (v0 : Nat) (v1 : Int32) (v2 : Int32) (w : gW) : Option (gW) :=
  (gFR 4 0 (some v0) w).bind fun t1 =>
  (gFI 4 1 (some v0) w).bind fun t6 =>
  if t6 = 0 then
    (mX4_put_b18 F t1 v1 ((v2).toInt8.toInt32) w)
  else
    (mX4_put_b18 F t1 v1 v2 w)
def mX5_dimensionOf (F : Nat) (v0 : Nat) (v1 : Int32) (w : gW) : Option (Int32 × gW) :=
  if v1 = (0 : Int32) then ((gFI 5 3 (some v0) w).bind fun t41 =>
    some (t41, w)) else if v1 = (1 : Int32) then ((gFI 5 5 (some v0) w).bind fun t46 =>
    (gFR 5 1 (some v0) w).bind fun t50 =>
    (gFI 1 5 t50 w).bind fun t53 =>
    some ((t46 - t53), w)) else if v1 = (2 : Int32) then ((gFI 5 4 (some v0) w).bind fun t59 =>
    some (t59, w)) else if v1 = (3 : Int32) then ((gFR 5 1 (some v0) w).bind fun t64 =>
    (gFI 1 5 t64 w).bind fun t67 =>
    (gFR 5 2 (some v0) w).bind fun t71 =>
    (gFI 1 5 t71 w).bind fun t74 =>
    some ((t67 + t74), w)) else if v1 = (4 : Int32) then ((gFR 5 1 (some v0) w).bind fun t80 =>
    (gFI 1 5 t80 w).bind fun t83 =>
    some (t83, w)) else if v1 = (5 : Int32) then ((gFR 5 2 (some v0) w).bind fun t88 =>
    (gFI 1 5 t88 w).bind fun t91 =>
    some (t91, w)) else ((gFI 5 5 (some v0) w).bind fun t96 =>
    (gFR 5 1 (some v0) w).bind fun t100 =>
    (gFI 1 5 t100 w).bind fun t103 =>
    (gFI 5 4 (some v0) w).bind fun t108 =>
    some (((t96 - t103) - t108), w))
def mX6_actionAt_b21 (F : Nat)  (w : gW) : Option (Option Nat × gW) :=
  some (none, w)
def mX6_actionAt (F : Nat) (v0 : Nat) (v1 : Int32) (w : gW) : Option (Option Nat × gW) :=
  if v1 < 0 then
    (mX6_actionAt_b21 F w)
  else
    ((gFI 6 4 (some v0) w).bind fun t6 =>
    if t6 ≤ v1 then
      (mX6_actionAt_b21 F w)
    else
      ((gFR 6 1 (some v0) w).bind fun t13 =>
      (gLR 0 t13 v1 w).bind fun t17 =>
      some (t17, w)))
def mX6_count (F : Nat) (v0 : Nat) (v1 : Int32) (w : gW) : Option (Int32 × gW) :=
  if v1 = (0 : Int32) then ((gFI 6 3 (some v0) w).bind fun t29 =>
    some (t29, w)) else if v1 = (1 : Int32) then ((gFI 6 4 (some v0) w).bind fun t34 =>
    some (t34, w)) else if v1 = (2 : Int32) then ((gFR 6 2 (some v0) w).bind fun t39 =>
    (gLR 4 t39 (0 : Int32) w).bind fun t43 =>
    (gFI 4 1 t43 w).bind fun t44 =>
    if t44 = (-1 : Int32) then
      (some ((-4 : Int32), w))
    else
      ((gFR 6 2 (some v0) w).bind fun t57 =>
      (gLR 4 t57 (0 : Int32) w).bind fun t61 =>
      (gFI 4 2 t61 w).bind fun t62 =>
      some (t62, w))) else (some ((-1 : Int32), w))
def mX6_drop_h24 (F : Nat) (r : Nat → (Option Nat) → Int32 → gW → Option (Int32 × gW)) (k54 : Nat → gW → Option (Int32 × gW)) (v0 : Nat) (v1 : Option Nat) (v2 : Int32) (w : gW) : Option (Int32 × gW) :=
  (gFI 6 4 (some v0) w).bind fun t26 =>
  if t26 ≤ v2 then
    (k54 v0 w)
  else
    ((gFR 6 1 (some v0) w).bind fun t33 =>
    (gLR 0 t33 v2 w).bind fun t37 =>
    (gFR 0 2 t37 w).bind fun t38 =>
    if t38 = v1 then
      (some ((-2 : Int32), w))
    else
      (r v0 v1 (v2 + (1 : Int32)) w))
def mX6_drop_l24 (F : Nat) (k54 : Nat → gW → Option (Int32 × gW)) : Nat → Nat → (Option Nat) → Int32 → gW → Option (Int32 × gW)
  | 0, _, _, _, _ => none
  | n + 1, v0, v1, v2, w => mX6_drop_h24 F (mX6_drop_l24 F k54 n) k54 v0 v1 v2 w
def mX6_drop (F : Nat) (v0 : Nat) (w : gW) : Option (Int32 × gW) :=
  (gFI 6 3 (some v0) w).bind fun t1 =>
  if t1 = 0 then
    (some ((-4 : Int32), w))
  else
    ((gFR 6 0 (some v0) w).bind fun t11 =>
    (gFI 6 3 (some v0) w).bind fun t15 =>
    (gLR 2 t11 (t15 - (1 : Int32)) w).bind fun t20 =>
    mX6_drop_l24 F (fun (v0 : Nat) (w : gW) => (gFI 6 3 (some v0) w).bind fun t56 =>
      (gP 6 3 (some v0) (.inl (t56 - (1 : Int32))) w).bind fun w61 =>
      (gFI 6 3 (some v0) w61).bind fun t65 =>
      some (t65, w61)) F v0 t20 (0 : Int32) w)
def mX6_groupAt_b21 (F : Nat)  (w : gW) : Option (Option Nat × gW) :=
  some (none, w)
def mX6_groupAt (F : Nat) (v0 : Nat) (v1 : Int32) (w : gW) : Option (Option Nat × gW) :=
  if v1 < 0 then
    (mX6_groupAt_b21 F w)
  else
    ((gFI 6 3 (some v0) w).bind fun t6 =>
    if t6 ≤ v1 then
      (mX6_groupAt_b21 F w)
    else
      ((gFR 6 0 (some v0) w).bind fun t13 =>
      (gLR 2 t13 v1 w).bind fun t17 =>
      some (t17, w)))
def mX6_isLane_b9 (F : Nat)  (w : gW) : Option (Int32 × gW) :=
  some ((1 : Int32), w)
def mX6_isLane (F : Nat) (v0 : Int32) (w : gW) : Option (Int32 × gW) :=
  if v0 = 0 then
    (mX6_isLane_b9 F w)
  else
    (if v0 = (1 : Int32) then
      (mX6_isLane_b9 F w)
    else
      (some ((0 : Int32), w)))
def mX6_leave (F : Nat) (v0 : Nat) (w : gW) : Option (Int32 × gW) :=
  (gFI 6 4 (some v0) w).bind fun t1 =>
  if t1 = 0 then
    (some ((-4 : Int32), w))
  else
    ((gFI 6 4 (some v0) w).bind fun t12 =>
    (gP 6 4 (some v0) (.inl (t12 - (1 : Int32))) w).bind fun w17 =>
    (gFI 6 4 (some v0) w17).bind fun t21 =>
    some (t21, w17))
def mX6_power_h4 (F : Nat) (r : Int32 → Int32 → Int32 → Int32 → gW → Option (Int32 × gW)) (v0 : Int32) (v1 : Int32) (v2 : Int32) (v3 : Int32) (w : gW) : Option (Int32 × gW) :=
  if v1 ≤ v3 then
    (some (v2, w))
  else
    (r v0 v1 (v2 * v0) (v3 + (1 : Int32)) w)
def mX6_power_l4 (F : Nat) : Nat → Int32 → Int32 → Int32 → Int32 → gW → Option (Int32 × gW)
  | 0, _, _, _, _, _ => none
  | n + 1, v0, v1, v2, v3, w => mX6_power_h4 F (mX6_power_l4 F n) v0 v1 v2 v3 w
def mX6_power (F : Nat) (v0 : Int32) (v1 : Int32) (w : gW) : Option (Int32 × gW) :=
  mX6_power_l4 F F v0 v1 (1 : Int32) (0 : Int32) w
def mX6_quotient (F : Nat) (v0 : Int32) (v1 : Int32) (w : gW) : Option (Int32 × gW) :=
  if v1 ≤ 0 then
    (some ((0 : Int32), w))
  else
    ((gDiv v0 v1).bind fun t6 =>
    some (t6, w))
def mX6_refusalOf (F : Nat) (v0 : Option Nat) (v1 : Int32) (w : gW) : Option (Int32 × gW) :=
  if 0 ≤ v1 then
    ((gFI 0 6 v0 w).bind fun t7 =>
    if t7 = 0 then
      (some ((-2 : Int32), w))
    else
      ((gFR 0 1 v0 w).bind fun t18 =>
      (gFI 5 6 t18 w).bind fun t21 =>
      if t21 ≤ v1 then
        (some ((-1 : Int32), w))
      else
        (some ((0 : Int32), w))))
  else
    (some ((-1 : Int32), w))
def mX6_sheetAt_b18 (F : Nat)  (w : gW) : Option (Option Nat × gW) :=
  some (none, w)
def mX6_sheetAt (F : Nat) (v0 : Nat) (v1 : Int32) (w : gW) : Option (Option Nat × gW) :=
  if v1 < 0 then
    (mX6_sheetAt_b18 F w)
  else
    (if (4 : Int32) ≤ v1 then
      (mX6_sheetAt_b18 F w)
    else
      ((gFR 6 2 (some v0) w).bind fun t10 =>
      (gLR 4 t10 v1 w).bind fun t14 =>
      some (t14, w)))
def mX7_addTo (F : Nat) (v0 : Nat) (v1 : Int32) (v2 : Int32) (w : gW) : Option (gW) :=
  (gFR 7 25 (some v0) w).bind fun t1 =>
  (gFR 7 25 (some v0) w).bind fun t6 =>
  (gLI t6 v1 w).bind fun t10 =>
  (gFI 7 23 (some v0) w).bind fun t14 =>
  (gRem (t10 + v2) t14).bind fun t17 =>
  (gFI 7 23 (some v0) w).bind fun t19 =>
  (gFI 7 23 (some v0) w).bind fun t24 =>
  (gRem (t17 + t19) t24).bind fun t27 =>
  (gSI t1 v1 t27 w).bind fun w28 =>
  some w28
def mX7_added (F : Nat) (v0 : Nat) (v1 : Int32) (w : gW) : Option (Int32 × gW) :=
  (gFR 7 1 (some v0) w).bind fun t1 =>
  (gFI 7 0 (some v0) w).bind fun t5 =>
  (gSI t1 t5 v1 w).bind fun w9 =>
  (gFR 7 3 (some v0) w9).bind fun t11 =>
  (gFI 7 0 (some v0) w9).bind fun t15 =>
  (gSI t11 t15 (-4 : Int32) w9).bind fun w20 =>
  (gFI 7 0 (some v0) w20).bind fun t23 =>
  (gP 7 0 (some v0) (.inl (t23 + (1 : Int32))) w20).bind fun w28 =>
  (gFI 7 0 (some v0) w28).bind fun t32 =>
  some ((t32 - (1 : Int32)), w28)
def mX7_clearLine_h2 (F : Nat) (r : Nat → Int32 → gW → Option (gW)) (v0 : Nat) (v1 : Int32) (w : gW) : Option (gW) :=
  if (98 : Int32) ≤ v1 then
    (some w)
  else
    ((gFR 7 25 (some v0) w).bind fun t9 =>
    (gSI t9 v1 (0 : Int32) w).bind fun w14 =>
    r v0 (v1 + (1 : Int32)) w14)
def mX7_clearLine_l2 (F : Nat) : Nat → Nat → Int32 → gW → Option (gW)
  | 0, _, _, _ => none
  | n + 1, v0, v1, w => mX7_clearLine_h2 F (mX7_clearLine_l2 F n) v0 v1 w
def mX7_clearLine (F : Nat) (v0 : Nat) (w : gW) : Option (gW) :=
  mX7_clearLine_l2 F F v0 (0 : Int32) w
def mX7_count (F : Nat) (v0 : Nat) (v1 : Int32) (w : gW) : Option (Int32 × gW) :=
  if v1 = 0 then
    ((gFI 7 0 (some v0) w).bind fun t5 =>
    some (t5, w))
  else
    (if v1 = (1 : Int32) then
      ((gFI 7 7 (some v0) w).bind fun t17 =>
      some (t17, w))
    else
      (if v1 = (2 : Int32) then
        ((gFR 7 4 (some v0) w).bind fun t29 =>
        (gLI t29 (0 : Int32) w).bind fun t33 =>
        if t33 = (-4 : Int32) then
          (some ((-4 : Int32), w))
        else
          ((gFR 7 5 (some v0) w).bind fun t45 =>
          (gLI t45 (0 : Int32) w).bind fun t49 =>
          some (t49, w)))
      else
        (some ((-1 : Int32), w))))
def mX7_drop_h12 (F : Nat) (r : Nat → Int32 → gW → Option (Int32 × gW)) (k44 : Nat → gW → Option (Int32 × gW)) (v0 : Nat) (v1 : Int32) (w : gW) : Option (Int32 × gW) :=
  (gFI 7 7 (some v0) w).bind fun t14 =>
  if t14 ≤ v1 then
    (k44 v0 w)
  else
    ((gFR 7 8 (some v0) w).bind fun t21 =>
    (gLI t21 v1 w).bind fun t25 =>
    (gFI 7 0 (some v0) w).bind fun t27 =>
    if t25 = (t27 - (1 : Int32)) then
      (some ((-2 : Int32), w))
    else
      (r v0 (v1 + (1 : Int32)) w))
def mX7_drop_l12 (F : Nat) (k44 : Nat → gW → Option (Int32 × gW)) : Nat → Nat → Int32 → gW → Option (Int32 × gW)
  | 0, _, _, _ => none
  | n + 1, v0, v1, w => mX7_drop_h12 F (mX7_drop_l12 F k44 n) k44 v0 v1 w
def mX7_drop (F : Nat) (v0 : Nat) (w : gW) : Option (Int32 × gW) :=
  (gFI 7 0 (some v0) w).bind fun t1 =>
  if t1 = 0 then
    (some ((-4 : Int32), w))
  else
    (mX7_drop_l12 F (fun (v0 : Nat) (w : gW) => (gFI 7 0 (some v0) w).bind fun t46 =>
      (gP 7 0 (some v0) (.inl (t46 - (1 : Int32))) w).bind fun w51 =>
      (gFI 7 0 (some v0) w51).bind fun t55 =>
      some (t55, w51)) F v0 (0 : Int32) w)
def mX7_faultOf (F : Nat) (v0 : Nat) (v1 : Int32) (v2 : Int32) (v3 : Int32) (w : gW) : Option (Int32 × gW) :=
  (gFR 7 4 (some v0) w).bind fun t1 =>
  (gLI t1 v1 w).bind fun t5 =>
  if t5 = (-4 : Int32) then
    (some ((-11 : Int32), w))
  else
    ((gFR 7 4 (some v0) w).bind fun t17 =>
    (gLI t17 v1 w).bind fun t21 =>
    if t21 = v2 then
      ((gFR 7 5 (some v0) w).bind fun t32 =>
      (gLI t32 v1 w).bind fun t36 =>
      if v3 ≤ t36 then
        (some ((0 : Int32), w))
      else
        (some ((-12 : Int32), w)))
    else
      (some ((-13 : Int32), w)))
def mX7_in_b17 (F : Nat)  (w : gW) : Option (Int32 × gW) :=
  some ((0 : Int32), w)
def mX7_in (F : Nat) (v0 : Int64) (v2 : Int64) (v4 : Int64) (w : gW) : Option (Int32 × gW) :=
  if (lg_cmp v0 v2) < 0 then
    (mX7_in_b17 F w)
  else
    (if 0 < (lg_cmp v0 v4) then
      (mX7_in_b17 F w)
    else
      (some ((1 : Int32), w)))
def mX7_init (F : Nat) (v0 : Nat) (w : gW) : Option (gW) :=
  (gNI 8 (8 : Int32) w).bind fun w7 =>
  (gP 7 1 (some v0) (.inr (.inr (some w.2))) w7).bind fun w9 =>
  (gNI 41472 (41472 : Int32) w9).bind fun w15 =>
  (gP 7 2 (some v0) (.inr (.inr (some w9.2))) w15).bind fun w17 =>
  (gNI 8 (8 : Int32) w17).bind fun w23 =>
  (gP 7 3 (some v0) (.inr (.inr (some w17.2))) w23).bind fun w25 =>
  (gNI 4 (4 : Int32) w25).bind fun w30 =>
  (gSI (some w25.2) (0 : Int32) (-4 : Int32) w30).bind fun w36 =>
  (gSI (some w25.2) (1 : Int32) (-4 : Int32) w36).bind fun w41 =>
  (gSI (some w25.2) (2 : Int32) (-4 : Int32) w41).bind fun w46 =>
  (gSI (some w25.2) (3 : Int32) (-4 : Int32) w46).bind fun w51 =>
  (gP 7 4 (some v0) (.inr (.inr (some w25.2))) w51).bind fun w52 =>
  (gNI 4 (4 : Int32) w52).bind fun w57 =>
  (gP 7 5 (some v0) (.inr (.inr (some w52.2))) w57).bind fun w59 =>
  (gNI 576 (576 : Int32) w59).bind fun w66 =>
  (gP 7 6 (some v0) (.inr (.inr (some w59.2))) w66).bind fun w68 =>
  (gNI 6 (6 : Int32) w68).bind fun w74 =>
  (gP 7 8 (some v0) (.inr (.inr (some w68.2))) w74).bind fun w76 =>
  (gNI 6 (6 : Int32) w76).bind fun w82 =>
  (gP 7 9 (some v0) (.inr (.inr (some w76.2))) w82).bind fun w84 =>
  (gNI 6 (6 : Int32) w84).bind fun w90 =>
  (gP 7 10 (some v0) (.inr (.inr (some w84.2))) w90).bind fun w92 =>
  (gNI 192 (192 : Int32) w92).bind fun w99 =>
  (gP 7 11 (some v0) (.inr (.inr (some w92.2))) w99).bind fun w101 =>
  (gNI 80 (80 : Int32) w101).bind fun w107 =>
  (gP 7 12 (some v0) (.inr (.inr (some w101.2))) w107).bind fun w109 =>
  (gNI 72 (72 : Int32) w109).bind fun w115 =>
  (gP 7 13 (some v0) (.inr (.inr (some w109.2))) w115).bind fun w117 =>
  (gNL 6000 (6000 : Int32) w117).bind fun w124 =>
  (gP 7 17 (some v0) (.inr (.inr (some w117.2))) w124).bind fun w126 =>
  (gNL 6000 (6000 : Int32) w126).bind fun w133 =>
  (gP 7 18 (some v0) (.inr (.inr (some w126.2))) w133).bind fun w135 =>
  (gNI 48000 (48000 : Int32) w135).bind fun w141 =>
  (gP 7 19 (some v0) (.inr (.inr (some w135.2))) w141).bind fun w143 =>
  (gNI 8 (8 : Int32) w143).bind fun w149 =>
  (gP 7 20 (some v0) (.inr (.inr (some w143.2))) w149).bind fun w151 =>
  (gNI 8 (8 : Int32) w151).bind fun w157 =>
  (gP 7 21 (some v0) (.inr (.inr (some w151.2))) w157).bind fun w159 =>
  (gNI 72 (72 : Int32) w159).bind fun w165 =>
  (gP 7 22 (some v0) (.inr (.inr (some w159.2))) w165).bind fun w167 =>
  (gNI 98 (98 : Int32) w167).bind fun w173 =>
  (gP 7 25 (some v0) (.inr (.inr (some w167.2))) w173).bind fun w175 =>
  (gNI 9604 (9604 : Int32) w175).bind fun w182 =>
  (gP 7 26 (some v0) (.inr (.inr (some w175.2))) w182).bind fun w184 =>
  (gNI 98 (98 : Int32) w184).bind fun w190 =>
  (gP 7 27 (some v0) (.inr (.inr (some w184.2))) w190).bind fun w192 =>
  (gP 7 29 (some v0) (.inl (-4 : Int32)) w192).bind fun w198 =>
  (gNI 5 (5 : Int32) w198).bind fun w203 =>
  (gP 7 30 (some v0) (.inr (.inr (some w198.2))) w203).bind fun w205 =>
  (gNI 1372 (1372 : Int32) w205).bind fun w212 =>
  (gP 7 31 (some v0) (.inr (.inr (some w205.2))) w212).bind fun w214 =>
  (gNI 14 (14 : Int32) w214).bind fun w220 =>
  (gP 7 32 (some v0) (.inr (.inr (some w214.2))) w220).bind fun w222 =>
  (gNI 9604 (9604 : Int32) w222).bind fun w229 =>
  (gP 7 33 (some v0) (.inr (.inr (some w222.2))) w229).bind fun w231 =>
  (gNI 9604 (9604 : Int32) w231).bind fun w238 =>
  (gP 7 34 (some v0) (.inr (.inr (some w231.2))) w238).bind fun w240 =>
  some w240
def mX7_isMade (F : Nat) (v0 : Nat) (v1 : Int32) (w : gW) : Option (Int32 × gW) :=
  if (64 : Int32) ≤ v1 then
    ((gFL 7 16 (some v0) w).bind fun t28 =>
    if (lg_cmp ((t28 >>> (((v1 - (64 : Int32))).toInt64 &&& 63)) &&& (1 : Int64)) (1 : Int64)) = 0 then
      (some ((1 : Int32), w))
    else
      (some ((0 : Int32), w)))
  else
    ((gFL 7 15 (some v0) w).bind fun t7 =>
    if (lg_cmp ((t7 >>> ((v1).toInt64 &&& 63)) &&& (1 : Int64)) (1 : Int64)) = 0 then
      (some ((1 : Int32), w))
    else
      (some ((0 : Int32), w)))
def mX7_leave (F : Nat) (v0 : Nat) (w : gW) : Option (Int32 × gW) :=
  (gFI 7 7 (some v0) w).bind fun t1 =>
  if t1 = 0 then
    (some ((-4 : Int32), w))
  else
    ((gFI 7 7 (some v0) w).bind fun t12 =>
    (gP 7 7 (some v0) (.inl (t12 - (1 : Int32))) w).bind fun w17 =>
    (gP 7 29 (some v0) (.inl (-4 : Int32)) w17).bind fun w23 =>
    (gFI 7 7 (some v0) w23).bind fun t27 =>
    some (t27, w23))
def mX7_lessBound_h26 (F : Nat) (r : Nat → Int32 → Int32 → Int32 → gW → Option (gW)) (k80 : Nat → Int32 → gW → Option (gW)) (v0 : Nat) (v1 : Int32) (v2 : Int32) (v3 : Int32) (w : gW) : Option (gW) :=
  (gFI 7 24 (some v0) w).bind fun t28 =>
  if t28 ≤ v3 then
    (k80 v0 v1 w)
  else
    (if v2 ≤ 0 then
      (k80 v0 v1 w)
    else
      ((gFR 7 25 (some v0) w).bind fun t39 =>
      (gFR 7 25 (some v0) w).bind fun t44 =>
      (gLI t44 v3 w).bind fun t48 =>
      (gFI 7 23 (some v0) w).bind fun t50 =>
      (gFR 7 31 (some v0) w).bind fun t56 =>
      (gLI t56 (((98 : Int32) * v1) + v3) w).bind fun t65 =>
      (gFI 7 23 (some v0) w).bind fun t69 =>
      (gRem (t48 + ((t50 - v2) * t65)) t69).bind fun t72 =>
      (gSI t39 v3 t72 w).bind fun w73 =>
      r v0 v1 v2 (v3 + (1 : Int32)) w73))
def mX7_lessBound_l26 (F : Nat) (k80 : Nat → Int32 → gW → Option (gW)) : Nat → Nat → Int32 → Int32 → Int32 → gW → Option (gW)
  | 0, _, _, _, _, _ => none
  | n + 1, v0, v1, v2, v3, w => mX7_lessBound_h26 F (mX7_lessBound_l26 F k80 n) k80 v0 v1 v2 v3 w
def mX7_lessBound_b80 (F : Nat) (r : Nat → Int32 → gW → Option (gW)) (v0 : Nat) (v1 : Int32) (w : gW) : Option (gW) :=
  r v0 (v1 + (1 : Int32)) w
def mX7_lessBound_h2 (F : Nat) (r : Nat → Int32 → gW → Option (gW)) (v0 : Nat) (v1 : Int32) (w : gW) : Option (gW) :=
  (gFR 7 30 (some v0) w).bind fun t4 =>
  (gLI t4 (4 : Int32) w).bind fun t8 =>
  if t8 ≤ v1 then
    (some w)
  else
    ((gFR 7 25 (some v0) w).bind fun t13 =>
    (gFR 7 32 (some v0) w).bind fun t17 =>
    (gLI t17 v1 w).bind fun t21 =>
    (gLI t13 t21 w).bind fun t22 =>
    mX7_lessBound_l26 F (fun (v0 : Nat) (v1 : Int32) (w : gW) => mX7_lessBound_b80 F r v0 v1 w) F v0 v1 t22 (0 : Int32) w)
def mX7_lessBound_l2 (F : Nat) : Nat → Nat → Int32 → gW → Option (gW)
  | 0, _, _, _ => none
  | n + 1, v0, v1, w => mX7_lessBound_h2 F (mX7_lessBound_l2 F n) v0 v1 w
def mX7_lessBound (F : Nat) (v0 : Nat) (w : gW) : Option (gW) :=
  mX7_lessBound_l2 F F v0 (0 : Int32) w
def mX7_matrix (F : Nat) (v0 : Nat) (v1 : Int32) (v2 : Int32) (v3 : Int32) (v4 : Int32) (w : gW) : Option (Int32 × gW) :=
  (gFR 7 11 (some v0) w).bind fun t1 =>
  (gLI t1 (((((32 : Int32) * v1) + ((4 : Int32) * v2)) + ((2 : Int32) * v3)) + v4) w).bind fun t19 =>
  some (t19, w)
def mX7_placeOf (F : Nat) (v0 : Nat) (v1 : Int32) (v2 : Int32) (v3 : Int32) (w : gW) : Option (Int32 × gW) :=
  (gFI 7 36 (some v0) w).bind fun t4 =>
  (gFI 7 37 (some v0) w).bind fun t11 =>
  (gFI 7 37 (some v0) w).bind fun t19 =>
  some ((((((v1 - (1 : Int32)) * (t4 - (1 : Int32))) * t11) + ((v2 - (1 : Int32)) * t19)) + v3), w)
def mX7_power_h4 (F : Nat) (r : Int32 → Int32 → Int32 → Int32 → gW → Option (Int32 × gW)) (v0 : Int32) (v1 : Int32) (v2 : Int32) (v3 : Int32) (w : gW) : Option (Int32 × gW) :=
  if v1 ≤ v3 then
    (some (v2, w))
  else
    (r v0 v1 (v2 * v0) (v3 + (1 : Int32)) w)
def mX7_power_l4 (F : Nat) : Nat → Int32 → Int32 → Int32 → Int32 → gW → Option (Int32 × gW)
  | 0, _, _, _, _, _ => none
  | n + 1, v0, v1, v2, v3, w => mX7_power_h4 F (mX7_power_l4 F n) v0 v1 v2 v3 w
def mX7_power (F : Nat) (v0 : Int32) (v1 : Int32) (w : gW) : Option (Int32 × gW) :=
  mX7_power_l4 F F v0 v1 (1 : Int32) (0 : Int32) w
def mX7_prod (F : Nat) (v0 : Nat) (v1 : Int32) (v2 : Int32) (v3 : Int32) (w : gW) : Option (Int32 × gW) :=
  (gFR 7 2 (some v0) w).bind fun t1 =>
  (gLI t1 ((((5184 : Int32) * v1) + ((72 : Int32) * v2)) + v3) w).bind fun t16 =>
  some (t16, w)
def mX7_reduceLine_h24 (F : Nat) (r : Nat → Int32 → Int32 → Int32 → gW → Option (gW)) (k78 : Nat → Int32 → gW → Option (gW)) (v0 : Nat) (v1 : Int32) (v2 : Int32) (v3 : Int32) (w : gW) : Option (gW) :=
  (gFI 7 24 (some v0) w).bind fun t26 =>
  if t26 ≤ v3 then
    (k78 v0 v1 w)
  else
    (if v2 ≤ 0 then
      (k78 v0 v1 w)
    else
      ((gFR 7 25 (some v0) w).bind fun t37 =>
      (gFR 7 25 (some v0) w).bind fun t42 =>
      (gLI t42 v3 w).bind fun t46 =>
      (gFI 7 23 (some v0) w).bind fun t48 =>
      (gFR 7 26 (some v0) w).bind fun t54 =>
      (gLI t54 (((98 : Int32) * v1) + v3) w).bind fun t63 =>
      (gFI 7 23 (some v0) w).bind fun t67 =>
      (gRem (t46 + ((t48 - v2) * t63)) t67).bind fun t70 =>
      (gSI t37 v3 t70 w).bind fun w71 =>
      r v0 v1 v2 (v3 + (1 : Int32)) w71))
def mX7_reduceLine_l24 (F : Nat) (k78 : Nat → Int32 → gW → Option (gW)) : Nat → Nat → Int32 → Int32 → Int32 → gW → Option (gW)
  | 0, _, _, _, _, _ => none
  | n + 1, v0, v1, v2, v3, w => mX7_reduceLine_h24 F (mX7_reduceLine_l24 F k78 n) k78 v0 v1 v2 v3 w
def mX7_reduceLine_b78 (F : Nat) (r : Nat → Int32 → gW → Option (gW)) (v0 : Nat) (v1 : Int32) (w : gW) : Option (gW) :=
  r v0 (v1 + (1 : Int32)) w
def mX7_reduceLine_h2 (F : Nat) (r : Nat → Int32 → gW → Option (gW)) (v0 : Nat) (v1 : Int32) (w : gW) : Option (gW) :=
  (gFI 7 28 (some v0) w).bind fun t4 =>
  if t4 ≤ v1 then
    (some w)
  else
    ((gFR 7 25 (some v0) w).bind fun t11 =>
    (gFR 7 27 (some v0) w).bind fun t15 =>
    (gLI t15 v1 w).bind fun t19 =>
    (gLI t11 t19 w).bind fun t20 =>
    mX7_reduceLine_l24 F (fun (v0 : Nat) (v1 : Int32) (w : gW) => mX7_reduceLine_b78 F r v0 v1 w) F v0 v1 t20 (0 : Int32) w)
def mX7_reduceLine_l2 (F : Nat) : Nat → Nat → Int32 → gW → Option (gW)
  | 0, _, _, _ => none
  | n + 1, v0, v1, w => mX7_reduceLine_h2 F (mX7_reduceLine_l2 F n) v0 v1 w
def mX7_reduceLine (F : Nat) (v0 : Nat) (w : gW) : Option (gW) :=
  mX7_reduceLine_l2 F F v0 (0 : Int32) w
def mX7_set (F : Nat) (v0 : Nat) (v1 : Int32) (v2 : Int32) (v3 : Int32) (w : gW) : Option (gW) :=
  (gFR 7 2 (some v0) w).bind fun t1 =>
  (gFI 7 0 (some v0) w).bind fun t8 =>
  (gSI t1 ((((5184 : Int32) * t8) + ((72 : Int32) * v1)) + v2) v3 w).bind fun w20 =>
  some w20
def mX7_start (F : Nat) (v0 : Nat) (v1 : Int32) (w : gW) : Option (gW) :=
  (gP 7 39 (some v0) (.inl v1) w).bind fun w2 =>
  (gFR 7 8 (some v0) w2).bind fun t7 =>
  (gLI t7 v1 w2).bind fun t11 =>
  (gP 7 38 (some v0) (.inl t11) w2).bind fun w12 =>
  (gFR 7 1 (some v0) w12).bind fun t17 =>
  (gFI 7 38 (some v0) w12).bind fun t21 =>
  (gLI t17 t21 w12).bind fun t24 =>
  (gP 7 36 (some v0) (.inl t24) w12).bind fun w25 =>
  (gFR 7 10 (some v0) w25).bind fun t30 =>
  (gLI t30 v1 w25).bind fun t34 =>
  (gP 7 37 (some v0) (.inl t34) w25).bind fun w35 =>
  (gFR 7 9 (some v0) w35).bind fun t40 =>
  (gLI t40 v1 w35).bind fun t44 =>
  (gP 7 23 (some v0) (.inl t44) w35).bind fun w45 =>
  some w45
def mX0_begin_b55 (F : Nat) (r : Nat → Int32 → Int32 → gW → Option (gW)) (v0 : Nat) (v3 : Int32) (v4 : Int32) (s0 : Option Nat) (s1 : Int32) (s2 : Int32) (s3 : Int32) (s4 : Int32) (s5 : Int32) (w : gW) : Option (gW) :=
  (gO 0 s0 w).bind fun a55 =>
  (mX0_put F a55 s1 s2 s3 s4 s5 w).bind fun q55 =>
  r v0 v3 (v4 + (1 : Int32)) q55
def mX0_begin_h27 (F : Nat) (r : Nat → Int32 → Int32 → gW → Option (gW)) (v0 : Nat) (v3 : Int32) (v4 : Int32) (w : gW) : Option (gW) :=
  (gFR 0 2 (some v0) w).bind fun t30 =>
  (gFI 2 7 t30 w).bind fun t33 =>
  if t33 ≤ v4 then
    (some w)
  else
    (if v3 = (1 : Int32) then
      (mX0_begin_b55 F r v0 v3 v4 (some v0) v4 (1 : Int32) (0 : Int32) (0 : Int32) (0 : Int32) w)
    else
      (mX0_begin_b55 F r v0 v3 v4 (some v0) v4 (1 : Int32) (0 : Int32) (0 : Int32) (1 : Int32) w))
def mX0_begin_l27 (F : Nat) : Nat → Nat → Int32 → Int32 → gW → Option (gW)
  | 0, _, _, _, _ => none
  | n + 1, v0, v3, v4, w => mX0_begin_h27 F (mX0_begin_l27 F n) v0 v3 v4 w
def mX0_begin (F : Nat) (v0 : Nat) (v1 : Option Nat) (v2 : Int32) (v3 : Int32) (w : gW) : Option (gW) :=
  (gP 0 2 (some v0) (.inr (.inr v1)) w).bind fun w2 =>
  (gP 0 3 (some v0) (.inl v2) w2).bind fun w7 =>
  (gP 0 4 (some v0) (.inl v3) w7).bind fun w12 =>
  (mX6_power F v2 v3 w12).bind fun q18 =>
  (gP 0 5 (some v0) (.inl q18.1) q18.2).bind fun w21 =>
  mX0_begin_l27 F F v0 v3 (0 : Int32) w21
def mX1_begin (F : Nat) (v0 : Nat) (v1 : Int32) (v2 : Int32) (w : gW) : Option (gW) :=
  (gP 1 3 (some v0) (.inl v1) w).bind fun w2 =>
  (gP 1 4 (some v0) (.inl v2) w2).bind fun w7 =>
  (gP 1 5 (some v0) (.inl (0 : Int32)) w7).bind fun w12 =>
  (gFR 1 2 (some v0) w12).bind fun t16 =>
  (mJ7_fill_53178 F t16 (-1 : Int32) w12).bind fun q20 =>
  some q20
def mX1_init (F : Nat) (lim : Nat) (v0 : Nat) (v1 : Int32) (w : gW) : Option (gW) :=
  (gNI 98 (98 : Int32) w).bind fun w7 =>
  (gP 1 2 (some v0) (.inr (.inr (some w.2))) w7).bind fun w9 =>
  (mJ9_max_7cf53 F v1 (0 : Int32) w9).bind fun q14 =>
  (gNI (lim * 98) (q14.1 * (98 : Int32)) q14.2).bind fun w23 =>
  (gP 1 0 (some v0) (.inr (.inr (some q14.2.2))) w23).bind fun w25 =>
  (gNI lim q14.1 w25).bind fun w30 =>
  (gP 1 1 (some v0) (.inr (.inr (some w25.2))) w30).bind fun w32 =>
  some w32
def mX1_leadingNumber (F : Nat) (v0 : Nat) (v1 : Int32) (v2 : Int32) (w : gW) : Option (Int32 × gW) :=
  (gFR 1 2 (some v0) w).bind fun t2 =>
  (gLI t2 v1 w).bind fun t6 =>
  (gO 1 (some v0) w).bind fun a8 =>
  (mX1_number F a8 t6 v2 w).bind fun q8 =>
  some (q8.1, q8.2)
def mX2_countCommuting_b30 (F : Nat) (r : Nat → Int32 → Int32 → Int32 → gW → Option (Int32 × gW)) (v0 : Nat) (v1 : Int32) (v2 : Int32) (v3 : Int32) (w : gW) : Option (Int32 × gW) :=
  r v0 v1 v2 (v3 + (1 : Int32)) w
def mX2_countCommuting_h4 (F : Nat) (r : Nat → Int32 → Int32 → Int32 → gW → Option (Int32 × gW)) (v0 : Nat) (v1 : Int32) (v2 : Int32) (v3 : Int32) (w : gW) : Option (Int32 × gW) :=
  (gFI 2 7 (some v0) w).bind fun t6 =>
  if t6 ≤ v3 then
    (some (v2, w))
  else
    ((gO 2 (some v0) w).bind fun a15 =>
    (mX2_mul F a15 v1 v3 w).bind fun q15 =>
    (gO 2 (some v0) q15.2).bind fun a21 =>
    (mX2_mul F a21 v3 v1 q15.2).bind fun q21 =>
    if q15.1 = q21.1 then
      (mX2_countCommuting_b30 F r v0 v1 (v2 + (1 : Int32)) v3 q21.2)
    else
      (mX2_countCommuting_b30 F r v0 v1 v2 v3 q21.2))
def mX2_countCommuting_l4 (F : Nat) : Nat → Nat → Int32 → Int32 → Int32 → gW → Option (Int32 × gW)
  | 0, _, _, _, _, _ => none
  | n + 1, v0, v1, v2, v3, w => mX2_countCommuting_h4 F (mX2_countCommuting_l4 F n) v0 v1 v2 v3 w
def mX2_countCommuting (F : Nat) (v0 : Nat) (v1 : Int32) (w : gW) : Option (Int32 × gW) :=
  mX2_countCommuting_l4 F F v0 v1 (0 : Int32) (0 : Int32) w
def mX2_fillPair_h51 (F : Nat) (r : Nat → (Option Nat) → (Option Nat) → Int32 → Int32 → Int32 → Int32 → Int32 → gW → Option (gW)) (k100 : Nat → (Option Nat) → (Option Nat) → Int32 → Int32 → Int32 → Int32 → gW → Option (gW)) (v0 : Nat) (v1 : Option Nat) (v2 : Option Nat) (v3 : Int32) (v4 : Int32) (v5 : Int32) (v6 : Int32) (v7 : Int32) (w : gW) : Option (gW) :=
  if v3 ≤ v7 then
    (k100 v0 v1 v2 v3 v4 v5 v6 w)
  else
    ((gO 2 v1 w).bind fun a78 =>
    (mX2_mul F a78 v4 v5 w).bind fun q78 =>
    (gO 2 v2 q78.2).bind fun a87 =>
    (mX2_mul F a87 v6 v7 q78.2).bind fun q87 =>
    (gO 2 (some v0) q87.2).bind fun a91 =>
    (mX2_set F a91 ((v3 * v4) + v6) ((v3 * v5) + v7) ((v3 * q78.1) + q87.1) q87.2).bind fun q91 =>
    r v0 v1 v2 v3 v4 v5 v6 (v7 + (1 : Int32)) q91)
def mX2_fillPair_l51 (F : Nat) (k100 : Nat → (Option Nat) → (Option Nat) → Int32 → Int32 → Int32 → Int32 → gW → Option (gW)) : Nat → Nat → (Option Nat) → (Option Nat) → Int32 → Int32 → Int32 → Int32 → Int32 → gW → Option (gW)
  | 0, _, _, _, _, _, _, _, _, _ => none
  | n + 1, v0, v1, v2, v3, v4, v5, v6, v7, w => mX2_fillPair_h51 F (mX2_fillPair_l51 F k100 n) k100 v0 v1 v2 v3 v4 v5 v6 v7 w
def mX2_fillPair_h42 (F : Nat) (r : Nat → (Option Nat) → (Option Nat) → Int32 → Int32 → Int32 → Int32 → gW → Option (gW)) (k106 : Nat → (Option Nat) → (Option Nat) → Int32 → Int32 → Int32 → gW → Option (gW)) (v0 : Nat) (v1 : Option Nat) (v2 : Option Nat) (v3 : Int32) (v4 : Int32) (v5 : Int32) (v6 : Int32) (w : gW) : Option (gW) :=
  if v3 ≤ v6 then
    (k106 v0 v1 v2 v3 v4 v5 w)
  else
    (mX2_fillPair_l51 F (fun (v0 : Nat) (v1 : Option Nat) (v2 : Option Nat) (v3 : Int32) (v4 : Int32) (v5 : Int32) (v6 : Int32) (w : gW) => r v0 v1 v2 v3 v4 v5 (v6 + (1 : Int32)) w) F v0 v1 v2 v3 v4 v5 v6 (0 : Int32) w)
def mX2_fillPair_l42 (F : Nat) (k106 : Nat → (Option Nat) → (Option Nat) → Int32 → Int32 → Int32 → gW → Option (gW)) : Nat → Nat → (Option Nat) → (Option Nat) → Int32 → Int32 → Int32 → Int32 → gW → Option (gW)
  | 0, _, _, _, _, _, _, _, _ => none
  | n + 1, v0, v1, v2, v3, v4, v5, v6, w => mX2_fillPair_h42 F (mX2_fillPair_l42 F k106 n) k106 v0 v1 v2 v3 v4 v5 v6 w
def mX2_fillPair_h30 (F : Nat) (r : Nat → (Option Nat) → (Option Nat) → Int32 → Int32 → Int32 → gW → Option (gW)) (k112 : Nat → (Option Nat) → (Option Nat) → Int32 → Int32 → gW → Option (gW)) (v0 : Nat) (v1 : Option Nat) (v2 : Option Nat) (v3 : Int32) (v4 : Int32) (v5 : Int32) (w : gW) : Option (gW) :=
  (gFI 2 7 v1 w).bind fun t33 =>
  if t33 ≤ v5 then
    (k112 v0 v1 v2 v3 v4 w)
  else
    (mX2_fillPair_l42 F (fun (v0 : Nat) (v1 : Option Nat) (v2 : Option Nat) (v3 : Int32) (v4 : Int32) (v5 : Int32) (w : gW) => r v0 v1 v2 v3 v4 (v5 + (1 : Int32)) w) F v0 v1 v2 v3 v4 v5 (0 : Int32) w)
def mX2_fillPair_l30 (F : Nat) (k112 : Nat → (Option Nat) → (Option Nat) → Int32 → Int32 → gW → Option (gW)) : Nat → Nat → (Option Nat) → (Option Nat) → Int32 → Int32 → Int32 → gW → Option (gW)
  | 0, _, _, _, _, _, _, _ => none
  | n + 1, v0, v1, v2, v3, v4, v5, w => mX2_fillPair_h30 F (mX2_fillPair_l30 F k112 n) k112 v0 v1 v2 v3 v4 v5 w
def mX2_fillPair_h18 (F : Nat) (r : Nat → (Option Nat) → (Option Nat) → Int32 → Int32 → gW → Option (gW)) (v0 : Nat) (v1 : Option Nat) (v2 : Option Nat) (v3 : Int32) (v4 : Int32) (w : gW) : Option (gW) :=
  (gFI 2 7 v1 w).bind fun t21 =>
  if t21 ≤ v4 then
    (some w)
  else
    (mX2_fillPair_l30 F (fun (v0 : Nat) (v1 : Option Nat) (v2 : Option Nat) (v3 : Int32) (v4 : Int32) (w : gW) => r v0 v1 v2 v3 (v4 + (1 : Int32)) w) F v0 v1 v2 v3 v4 (0 : Int32) w)
def mX2_fillPair_l18 (F : Nat) : Nat → Nat → (Option Nat) → (Option Nat) → Int32 → Int32 → gW → Option (gW)
  | 0, _, _, _, _, _, _ => none
  | n + 1, v0, v1, v2, v3, v4, w => mX2_fillPair_h18 F (mX2_fillPair_l18 F n) v0 v1 v2 v3 v4 w
def mX2_fillPair (F : Nat) (v0 : Nat) (v1 : Option Nat) (v2 : Option Nat) (w : gW) : Option (gW) :=
  (gFI 2 7 v2 w).bind fun t1 =>
  (gFI 2 7 v1 w).bind fun t7 =>
  (gP 2 7 (some v0) (.inl (t7 * t1)) w).bind fun w12 =>
  mX2_fillPair_l18 F F v0 v1 v2 t1 (0 : Int32) w12
def mX2_fillUnits_h18 (F : Nat) (r : Nat → Int32 → Int32 → gW → Option (gW)) (k57 : Nat → Int32 → gW → Option (gW)) (v0 : Nat) (v1 : Int32) (v2 : Int32) (w : gW) : Option (gW) :=
  (gFI 2 7 (some v0) w).bind fun t20 =>
  if t20 ≤ v2 then
    (k57 v0 v1 w)
  else
    ((gUn (((v1 &&& (3 : Int32)) * (4 : Int32)) + (v2 &&& (3 : Int32)))).bind fun t41 =>
    (gO 2 (some v0) w).bind fun a48 =>
    (mX2_set F a48 v1 v2 (t41 ^^^ ((v1 ^^^ v2) &&& (4 : Int32))) w).bind fun q48 =>
    r v0 v1 (v2 + (1 : Int32)) q48)
def mX2_fillUnits_l18 (F : Nat) (k57 : Nat → Int32 → gW → Option (gW)) : Nat → Nat → Int32 → Int32 → gW → Option (gW)
  | 0, _, _, _, _ => none
  | n + 1, v0, v1, v2, w => mX2_fillUnits_h18 F (mX2_fillUnits_l18 F k57 n) k57 v0 v1 v2 w
def mX2_fillUnits_h8 (F : Nat) (r : Nat → Int32 → gW → Option (gW)) (v0 : Nat) (v1 : Int32) (w : gW) : Option (gW) :=
  (gFI 2 7 (some v0) w).bind fun t10 =>
  if t10 ≤ v1 then
    (some w)
  else
    (mX2_fillUnits_l18 F (fun (v0 : Nat) (v1 : Int32) (w : gW) => r v0 (v1 + (1 : Int32)) w) F v0 v1 (0 : Int32) w)
def mX2_fillUnits_l8 (F : Nat) : Nat → Nat → Int32 → gW → Option (gW)
  | 0, _, _, _ => none
  | n + 1, v0, v1, w => mX2_fillUnits_h8 F (mX2_fillUnits_l8 F n) v0 v1 w
def mX2_fillUnits (F : Nat) (v0 : Nat) (w : gW) : Option (gW) :=
  (gP 2 7 (some v0) (.inl (8 : Int32)) w).bind fun w3 =>
  mX2_fillUnits_l8 F F v0 (0 : Int32) w3
def mX2_findInverse_h2 (F : Nat) (r : Nat → Int32 → Int32 → gW → Option (Int32 × gW)) (v0 : Nat) (v1 : Int32) (v2 : Int32) (w : gW) : Option (Int32 × gW) :=
  (gFI 2 7 (some v0) w).bind fun t4 =>
  if t4 ≤ v2 then
    (some ((-1 : Int32), w))
  else
    ((gO 2 (some v0) w).bind fun a13 =>
    (mX2_mul F a13 v1 v2 w).bind fun q13 =>
    if q13.1 = 0 then
      (some (v2, q13.2))
    else
      (r v0 v1 (v2 + (1 : Int32)) q13.2))
def mX2_findInverse_l2 (F : Nat) : Nat → Nat → Int32 → Int32 → gW → Option (Int32 × gW)
  | 0, _, _, _, _ => none
  | n + 1, v0, v1, v2, w => mX2_findInverse_h2 F (mX2_findInverse_l2 F n) v0 v1 v2 w
def mX2_findInverse (F : Nat) (v0 : Nat) (v1 : Int32) (w : gW) : Option (Int32 × gW) :=
  mX2_findInverse_l2 F F v0 v1 (0 : Int32) w
def mX2_findPeriod_h4 (F : Nat) (r : Nat → Int32 → Int32 → Int32 → gW → Option (Int32 × gW)) (v0 : Nat) (v1 : Int32) (v2 : Int32) (v3 : Int32) (w : gW) : Option (Int32 × gW) :=
  if v3 = 0 then
    (some (v2, w))
  else
    ((gFI 2 7 (some v0) w).bind fun t10 =>
    if t10 ≤ v2 then
      (some (v2, w))
    else
      ((gO 2 (some v0) w).bind fun a22 =>
      (mX2_mul F a22 v3 v1 w).bind fun q22 =>
      r v0 v1 (v2 + (1 : Int32)) q22.1 q22.2))
def mX2_findPeriod_l4 (F : Nat) : Nat → Nat → Int32 → Int32 → Int32 → gW → Option (Int32 × gW)
  | 0, _, _, _, _, _ => none
  | n + 1, v0, v1, v2, v3, w => mX2_findPeriod_h4 F (mX2_findPeriod_l4 F n) v0 v1 v2 v3 w
def mX2_findPeriod (F : Nat) (v0 : Nat) (v1 : Int32) (w : gW) : Option (Int32 × gW) :=
  mX2_findPeriod_l4 F F v0 v1 (1 : Int32) v1 w
def mX2_firstUnlike_h22 (F : Nat) (r : Nat → Int32 → Int32 → Int32 → gW → Option (Int32 × gW)) (k82 : Nat → Int32 → Int32 → gW → Option (Int32 × gW)) (k55 : Nat → Int32 → Int32 → Int32 → gW → Option (Int32 × gW)) (v0 : Nat) (v1 : Int32) (v2 : Int32) (v3 : Int32) (w : gW) : Option (Int32 × gW) :=
  (gFI 2 7 (some v0) w).bind fun t24 =>
  if t24 ≤ v3 then
    (k82 v0 v1 v2 w)
  else
    ((gO 2 (some v0) w).bind fun a34 =>
    (mX2_mul F a34 v1 v2 w).bind fun q34 =>
    (gO 2 (some v0) q34.2).bind fun a38 =>
    (mX2_mul F a38 q34.1 v3 q34.2).bind fun q38 =>
    (gO 2 (some v0) q38.2).bind fun a46 =>
    (mX2_mul F a46 v2 v3 q38.2).bind fun q46 =>
    (gO 2 (some v0) q46.2).bind fun a49 =>
    (mX2_mul F a49 v1 q46.1 q46.2).bind fun q49 =>
    if q38.1 = q49.1 then
      (r v0 v1 v2 (v3 + (1 : Int32)) q49.2)
    else
      (k55 v0 v1 v2 v3 q49.2))
def mX2_firstUnlike_l22 (F : Nat) (k82 : Nat → Int32 → Int32 → gW → Option (Int32 × gW)) (k55 : Nat → Int32 → Int32 → Int32 → gW → Option (Int32 × gW)) : Nat → Nat → Int32 → Int32 → Int32 → gW → Option (Int32 × gW)
  | 0, _, _, _, _, _ => none
  | n + 1, v0, v1, v2, v3, w => mX2_firstUnlike_h22 F (mX2_firstUnlike_l22 F k82 k55 n) k82 k55 v0 v1 v2 v3 w
def mX2_firstUnlike_h12 (F : Nat) (r : Nat → Int32 → Int32 → gW → Option (Int32 × gW)) (k88 : Nat → Int32 → gW → Option (Int32 × gW)) (k55 : Nat → Int32 → Int32 → Int32 → gW → Option (Int32 × gW)) (v0 : Nat) (v1 : Int32) (v2 : Int32) (w : gW) : Option (Int32 × gW) :=
  (gFI 2 7 (some v0) w).bind fun t14 =>
  if t14 ≤ v2 then
    (k88 v0 v1 w)
  else
    (mX2_firstUnlike_l22 F (fun (v0 : Nat) (v1 : Int32) (v2 : Int32) (w : gW) => r v0 v1 (v2 + (1 : Int32)) w) (fun (v0 : Nat) (v1 : Int32) (v2 : Int32) (v3 : Int32) (w : gW) => k55 v0 v1 v2 v3 w) F v0 v1 v2 (0 : Int32) w)
def mX2_firstUnlike_l12 (F : Nat) (k88 : Nat → Int32 → gW → Option (Int32 × gW)) (k55 : Nat → Int32 → Int32 → Int32 → gW → Option (Int32 × gW)) : Nat → Nat → Int32 → Int32 → gW → Option (Int32 × gW)
  | 0, _, _, _, _ => none
  | n + 1, v0, v1, v2, w => mX2_firstUnlike_h12 F (mX2_firstUnlike_l12 F k88 k55 n) k88 k55 v0 v1 v2 w
def mX2_firstUnlike_h2 (F : Nat) (r : Nat → Int32 → gW → Option (Int32 × gW)) (k55 : Nat → Int32 → Int32 → Int32 → gW → Option (Int32 × gW)) (v0 : Nat) (v1 : Int32) (w : gW) : Option (Int32 × gW) :=
  (gFI 2 7 (some v0) w).bind fun t4 =>
  if t4 ≤ v1 then
    (some ((-1 : Int32), w))
  else
    (mX2_firstUnlike_l12 F (fun (v0 : Nat) (v1 : Int32) (w : gW) => r v0 (v1 + (1 : Int32)) w) (fun (v0 : Nat) (v1 : Int32) (v2 : Int32) (v3 : Int32) (w : gW) => k55 v0 v1 v2 v3 w) F v0 v1 (0 : Int32) w)
def mX2_firstUnlike_l2 (F : Nat) (k55 : Nat → Int32 → Int32 → Int32 → gW → Option (Int32 × gW)) : Nat → Nat → Int32 → gW → Option (Int32 × gW)
  | 0, _, _, _ => none
  | n + 1, v0, v1, w => mX2_firstUnlike_h2 F (mX2_firstUnlike_l2 F k55 n) k55 v0 v1 w
def mX2_firstUnlike (F : Nat) (v0 : Nat) (w : gW) : Option (Int32 × gW) :=
  mX2_firstUnlike_l2 F (fun (v0 : Nat) (v1 : Int32) (v2 : Int32) (v3 : Int32) (w : gW) => (gFI 2 7 (some v0) w).bind fun t56 =>
    (gFI 2 7 (some v0) w).bind fun t60 =>
    (gFI 2 7 (some v0) w).bind fun t67 =>
    some (((((t56 * t60) * v1) + (t67 * v2)) + v3), w)) F v0 (0 : Int32) w
def mX2_leastTurned_h4 (F : Nat) (r : Nat → Int32 → Int32 → Int32 → gW → Option (Int32 × gW)) (v0 : Nat) (v1 : Int32) (v2 : Int32) (v3 : Int32) (w : gW) : Option (Int32 × gW) :=
  (gFI 2 7 (some v0) w).bind fun t6 =>
  if t6 ≤ v3 then
    (some (v2, w))
  else
    ((gO 2 (some v0) w).bind fun a17 =>
    (mX2_mul F a17 v3 v1 w).bind fun q17 =>
    (gFR 2 3 (some v0) q17.2).bind fun t21 =>
    (gLI t21 v3 q17.2).bind fun t25 =>
    (gO 2 (some v0) q17.2).bind fun a26 =>
    (mX2_mul F a26 q17.1 t25 q17.2).bind fun q26 =>
    (mJ9_min_7cf53 F v2 q26.1 q26.2).bind fun q29 =>
    r v0 v1 q29.1 (v3 + (1 : Int32)) q29.2)
def mX2_leastTurned_l4 (F : Nat) : Nat → Nat → Int32 → Int32 → Int32 → gW → Option (Int32 × gW)
  | 0, _, _, _, _, _ => none
  | n + 1, v0, v1, v2, v3, w => mX2_leastTurned_h4 F (mX2_leastTurned_l4 F n) v0 v1 v2 v3 w
def mX2_leastTurned (F : Nat) (v0 : Nat) (v1 : Int32) (w : gW) : Option (Int32 × gW) :=
  mX2_leastTurned_l4 F F v0 v1 v1 (0 : Int32) w
def mX2_span_b96 (F : Nat) (r : Nat → (Option Nat) → Int32 → Int64 → Int32 → Int32 → Int32 → gW → Option (Int64 × gW)) (k102 : Nat → (Option Nat) → Int32 → Int64 → Int32 → Int32 → gW → Option (Int64 × gW)) (v0 : Nat) (v1 : Option Nat) (v2 : Int32) (v3 : Int64) (v5 : Int32) (v6 : Int32) (v7 : Int32) (w : gW) : Option (Int64 × gW) :=
  r v0 v1 v2 v3 v5 v6 (v7 + (1 : Int32)) w
def mX2_span_h34 (F : Nat) (r : Nat → (Option Nat) → Int32 → Int64 → Int32 → Int32 → Int32 → gW → Option (Int64 × gW)) (k102 : Nat → (Option Nat) → Int32 → Int64 → Int32 → Int32 → gW → Option (Int64 × gW)) (v0 : Nat) (v1 : Option Nat) (v2 : Int32) (v3 : Int64) (v5 : Int32) (v6 : Int32) (v7 : Int32) (w : gW) : Option (Int64 × gW) :=
  if v2 ≤ v7 then
    (k102 v0 v1 v2 v3 v5 v6 w)
  else
    ((gFR 2 1 (some v0) w).bind fun t42 =>
    (gLI t42 v6 w).bind fun t47 =>
    (gLI v1 v7 w).bind fun t51 =>
    (gO 2 (some v0) w).bind fun a52 =>
    (mX2_mul F a52 t47 t51 w).bind fun q52 =>
    if (lg_cmp ((v3 >>> ((q52.1).toInt64 &&& 63)) &&& (1 : Int64)) (0 : Int64)) = 0 then
      ((gFI 2 7 (some v0) q52.2).bind fun t71 =>
      if t71 ≤ v5 then
        (mX2_span_b96 F r k102 v0 v1 v2 v3 v5 v6 v7 q52.2)
      else
        ((gFR 2 1 (some v0) q52.2).bind fun t85 =>
        (gSI t85 v5 q52.1 q52.2).bind fun w92 =>
        mX2_span_b96 F r k102 v0 v1 v2 (v3 ||| ((1 : Int64) <<< ((q52.1).toInt64 &&& 63))) (v5 + (1 : Int32)) v6 v7 w92))
    else
      (mX2_span_b96 F r k102 v0 v1 v2 v3 v5 v6 v7 q52.2))
def mX2_span_l34 (F : Nat) (k102 : Nat → (Option Nat) → Int32 → Int64 → Int32 → Int32 → gW → Option (Int64 × gW)) : Nat → Nat → (Option Nat) → Int32 → Int64 → Int32 → Int32 → Int32 → gW → Option (Int64 × gW)
  | 0, _, _, _, _, _, _, _, _ => none
  | n + 1, v0, v1, v2, v3, v5, v6, v7, w => mX2_span_h34 F (mX2_span_l34 F k102 n) k102 v0 v1 v2 v3 v5 v6 v7 w
def mX2_span_h15 (F : Nat) (r : Nat → (Option Nat) → Int32 → Int64 → Int32 → Int32 → gW → Option (Int64 × gW)) (v0 : Nat) (v1 : Option Nat) (v2 : Int32) (v3 : Int64) (v5 : Int32) (v6 : Int32) (w : gW) : Option (Int64 × gW) :=
  if v5 ≤ v6 then
    (some (v3, w))
  else
    ((gFI 2 7 (some v0) w).bind fun t25 =>
    if t25 ≤ v6 then
      (some (v3, w))
    else
      (mX2_span_l34 F (fun (v0 : Nat) (v1 : Option Nat) (v2 : Int32) (v3 : Int64) (v5 : Int32) (v6 : Int32) (w : gW) => r v0 v1 v2 v3 v5 (v6 + (1 : Int32)) w) F v0 v1 v2 v3 v5 v6 (0 : Int32) w))
def mX2_span_l15 (F : Nat) : Nat → Nat → (Option Nat) → Int32 → Int64 → Int32 → Int32 → gW → Option (Int64 × gW)
  | 0, _, _, _, _, _, _, _ => none
  | n + 1, v0, v1, v2, v3, v5, v6, w => mX2_span_h15 F (mX2_span_l15 F n) v0 v1 v2 v3 v5 v6 w
def mX2_span (F : Nat) (v0 : Nat) (v1 : Option Nat) (v2 : Int32) (w : gW) : Option (Int64 × gW) :=
  (gFR 2 1 (some v0) w).bind fun t6 =>
  (gSI t6 (0 : Int32) (0 : Int32) w).bind fun w11 =>
  mX2_span_l15 F F v0 v1 v2 (1 : Int64) (1 : Int32) (0 : Int32) w11
def mX3_goesWithProducts_h17 (F : Nat) (r : Nat → (Option Nat) → (Option Nat) → Int32 → Int32 → gW → Option (Int32 × gW)) (k97 : Nat → (Option Nat) → (Option Nat) → gW → Option (Int32 × gW)) (v0 : Nat) (v1 : Option Nat) (v2 : Option Nat) (v3 : Int32) (v4 : Int32) (w : gW) : Option (Int32 × gW) :=
  (gFI 2 7 v1 w).bind fun t20 =>
  if t20 ≤ v4 then
    (k97 v0 v1 v2 w)
  else
    ((gFR 3 3 (some v0) w).bind fun t28 =>
    (gFR 3 1 (some v0) w).bind fun t32 =>
    (gLI t32 v4 w).bind fun t37 =>
    (gLI t28 t37 w).bind fun t38 =>
    (gFR 3 5 (some v0) w).bind fun t40 =>
    (gFR 3 2 (some v0) w).bind fun t44 =>
    (gLI t44 v4 w).bind fun t49 =>
    (gLI t40 t49 w).bind fun t50 =>
    (gO 2 v2 w).bind fun a51 =>
    (mX2_mul F a51 t38 t50 w).bind fun q51 =>
    (gFR 3 4 (some v0) q51.2).bind fun t57 =>
    (gLI t57 q51.1 q51.2).bind fun t62 =>
    if t62 = v3 then
      (some ((0 : Int32), q51.2))
    else
      ((gFR 3 4 (some v0) q51.2).bind fun t70 =>
      (gSI t70 q51.1 v3 q51.2).bind fun w76 =>
      (gFR 3 3 (some v0) w76).bind fun t78 =>
      (gFR 3 0 (some v0) w76).bind fun t82 =>
      (gLI t82 v4 w76).bind fun t87 =>
      (gSI t78 t87 q51.1 w76).bind fun w90 =>
      r v0 v1 v2 v3 (v4 + (1 : Int32)) w90))
def mX3_goesWithProducts_l17 (F : Nat) (k97 : Nat → (Option Nat) → (Option Nat) → gW → Option (Int32 × gW)) : Nat → Nat → (Option Nat) → (Option Nat) → Int32 → Int32 → gW → Option (Int32 × gW)
  | 0, _, _, _, _, _, _ => none
  | n + 1, v0, v1, v2, v3, v4, w => mX3_goesWithProducts_h17 F (mX3_goesWithProducts_l17 F k97 n) k97 v0 v1 v2 v3 v4 w
def mX3_goesWithProducts_h112 (F : Nat) (r : Nat → (Option Nat) → (Option Nat) → Int32 → Int32 → gW → Option (Int32 × gW)) (k168 : Nat → (Option Nat) → (Option Nat) → Int32 → gW → Option (Int32 × gW)) (v0 : Nat) (v1 : Option Nat) (v2 : Option Nat) (v4 : Int32) (v5 : Int32) (w : gW) : Option (Int32 × gW) :=
  (gFI 3 7 (some v0) w).bind fun t115 =>
  if t115 ≤ v5 then
    (k168 v0 v1 v2 v4 w)
  else
    ((gFR 3 3 (some v0) w).bind fun t123 =>
    (gLI t123 v4 w).bind fun t128 =>
    (gFR 3 5 (some v0) w).bind fun t130 =>
    (gLI t130 v5 w).bind fun t135 =>
    (gO 2 v2 w).bind fun a136 =>
    (mX2_mul F a136 t128 t135 w).bind fun q136 =>
    (gFR 3 3 (some v0) q136.2).bind fun t140 =>
    (gFR 2 5 v1 q136.2).bind fun t147 =>
    (gLI t147 v5 q136.2).bind fun t152 =>
    (gO 2 v1 q136.2).bind fun a153 =>
    (mX2_mul F a153 v4 t152 q136.2).bind fun q153 =>
    (gLI t140 q153.1 q153.2).bind fun t156 =>
    if q136.1 = t156 then
      (r v0 v1 v2 v4 (v5 + (1 : Int32)) q153.2)
    else
      (some ((0 : Int32), q153.2)))
def mX3_goesWithProducts_l112 (F : Nat) (k168 : Nat → (Option Nat) → (Option Nat) → Int32 → gW → Option (Int32 × gW)) : Nat → Nat → (Option Nat) → (Option Nat) → Int32 → Int32 → gW → Option (Int32 × gW)
  | 0, _, _, _, _, _, _ => none
  | n + 1, v0, v1, v2, v4, v5, w => mX3_goesWithProducts_h112 F (mX3_goesWithProducts_l112 F k168 n) k168 v0 v1 v2 v4 v5 w
def mX3_goesWithProducts_h100 (F : Nat) (r : Nat → (Option Nat) → (Option Nat) → Int32 → gW → Option (Int32 × gW)) (v0 : Nat) (v1 : Option Nat) (v2 : Option Nat) (v4 : Int32) (w : gW) : Option (Int32 × gW) :=
  (gFI 2 7 v1 w).bind fun t103 =>
  if t103 ≤ v4 then
    (some ((1 : Int32), w))
  else
    (mX3_goesWithProducts_l112 F (fun (v0 : Nat) (v1 : Option Nat) (v2 : Option Nat) (v4 : Int32) (w : gW) => r v0 v1 v2 (v4 + (1 : Int32)) w) F v0 v1 v2 v4 (0 : Int32) w)
def mX3_goesWithProducts_l100 (F : Nat) : Nat → Nat → (Option Nat) → (Option Nat) → Int32 → gW → Option (Int32 × gW)
  | 0, _, _, _, _, _ => none
  | n + 1, v0, v1, v2, v4, w => mX3_goesWithProducts_h100 F (mX3_goesWithProducts_l100 F n) v0 v1 v2 v4 w
def mX3_goesWithProducts (F : Nat) (v0 : Nat) (v1 : Option Nat) (v2 : Option Nat) (v3 : Int32) (w : gW) : Option (Int32 × gW) :=
  (gFR 3 3 (some v0) w).bind fun t1 =>
  (gSI t1 (0 : Int32) (0 : Int32) w).bind fun w6 =>
  (gFR 3 4 (some v0) w6).bind fun t8 =>
  (gSI t8 (0 : Int32) v3 w6).bind fun w13 =>
  mX3_goesWithProducts_l17 F (fun (v0 : Nat) (v1 : Option Nat) (v2 : Option Nat) (w : gW) => mX3_goesWithProducts_l100 F F v0 v1 v2 (0 : Int32) w) F v0 v1 v2 v3 (1 : Int32) w13
def mX3_layPaths_b125 (F : Nat) (r : Nat → (Option Nat) → Int64 → Int32 → Int32 → Int32 → gW → Option (gW)) (k131 : Nat → (Option Nat) → Int64 → Int32 → Int32 → gW → Option (gW)) (v0 : Nat) (v1 : Option Nat) (v2 : Int64) (v4 : Int32) (v5 : Int32) (v6 : Int32) (w : gW) : Option (gW) :=
  r v0 v1 v2 v4 v5 (v6 + (1 : Int32)) w
def mX3_layPaths_h34 (F : Nat) (r : Nat → (Option Nat) → Int64 → Int32 → Int32 → Int32 → gW → Option (gW)) (k131 : Nat → (Option Nat) → Int64 → Int32 → Int32 → gW → Option (gW)) (v0 : Nat) (v1 : Option Nat) (v2 : Int64) (v4 : Int32) (v5 : Int32) (v6 : Int32) (w : gW) : Option (gW) :=
  (gFI 3 7 (some v0) w).bind fun t37 =>
  if t37 ≤ v6 then
    (k131 v0 v1 v2 v4 v5 w)
  else
    ((gFR 3 0 (some v0) w).bind fun t45 =>
    (gLI t45 v5 w).bind fun t50 =>
    (gFR 2 5 v1 w).bind fun t52 =>
    (gLI t52 v6 w).bind fun t57 =>
    (gO 2 v1 w).bind fun a58 =>
    (mX2_mul F a58 t50 t57 w).bind fun q58 =>
    if (lg_cmp ((v2 >>> ((q58.1).toInt64 &&& 63)) &&& (1 : Int64)) (0 : Int64)) = 0 then
      ((gFI 2 7 v1 q58.2).bind fun t77 =>
      if t77 ≤ v4 then
        (mX3_layPaths_b125 F r k131 v0 v1 v2 v4 v5 v6 q58.2)
      else
        ((gFR 3 0 (some v0) q58.2).bind fun t91 =>
        (gSI t91 v4 q58.1 q58.2).bind fun w98 =>
        (gFR 3 1 (some v0) w98).bind fun t100 =>
        (gFR 3 0 (some v0) w98).bind fun t106 =>
        (gLI t106 v5 w98).bind fun t111 =>
        (gSI t100 v4 t111 w98).bind fun w112 =>
        (gFR 3 2 (some v0) w112).bind fun t114 =>
        (gSI t114 v4 v6 w112).bind fun w121 =>
        mX3_layPaths_b125 F r k131 v0 v1 (v2 ||| ((1 : Int64) <<< ((q58.1).toInt64 &&& 63))) (v4 + (1 : Int32)) v5 v6 w121))
    else
      (mX3_layPaths_b125 F r k131 v0 v1 v2 v4 v5 v6 q58.2))
def mX3_layPaths_l34 (F : Nat) (k131 : Nat → (Option Nat) → Int64 → Int32 → Int32 → gW → Option (gW)) : Nat → Nat → (Option Nat) → Int64 → Int32 → Int32 → Int32 → gW → Option (gW)
  | 0, _, _, _, _, _, _, _ => none
  | n + 1, v0, v1, v2, v4, v5, v6, w => mX3_layPaths_h34 F (mX3_layPaths_l34 F k131 n) k131 v0 v1 v2 v4 v5 v6 w
def mX3_layPaths_h15 (F : Nat) (r : Nat → (Option Nat) → Int64 → Int32 → Int32 → gW → Option (gW)) (v0 : Nat) (v1 : Option Nat) (v2 : Int64) (v4 : Int32) (v5 : Int32) (w : gW) : Option (gW) :=
  if v4 ≤ v5 then
    (some w)
  else
    ((gFI 2 7 v1 w).bind fun t25 =>
    if t25 ≤ v5 then
      (some w)
    else
      (mX3_layPaths_l34 F (fun (v0 : Nat) (v1 : Option Nat) (v2 : Int64) (v4 : Int32) (v5 : Int32) (w : gW) => r v0 v1 v2 v4 (v5 + (1 : Int32)) w) F v0 v1 v2 v4 v5 (0 : Int32) w))
def mX3_layPaths_l15 (F : Nat) : Nat → Nat → (Option Nat) → Int64 → Int32 → Int32 → gW → Option (gW)
  | 0, _, _, _, _, _, _ => none
  | n + 1, v0, v1, v2, v4, v5, w => mX3_layPaths_h15 F (mX3_layPaths_l15 F n) v0 v1 v2 v4 v5 w
def mX3_layPaths (F : Nat) (v0 : Nat) (v1 : Option Nat) (w : gW) : Option (gW) :=
  (gFR 3 0 (some v0) w).bind fun t6 =>
  (gSI t6 (0 : Int32) (0 : Int32) w).bind fun w11 =>
  mX3_layPaths_l15 F F v0 v1 (1 : Int64) (1 : Int32) (0 : Int32) w11
def mX3_likeInPeriods_h10 (F : Nat) (r : Nat → (Option Nat) → (Option Nat) → Int32 → gW → Option (Int32 × gW)) (k54 : Nat → gW → Option (Int32 × gW)) (v0 : Nat) (v1 : Option Nat) (v2 : Option Nat) (v3 : Int32) (w : gW) : Option (Int32 × gW) :=
  (gFI 2 7 v1 w).bind fun t12 =>
  if t12 ≤ v3 then
    (k54 v0 w)
  else
    ((gFR 3 6 (some v0) w).bind fun t19 =>
    (gFR 2 4 v1 w).bind fun t23 =>
    (gLI t23 v3 w).bind fun t27 =>
    (gLI t19 t27 w).bind fun t29 =>
    (gSI t19 t27 (t29 + (1 : Int32)) w).bind fun w32 =>
    (gFR 3 6 (some v0) w32).bind fun t34 =>
    (gFR 2 4 v2 w32).bind fun t38 =>
    (gLI t38 v3 w32).bind fun t42 =>
    (gLI t34 t42 w32).bind fun t44 =>
    (gSI t34 t42 (t44 - (1 : Int32)) w32).bind fun w47 =>
    r v0 v1 v2 (v3 + (1 : Int32)) w47)
def mX3_likeInPeriods_l10 (F : Nat) (k54 : Nat → gW → Option (Int32 × gW)) : Nat → Nat → (Option Nat) → (Option Nat) → Int32 → gW → Option (Int32 × gW)
  | 0, _, _, _, _, _ => none
  | n + 1, v0, v1, v2, v3, w => mX3_likeInPeriods_h10 F (mX3_likeInPeriods_l10 F k54 n) k54 v0 v1 v2 v3 w
def mX3_likeInPeriods_h56 (F : Nat) (r : Nat → Int32 → gW → Option (Int32 × gW)) (v0 : Nat) (v3 : Int32) (w : gW) : Option (Int32 × gW) :=
  (gFR 3 6 (some v0) w).bind fun t58 =>
  (gLen t58 w).bind fun t61 =>
  if t61 ≤ v3 then
    (some ((1 : Int32), w))
  else
    ((gFR 3 6 (some v0) w).bind fun t66 =>
    (gLI t66 v3 w).bind fun t70 =>
    if t70 = 0 then
      (r v0 (v3 + (1 : Int32)) w)
    else
      (some ((0 : Int32), w)))
def mX3_likeInPeriods_l56 (F : Nat) : Nat → Nat → Int32 → gW → Option (Int32 × gW)
  | 0, _, _, _ => none
  | n + 1, v0, v3, w => mX3_likeInPeriods_h56 F (mX3_likeInPeriods_l56 F n) v0 v3 w
def mX3_likeInPeriods (F : Nat) (v0 : Nat) (v1 : Option Nat) (v2 : Option Nat) (w : gW) : Option (Int32 × gW) :=
  (gFR 3 6 (some v0) w).bind fun t1 =>
  (mJ7_fill_53178 F t1 (0 : Int32) w).bind fun q5 =>
  mX3_likeInPeriods_l10 F (fun (v0 : Nat) (w : gW) => mX3_likeInPeriods_l56 F F v0 (0 : Int32) w) F v0 v1 v2 (0 : Int32) q5
def mX3_stepGiven_h7 (F : Nat) (r : Nat → (Option Nat) → (Option Nat) → Int32 → gW → Option (Int32 × gW)) (k46 : Nat → Int32 → Int32 → gW → Option (Int32 × gW)) (v0 : Nat) (v1 : Option Nat) (v2 : Option Nat) (v3 : Int32) (w : gW) : Option (Int32 × gW) :=
  if v3 < 0 then
    (some ((0 : Int32), w))
  else
    ((gFR 2 4 v1 w).bind fun t12 =>
    (gFR 2 5 v1 w).bind fun t16 =>
    (gLI t16 v3 w).bind fun t20 =>
    (gLI t12 t20 w).bind fun t21 =>
    (gFR 3 5 (some v0) w).bind fun t29 =>
    (gLI t29 v3 w).bind fun t33 =>
    (gO 3 (some v0) w).bind fun a36 =>
    (mX3_nextOfPeriod F a36 v2 t21 (t33 + (1 : Int32)) w).bind fun q36 =>
    if q36.1 < 0 then
      ((gFR 3 5 (some v0) q36.2).bind fun t57 =>
      (gO 3 (some v0) q36.2).bind fun a66 =>
      (mX3_nextOfPeriod F a66 v2 t21 (0 : Int32) q36.2).bind fun q66 =>
      (gSI t57 v3 q66.1 q66.2).bind fun w69 =>
      r v0 v1 v2 (v3 + (-1 : Int32)) w69)
    else
      (k46 v0 v3 q36.1 q36.2))
def mX3_stepGiven_l7 (F : Nat) (k46 : Nat → Int32 → Int32 → gW → Option (Int32 × gW)) : Nat → Nat → (Option Nat) → (Option Nat) → Int32 → gW → Option (Int32 × gW)
  | 0, _, _, _, _, _ => none
  | n + 1, v0, v1, v2, v3, w => mX3_stepGiven_h7 F (mX3_stepGiven_l7 F k46 n) k46 v0 v1 v2 v3 w
def mX3_stepGiven (F : Nat) (v0 : Nat) (v1 : Option Nat) (v2 : Option Nat) (w : gW) : Option (Int32 × gW) :=
  (gFI 3 7 (some v0) w).bind fun t1 =>
  mX3_stepGiven_l7 F (fun (v0 : Nat) (v3 : Int32) (v5 : Int32) (w : gW) => (gFR 3 5 (some v0) w).bind fun t47 =>
    (gSI t47 v3 v5 w).bind fun w53 =>
    some ((1 : Int32), w53)) F v0 v1 v2 (t1 - (1 : Int32)) w
def mX4_renew (F : Nat) (v0 : Nat) (v1 : Int32) (v2 : Int32) (w : gW) : Option (gW) :=
  (gP 4 1 (some v0) (.inl v1) w).bind fun w2 =>
  (gP 4 2 (some v0) (.inl v2) w2).bind fun w7 =>
  (gFR 4 0 (some v0) w7).bind fun t11 =>
  (mJ7_fill_53178 F t11 (0 : Int32) w7).bind fun q15 =>
  some q15
def mX5_writeBound_h95 (F : Nat) (r : Nat → (Option Nat) → Int32 → Int32 → Int32 → Int32 → Int32 → gW → Option (gW)) (k143 : Nat → (Option Nat) → Int32 → Int32 → Int32 → Int32 → gW → Option (gW)) (v0 : Nat) (v1 : Option Nat) (v2 : Int32) (v3 : Int32) (v4 : Int32) (v5 : Int32) (v7 : Int32) (w : gW) : Option (gW) :=
  (gFI 0 4 v1 w).bind fun t98 =>
  if t98 ≤ v7 then
    (k143 v0 v1 v2 v3 v4 v5 w)
  else
    (if v5 = v2 then
      ((gFR 5 0 (some v0) w).bind fun t111 =>
      (gO 0 v1 w).bind fun a121 =>
      (mX0_place F a121 v4 v5 v7 w).bind fun q121 =>
      (gLI t111 q121.1 q121.2).bind fun t125 =>
      (gO 0 v1 q121.2).bind fun a132 =>
      (mX0_entry F a132 v4 v7 v3 q121.2).bind fun q132 =>
      (gSI t111 q121.1 (t125 + q132.1) q132.2).bind fun w136 =>
      r v0 v1 v2 v3 v4 v5 (v7 + (1 : Int32)) w136)
    else
      (k143 v0 v1 v2 v3 v4 v5 w))
def mX5_writeBound_l95 (F : Nat) (k143 : Nat → (Option Nat) → Int32 → Int32 → Int32 → Int32 → gW → Option (gW)) : Nat → Nat → (Option Nat) → Int32 → Int32 → Int32 → Int32 → Int32 → gW → Option (gW)
  | 0, _, _, _, _, _, _, _, _ => none
  | n + 1, v0, v1, v2, v3, v4, v5, v7, w => mX5_writeBound_h95 F (mX5_writeBound_l95 F k143 n) k143 v0 v1 v2 v3 v4 v5 v7 w
def mX5_writeBound_b143 (F : Nat) (r : Nat → (Option Nat) → Int32 → Int32 → Int32 → Int32 → gW → Option (gW)) (k149 : Nat → (Option Nat) → Int32 → Int32 → Int32 → gW → Option (gW)) (v0 : Nat) (v1 : Option Nat) (v2 : Int32) (v3 : Int32) (v4 : Int32) (v5 : Int32) (w : gW) : Option (gW) :=
  r v0 v1 v2 v3 v4 (v5 + (1 : Int32)) w
def mX5_writeBound_b92 (F : Nat) (r : Nat → (Option Nat) → Int32 → Int32 → Int32 → Int32 → gW → Option (gW)) (k149 : Nat → (Option Nat) → Int32 → Int32 → Int32 → gW → Option (gW)) (v0 : Nat) (v1 : Option Nat) (v2 : Int32) (v3 : Int32) (v4 : Int32) (v5 : Int32) (w : gW) : Option (gW) :=
  mX5_writeBound_l95 F (fun (v0 : Nat) (v1 : Option Nat) (v2 : Int32) (v3 : Int32) (v4 : Int32) (v5 : Int32) (w : gW) => mX5_writeBound_b143 F r k149 v0 v1 v2 v3 v4 v5 w) F v0 v1 v2 v3 v4 v5 (0 : Int32) w
def mX5_writeBound_b66 (F : Nat) (r : Nat → (Option Nat) → Int32 → Int32 → Int32 → Int32 → gW → Option (gW)) (k149 : Nat → (Option Nat) → Int32 → Int32 → Int32 → gW → Option (gW)) (v0 : Nat) (v1 : Option Nat) (v2 : Int32) (v3 : Int32) (v4 : Int32) (v5 : Int32) (v6 : Int32) (w : gW) : Option (gW) :=
  (gFR 0 2 v1 w).bind fun t67 =>
  (gO 2 t67 w).bind fun a74 =>
  (mX2_mul F a74 v4 v5 w).bind fun q74 =>
  if q74.1 = v2 then
    ((gFR 5 0 (some v0) q74.2).bind fun t82 =>
    (gLI t82 v6 q74.2).bind fun t88 =>
    (gSI t82 v6 (t88 - (1 : Int32)) q74.2).bind fun w91 =>
    mX5_writeBound_b92 F r k149 v0 v1 v2 v3 v4 v5 w91)
  else
    (mX5_writeBound_b92 F r k149 v0 v1 v2 v3 v4 v5 q74.2)
def mX5_writeBound_h26 (F : Nat) (r : Nat → (Option Nat) → Int32 → Int32 → Int32 → Int32 → gW → Option (gW)) (k149 : Nat → (Option Nat) → Int32 → Int32 → Int32 → gW → Option (gW)) (v0 : Nat) (v1 : Option Nat) (v2 : Int32) (v3 : Int32) (v4 : Int32) (v5 : Int32) (w : gW) : Option (gW) :=
  (gFR 0 2 v1 w).bind fun t29 =>
  (gFI 2 7 t29 w).bind fun t32 =>
  if t32 ≤ v5 then
    (k149 v0 v1 v2 v3 v4 w)
  else
    ((gO 0 v1 w).bind fun a44 =>
    (mX0_place F a44 v4 v5 v3 w).bind fun q44 =>
    if v4 = v2 then
      ((gFR 5 0 (some v0) q44.2).bind fun t56 =>
      (gLI t56 q44.1 q44.2).bind fun t62 =>
      (gSI t56 q44.1 (t62 + (1 : Int32)) q44.2).bind fun w65 =>
      mX5_writeBound_b66 F r k149 v0 v1 v2 v3 v4 v5 q44.1 w65)
    else
      (mX5_writeBound_b66 F r k149 v0 v1 v2 v3 v4 v5 q44.1 q44.2))
def mX5_writeBound_l26 (F : Nat) (k149 : Nat → (Option Nat) → Int32 → Int32 → Int32 → gW → Option (gW)) : Nat → Nat → (Option Nat) → Int32 → Int32 → Int32 → Int32 → gW → Option (gW)
  | 0, _, _, _, _, _, _, _ => none
  | n + 1, v0, v1, v2, v3, v4, v5, w => mX5_writeBound_h26 F (mX5_writeBound_l26 F k149 n) k149 v0 v1 v2 v3 v4 v5 w
def mX5_writeBound_h11 (F : Nat) (r : Nat → (Option Nat) → Int32 → Int32 → Int32 → gW → Option (gW)) (v0 : Nat) (v1 : Option Nat) (v2 : Int32) (v3 : Int32) (v4 : Int32) (w : gW) : Option (gW) :=
  (gFR 0 2 v1 w).bind fun t14 =>
  (gFI 2 7 t14 w).bind fun t17 =>
  if t17 ≤ v4 then
    (some w)
  else
    (mX5_writeBound_l26 F (fun (v0 : Nat) (v1 : Option Nat) (v2 : Int32) (v3 : Int32) (v4 : Int32) (w : gW) => r v0 v1 v2 v3 (v4 + (1 : Int32)) w) F v0 v1 v2 v3 v4 (1 : Int32) w)
def mX5_writeBound_l11 (F : Nat) : Nat → Nat → (Option Nat) → Int32 → Int32 → Int32 → gW → Option (gW)
  | 0, _, _, _, _, _, _ => none
  | n + 1, v0, v1, v2, v3, v4, w => mX5_writeBound_h11 F (mX5_writeBound_l11 F n) v0 v1 v2 v3 v4 w
def mX5_writeBound (F : Nat) (v0 : Nat) (v1 : Option Nat) (v2 : Int32) (v3 : Int32) (w : gW) : Option (gW) :=
  (gFR 5 0 (some v0) w).bind fun t1 =>
  (mJ7_fill_53178 F t1 (0 : Int32) w).bind fun q5 =>
  mX5_writeBound_l11 F F v0 v1 v2 v3 (1 : Int32) q5
def mX5_writeCocycleRule_h42 (F : Nat) (r : Nat → (Option Nat) → Int32 → Int32 → Int32 → Int32 → Int32 → Int32 → Int32 → Int32 → gW → Option (gW)) (k86 : Nat → (Option Nat) → Int32 → Int32 → Int32 → Int32 → Int32 → Int32 → Int32 → gW → Option (gW)) (v0 : Nat) (v1 : Option Nat) (v2 : Int32) (v3 : Int32) (v4 : Int32) (v5 : Int32) (v6 : Int32) (v7 : Int32) (v8 : Int32) (v9 : Int32) (w : gW) : Option (gW) :=
  (gFI 0 4 v1 w).bind fun t45 =>
  if t45 ≤ v9 then
    (k86 v0 v1 v2 v3 v4 v5 v6 v7 v8 w)
  else
    ((gFR 5 0 (some v0) w).bind fun t52 =>
    (gO 0 v1 w).bind fun a63 =>
    (mX0_place F a63 v3 v4 v9 w).bind fun q63 =>
    (gLI t52 (v6 - q63.1) q63.2).bind fun t68 =>
    (gO 0 v1 q63.2).bind fun a75 =>
    (mX0_entry F a75 v2 v5 v9 q63.2).bind fun q75 =>
    (gSI t52 (v6 - q63.1) (t68 + q75.1) q75.2).bind fun w79 =>
    r v0 v1 v2 v3 v4 v5 v6 v7 v8 (v9 + (1 : Int32)) w79)
def mX5_writeCocycleRule_l42 (F : Nat) (k86 : Nat → (Option Nat) → Int32 → Int32 → Int32 → Int32 → Int32 → Int32 → Int32 → gW → Option (gW)) : Nat → Nat → (Option Nat) → Int32 → Int32 → Int32 → Int32 → Int32 → Int32 → Int32 → Int32 → gW → Option (gW)
  | 0, _, _, _, _, _, _, _, _, _, _, _ => none
  | n + 1, v0, v1, v2, v3, v4, v5, v6, v7, v8, v9, w => mX5_writeCocycleRule_h42 F (mX5_writeCocycleRule_l42 F k86 n) k86 v0 v1 v2 v3 v4 v5 v6 v7 v8 v9 w
def mX5_writeCocycleRule_b139 (F : Nat) (v0 : Nat) (v1 : Option Nat) (v2 : Int32) (v3 : Int32) (v5 : Int32) (v6 : Int32) (w : gW) : Option (gW) :=
  (gFR 5 0 (some v0) w).bind fun t140 =>
  (gO 0 v1 w).bind fun a150 =>
  (mX0_place F a150 v2 v3 v5 w).bind fun q150 =>
  (gLI t140 (v6 - q150.1) q150.2).bind fun t155 =>
  (gSI t140 (v6 - q150.1) (t155 - (1 : Int32)) q150.2).bind fun w158 =>
  some w158
def mX5_writeCocycleRule_b112 (F : Nat) (v0 : Nat) (v1 : Option Nat) (v2 : Int32) (v3 : Int32) (v4 : Int32) (v5 : Int32) (v6 : Int32) (v7 : Int32) (w : gW) : Option (gW) :=
  if v7 = 0 then
    (mX5_writeCocycleRule_b139 F v0 v1 v2 v3 v5 v6 w)
  else
    ((gFR 5 0 (some v0) w).bind fun t118 =>
    (gO 0 v1 w).bind fun a130 =>
    (mX0_place F a130 v7 v4 v5 w).bind fun q130 =>
    (gLI t118 (v6 - q130.1) q130.2).bind fun t135 =>
    (gSI t118 (v6 - q130.1) (t135 - (1 : Int32)) q130.2).bind fun w138 =>
    mX5_writeCocycleRule_b139 F v0 v1 v2 v3 v5 v6 w138)
def mX5_writeCocycleRule (F : Nat) (v0 : Nat) (v1 : Option Nat) (v2 : Int32) (v3 : Int32) (v4 : Int32) (v5 : Int32) (w : gW) : Option (gW) :=
  (gO 0 v1 w).bind fun a1 =>
  (mX0_places F a1 w).bind fun q1 =>
  (gFR 0 2 v1 q1.2).bind fun t9 =>
  (gO 2 t9 q1.2).bind fun a14 =>
  (mX2_mul F a14 v2 v3 q1.2).bind fun q14 =>
  (gFR 0 2 v1 q14.2).bind fun t20 =>
  (gO 2 t20 q14.2).bind fun a26 =>
  (mX2_mul F a26 v3 v4 q14.2).bind fun q26 =>
  (gFR 5 0 (some v0) q26.2).bind fun t32 =>
  (mJ7_fill_53178 F t32 (0 : Int32) q26.2).bind fun q36 =>
  mX5_writeCocycleRule_l42 F (fun (v0 : Nat) (v1 : Option Nat) (v2 : Int32) (v3 : Int32) (v4 : Int32) (v5 : Int32) (v6 : Int32) (v7 : Int32) (v8 : Int32) (w : gW) => if v8 = 0 then
      (mX5_writeCocycleRule_b112 F v0 v1 v2 v3 v4 v5 v6 v7 w)
    else
      ((gFR 5 0 (some v0) w).bind fun t92 =>
      (gO 0 v1 w).bind fun a103 =>
      (mX0_place F a103 v2 v8 v5 w).bind fun q103 =>
      (gLI t92 (v6 - q103.1) q103.2).bind fun t108 =>
      (gSI t92 (v6 - q103.1) (t108 + (1 : Int32)) q103.2).bind fun w111 =>
      mX5_writeCocycleRule_b112 F v0 v1 v2 v3 v4 v5 v6 v7 w111)) F v0 v1 v2 v3 v4 v5 (q1.1 - (1 : Int32)) q14.1 q26.1 (0 : Int32) q36
def mX6_acts_b93 (F : Nat) (v2 : Int32) (v3 : Int32) (v4 : Int32) (v5 : Int32) (v6 : Int32) (v7 : Option Nat) (w : gW) : Option (Int32 × gW) :=
  (gO 0 v7 w).bind fun a103 =>
  (mX0_put F a103 v2 v3 v4 v5 v6 w).bind fun q103 =>
  some ((1 : Int32), q103)
def mX6_acts (F : Nat) (v0 : Nat) (v1 : Int32) (v2 : Int32) (v3 : Int32) (v4 : Int32) (v5 : Int32) (v6 : Int32) (w : gW) : Option (Int32 × gW) :=
  (gO 6 (some v0) w).bind fun a2 =>
  (mX6_actionAt F a2 v1 w).bind fun q2 =>
  if q2.1 = none then
    (some ((-1 : Int32), q2.2))
  else
    ((gFR 0 2 q2.1 q2.2).bind fun t14 =>
    (gO 2 t14 q2.2).bind fun a18 =>
    (mX2_has F a18 v2 q2.2).bind fun q18 =>
    if q18.1 = 0 then
      (some ((-1 : Int32), q18.2))
    else
      ((gO 0 q2.1 q18.2).bind fun a29 =>
      (mX0_isNumber F a29 v3 q18.2).bind fun q29 =>
      if q29.1 = 0 then
        (some ((-1 : Int32), q29.2))
      else
        ((gO 0 q2.1 q29.2).bind fun a39 =>
        (mX0_isNumber F a39 v4 q29.2).bind fun q39 =>
        if q39.1 = 0 then
          (some ((-1 : Int32), q39.2))
        else
          ((gO 0 q2.1 q39.2).bind fun a49 =>
          (mX0_isNumber F a49 v5 q39.2).bind fun q49 =>
          if q49.1 = 0 then
            (some ((-1 : Int32), q49.2))
          else
            ((gO 0 q2.1 q49.2).bind fun a59 =>
            (mX0_isNumber F a59 v6 q49.2).bind fun q59 =>
            if q59.1 = 0 then
              (some ((-1 : Int32), q59.2))
            else
              ((gFI 0 4 q2.1 q59.2).bind fun t69 =>
              if t69 = (1 : Int32) then
                (if v4 = 0 then
                  (if v5 = 0 then
                    (if v6 = 0 then
                      (mX6_acts_b93 F v2 v3 v4 v5 v6 q2.1 q59.2)
                    else
                      (some ((-1 : Int32), q59.2)))
                  else
                    (some ((-1 : Int32), q59.2)))
                else
                  (some ((-1 : Int32), q59.2)))
              else
                (mX6_acts_b93 F v2 v3 v4 v5 v6 q2.1 q59.2)))))))
def mX6_init_h32 (F : Nat) (r : Nat → Int32 → gW → Option (gW)) (v0 : Nat) (v1 : Int32) (w : gW) : Option (gW) :=
  if (4 : Int32) ≤ v1 then
    (some w)
  else
    ((gFR 6 2 (some v0) w).bind fun t38 =>
    (mX4_init F w.2 (gNO 4 [.null, .int 0, .int 0] w)).bind fun q46 =>
    (gSR 4 t38 v1 (some w.2) q46).bind fun w49 =>
    r v0 (v1 + (1 : Int32)) w49)
def mX6_init_l32 (F : Nat) : Nat → Nat → Int32 → gW → Option (gW)
  | 0, _, _, _ => none
  | n + 1, v0, v1, w => mX6_init_h32 F (mX6_init_l32 F n) v0 v1 w
def mX6_init (F : Nat) (v0 : Nat) (w : gW) : Option (gW) :=
  (gNR 2 8 (8 : Int32) w).bind fun w7 =>
  (gP 6 0 (some v0) (.inr (.inr (some w.2))) w7).bind fun w10 =>
  (gNR 0 6 (6 : Int32) w10).bind fun w16 =>
  (gP 6 1 (some v0) (.inr (.inr (some w10.2))) w16).bind fun w19 =>
  (gNR 4 4 (4 : Int32) w19).bind fun w24 =>
  (gP 6 2 (some v0) (.inr (.inr (some w19.2))) w24).bind fun w27 =>
  mX6_init_l32 F 5 v0 (0 : Int32) w27
def mX6_lay (F : Nat) (v0 : Nat) (v1 : Int32) (v2 : Int32) (v3 : Int32) (w : gW) : Option (Int32 × gW) :=
  (gO 6 (some v0) w).bind fun a2 =>
  (mX6_sheetAt F a2 v1 w).bind fun q2 =>
  if q2.1 = none then
    (some ((-1 : Int32), q2.2))
  else
    ((gFI 4 1 q2.1 q2.2).bind fun t16 =>
    if t16 = (-1 : Int32) then
      (some ((-11 : Int32), q2.2))
    else
      (if v2 < 0 then
        (some ((-12 : Int32), q2.2))
      else
        ((gFI 4 2 q2.1 q2.2).bind fun t33 =>
        if v2 < t33 then
          ((gO 4 q2.1 q2.2).bind fun a46 =>
          (mX4_put F a46 v2 v3 q2.2).bind fun q46 =>
          some ((1 : Int32), q46))
        else
          (some ((-12 : Int32), q2.2)))))
def mX6_mod (F : Nat) (v0 : Int32) (v1 : Int32) (w : gW) : Option (Int32 × gW) :=
  if v1 ≤ 0 then
    (some ((0 : Int32), w))
  else
    ((mJ9_floorMod_7cf53 F v0 v1 w).bind fun q6 =>
    some (q6.1, q6.2))
def mX6_order (F : Nat) (v0 : Nat) (v1 : Int32) (w : gW) : Option (Int32 × gW) :=
  (gO 6 (some v0) w).bind fun a2 =>
  (mX6_groupAt F a2 v1 w).bind fun q2 =>
  if q2.1 = none then
    (some ((-1 : Int32), q2.2))
  else
    ((gFI 2 7 q2.1 q2.2).bind fun t15 =>
    some (t15, q2.2))
def mX6_product (F : Nat) (v0 : Nat) (v1 : Int32) (v2 : Int32) (v3 : Int32) (w : gW) : Option (Int32 × gW) :=
  (gO 6 (some v0) w).bind fun a2 =>
  (mX6_groupAt F a2 v1 w).bind fun q2 =>
  if q2.1 = none then
    (some ((-1 : Int32), q2.2))
  else
    ((gO 2 q2.1 q2.2).bind fun a15 =>
    (mX2_has F a15 v2 q2.2).bind fun q15 =>
    if q15.1 = 0 then
      (some ((-1 : Int32), q15.2))
    else
      ((gO 2 q2.1 q15.2).bind fun a24 =>
      (mX2_has F a24 v3 q15.2).bind fun q24 =>
      if q24.1 = 0 then
        (some ((-1 : Int32), q24.2))
      else
        ((gO 2 q2.1 q24.2).bind fun a36 =>
        (mX2_mul F a36 v2 v3 q24.2).bind fun q36 =>
        some (q36.1, q36.2))))
def mX6_spareGroup_b39 (F : Nat) (v0 : Nat) (w : gW) : Option (Option Nat × gW) :=
  (gFR 6 0 (some v0) w).bind fun t40 =>
  (gFI 6 3 (some v0) w).bind fun t44 =>
  (gLR 2 t40 t44 w).bind fun t47 =>
  some (t47, w)
def mX6_spareGroup (F : Nat) (v0 : Nat) (w : gW) : Option (Option Nat × gW) :=
  (gFI 6 3 (some v0) w).bind fun t1 =>
  if t1 < (8 : Int32) then
    ((gFR 6 0 (some v0) w).bind fun t12 =>
    (gFI 6 3 (some v0) w).bind fun t16 =>
    (gLR 2 t12 t16 w).bind fun t19 =>
    if t19 = none then
      ((gFR 6 0 (some v0) w).bind fun t24 =>
      (gFI 6 3 (some v0) w).bind fun t28 =>
      (mX2_init F w.2 (gNO 2 [.null, .null, .null, .null, .null, .null, .int 0, .int 0] w)).bind fun q35 =>
      (gSR 2 t24 t28 (some w.2) q35).bind fun w38 =>
      mX6_spareGroup_b39 F v0 w38)
    else
      (mX6_spareGroup_b39 F v0 w))
  else
    (some (none, w))
def mX7_classOfLine_h19 (F : Nat) (r : Nat → Int32 → Int32 → Int32 → gW → Option (Int32 × gW)) (k39 : Nat → Int32 → Int32 → Int32 → gW → Option (Int32 × gW)) (v0 : Nat) (v1 : Int32) (v2 : Int32) (v3 : Int32) (w : gW) : Option (Int32 × gW) :=
  (gFR 7 33 (some v0) w).bind fun t20 =>
  (gLI t20 (((98 : Int32) * v2) + v3) w).bind fun t29 =>
  if t29 = 0 then
    (r v0 v1 v2 (v3 + (1 : Int32)) w)
  else
    (k39 v0 v1 v2 v3 w)
def mX7_classOfLine_l19 (F : Nat) (k39 : Nat → Int32 → Int32 → Int32 → gW → Option (Int32 × gW)) : Nat → Nat → Int32 → Int32 → Int32 → gW → Option (Int32 × gW)
  | 0, _, _, _, _, _ => none
  | n + 1, v0, v1, v2, v3, w => mX7_classOfLine_h19 F (mX7_classOfLine_l19 F k39 n) k39 v0 v1 v2 v3 w
def mX7_classOfLine_h13 (F : Nat) (r : Nat → Int32 → Int32 → gW → Option (Int32 × gW)) (v0 : Nat) (v1 : Int32) (v2 : Int32) (w : gW) : Option (Int32 × gW) :=
  if v2 < 0 then
    (some (v1, w))
  else
    (mX7_classOfLine_l19 F (fun (v0 : Nat) (v1 : Int32) (v2 : Int32) (v3 : Int32) (w : gW) => (gFI 7 23 (some v0) w).bind fun t41 =>
      (gFR 7 25 (some v0) w).bind fun t46 =>
      (gLI t46 v3 w).bind fun t50 =>
      r v0 ((v1 * t41) + t50) (v2 + (-1 : Int32)) w) F v0 v1 v2 (0 : Int32) w)
def mX7_classOfLine_l13 (F : Nat) : Nat → Nat → Int32 → Int32 → gW → Option (Int32 × gW)
  | 0, _, _, _, _ => none
  | n + 1, v0, v1, v2, w => mX7_classOfLine_h13 F (mX7_classOfLine_l13 F n) v0 v1 v2 w
def mX7_classOfLine (F : Nat) (v0 : Nat) (w : gW) : Option (Int32 × gW) :=
  (gO 7 (some v0) w).bind fun a1 =>
  (mX7_lessBound F a1 w).bind fun q1 =>
  (gFI 7 35 (some v0) q1).bind fun t7 =>
  mX7_classOfLine_l13 F F v0 (0 : Int32) (t7 - (1 : Int32)) q1
def mX7_cyclic_h35 (F : Nat) (r : Nat → Int32 → Int32 → Int32 → gW → Option (Int32 × gW)) (k57 : Nat → Int32 → Int32 → gW → Option (Int32 × gW)) (v0 : Nat) (v1 : Int32) (v2 : Int32) (v3 : Int32) (w : gW) : Option (Int32 × gW) :=
  if v1 ≤ v3 then
    (k57 v0 v1 v2 w)
  else
    ((gRem (v2 + v3) v1).bind fun t47 =>
    (gO 7 (some v0) w).bind fun a48 =>
    (mX7_set F a48 v2 v3 t47 w).bind fun q48 =>
    r v0 v1 v2 (v3 + (1 : Int32)) q48)
def mX7_cyclic_l35 (F : Nat) (k57 : Nat → Int32 → Int32 → gW → Option (Int32 × gW)) : Nat → Nat → Int32 → Int32 → Int32 → gW → Option (Int32 × gW)
  | 0, _, _, _, _, _ => none
  | n + 1, v0, v1, v2, v3, w => mX7_cyclic_h35 F (mX7_cyclic_l35 F k57 n) k57 v0 v1 v2 v3 w
def mX7_cyclic_h28 (F : Nat) (r : Nat → Int32 → Int32 → gW → Option (Int32 × gW)) (k63 : Nat → Int32 → gW → Option (Int32 × gW)) (v0 : Nat) (v1 : Int32) (v2 : Int32) (w : gW) : Option (Int32 × gW) :=
  if v1 ≤ v2 then
    (k63 v0 v1 w)
  else
    (mX7_cyclic_l35 F (fun (v0 : Nat) (v1 : Int32) (v2 : Int32) (w : gW) => r v0 v1 (v2 + (1 : Int32)) w) F v0 v1 v2 (0 : Int32) w)
def mX7_cyclic_l28 (F : Nat) (k63 : Nat → Int32 → gW → Option (Int32 × gW)) : Nat → Nat → Int32 → Int32 → gW → Option (Int32 × gW)
  | 0, _, _, _, _ => none
  | n + 1, v0, v1, v2, w => mX7_cyclic_h28 F (mX7_cyclic_l28 F k63 n) k63 v0 v1 v2 w
def mX7_cyclic (F : Nat) (v0 : Nat) (v1 : Int32) (w : gW) : Option (Int32 × gW) :=
  (mX7_in F ((v1).toInt64) (1 : Int64) (48 : Int64) w).bind fun q6 =>
  if q6.1 = 0 then
    (some ((-1 : Int32), q6.2))
  else
    ((gFI 7 0 (some v0) q6.2).bind fun t15 =>
    if t15 = (8 : Int32) then
      (some ((-3 : Int32), q6.2))
    else
      (mX7_cyclic_l28 F (fun (v0 : Nat) (v1 : Int32) (w : gW) => (gO 7 (some v0) w).bind fun a65 =>
        (mX7_added F a65 v1 w).bind fun q65 =>
        some (q65.1, q65.2)) F v0 v1 (0 : Int32) q6.2))
def mX7_dihedral_h35 (F : Nat) (r : Nat → Int32 → Int32 → Int32 → gW → Option (Int32 × gW)) (k106 : Nat → Int32 → Int32 → gW → Option (Int32 × gW)) (v0 : Nat) (v1 : Int32) (v2 : Int32) (v3 : Int32) (w : gW) : Option (Int32 × gW) :=
  if v1 ≤ v3 then
    (k106 v0 v1 v2 w)
  else
    ((gRem (v2 + v3) v1).bind fun t47 =>
    (gO 7 (some v0) w).bind fun a48 =>
    (mX7_set F a48 v2 v3 t47 w).bind fun q48 =>
    (gRem (v2 + v3) v1).bind fun t61 =>
    (gO 7 (some v0) q48).bind fun a63 =>
    (mX7_set F a63 v2 (v1 + v3) (v1 + t61) q48).bind fun q63 =>
    (gRem ((v2 - v3) + v1) v1).bind fun t78 =>
    (gO 7 (some v0) q63).bind fun a80 =>
    (mX7_set F a80 (v1 + v2) v3 (v1 + t78) q63).bind fun q80 =>
    (gRem ((v2 - v3) + v1) v1).bind fun t96 =>
    (gO 7 (some v0) q80).bind fun a97 =>
    (mX7_set F a97 (v1 + v2) (v1 + v3) t96 q80).bind fun q97 =>
    r v0 v1 v2 (v3 + (1 : Int32)) q97)
def mX7_dihedral_l35 (F : Nat) (k106 : Nat → Int32 → Int32 → gW → Option (Int32 × gW)) : Nat → Nat → Int32 → Int32 → Int32 → gW → Option (Int32 × gW)
  | 0, _, _, _, _, _ => none
  | n + 1, v0, v1, v2, v3, w => mX7_dihedral_h35 F (mX7_dihedral_l35 F k106 n) k106 v0 v1 v2 v3 w
def mX7_dihedral_h28 (F : Nat) (r : Nat → Int32 → Int32 → gW → Option (Int32 × gW)) (k112 : Nat → Int32 → gW → Option (Int32 × gW)) (v0 : Nat) (v1 : Int32) (v2 : Int32) (w : gW) : Option (Int32 × gW) :=
  if v1 ≤ v2 then
    (k112 v0 v1 w)
  else
    (mX7_dihedral_l35 F (fun (v0 : Nat) (v1 : Int32) (v2 : Int32) (w : gW) => r v0 v1 (v2 + (1 : Int32)) w) F v0 v1 v2 (0 : Int32) w)
def mX7_dihedral_l28 (F : Nat) (k112 : Nat → Int32 → gW → Option (Int32 × gW)) : Nat → Nat → Int32 → Int32 → gW → Option (Int32 × gW)
  | 0, _, _, _, _ => none
  | n + 1, v0, v1, v2, w => mX7_dihedral_h28 F (mX7_dihedral_l28 F k112 n) k112 v0 v1 v2 w
def mX7_dihedral (F : Nat) (v0 : Nat) (v1 : Int32) (w : gW) : Option (Int32 × gW) :=
  (mX7_in F ((v1).toInt64) (1 : Int64) (24 : Int64) w).bind fun q6 =>
  if q6.1 = 0 then
    (some ((-1 : Int32), q6.2))
  else
    ((gFI 7 0 (some v0) q6.2).bind fun t15 =>
    if t15 = (8 : Int32) then
      (some ((-3 : Int32), q6.2))
    else
      (mX7_dihedral_l28 F (fun (v0 : Nat) (v1 : Int32) (w : gW) => (gO 7 (some v0) w).bind fun a116 =>
        (mX7_added F a116 ((2 : Int32) * v1) w).bind fun q116 =>
        some (q116.1, q116.2)) F v0 v1 (0 : Int32) q6.2))
def mX7_equation_h7 (F : Nat) (r : Nat → Int32 → Int32 → Int32 → Int32 → Int32 → gW → Option (gW)) (k47 : Nat → Int32 → Int32 → Int32 → Int32 → gW → Option (gW)) (v0 : Nat) (v1 : Int32) (v2 : Int32) (v3 : Int32) (v4 : Int32) (v5 : Int32) (w : gW) : Option (gW) :=
  (gFI 7 37 (some v0) w).bind fun t10 =>
  if t10 ≤ v5 then
    (k47 v0 v1 v2 v3 v4 w)
  else
    ((gO 7 (some v0) w).bind fun a22 =>
    (mX7_placeOf F a22 v2 v3 v5 w).bind fun q22 =>
    (gFI 7 39 (some v0) q22.2).bind fun t27 =>
    (gO 7 (some v0) q22.2).bind fun a35 =>
    (mX7_matrix F a35 t27 v1 v4 v5 q22.2).bind fun q35 =>
    (gO 7 (some v0) q35.2).bind fun a38 =>
    (mX7_addTo F a38 q22.1 q35.1 q35.2).bind fun q38 =>
    r v0 v1 v2 v3 v4 (v5 + (1 : Int32)) q38)
def mX7_equation_l7 (F : Nat) (k47 : Nat → Int32 → Int32 → Int32 → Int32 → gW → Option (gW)) : Nat → Nat → Int32 → Int32 → Int32 → Int32 → Int32 → gW → Option (gW)
  | 0, _, _, _, _, _, _, _ => none
  | n + 1, v0, v1, v2, v3, v4, v5, w => mX7_equation_h7 F (mX7_equation_l7 F k47 n) k47 v0 v1 v2 v3 v4 v5 w
def mX7_equation_b109 (F : Nat) (v0 : Nat) (v1 : Int32) (v2 : Int32) (v4 : Int32) (w : gW) : Option (gW) :=
  (gO 7 (some v0) w).bind fun a115 =>
  (mX7_placeOf F a115 v1 v2 v4 w).bind fun q115 =>
  (gO 7 (some v0) q115.2).bind fun a119 =>
  (mX7_addTo F a119 q115.1 (-1 : Int32) q115.2).bind fun q119 =>
  some q119
def mX7_equation_b90 (F : Nat) (v0 : Nat) (v1 : Int32) (v2 : Int32) (v3 : Int32) (v4 : Int32) (v6 : Int32) (w : gW) : Option (gW) :=
  if v6 ≤ 0 then
    (mX7_equation_b109 F v0 v1 v2 v4 w)
  else
    ((gO 7 (some v0) w).bind fun a102 =>
    (mX7_placeOf F a102 v6 v3 v4 w).bind fun q102 =>
    (gO 7 (some v0) q102.2).bind fun a106 =>
    (mX7_addTo F a106 q102.1 (-1 : Int32) q102.2).bind fun q106 =>
    mX7_equation_b109 F v0 v1 v2 v4 q106)
def mX7_equation (F : Nat) (v0 : Nat) (v1 : Int32) (v2 : Int32) (v3 : Int32) (v4 : Int32) (w : gW) : Option (gW) :=
  (gO 7 (some v0) w).bind fun a1 =>
  (mX7_clearLine F a1 w).bind fun q1 =>
  mX7_equation_l7 F (fun (v0 : Nat) (v1 : Int32) (v2 : Int32) (v3 : Int32) (v4 : Int32) (w : gW) => (gFI 7 38 (some v0) w).bind fun t49 =>
    (gO 7 (some v0) w).bind fun a54 =>
    (mX7_prod F a54 t49 v2 v3 w).bind fun q54 =>
    (gFI 7 38 (some v0) q54.2).bind fun t61 =>
    (gO 7 (some v0) q54.2).bind fun a66 =>
    (mX7_prod F a66 t61 v1 v2 q54.2).bind fun q66 =>
    if q54.1 ≤ 0 then
      (mX7_equation_b90 F v0 v1 v2 v3 v4 q66.1 q66.2)
    else
      ((gO 7 (some v0) q66.2).bind fun a83 =>
      (mX7_placeOf F a83 v1 q54.1 v4 q66.2).bind fun q83 =>
      (gO 7 (some v0) q83.2).bind fun a87 =>
      (mX7_addTo F a87 q83.1 (1 : Int32) q83.2).bind fun q87 =>
      mX7_equation_b90 F v0 v1 v2 v3 v4 q66.1 q87)) F v0 v1 v2 v3 v4 (0 : Int32) q1
def mX7_friends_b41 (F : Nat) (r : Nat → Int32 → Int32 → Int32 → Int32 → gW → Option (Int32 × gW)) (v0 : Nat) (v1 : Int32) (v2 : Int32) (v4 : Int32) (s0 : Int32) (s1 : Int32) (w : gW) : Option (Int32 × gW) :=
  r v0 v1 v2 (s0 + s1) (v4 + (1 : Int32)) w
def mX7_friends_h5 (F : Nat) (r : Nat → Int32 → Int32 → Int32 → Int32 → gW → Option (Int32 × gW)) (v0 : Nat) (v1 : Int32) (v2 : Int32) (v3 : Int32) (v4 : Int32) (w : gW) : Option (Int32 × gW) :=
  (gFR 7 1 (some v0) w).bind fun t8 =>
  (gLI t8 v1 w).bind fun t12 =>
  if t12 ≤ v4 then
    (some (v3, w))
  else
    ((gO 7 (some v0) w).bind fun a22 =>
    (mX7_prod F a22 v1 v2 v4 w).bind fun q22 =>
    (gO 7 (some v0) q22.2).bind fun a30 =>
    (mX7_prod F a30 v1 v4 v2 q22.2).bind fun q30 =>
    if q22.1 = q30.1 then
      (mX7_friends_b41 F r v0 v1 v2 v4 v3 (1 : Int32) q30.2)
    else
      (mX7_friends_b41 F r v0 v1 v2 v4 v3 (0 : Int32) q30.2))
def mX7_friends_l5 (F : Nat) : Nat → Nat → Int32 → Int32 → Int32 → Int32 → gW → Option (Int32 × gW)
  | 0, _, _, _, _, _, _ => none
  | n + 1, v0, v1, v2, v3, v4, w => mX7_friends_h5 F (mX7_friends_l5 F n) v0 v1 v2 v3 v4 w
def mX7_friends (F : Nat) (v0 : Nat) (v1 : Int32) (v2 : Int32) (w : gW) : Option (Int32 × gW) :=
  mX7_friends_l5 F F v0 v1 v2 (0 : Int32) (0 : Int32) w
def mX7_goes_h11 (F : Nat) (r : Nat → Int32 → Int32 → Int32 → Int32 → Int32 → gW → Option (Int32 × gW)) (k33 : Nat → Int32 → Int32 → Int32 → Int32 → gW → Option (Int32 × gW)) (v0 : Nat) (v1 : Int32) (v2 : Int32) (v3 : Int32) (v4 : Int32) (v5 : Int32) (w : gW) : Option (Int32 × gW) :=
  if v4 ≤ v5 then
    (k33 v0 v1 v2 v3 v4 w)
  else
    ((gFR 7 22 (some v0) w).bind fun t19 =>
    (gSI t19 v5 (-4 : Int32) w).bind fun w26 =>
    r v0 v1 v2 v3 v4 (v5 + (1 : Int32)) w26)
def mX7_goes_l11 (F : Nat) (k33 : Nat → Int32 → Int32 → Int32 → Int32 → gW → Option (Int32 × gW)) : Nat → Nat → Int32 → Int32 → Int32 → Int32 → Int32 → gW → Option (Int32 × gW)
  | 0, _, _, _, _, _, _, _ => none
  | n + 1, v0, v1, v2, v3, v4, v5, w => mX7_goes_h11 F (mX7_goes_l11 F k33 n) k33 v0 v1 v2 v3 v4 v5 w
def mX7_goes_b179 (F : Nat) (r : Nat → Int32 → Int32 → Int32 → Int32 → Int32 → Int32 → gW → Option (Int32 × gW)) (k185 : Nat → Int32 → Int32 → Int32 → Int32 → Int32 → gW → Option (Int32 × gW)) (v0 : Nat) (v1 : Int32) (v2 : Int32) (v3 : Int32) (v4 : Int32) (v5 : Int32) (v6 : Int32) (w : gW) : Option (Int32 × gW) :=
  r v0 v1 v2 v3 v4 v5 (v6 + (1 : Int32)) w
def mX7_goes_h67 (F : Nat) (r : Nat → Int32 → Int32 → Int32 → Int32 → Int32 → Int32 → gW → Option (Int32 × gW)) (k185 : Nat → Int32 → Int32 → Int32 → Int32 → Int32 → gW → Option (Int32 × gW)) (v0 : Nat) (v1 : Int32) (v2 : Int32) (v3 : Int32) (v4 : Int32) (v5 : Int32) (v6 : Int32) (w : gW) : Option (Int32 × gW) :=
  if v3 ≤ v6 then
    (k185 v0 v1 v2 v3 v4 v5 w)
  else
    ((gFR 7 13 (some v0) w).bind fun t76 =>
    (gLI t76 v5 w).bind fun t81 =>
    (gFR 7 20 (some v0) w).bind fun t83 =>
    (gLI t83 v6 w).bind fun t88 =>
    (gO 7 (some v0) w).bind fun a89 =>
    (mX7_prod F a89 v1 t81 t88 w).bind fun q89 =>
    (gFR 7 22 (some v0) q89.2).bind fun t97 =>
    (gFR 7 13 (some v0) q89.2).bind fun t101 =>
    (gLI t101 v5 q89.2).bind fun t106 =>
    (gLI t97 t106 q89.2).bind fun t107 =>
    (gFR 7 21 (some v0) q89.2).bind fun t109 =>
    (gLI t109 v6 q89.2).bind fun t114 =>
    (gO 7 (some v0) q89.2).bind fun a115 =>
    (mX7_prod F a115 v2 t107 t114 q89.2).bind fun q115 =>
    (gFR 7 22 (some v0) q115.2).bind fun t121 =>
    (gLI t121 q89.1 q115.2).bind fun t126 =>
    if t126 = (-4 : Int32) then
      ((gFR 7 22 (some v0) q115.2).bind fun t133 =>
      (gSI t133 q89.1 q115.1 q115.2).bind fun w140 =>
      (gFR 7 13 (some v0) w140).bind fun t142 =>
      (gFI 7 14 (some v0) w140).bind fun t146 =>
      (gSI t142 t146 q89.1 w140).bind fun w151 =>
      (gFI 7 14 (some v0) w151).bind fun t154 =>
      (gP 7 14 (some v0) (.inl (t154 + (1 : Int32))) w151).bind fun w159 =>
      mX7_goes_b179 F r k185 v0 v1 v2 v3 v4 v5 v6 w159)
    else
      ((gFR 7 22 (some v0) q115.2).bind fun t166 =>
      (gLI t166 q89.1 q115.2).bind fun t171 =>
      if t171 = q115.1 then
        (mX7_goes_b179 F r k185 v0 v1 v2 v3 v4 v5 v6 q115.2)
      else
        (some ((0 : Int32), q115.2))))
def mX7_goes_l67 (F : Nat) (k185 : Nat → Int32 → Int32 → Int32 → Int32 → Int32 → gW → Option (Int32 × gW)) : Nat → Nat → Int32 → Int32 → Int32 → Int32 → Int32 → Int32 → gW → Option (Int32 × gW)
  | 0, _, _, _, _, _, _, _, _ => none
  | n + 1, v0, v1, v2, v3, v4, v5, v6, w => mX7_goes_h67 F (mX7_goes_l67 F k185 n) k185 v0 v1 v2 v3 v4 v5 v6 w
def mX7_goes_h55 (F : Nat) (r : Nat → Int32 → Int32 → Int32 → Int32 → Int32 → gW → Option (Int32 × gW)) (k191 : Nat → Int32 → gW → Option (Int32 × gW)) (v0 : Nat) (v1 : Int32) (v2 : Int32) (v3 : Int32) (v4 : Int32) (v5 : Int32) (w : gW) : Option (Int32 × gW) :=
  (gFI 7 14 (some v0) w).bind fun t58 =>
  if t58 ≤ v5 then
    (k191 v0 v4 w)
  else
    (mX7_goes_l67 F (fun (v0 : Nat) (v1 : Int32) (v2 : Int32) (v3 : Int32) (v4 : Int32) (v5 : Int32) (w : gW) => r v0 v1 v2 v3 v4 (v5 + (1 : Int32)) w) F v0 v1 v2 v3 v4 v5 (0 : Int32) w)
def mX7_goes_l55 (F : Nat) (k191 : Nat → Int32 → gW → Option (Int32 × gW)) : Nat → Nat → Int32 → Int32 → Int32 → Int32 → Int32 → gW → Option (Int32 × gW)
  | 0, _, _, _, _, _, _, _ => none
  | n + 1, v0, v1, v2, v3, v4, v5, w => mX7_goes_h55 F (mX7_goes_l55 F k191 n) k191 v0 v1 v2 v3 v4 v5 w
def mX7_goes_b286 (F : Nat) (r : Nat → Int32 → Int64 → Int64 → Int32 → gW → Option (Int32 × gW)) (k235 : gW → Option (Int32 × gW)) (v0 : Nat) (v4 : Int32) (v5 : Int64) (v7 : Int64) (v9 : Int32) (w : gW) : Option (Int32 × gW) :=
  r v0 v4 v5 v7 (v9 + (1 : Int32)) w
def mX7_goes_b255 (F : Nat) (r : Nat → Int32 → Int64 → Int64 → Int32 → gW → Option (Int32 × gW)) (k235 : gW → Option (Int32 × gW)) (v0 : Nat) (v4 : Int32) (v5 : Int64) (v7 : Int64) (v9 : Int32) (v10 : Int32) (w : gW) : Option (Int32 × gW) :=
  if (64 : Int32) ≤ v10 then
    (mX7_goes_b286 F r k235 v0 v4 v5 (v7 ||| ((1 : Int64) <<< (((v10 - (64 : Int32))).toInt64 &&& 63))) v9 w)
  else
    (mX7_goes_b286 F r k235 v0 v4 (v5 ||| ((1 : Int64) <<< ((v10).toInt64 &&& 63))) v7 v9 w)
def mX7_goes_h200 (F : Nat) (r : Nat → Int32 → Int64 → Int64 → Int32 → gW → Option (Int32 × gW)) (k235 : gW → Option (Int32 × gW)) (v0 : Nat) (v4 : Int32) (v5 : Int64) (v7 : Int64) (v9 : Int32) (w : gW) : Option (Int32 × gW) :=
  if v4 ≤ v9 then
    (some ((1 : Int32), w))
  else
    ((gFR 7 22 (some v0) w).bind fun t208 =>
    (gLI t208 v9 w).bind fun t213 =>
    if (64 : Int32) ≤ t213 then
      (if (lg_cmp ((v7 >>> (((t213 - (64 : Int32))).toInt64 &&& 63)) &&& (1 : Int64)) (1 : Int64)) = 0 then
        (some ((0 : Int32), w))
      else
        (mX7_goes_b255 F r k235 v0 v4 v5 v7 v9 t213 w))
    else
      (if (lg_cmp ((v5 >>> ((t213).toInt64 &&& 63)) &&& (1 : Int64)) (1 : Int64)) = 0 then
        (k235 w)
      else
        (mX7_goes_b255 F r k235 v0 v4 v5 v7 v9 t213 w)))
def mX7_goes_l200 (F : Nat) (k235 : gW → Option (Int32 × gW)) : Nat → Nat → Int32 → Int64 → Int64 → Int32 → gW → Option (Int32 × gW)
  | 0, _, _, _, _, _, _ => none
  | n + 1, v0, v4, v5, v7, v9, w => mX7_goes_h200 F (mX7_goes_l200 F k235 n) k235 v0 v4 v5 v7 v9 w
def mX7_goes (F : Nat) (v0 : Nat) (v1 : Int32) (v2 : Int32) (v3 : Int32) (w : gW) : Option (Int32 × gW) :=
  (gFR 7 1 (some v0) w).bind fun t1 =>
  (gLI t1 v1 w).bind fun t5 =>
  mX7_goes_l11 F (fun (v0 : Nat) (v1 : Int32) (v2 : Int32) (v3 : Int32) (v4 : Int32) (w : gW) => (gFR 7 22 (some v0) w).bind fun t34 =>
    (gSI t34 (0 : Int32) (0 : Int32) w).bind fun w39 =>
    (gFR 7 13 (some v0) w39).bind fun t41 =>
    (gSI t41 (0 : Int32) (0 : Int32) w39).bind fun w46 =>
    (gP 7 14 (some v0) (.inl (1 : Int32)) w46).bind fun w49 =>
    mX7_goes_l55 F (fun (v0 : Nat) (v4 : Int32) (w : gW) => mX7_goes_l200 F (fun  (w : gW) => some ((0 : Int32), w)) F v0 v4 (0 : Int64) (0 : Int64) (0 : Int32) w) F v0 v1 v2 v3 v4 (0 : Int32) w49) F v0 v1 v2 v3 t5 (0 : Int32) w
def mX7_inverse_h2 (F : Nat) (r : Nat → Int32 → Int32 → Int32 → gW → Option (Int32 × gW)) (v0 : Nat) (v1 : Int32) (v2 : Int32) (v3 : Int32) (w : gW) : Option (Int32 × gW) :=
  (gO 7 (some v0) w).bind fun a6 =>
  (mX7_prod F a6 v1 v2 v3 w).bind fun q6 =>
  if q6.1 = 0 then
    (some (v3, q6.2))
  else
    (r v0 v1 v2 (v3 + (1 : Int32)) q6.2)
def mX7_inverse_l2 (F : Nat) : Nat → Nat → Int32 → Int32 → Int32 → gW → Option (Int32 × gW)
  | 0, _, _, _, _, _ => none
  | n + 1, v0, v1, v2, v3, w => mX7_inverse_h2 F (mX7_inverse_l2 F n) v0 v1 v2 v3 w
def mX7_inverse (F : Nat) (v0 : Nat) (v1 : Int32) (v2 : Int32) (w : gW) : Option (Int32 × gW) :=
  mX7_inverse_l2 F F v0 v1 v2 (0 : Int32) w
def mX7_isGroup (F : Nat) (v0 : Nat) (v1 : Int32) (w : gW) : Option (Int32 × gW) :=
  (gFI 7 0 (some v0) w).bind fun t4 =>
  (mX7_in F ((v1).toInt64) (0 : Int64) (((t4 - (1 : Int32))).toInt64) w).bind fun q10 =>
  (gBo q10.1).bind fun v => some (v, q10.2)
def mX7_isModule (F : Nat) (v0 : Nat) (v1 : Int32) (w : gW) : Option (Int32 × gW) :=
  (gFI 7 7 (some v0) w).bind fun t4 =>
  (mX7_in F ((v1).toInt64) (0 : Int64) (((t4 - (1 : Int32))).toInt64) w).bind fun q10 =>
  (gBo q10.1).bind fun v => some (v, q10.2)
def mX7_lay_b80 (F : Nat) (s0 : Option Nat) (s1 : Int32) (s2 : Int32) (w : gW) : Option (Int32 × gW) :=
  (gSI s0 s1 s2 w).bind fun w80 =>
  some ((1 : Int32), w80)
def mX7_lay (F : Nat) (v0 : Nat) (v1 : Int32) (v2 : Int32) (v3 : Int32) (w : gW) : Option (Int32 × gW) :=
  (mX7_in F ((v1).toInt64) (0 : Int64) (3 : Int64) w).bind fun q6 =>
  if q6.1 = 0 then
    (some ((-1 : Int32), q6.2))
  else
    ((gFR 7 4 (some v0) q6.2).bind fun t15 =>
    (gLI t15 v1 q6.2).bind fun t19 =>
    if t19 = (-4 : Int32) then
      (some ((-11 : Int32), q6.2))
    else
      ((gFR 7 5 (some v0) q6.2).bind fun t32 =>
      (gLI t32 v1 q6.2).bind fun t36 =>
      (mX7_in F ((v2).toInt64) (0 : Int64) (((t36 - (1 : Int32))).toInt64) q6.2).bind fun q40 =>
      if q40.1 = 0 then
        (some ((-12 : Int32), q40.2))
      else
        ((gFR 7 6 (some v0) q40.2).bind fun t50 =>
        (gFR 7 4 (some v0) q40.2).bind fun t61 =>
        (gLI t61 v1 q40.2).bind fun t65 =>
        if t65 = 0 then
          (mX7_lay_b80 F t50 (((144 : Int32) * v1) + v2) ((v3 <<< ((24 : Int32) &&& 31)) >>> ((24 : Int32) &&& 31)) q40.2)
        else
          (mX7_lay_b80 F t50 (((144 : Int32) * v1) + v2) v3 q40.2))))
def mX7_makes_b130 (F : Nat) (r : Nat → Int32 → Int32 → Int32 → Int32 → gW → Option (gW)) (k136 : Nat → Int32 → Int32 → Int32 → gW → Option (gW)) (v0 : Nat) (v1 : Int32) (v2 : Int32) (v3 : Int32) (v4 : Int32) (w : gW) : Option (gW) :=
  r v0 v1 v2 v3 (v4 + (1 : Int32)) w
def mX7_makes_b109 (F : Nat) (r : Nat → Int32 → Int32 → Int32 → Int32 → gW → Option (gW)) (k136 : Nat → Int32 → Int32 → Int32 → gW → Option (gW)) (v0 : Nat) (v1 : Int32) (v2 : Int32) (v3 : Int32) (v4 : Int32) (v5 : Int32) (w : gW) : Option (gW) :=
  (gFR 7 13 (some v0) w).bind fun t110 =>
  (gFI 7 14 (some v0) w).bind fun t114 =>
  (gSI t110 t114 v5 w).bind fun w119 =>
  (gFI 7 14 (some v0) w119).bind fun t122 =>
  (gP 7 14 (some v0) (.inl (t122 + (1 : Int32))) w119).bind fun w127 =>
  mX7_makes_b130 F r k136 v0 v1 v2 v3 v4 w127
def mX7_makes_h35 (F : Nat) (r : Nat → Int32 → Int32 → Int32 → Int32 → gW → Option (gW)) (k136 : Nat → Int32 → Int32 → Int32 → gW → Option (gW)) (v0 : Nat) (v1 : Int32) (v2 : Int32) (v3 : Int32) (v4 : Int32) (w : gW) : Option (gW) :=
  if v2 ≤ v4 then
    (k136 v0 v1 v2 v3 w)
  else
    ((gFR 7 13 (some v0) w).bind fun t44 =>
    (gLI t44 v3 w).bind fun t48 =>
    (gFR 7 12 (some v0) w).bind fun t50 =>
    (gLI t50 v4 w).bind fun t55 =>
    (gO 7 (some v0) w).bind fun a56 =>
    (mX7_prod F a56 v1 t48 t55 w).bind fun q56 =>
    (gO 7 (some v0) q56.2).bind fun a64 =>
    (mX7_isMade F a64 q56.1 q56.2).bind fun q64 =>
    if q64.1 = 0 then
      (if (64 : Int32) ≤ q56.1 then
        ((gFL 7 16 (some v0) q64.2).bind fun t95 =>
        (gP 7 16 (some v0) (.inr (.inl (t95 ||| ((1 : Int64) <<< (((q56.1 - (64 : Int32))).toInt64 &&& 63))))) q64.2).bind fun w106 =>
        mX7_makes_b109 F r k136 v0 v1 v2 v3 v4 q56.1 w106)
      else
        ((gFL 7 15 (some v0) q64.2).bind fun t79 =>
        (gP 7 15 (some v0) (.inr (.inl (t79 ||| ((1 : Int64) <<< ((q56.1).toInt64 &&& 63))))) q64.2).bind fun w87 =>
        mX7_makes_b109 F r k136 v0 v1 v2 v3 v4 q56.1 w87))
    else
      (mX7_makes_b130 F r k136 v0 v1 v2 v3 v4 q64.2))
def mX7_makes_l35 (F : Nat) (k136 : Nat → Int32 → Int32 → Int32 → gW → Option (gW)) : Nat → Nat → Int32 → Int32 → Int32 → Int32 → gW → Option (gW)
  | 0, _, _, _, _, _, _ => none
  | n + 1, v0, v1, v2, v3, v4, w => mX7_makes_h35 F (mX7_makes_l35 F k136 n) k136 v0 v1 v2 v3 v4 w
def mX7_makes_h24 (F : Nat) (r : Nat → Int32 → Int32 → Int32 → gW → Option (gW)) (v0 : Nat) (v1 : Int32) (v2 : Int32) (v3 : Int32) (w : gW) : Option (gW) :=
  (gFI 7 14 (some v0) w).bind fun t26 =>
  if t26 ≤ v3 then
    (some w)
  else
    (mX7_makes_l35 F (fun (v0 : Nat) (v1 : Int32) (v2 : Int32) (v3 : Int32) (w : gW) => r v0 v1 v2 (v3 + (1 : Int32)) w) F v0 v1 v2 v3 (0 : Int32) w)
def mX7_makes_l24 (F : Nat) : Nat → Nat → Int32 → Int32 → Int32 → gW → Option (gW)
  | 0, _, _, _, _, _ => none
  | n + 1, v0, v1, v2, v3, w => mX7_makes_h24 F (mX7_makes_l24 F n) v0 v1 v2 v3 w
def mX7_makes (F : Nat) (v0 : Nat) (v1 : Int32) (v2 : Int32) (w : gW) : Option (gW) :=
  (gP 7 15 (some v0) (.inr (.inl (1 : Int64))) w).bind fun w2 =>
  (gP 7 16 (some v0) (.inr (.inl (0 : Int64))) w2).bind fun w7 =>
  (gFR 7 13 (some v0) w7).bind fun t11 =>
  (gSI t11 (0 : Int32) (0 : Int32) w7).bind fun w16 =>
  (gP 7 14 (some v0) (.inl (1 : Int32)) w16).bind fun w19 =>
  mX7_makes_l24 F F v0 v1 v2 (0 : Int32) w19
def mX7_orderOf_h5 (F : Nat) (r : Nat → Int32 → Int32 → Int32 → Int32 → gW → Option (Int32 × gW)) (v0 : Nat) (v1 : Int32) (v2 : Int32) (v3 : Int32) (v4 : Int32) (w : gW) : Option (Int32 × gW) :=
  if v4 = 0 then
    (some (v3, w))
  else
    ((gO 7 (some v0) w).bind fun a15 =>
    (mX7_prod F a15 v1 v4 v2 w).bind fun q15 =>
    r v0 v1 v2 (v3 + (1 : Int32)) q15.1 q15.2)
def mX7_orderOf_l5 (F : Nat) : Nat → Nat → Int32 → Int32 → Int32 → Int32 → gW → Option (Int32 × gW)
  | 0, _, _, _, _, _, _ => none
  | n + 1, v0, v1, v2, v3, v4, w => mX7_orderOf_h5 F (mX7_orderOf_l5 F n) v0 v1 v2 v3 v4 w
def mX7_orderOf (F : Nat) (v0 : Nat) (v1 : Int32) (v2 : Int32) (w : gW) : Option (Int32 × gW) :=
  mX7_orderOf_l5 F F v0 v1 v2 (1 : Int32) v2 w
def mX7_quaternions_b134 (F : Nat) (r : Nat → Int32 → Int32 → gW → Option (Int32 × gW)) (k144 : Nat → Int32 → gW → Option (Int32 × gW)) (v0 : Nat) (v1 : Int32) (v2 : Int32) (s0 : Option Nat) (s1 : Int32) (s2 : Int32) (s3 : Int32) (s4 : Int32) (w : gW) : Option (Int32 × gW) :=
  (gO 7 s0 w).bind fun a135 =>
  (mX7_set F a135 s1 s2 (s3 + s4) w).bind fun q135 =>
  r v0 v1 (v2 + (1 : Int32)) q135
def mX7_quaternions_b113 (F : Nat) (r : Nat → Int32 → Int32 → gW → Option (Int32 × gW)) (k144 : Nat → Int32 → gW → Option (Int32 × gW)) (v0 : Nat) (v1 : Int32) (v2 : Int32) (v5 : Int32) (v6 : Int32) (s0 : Int32) (w : gW) : Option (Int32 × gW) :=
  if s0 = 0 then
    (mX7_quaternions_b134 F r k144 v0 v1 v2 (some v0) v1 v2 v6 v5 w)
  else
    (mX7_quaternions_b134 F r k144 v0 v1 v2 (some v0) v1 v2 v6 (v5 ^^^ (4 : Int32)) w)
def mX7_quaternions_b112 (F : Nat) (r : Nat → Int32 → Int32 → gW → Option (Int32 × gW)) (k144 : Nat → Int32 → gW → Option (Int32 × gW)) (v0 : Nat) (v1 : Int32) (v2 : Int32) (v5 : Int32) (v6 : Int32) (w : gW) : Option (Int32 × gW) :=
  mX7_quaternions_b113 F r k144 v0 v1 v2 v5 v6 (0 : Int32) w
def mX7_quaternions_b108 (F : Nat) (r : Nat → Int32 → Int32 → gW → Option (Int32 × gW)) (k144 : Nat → Int32 → gW → Option (Int32 × gW)) (v0 : Nat) (v1 : Int32) (v2 : Int32) (v5 : Int32) (v6 : Int32) (w : gW) : Option (Int32 × gW) :=
  mX7_quaternions_b113 F r k144 v0 v1 v2 v5 v6 (1 : Int32) w
def mX7_quaternions_b79 (F : Nat) (r : Nat → Int32 → Int32 → gW → Option (Int32 × gW)) (k144 : Nat → Int32 → gW → Option (Int32 × gW)) (v0 : Nat) (v1 : Int32) (v2 : Int32) (v3 : Int32) (v4 : Int32) (v5 : Int32) (s0 : Int32) (w : gW) : Option (Int32 × gW) :=
  if v3 ≤ 0 then
    (mX7_quaternions_b112 F r k144 v0 v1 v2 v5 s0 w)
  else
    (if v4 ≤ 0 then
      (mX7_quaternions_b112 F r k144 v0 v1 v2 v5 s0 w)
    else
      (if v3 = v4 then
        (mX7_quaternions_b108 F r k144 v0 v1 v2 v5 s0 w)
      else
        ((gRem ((v4 - v3) + (3 : Int32)) (3 : Int32)).bind fun t103 =>
        if t103 = (2 : Int32) then
          (mX7_quaternions_b108 F r k144 v0 v1 v2 v5 s0 w)
        else
          (mX7_quaternions_b112 F r k144 v0 v1 v2 v5 s0 w))))
def mX7_quaternions_h22 (F : Nat) (r : Nat → Int32 → Int32 → gW → Option (Int32 × gW)) (k144 : Nat → Int32 → gW → Option (Int32 × gW)) (v0 : Nat) (v1 : Int32) (v2 : Int32) (w : gW) : Option (Int32 × gW) :=
  if (8 : Int32) ≤ v2 then
    (k144 v0 v1 w)
  else
    (if (v1 &&& (3 : Int32)) = 0 then
      (mX7_quaternions_b79 F r k144 v0 v1 v2 (v1 &&& (3 : Int32)) (v2 &&& (3 : Int32)) ((v1 ^^^ v2) &&& (4 : Int32)) (v2 &&& (3 : Int32)) w)
    else
      (if (v2 &&& (3 : Int32)) = 0 then
        (mX7_quaternions_b79 F r k144 v0 v1 v2 (v1 &&& (3 : Int32)) (v2 &&& (3 : Int32)) ((v1 ^^^ v2) &&& (4 : Int32)) (v1 &&& (3 : Int32)) w)
      else
        (if (v1 &&& (3 : Int32)) = (v2 &&& (3 : Int32)) then
          (mX7_quaternions_b79 F r k144 v0 v1 v2 (v1 &&& (3 : Int32)) (v2 &&& (3 : Int32)) ((v1 ^^^ v2) &&& (4 : Int32)) (0 : Int32) w)
        else
          (mX7_quaternions_b79 F r k144 v0 v1 v2 (v1 &&& (3 : Int32)) (v2 &&& (3 : Int32)) ((v1 ^^^ v2) &&& (4 : Int32)) (((6 : Int32) - (v1 &&& (3 : Int32))) - (v2 &&& (3 : Int32))) w))))
def mX7_quaternions_l22 (F : Nat) (k144 : Nat → Int32 → gW → Option (Int32 × gW)) : Nat → Nat → Int32 → Int32 → gW → Option (Int32 × gW)
  | 0, _, _, _, _ => none
  | n + 1, v0, v1, v2, w => mX7_quaternions_h22 F (mX7_quaternions_l22 F k144 n) k144 v0 v1 v2 w
def mX7_quaternions_h14 (F : Nat) (r : Nat → Int32 → gW → Option (Int32 × gW)) (k150 : Nat → gW → Option (Int32 × gW)) (v0 : Nat) (v1 : Int32) (w : gW) : Option (Int32 × gW) :=
  if (8 : Int32) ≤ v1 then
    (k150 v0 w)
  else
    (mX7_quaternions_l22 F (fun (v0 : Nat) (v1 : Int32) (w : gW) => r v0 (v1 + (1 : Int32)) w) F v0 v1 (0 : Int32) w)
def mX7_quaternions_l14 (F : Nat) (k150 : Nat → gW → Option (Int32 × gW)) : Nat → Nat → Int32 → gW → Option (Int32 × gW)
  | 0, _, _, _ => none
  | n + 1, v0, v1, w => mX7_quaternions_h14 F (mX7_quaternions_l14 F k150 n) k150 v0 v1 w
def mX7_quaternions (F : Nat) (v0 : Nat) (w : gW) : Option (Int32 × gW) :=
  (gFI 7 0 (some v0) w).bind fun t1 =>
  if t1 = (8 : Int32) then
    (some ((-3 : Int32), w))
  else
    (mX7_quaternions_l14 F (fun (v0 : Nat) (w : gW) => (gO 7 (some v0) w).bind fun a153 =>
      (mX7_added F a153 (8 : Int32) w).bind fun q153 =>
      some (q153.1, q153.2)) F v0 (0 : Int32) w)
def mX7_settles_h6 (F : Nat) (r : Nat → Int32 → gW → Option (gW)) (k29 : Nat → Int32 → gW → Option (gW)) (v0 : Nat) (v1 : Int32) (w : gW) : Option (gW) :=
  (gFI 7 24 (some v0) w).bind fun t8 =>
  if t8 ≤ v1 then
    (k29 v0 v1 w)
  else
    ((gFR 7 25 (some v0) w).bind fun t15 =>
    (gLI t15 v1 w).bind fun t19 =>
    if t19 = 0 then
      (r v0 (v1 + (1 : Int32)) w)
    else
      (k29 v0 v1 w))
def mX7_settles_l6 (F : Nat) (k29 : Nat → Int32 → gW → Option (gW)) : Nat → Nat → Int32 → gW → Option (gW)
  | 0, _, _, _ => none
  | n + 1, v0, v1, w => mX7_settles_h6 F (mX7_settles_l6 F k29 n) k29 v0 v1 w
def mX7_settles_h40 (F : Nat) (r : Nat → Int32 → Int32 → gW → Option (gW)) (k63 : Nat → Int32 → Int32 → gW → Option (gW)) (v0 : Nat) (v1 : Int32) (v2 : Int32) (w : gW) : Option (gW) :=
  (gFR 7 25 (some v0) w).bind fun t42 =>
  (gLI t42 v1 w).bind fun t46 =>
  (gFI 7 23 (some v0) w).bind fun t49 =>
  (gRem (v2 * t46) t49).bind fun t52 =>
  if t52 = (1 : Int32) then
    (k63 v0 v1 v2 w)
  else
    (r v0 v1 (v2 + (1 : Int32)) w)
def mX7_settles_l40 (F : Nat) (k63 : Nat → Int32 → Int32 → gW → Option (gW)) : Nat → Nat → Int32 → Int32 → gW → Option (gW)
  | 0, _, _, _, _ => none
  | n + 1, v0, v1, v2, w => mX7_settles_h40 F (mX7_settles_l40 F k63 n) k63 v0 v1 v2 w
def mX7_settles_h65 (F : Nat) (r : Nat → Int32 → Int32 → Int32 → gW → Option (gW)) (k98 : Nat → Int32 → gW → Option (gW)) (v0 : Nat) (v1 : Int32) (v2 : Int32) (v3 : Int32) (w : gW) : Option (gW) :=
  (gFI 7 24 (some v0) w).bind fun t67 =>
  if t67 ≤ v3 then
    (k98 v0 v1 w)
  else
    ((gFR 7 25 (some v0) w).bind fun t74 =>
    (gFR 7 25 (some v0) w).bind fun t79 =>
    (gLI t79 v3 w).bind fun t83 =>
    (gFI 7 23 (some v0) w).bind fun t87 =>
    (gRem (t83 * v2) t87).bind fun t90 =>
    (gSI t74 v3 t90 w).bind fun w91 =>
    r v0 v1 v2 (v3 + (1 : Int32)) w91)
def mX7_settles_l65 (F : Nat) (k98 : Nat → Int32 → gW → Option (gW)) : Nat → Nat → Int32 → Int32 → Int32 → gW → Option (gW)
  | 0, _, _, _, _, _ => none
  | n + 1, v0, v1, v2, v3, w => mX7_settles_h65 F (mX7_settles_l65 F k98 n) k98 v0 v1 v2 v3 w
def mX7_settles_h124 (F : Nat) (r : Nat → Int32 → Int32 → Int32 → Int32 → gW → Option (gW)) (k189 : Nat → Int32 → Int32 → gW → Option (gW)) (v0 : Nat) (v1 : Int32) (v3 : Int32) (v4 : Int32) (v5 : Int32) (w : gW) : Option (gW) :=
  (gFI 7 24 (some v0) w).bind fun t127 =>
  if t127 ≤ v5 then
    (k189 v0 v1 v3 w)
  else
    (if v4 ≤ 0 then
      (k189 v0 v1 v3 w)
    else
      ((gFR 7 26 (some v0) w).bind fun t139 =>
      (gFR 7 26 (some v0) w).bind fun t150 =>
      (gLI t150 (((98 : Int32) * v3) + v5) w).bind fun t160 =>
      (gFI 7 23 (some v0) w).bind fun t162 =>
      (gFR 7 25 (some v0) w).bind fun t169 =>
      (gLI t169 v5 w).bind fun t174 =>
      (gFI 7 23 (some v0) w).bind fun t178 =>
      (gRem (t160 + ((t162 - v4) * t174)) t178).bind fun t181 =>
      (gSI t139 (((98 : Int32) * v3) + v5) t181 w).bind fun w182 =>
      r v0 v1 v3 v4 (v5 + (1 : Int32)) w182))
def mX7_settles_l124 (F : Nat) (k189 : Nat → Int32 → Int32 → gW → Option (gW)) : Nat → Nat → Int32 → Int32 → Int32 → Int32 → gW → Option (gW)
  | 0, _, _, _, _, _, _ => none
  | n + 1, v0, v1, v3, v4, v5, w => mX7_settles_h124 F (mX7_settles_l124 F k189 n) k189 v0 v1 v3 v4 v5 w
def mX7_settles_b189 (F : Nat) (r : Nat → Int32 → Int32 → gW → Option (gW)) (k195 : Nat → Int32 → gW → Option (gW)) (v0 : Nat) (v1 : Int32) (v3 : Int32) (w : gW) : Option (gW) :=
  r v0 v1 (v3 + (1 : Int32)) w
def mX7_settles_h100 (F : Nat) (r : Nat → Int32 → Int32 → gW → Option (gW)) (k195 : Nat → Int32 → gW → Option (gW)) (v0 : Nat) (v1 : Int32) (v3 : Int32) (w : gW) : Option (gW) :=
  (gFI 7 28 (some v0) w).bind fun t102 =>
  if t102 ≤ v3 then
    (k195 v0 v1 w)
  else
    ((gFR 7 26 (some v0) w).bind fun t109 =>
    (gLI t109 (((98 : Int32) * v3) + v1) w).bind fun t118 =>
    mX7_settles_l124 F (fun (v0 : Nat) (v1 : Int32) (v3 : Int32) (w : gW) => mX7_settles_b189 F r k195 v0 v1 v3 w) F v0 v1 v3 t118 (0 : Int32) w)
def mX7_settles_l100 (F : Nat) (k195 : Nat → Int32 → gW → Option (gW)) : Nat → Nat → Int32 → Int32 → gW → Option (gW)
  | 0, _, _, _, _ => none
  | n + 1, v0, v1, v3, w => mX7_settles_h100 F (mX7_settles_l100 F k195 n) k195 v0 v1 v3 w
def mX7_settles_h233 (F : Nat) (r : Nat → Int32 → Int32 → Int32 → gW → Option (gW)) (k274 : Nat → Int32 → Int32 → gW → Option (gW)) (v0 : Nat) (v1 : Int32) (v3 : Int32) (v4 : Int32) (w : gW) : Option (gW) :=
  (gFI 7 24 (some v0) w).bind fun t236 =>
  if t236 ≤ v4 then
    (k274 v0 v1 v3 w)
  else
    ((gFR 7 26 (some v0) w).bind fun t243 =>
    (gFR 7 26 (some v0) w).bind fun t254 =>
    (gLI t254 (((98 : Int32) * (v3 - (1 : Int32))) + v4) w).bind fun t266 =>
    (gSI t243 (((98 : Int32) * v3) + v4) t266 w).bind fun w267 =>
    r v0 v1 v3 (v4 + (1 : Int32)) w267)
def mX7_settles_l233 (F : Nat) (k274 : Nat → Int32 → Int32 → gW → Option (gW)) : Nat → Nat → Int32 → Int32 → Int32 → gW → Option (gW)
  | 0, _, _, _, _, _ => none
  | n + 1, v0, v1, v3, v4, w => mX7_settles_h233 F (mX7_settles_l233 F k274 n) k274 v0 v1 v3 v4 w
def mX7_settles_h200 (F : Nat) (r : Nat → Int32 → Int32 → gW → Option (gW)) (k280 : Nat → Int32 → Int32 → gW → Option (gW)) (v0 : Nat) (v1 : Int32) (v3 : Int32) (w : gW) : Option (gW) :=
  if v3 ≤ 0 then
    (k280 v0 v1 v3 w)
  else
    ((gFR 7 27 (some v0) w).bind fun t205 =>
    (gLI t205 (v3 - (1 : Int32)) w).bind fun t211 =>
    if t211 ≤ v1 then
      (k280 v0 v1 v3 w)
    else
      ((gFR 7 27 (some v0) w).bind fun t217 =>
      (gFR 7 27 (some v0) w).bind fun t222 =>
      (gLI t222 (v3 - (1 : Int32)) w).bind fun t228 =>
      (gSI t217 v3 t228 w).bind fun w229 =>
      mX7_settles_l233 F (fun (v0 : Nat) (v1 : Int32) (v3 : Int32) (w : gW) => r v0 v1 (v3 + (-1 : Int32)) w) F v0 v1 v3 (0 : Int32) w229))
def mX7_settles_l200 (F : Nat) (k280 : Nat → Int32 → Int32 → gW → Option (gW)) : Nat → Nat → Int32 → Int32 → gW → Option (gW)
  | 0, _, _, _, _ => none
  | n + 1, v0, v1, v3, w => mX7_settles_h200 F (mX7_settles_l200 F k280 n) k280 v0 v1 v3 w
def mX7_settles_h290 (F : Nat) (r : Nat → Int32 → Int32 → gW → Option (gW)) (k324 : Nat → gW → Option (gW)) (v0 : Nat) (v3 : Int32) (v4 : Int32) (w : gW) : Option (gW) :=
  (gFI 7 24 (some v0) w).bind fun t293 =>
  if t293 ≤ v4 then
    (k324 v0 w)
  else
    ((gFR 7 26 (some v0) w).bind fun t300 =>
    (gFR 7 25 (some v0) w).bind fun t311 =>
    (gLI t311 v4 w).bind fun t316 =>
    (gSI t300 (((98 : Int32) * v3) + v4) t316 w).bind fun w317 =>
    r v0 v3 (v4 + (1 : Int32)) w317)
def mX7_settles_l290 (F : Nat) (k324 : Nat → gW → Option (gW)) : Nat → Nat → Int32 → Int32 → gW → Option (gW)
  | 0, _, _, _, _ => none
  | n + 1, v0, v3, v4, w => mX7_settles_h290 F (mX7_settles_l290 F k324 n) k324 v0 v3 v4 w
def mX7_settles_b280 (F : Nat) (v0 : Nat) (v1 : Int32) (v3 : Int32) (w : gW) : Option (gW) :=
  (gFR 7 27 (some v0) w).bind fun t281 =>
  (gSI t281 v3 v1 w).bind fun w286 =>
  mX7_settles_l290 F (fun (v0 : Nat) (w : gW) => (gFI 7 28 (some v0) w).bind fun t326 =>
    (gP 7 28 (some v0) (.inl (t326 + (1 : Int32))) w).bind fun w331 =>
    some w331) F v0 v3 (0 : Int32) w286
def mX7_settles_b29 (F : Nat) (v0 : Nat) (v1 : Int32) (w : gW) : Option (gW) :=
  (gFI 7 24 (some v0) w).bind fun t31 =>
  if v1 = t31 then
    (some w)
  else
    (mX7_settles_l40 F (fun (v0 : Nat) (v1 : Int32) (v2 : Int32) (w : gW) => mX7_settles_l65 F (fun (v0 : Nat) (v1 : Int32) (w : gW) => mX7_settles_l100 F (fun (v0 : Nat) (v1 : Int32) (w : gW) => (gFI 7 28 (some v0) w).bind fun t196 =>
          mX7_settles_l200 F (fun (v0 : Nat) (v1 : Int32) (v3 : Int32) (w : gW) => mX7_settles_b280 F v0 v1 v3 w) F v0 v1 t196 w) F v0 v1 (0 : Int32) w) F v0 v1 v2 (0 : Int32) w) F v0 v1 (1 : Int32) w)
def mX7_settles (F : Nat) (v0 : Nat) (w : gW) : Option (gW) :=
  (gO 7 (some v0) w).bind fun a1 =>
  (mX7_reduceLine F a1 w).bind fun q1 =>
  mX7_settles_l6 F (fun (v0 : Nat) (v1 : Int32) (w : gW) => mX7_settles_b29 F v0 v1 w) F v0 (0 : Int32) q1
def mX7_sheet_h55 (F : Nat) (r : Nat → Int32 → Int32 → gW → Option (Int32 × gW)) (v0 : Nat) (v1 : Int32) (v4 : Int32) (w : gW) : Option (Int32 × gW) :=
  if (144 : Int32) ≤ v4 then
    (some ((1 : Int32), w))
  else
    ((gFR 7 6 (some v0) w).bind fun t64 =>
    (gSI t64 (((144 : Int32) * v1) + v4) (0 : Int32) w).bind fun w76 =>
    r v0 v1 (v4 + (1 : Int32)) w76)
def mX7_sheet_l55 (F : Nat) : Nat → Nat → Int32 → Int32 → gW → Option (Int32 × gW)
  | 0, _, _, _, _ => none
  | n + 1, v0, v1, v4, w => mX7_sheet_h55 F (mX7_sheet_l55 F n) v0 v1 v4 w
def mX7_sheet (F : Nat) (v0 : Nat) (v1 : Int32) (v2 : Int32) (v3 : Int32) (w : gW) : Option (Int32 × gW) :=
  (mX7_in F ((v1).toInt64) (0 : Int64) (3 : Int64) w).bind fun q6 =>
  if q6.1 = 0 then
    (some ((-1 : Int32), q6.2))
  else
    ((mX7_in F ((v2).toInt64) (0 : Int64) (1 : Int64) q6.2).bind fun q16 =>
    if q16.1 = 0 then
      (some ((-1 : Int32), q16.2))
    else
      (if v3 ≤ (144 : Int32) then
        (if 0 ≤ v3 then
          ((gFR 7 4 (some v0) q16.2).bind fun t39 =>
          (gSI t39 v1 v2 q16.2).bind fun w44 =>
          (gFR 7 5 (some v0) w44).bind fun t46 =>
          (gSI t46 v1 v3 w44).bind fun w51 =>
          mX7_sheet_l55 F F v0 v1 (0 : Int32) w51)
        else
          (some ((-14 : Int32), q16.2)))
      else
        (some ((-1 : Int32), q16.2))))
def mX7_sumOf_h19 (F : Nat) (r : Nat → Int32 → Int32 → Int32 → gW → Option (gW)) (k73 : Nat → Int32 → Int32 → gW → Option (gW)) (v0 : Nat) (v2 : Int32) (v3 : Int32) (v4 : Int32) (w : gW) : Option (gW) :=
  (gFI 7 24 (some v0) w).bind fun t22 =>
  if t22 ≤ v4 then
    (k73 v0 v2 v3 w)
  else
    ((gFR 7 25 (some v0) w).bind fun t29 =>
    (gFR 7 25 (some v0) w).bind fun t35 =>
    (gLI t35 v4 w).bind fun t40 =>
    (gFI 7 23 (some v0) w).bind fun t43 =>
    (gRem v2 t43).bind fun t46 =>
    (gFR 7 33 (some v0) w).bind fun t48 =>
    (gLI t48 (((98 : Int32) * v3) + v4) w).bind fun t58 =>
    (gFI 7 23 (some v0) w).bind fun t62 =>
    (gRem (t40 + (t46 * t58)) t62).bind fun t65 =>
    (gSI t29 v4 t65 w).bind fun w66 =>
    r v0 v2 v3 (v4 + (1 : Int32)) w66)
def mX7_sumOf_l19 (F : Nat) (k73 : Nat → Int32 → Int32 → gW → Option (gW)) : Nat → Nat → Int32 → Int32 → Int32 → gW → Option (gW)
  | 0, _, _, _, _, _ => none
  | n + 1, v0, v2, v3, v4, w => mX7_sumOf_h19 F (mX7_sumOf_l19 F k73 n) k73 v0 v2 v3 v4 w
def mX7_sumOf_h8 (F : Nat) (r : Nat → Int32 → Int32 → gW → Option (gW)) (v0 : Nat) (v2 : Int32) (v3 : Int32) (w : gW) : Option (gW) :=
  (gFI 7 35 (some v0) w).bind fun t10 =>
  if t10 ≤ v3 then
    (some w)
  else
    (mX7_sumOf_l19 F (fun (v0 : Nat) (v2 : Int32) (v3 : Int32) (w : gW) => (gFI 7 23 (some v0) w).bind fun t75 =>
      (gDiv v2 t75).bind fun t78 =>
      r v0 t78 (v3 + (1 : Int32)) w) F v0 v2 v3 (0 : Int32) w)
def mX7_sumOf_l8 (F : Nat) : Nat → Nat → Int32 → Int32 → gW → Option (gW)
  | 0, _, _, _, _ => none
  | n + 1, v0, v2, v3, w => mX7_sumOf_h8 F (mX7_sumOf_l8 F n) v0 v2 v3 w
def mX7_sumOf (F : Nat) (v0 : Nat) (v1 : Int32) (w : gW) : Option (gW) :=
  (gO 7 (some v0) w).bind fun a1 =>
  (mX7_clearLine F a1 w).bind fun q1 =>
  mX7_sumOf_l8 F F v0 v1 (0 : Int32) q1
def mX7_table_b154 (F : Nat) (r : Nat → Int32 → Int32 → Int32 → Int32 → gW → Option (Int32 × gW)) (k170 : Nat → Int32 → Int32 → Int32 → gW → Option (Int32 × gW)) (k143 : Int32 → Int32 → Int32 → gW → Option (Int32 × gW)) (v0 : Nat) (v1 : Int32) (v3 : Int32) (v5 : Int32) (v6 : Int32) (v7 : Int32) (w : gW) : Option (Int32 × gW) :=
  (gO 7 (some v0) w).bind fun a161 =>
  (mX7_set F a161 v5 v6 v7 w).bind fun q161 =>
  r v0 v1 v3 v5 (v6 + (1 : Int32)) q161
def mX7_table_b131 (F : Nat) (r : Nat → Int32 → Int32 → Int32 → Int32 → gW → Option (Int32 × gW)) (k170 : Nat → Int32 → Int32 → Int32 → gW → Option (Int32 × gW)) (k143 : Int32 → Int32 → Int32 → gW → Option (Int32 × gW)) (v0 : Nat) (v1 : Int32) (v3 : Int32) (v5 : Int32) (v6 : Int32) (v7 : Int32) (w : gW) : Option (Int32 × gW) :=
  if v6 = 0 then
    (if v7 = v5 then
      (mX7_table_b154 F r k170 k143 v0 v1 v3 v5 v6 v7 w)
    else
      (k143 v3 v5 v6 w))
  else
    (mX7_table_b154 F r k170 k143 v0 v1 v3 v5 v6 v7 w)
def mX7_table_h79 (F : Nat) (r : Nat → Int32 → Int32 → Int32 → Int32 → gW → Option (Int32 × gW)) (k170 : Nat → Int32 → Int32 → Int32 → gW → Option (Int32 × gW)) (k143 : Int32 → Int32 → Int32 → gW → Option (Int32 × gW)) (v0 : Nat) (v1 : Int32) (v3 : Int32) (v5 : Int32) (v6 : Int32) (w : gW) : Option (Int32 × gW) :=
  if v3 ≤ v6 then
    (k170 v0 v1 v3 v5 w)
  else
    ((gFR 7 6 (some v0) w).bind fun t86 =>
    (gLI t86 ((((144 : Int32) * v1) + (v3 * v5)) + v6) w).bind fun t102 =>
    (mX7_in F ((t102).toInt64) (0 : Int64) (((v3 - (1 : Int32))).toInt64) w).bind fun q113 =>
    if q113.1 = 0 then
      (k143 v3 v5 v6 q113.2)
    else
      (if v5 = 0 then
        (if t102 = v6 then
          (mX7_table_b131 F r k170 k143 v0 v1 v3 v5 v6 t102 q113.2)
        else
          (k143 v3 v5 v6 q113.2))
      else
        (mX7_table_b131 F r k170 k143 v0 v1 v3 v5 v6 t102 q113.2)))
def mX7_table_l79 (F : Nat) (k170 : Nat → Int32 → Int32 → Int32 → gW → Option (Int32 × gW)) (k143 : Int32 → Int32 → Int32 → gW → Option (Int32 × gW)) : Nat → Nat → Int32 → Int32 → Int32 → Int32 → gW → Option (Int32 × gW)
  | 0, _, _, _, _, _, _ => none
  | n + 1, v0, v1, v3, v5, v6, w => mX7_table_h79 F (mX7_table_l79 F k170 k143 n) k170 k143 v0 v1 v3 v5 v6 w
def mX7_table_h70 (F : Nat) (r : Nat → Int32 → Int32 → Int32 → gW → Option (Int32 × gW)) (k176 : Nat → Int32 → gW → Option (Int32 × gW)) (k143 : Int32 → Int32 → Int32 → gW → Option (Int32 × gW)) (v0 : Nat) (v1 : Int32) (v3 : Int32) (v5 : Int32) (w : gW) : Option (Int32 × gW) :=
  if v3 ≤ v5 then
    (k176 v0 v3 w)
  else
    (mX7_table_l79 F (fun (v0 : Nat) (v1 : Int32) (v3 : Int32) (v5 : Int32) (w : gW) => r v0 v1 v3 (v5 + (1 : Int32)) w) (fun (v3 : Int32) (v5 : Int32) (v6 : Int32) (w : gW) => k143 v3 v5 v6 w) F v0 v1 v3 v5 (0 : Int32) w)
def mX7_table_l70 (F : Nat) (k176 : Nat → Int32 → gW → Option (Int32 × gW)) (k143 : Int32 → Int32 → Int32 → gW → Option (Int32 × gW)) : Nat → Nat → Int32 → Int32 → Int32 → gW → Option (Int32 × gW)
  | 0, _, _, _, _, _ => none
  | n + 1, v0, v1, v3, v5, w => mX7_table_h70 F (mX7_table_l70 F k176 k143 n) k176 k143 v0 v1 v3 v5 w
def mX7_table_h185 (F : Nat) (r : Nat → Int32 → Int32 → Int32 → gW → Option (Int32 × gW)) (k269 : Nat → Int32 → Int32 → gW → Option (Int32 × gW)) (v0 : Nat) (v3 : Int32) (v5 : Int32) (v6 : Int32) (w : gW) : Option (Int32 × gW) :=
  if ((v3 * v3) * v3) ≤ v6 then
    (k269 v0 v3 v5 w)
  else
    ((gDiv v6 (v3 * v3)).bind fun t200 =>
    (gDiv v6 v3).bind fun t206 =>
    (gRem t206 v3).bind fun t208 =>
    (gRem v6 v3).bind fun t214 =>
    (gO 7 (some v0) w).bind fun a227 =>
    (mX7_prod F a227 v5 t200 t208 w).bind fun q227 =>
    (gO 7 (some v0) q227.2).bind fun a232 =>
    (mX7_prod F a232 v5 q227.1 t214 q227.2).bind fun q232 =>
    (gO 7 (some v0) q232.2).bind fun a247 =>
    (mX7_prod F a247 v5 t208 t214 q232.2).bind fun q247 =>
    (gO 7 (some v0) q247.2).bind fun a250 =>
    (mX7_prod F a250 v5 t200 q247.1 q247.2).bind fun q250 =>
    if q232.1 = q250.1 then
      (r v0 v3 v5 (v6 + (1 : Int32)) q250.2)
    else
      (some (((-1100 : Int32) - v6), q250.2)))
def mX7_table_l185 (F : Nat) (k269 : Nat → Int32 → Int32 → gW → Option (Int32 × gW)) : Nat → Nat → Int32 → Int32 → Int32 → gW → Option (Int32 × gW)
  | 0, _, _, _, _, _ => none
  | n + 1, v0, v3, v5, v6, w => mX7_table_h185 F (mX7_table_l185 F k269 n) k269 v0 v3 v5 v6 w
def mX7_table_b313 (F : Nat) (r : Nat → Int32 → Int32 → Int32 → Int32 → Int32 → gW → Option (Int32 × gW)) (k321 : Nat → Int32 → Int32 → Int32 → Int32 → gW → Option (Int32 × gW)) (v0 : Nat) (v3 : Int32) (v5 : Int32) (v6 : Int32) (v8 : Int32) (s0 : Int32) (w : gW) : Option (Int32 × gW) :=
  r v0 v3 v5 v6 s0 (v8 + (1 : Int32)) w
def mX7_table_b308 (F : Nat) (r : Nat → Int32 → Int32 → Int32 → Int32 → Int32 → gW → Option (Int32 × gW)) (k321 : Nat → Int32 → Int32 → Int32 → Int32 → gW → Option (Int32 × gW)) (v0 : Nat) (v3 : Int32) (v5 : Int32) (v6 : Int32) (v8 : Int32) (w : gW) : Option (Int32 × gW) :=
  mX7_table_b313 F r k321 v0 v3 v5 v6 v8 (1 : Int32) w
def mX7_table_h284 (F : Nat) (r : Nat → Int32 → Int32 → Int32 → Int32 → Int32 → gW → Option (Int32 × gW)) (k321 : Nat → Int32 → Int32 → Int32 → Int32 → gW → Option (Int32 × gW)) (v0 : Nat) (v3 : Int32) (v5 : Int32) (v6 : Int32) (v7 : Int32) (v8 : Int32) (w : gW) : Option (Int32 × gW) :=
  if v3 ≤ v8 then
    (k321 v0 v3 v5 v6 v7 w)
  else
    (if v7 = 0 then
      ((gO 7 (some v0) w).bind fun a302 =>
      (mX7_prod F a302 v5 v6 v8 w).bind fun q302 =>
      if q302.1 = 0 then
        (mX7_table_b308 F r k321 v0 v3 v5 v6 v8 q302.2)
      else
        (mX7_table_b313 F r k321 v0 v3 v5 v6 v8 (0 : Int32) q302.2))
    else
      (mX7_table_b308 F r k321 v0 v3 v5 v6 v8 w))
def mX7_table_l284 (F : Nat) (k321 : Nat → Int32 → Int32 → Int32 → Int32 → gW → Option (Int32 × gW)) : Nat → Nat → Int32 → Int32 → Int32 → Int32 → Int32 → gW → Option (Int32 × gW)
  | 0, _, _, _, _, _, _, _ => none
  | n + 1, v0, v3, v5, v6, v7, v8, w => mX7_table_h284 F (mX7_table_l284 F k321 n) k321 v0 v3 v5 v6 v7 v8 w
def mX7_table_h272 (F : Nat) (r : Nat → Int32 → Int32 → Int32 → gW → Option (Int32 × gW)) (k339 : Nat → Int32 → gW → Option (Int32 × gW)) (v0 : Nat) (v3 : Int32) (v5 : Int32) (v6 : Int32) (w : gW) : Option (Int32 × gW) :=
  if v3 ≤ v6 then
    (k339 v0 v3 w)
  else
    (mX7_table_l284 F (fun (v0 : Nat) (v3 : Int32) (v5 : Int32) (v6 : Int32) (v7 : Int32) (w : gW) => if v7 = 0 then
        (some (((-3100 : Int32) - v6), w))
      else
        (r v0 v3 v5 (v6 + (1 : Int32)) w)) F v0 v3 v5 v6 (0 : Int32) (0 : Int32) w)
def mX7_table_l272 (F : Nat) (k339 : Nat → Int32 → gW → Option (Int32 × gW)) : Nat → Nat → Int32 → Int32 → Int32 → gW → Option (Int32 × gW)
  | 0, _, _, _, _, _ => none
  | n + 1, v0, v3, v5, v6, w => mX7_table_h272 F (mX7_table_l272 F k339 n) k339 v0 v3 v5 v6 w
def mX7_table_b143 (F : Nat) (v3 : Int32) (v5 : Int32) (v6 : Int32) (w : gW) : Option (Int32 × gW) :=
  some (((-100 : Int32) - ((v3 * v5) + v6)), w)
def mX7_table (F : Nat) (v0 : Nat) (v1 : Int32) (v2 : Int32) (v3 : Int32) (w : gW) : Option (Int32 × gW) :=
  (mX7_in F ((v1).toInt64) (0 : Int64) (3 : Int64) w).bind fun q6 =>
  if q6.1 = 0 then
    (some ((-1 : Int32), q6.2))
  else
    ((mX7_in F ((v2).toInt64) (0 : Int64) (1 : Int64) q6.2).bind fun q16 =>
    if q16.1 = 0 then
      (some ((-1 : Int32), q16.2))
    else
      ((mX7_in F ((v3).toInt64) (1 : Int64) (12 : Int64) q16.2).bind fun q28 =>
      if q28.1 = 0 then
        (some ((-1 : Int32), q28.2))
      else
        ((gO 7 (some v0) q28.2).bind fun a42 =>
        (mX7_faultOf F a42 v1 v2 (v3 * v3) q28.2).bind fun q42 =>
        if 0 ≤ q42.1 then
          ((gFI 7 0 (some v0) q42.2).bind fun t56 =>
          if t56 = (8 : Int32) then
            (some ((-3 : Int32), q42.2))
          else
            (mX7_table_l70 F (fun (v0 : Nat) (v3 : Int32) (w : gW) => (gFI 7 0 (some v0) w).bind fun t177 =>
              mX7_table_l185 F (fun (v0 : Nat) (v3 : Int32) (v5 : Int32) (w : gW) => mX7_table_l272 F (fun (v0 : Nat) (v3 : Int32) (w : gW) => (gO 7 (some v0) w).bind fun a341 =>
                  (mX7_added F a341 v3 w).bind fun q341 =>
                  some (q341.1, q341.2)) F v0 v3 v5 (0 : Int32) w) F v0 v3 t177 (0 : Int32) w) (fun (v3 : Int32) (v5 : Int32) (v6 : Int32) (w : gW) => mX7_table_b143 F v3 v5 v6 w) F v0 v1 v3 (0 : Int32) q42.2))
        else
          (some (q42.1, q42.2)))))
def mX7_twisted_b8 (F : Nat)  (w : gW) : Option (Int32 × gW) :=
  some ((0 : Int32), w)
def mX7_twisted (F : Nat) (v0 : Nat) (v1 : Int32) (v2 : Int32) (v3 : Int32) (w : gW) : Option (Int32 × gW) :=
  if v1 = 0 then
    (mX7_twisted_b8 F w)
  else
    (if v2 = 0 then
      (mX7_twisted_b8 F w)
    else
      ((gFR 7 25 (some v0) w).bind fun t13 =>
      (gO 7 (some v0) w).bind fun a20 =>
      (mX7_placeOf F a20 v1 v2 v3 w).bind fun q20 =>
      (gLI t13 q20.1 q20.2).bind fun t23 =>
      some (t23, q20.2)))
def mX0_goesWithProduct_h40 (F : Nat) (r : Nat → Int32 → Int32 → Int32 → Int32 → Int32 → Int32 → Int32 → gW → Option (Int32 × gW)) (k79 : Nat → Int32 → Int32 → Int32 → Int32 → Int32 → Int32 → gW → Option (Int32 × gW)) (v0 : Nat) (v1 : Int32) (v2 : Int32) (v3 : Int32) (v4 : Int32) (v5 : Int32) (v6 : Int32) (v7 : Int32) (w : gW) : Option (Int32 × gW) :=
  (gFI 0 4 (some v0) w).bind fun t43 =>
  if t43 ≤ v7 then
    (k79 v0 v1 v2 v3 v4 v5 v6 w)
  else
    ((gO 0 (some v0) w).bind fun a57 =>
    (mX0_entry F a57 v1 v4 v7 w).bind fun q57 =>
    (gO 0 (some v0) q57.2).bind fun a66 =>
    (mX0_entry F a66 v2 v7 v5 q57.2).bind fun q66 =>
    r v0 v1 v2 v3 v4 v5 (v6 + (q57.1 * q66.1)) (v7 + (1 : Int32)) q66.2)
def mX0_goesWithProduct_l40 (F : Nat) (k79 : Nat → Int32 → Int32 → Int32 → Int32 → Int32 → Int32 → gW → Option (Int32 × gW)) : Nat → Nat → Int32 → Int32 → Int32 → Int32 → Int32 → Int32 → Int32 → gW → Option (Int32 × gW)
  | 0, _, _, _, _, _, _, _, _, _ => none
  | n + 1, v0, v1, v2, v3, v4, v5, v6, v7, w => mX0_goesWithProduct_h40 F (mX0_goesWithProduct_l40 F k79 n) k79 v0 v1 v2 v3 v4 v5 v6 v7 w
def mX0_goesWithProduct_h25 (F : Nat) (r : Nat → Int32 → Int32 → Int32 → Int32 → Int32 → gW → Option (Int32 × gW)) (k108 : Nat → Int32 → Int32 → Int32 → Int32 → gW → Option (Int32 × gW)) (v0 : Nat) (v1 : Int32) (v2 : Int32) (v3 : Int32) (v4 : Int32) (v5 : Int32) (w : gW) : Option (Int32 × gW) :=
  (gFI 0 4 (some v0) w).bind fun t28 =>
  if t28 ≤ v5 then
    (k108 v0 v1 v2 v3 v4 w)
  else
    (mX0_goesWithProduct_l40 F (fun (v0 : Nat) (v1 : Int32) (v2 : Int32) (v3 : Int32) (v4 : Int32) (v5 : Int32) (v6 : Int32) (w : gW) => (gFI 0 3 (some v0) w).bind fun t82 =>
      (mX6_mod F v6 t82 w).bind fun q85 =>
      (gO 0 (some v0) q85.2).bind fun a94 =>
      (mX0_entry F a94 v3 v4 v5 q85.2).bind fun q94 =>
      if q85.1 = q94.1 then
        (r v0 v1 v2 v3 v4 (v5 + (1 : Int32)) q94.2)
      else
        (some ((0 : Int32), q94.2))) F v0 v1 v2 v3 v4 v5 (0 : Int32) (0 : Int32) w)
def mX0_goesWithProduct_l25 (F : Nat) (k108 : Nat → Int32 → Int32 → Int32 → Int32 → gW → Option (Int32 × gW)) : Nat → Nat → Int32 → Int32 → Int32 → Int32 → Int32 → gW → Option (Int32 × gW)
  | 0, _, _, _, _, _, _, _ => none
  | n + 1, v0, v1, v2, v3, v4, v5, w => mX0_goesWithProduct_h25 F (mX0_goesWithProduct_l25 F k108 n) k108 v0 v1 v2 v3 v4 v5 w
def mX0_goesWithProduct_h13 (F : Nat) (r : Nat → Int32 → Int32 → Int32 → Int32 → gW → Option (Int32 × gW)) (v0 : Nat) (v1 : Int32) (v2 : Int32) (v3 : Int32) (v4 : Int32) (w : gW) : Option (Int32 × gW) :=
  (gFI 0 4 (some v0) w).bind fun t16 =>
  if t16 ≤ v4 then
    (some ((1 : Int32), w))
  else
    (mX0_goesWithProduct_l25 F (fun (v0 : Nat) (v1 : Int32) (v2 : Int32) (v3 : Int32) (v4 : Int32) (w : gW) => r v0 v1 v2 v3 (v4 + (1 : Int32)) w) F v0 v1 v2 v3 v4 (0 : Int32) w)
def mX0_goesWithProduct_l13 (F : Nat) : Nat → Nat → Int32 → Int32 → Int32 → Int32 → gW → Option (Int32 × gW)
  | 0, _, _, _, _, _, _ => none
  | n + 1, v0, v1, v2, v3, v4, w => mX0_goesWithProduct_h13 F (mX0_goesWithProduct_l13 F n) v0 v1 v2 v3 v4 w
def mX0_goesWithProduct (F : Nat) (v0 : Nat) (v1 : Int32) (v2 : Int32) (w : gW) : Option (Int32 × gW) :=
  (gFR 0 2 (some v0) w).bind fun t1 =>
  (gO 2 t1 w).bind fun a6 =>
  (mX2_mul F a6 v1 v2 w).bind fun q6 =>
  mX0_goesWithProduct_l13 F F v0 v1 v2 q6.1 (0 : Int32) q6.2
def mX0_move_b66 (F : Nat) (r : Nat → Int32 → Int32 → Int32 → Int32 → Int32 → gW → Option (Int32 × gW)) (v0 : Nat) (v1 : Int32) (v2 : Int32) (v3 : Int32) (v4 : Int32) (v5 : Int32) (v6 : Int32) (w : gW) : Option (Int32 × gW) :=
  (gFI 0 3 (some v0) w).bind fun t72 =>
  (mX6_mod F v6 t72 w).bind fun q75 =>
  (gFI 0 3 (some v0) q75.2).bind fun t84 =>
  r v0 v1 v2 (v3 + (v4 * q75.1)) (v4 * t84) (v5 + (1 : Int32)) q75.2
def mX0_move_h8 (F : Nat) (r : Nat → Int32 → Int32 → Int32 → Int32 → Int32 → gW → Option (Int32 × gW)) (v0 : Nat) (v1 : Int32) (v2 : Int32) (v3 : Int32) (v4 : Int32) (v5 : Int32) (w : gW) : Option (Int32 × gW) :=
  (gFI 0 4 (some v0) w).bind fun t11 =>
  if t11 ≤ v5 then
    (some (v3, w))
  else
    ((gO 0 (some v0) w).bind fun a22 =>
    (mX0_entry F a22 v1 v5 (0 : Int32) w).bind fun q22 =>
    (gFI 0 3 (some v0) q22.2).bind fun t27 =>
    (mX6_mod F v2 t27 q22.2).bind fun q30 =>
    (gFI 0 4 (some v0) q30.2).bind fun t37 =>
    if t37 ≤ (1 : Int32) then
      (mX0_move_b66 F r v0 v1 v2 v3 v4 v5 (q22.1 * q30.1) q30.2)
    else
      ((gO 0 (some v0) q30.2).bind fun a51 =>
      (mX0_entry F a51 v1 v5 (1 : Int32) q30.2).bind fun q51 =>
      (gFI 0 3 (some v0) q51.2).bind fun t56 =>
      (mX6_quotient F v2 t56 q51.2).bind fun q59 =>
      mX0_move_b66 F r v0 v1 v2 v3 v4 v5 ((q22.1 * q30.1) + (q51.1 * q59.1)) q59.2))
def mX0_move_l8 (F : Nat) : Nat → Nat → Int32 → Int32 → Int32 → Int32 → Int32 → gW → Option (Int32 × gW)
  | 0, _, _, _, _, _, _, _ => none
  | n + 1, v0, v1, v2, v3, v4, v5, w => mX0_move_h8 F (mX0_move_l8 F n) v0 v1 v2 v3 v4 v5 w
def mX0_move (F : Nat) (v0 : Nat) (v1 : Int32) (v2 : Int32) (w : gW) : Option (Int32 × gW) :=
  mX0_move_l8 F F v0 v1 v2 (0 : Int32) (1 : Int32) (0 : Int32) w
def mX1_inverseOf_h2 (F : Nat) (r : Nat → Int32 → Int32 → gW → Option (Int32 × gW)) (v0 : Nat) (v1 : Int32) (v2 : Int32) (w : gW) : Option (Int32 × gW) :=
  (gFI 1 4 (some v0) w).bind fun t4 =>
  if t4 ≤ v2 then
    (some ((0 : Int32), w))
  else
    ((gFI 1 4 (some v0) w).bind fun t14 =>
    (mX6_mod F (v1 * v2) t14 w).bind fun q17 =>
    if q17.1 = (1 : Int32) then
      (some (v2, q17.2))
    else
      (r v0 v1 (v2 + (1 : Int32)) q17.2))
def mX1_inverseOf_l2 (F : Nat) : Nat → Nat → Int32 → Int32 → gW → Option (Int32 × gW)
  | 0, _, _, _, _ => none
  | n + 1, v0, v1, v2, w => mX1_inverseOf_h2 F (mX1_inverseOf_l2 F n) v0 v1 v2 w
def mX1_inverseOf (F : Nat) (v0 : Nat) (v1 : Int32) (w : gW) : Option (Int32 × gW) :=
  mX1_inverseOf_l2 F F v0 v1 (1 : Int32) w
def mX1_reduce_b99 (F : Nat) (r : Nat → (Option Nat) → Int32 → gW → Option (gW)) (v0 : Nat) (v1 : Option Nat) (v2 : Int32) (w : gW) : Option (gW) :=
  r v0 v1 (v2 + (1 : Int32)) w
def mX1_reduce_b93 (F : Nat) (r : Nat → (Option Nat) → Int32 → Int32 → Int32 → Int32 → gW → Option (gW)) (k99 : Nat → (Option Nat) → Int32 → gW → Option (gW)) (v0 : Nat) (v1 : Option Nat) (v2 : Int32) (v3 : Int32) (v4 : Int32) (v5 : Int32) (w : gW) : Option (gW) :=
  r v0 v1 v2 v3 v4 (v5 + (1 : Int32)) w
def mX1_reduce_h47 (F : Nat) (r : Nat → (Option Nat) → Int32 → Int32 → Int32 → Int32 → gW → Option (gW)) (k99 : Nat → (Option Nat) → Int32 → gW → Option (gW)) (v0 : Nat) (v1 : Option Nat) (v2 : Int32) (v3 : Int32) (v4 : Int32) (v5 : Int32) (w : gW) : Option (gW) :=
  (gFI 1 3 (some v0) w).bind fun t50 =>
  if t50 ≤ v5 then
    (k99 v0 v1 v2 w)
  else
    ((gFR 1 0 (some v0) w).bind fun t57 =>
    (gLI t57 (v3 + v5) w).bind fun t64 =>
    if t64 = 0 then
      (mX1_reduce_b93 F r k99 v0 v1 v2 v3 v4 v5 w)
    else
      ((gLI v1 v5 w).bind fun t78 =>
      (gFI 1 4 (some v0) w).bind fun t86 =>
      (mX6_mod F (t78 + (v4 * t64)) t86 w).bind fun q89 =>
      (gSI v1 v5 q89.1 q89.2).bind fun w92 =>
      mX1_reduce_b93 F r k99 v0 v1 v2 v3 v4 v5 w92))
def mX1_reduce_l47 (F : Nat) (k99 : Nat → (Option Nat) → Int32 → gW → Option (gW)) : Nat → Nat → (Option Nat) → Int32 → Int32 → Int32 → Int32 → gW → Option (gW)
  | 0, _, _, _, _, _, _, _ => none
  | n + 1, v0, v1, v2, v3, v4, v5, w => mX1_reduce_h47 F (mX1_reduce_l47 F k99 n) k99 v0 v1 v2 v3 v4 v5 w
def mX1_reduce_h2 (F : Nat) (r : Nat → (Option Nat) → Int32 → gW → Option (gW)) (v0 : Nat) (v1 : Option Nat) (v2 : Int32) (w : gW) : Option (gW) :=
  (gFI 1 3 (some v0) w).bind fun t4 =>
  if t4 ≤ v2 then
    (some w)
  else
    ((gLI v1 v2 w).bind fun t12 =>
    if t12 = 0 then
      (mX1_reduce_b99 F r v0 v1 v2 w)
    else
      ((gO 1 (some v0) w).bind fun a18 =>
      (mX1_leadsAt F a18 v2 w).bind fun q18 =>
      if q18.1 = 0 then
        (mX1_reduce_b99 F r v0 v1 v2 q18.2)
      else
        ((gFR 1 2 (some v0) q18.2).bind fun t25 =>
        (gLI t25 v2 q18.2).bind fun t29 =>
        (gFI 1 4 (some v0) q18.2).bind fun t35 =>
        (gLI v1 v2 q18.2).bind fun t40 =>
        mX1_reduce_l47 F (fun (v0 : Nat) (v1 : Option Nat) (v2 : Int32) (w : gW) => mX1_reduce_b99 F r v0 v1 v2 w) F v0 v1 v2 (t29 * (98 : Int32)) (t35 - t40) v2 q18.2)))
def mX1_reduce_l2 (F : Nat) : Nat → Nat → (Option Nat) → Int32 → gW → Option (gW)
  | 0, _, _, _, _ => none
  | n + 1, v0, v1, v2, w => mX1_reduce_h2 F (mX1_reduce_l2 F n) v0 v1 v2 w
def mX1_reduce (F : Nat) (v0 : Nat) (v1 : Option Nat) (w : gW) : Option (gW) :=
  mX1_reduce_l2 F F v0 v1 (0 : Int32) w
def mX2_bringsAllToZero_h2 (F : Nat) (r : Nat → Int32 → Int32 → gW → Option (Int32 × gW)) (v0 : Nat) (v1 : Int32) (v2 : Int32) (w : gW) : Option (Int32 × gW) :=
  (gFI 2 7 (some v0) w).bind fun t4 =>
  if t4 ≤ v2 then
    (some ((1 : Int32), w))
  else
    ((gFR 2 4 (some v0) w).bind fun t12 =>
    (gLI t12 v2 w).bind fun t16 =>
    (mX6_mod F v1 t16 w).bind fun q17 =>
    if q17.1 = 0 then
      (r v0 v1 (v2 + (1 : Int32)) q17.2)
    else
      (some ((0 : Int32), q17.2)))
def mX2_bringsAllToZero_l2 (F : Nat) : Nat → Nat → Int32 → Int32 → gW → Option (Int32 × gW)
  | 0, _, _, _, _ => none
  | n + 1, v0, v1, v2, w => mX2_bringsAllToZero_h2 F (mX2_bringsAllToZero_l2 F n) v0 v1 v2 w
def mX2_bringsAllToZero (F : Nat) (v0 : Nat) (v1 : Int32) (w : gW) : Option (Int32 × gW) :=
  mX2_bringsAllToZero_l2 F F v0 v1 (0 : Int32) w
def mX2_countCentral_b27 (F : Nat) (r : Nat → Int32 → Int32 → gW → Option (Int32 × gW)) (v0 : Nat) (v1 : Int32) (v2 : Int32) (w : gW) : Option (Int32 × gW) :=
  r v0 v1 (v2 + (1 : Int32)) w
def mX2_countCentral_h4 (F : Nat) (r : Nat → Int32 → Int32 → gW → Option (Int32 × gW)) (v0 : Nat) (v1 : Int32) (v2 : Int32) (w : gW) : Option (Int32 × gW) :=
  (gFI 2 7 (some v0) w).bind fun t6 =>
  if t6 ≤ v2 then
    (some (v1, w))
  else
    ((gO 2 (some v0) w).bind fun a14 =>
    (mX2_countCommuting F a14 v2 w).bind fun q14 =>
    (gFI 2 7 (some v0) q14.2).bind fun t18 =>
    if q14.1 = t18 then
      (mX2_countCentral_b27 F r v0 (v1 + (1 : Int32)) v2 q14.2)
    else
      (mX2_countCentral_b27 F r v0 v1 v2 q14.2))
def mX2_countCentral_l4 (F : Nat) : Nat → Nat → Int32 → Int32 → gW → Option (Int32 × gW)
  | 0, _, _, _, _ => none
  | n + 1, v0, v1, v2, w => mX2_countCentral_h4 F (mX2_countCentral_l4 F n) v0 v1 v2 w
def mX2_countCentral (F : Nat) (v0 : Nat) (w : gW) : Option (Int32 × gW) :=
  mX2_countCentral_l4 F F v0 (0 : Int32) (0 : Int32) w
def mX2_countDerived_b89 (F : Nat) (r : Nat → Int64 → Int32 → Int32 → Int32 → gW → Option (Int32 × gW)) (k95 : Nat → Int64 → Int32 → Int32 → gW → Option (Int32 × gW)) (v0 : Nat) (v1 : Int64) (v3 : Int32) (v4 : Int32) (v5 : Int32) (w : gW) : Option (Int32 × gW) :=
  r v0 v1 v3 v4 (v5 + (1 : Int32)) w
def mX2_countDerived_h19 (F : Nat) (r : Nat → Int64 → Int32 → Int32 → Int32 → gW → Option (Int32 × gW)) (k95 : Nat → Int64 → Int32 → Int32 → gW → Option (Int32 × gW)) (v0 : Nat) (v1 : Int64) (v3 : Int32) (v4 : Int32) (v5 : Int32) (w : gW) : Option (Int32 × gW) :=
  (gFI 2 7 (some v0) w).bind fun t22 =>
  if t22 ≤ v5 then
    (k95 v0 v1 v3 v4 w)
  else
    ((gO 2 (some v0) w).bind fun a35 =>
    (mX2_mul F a35 v4 v5 w).bind fun q35 =>
    (gFR 2 3 (some v0) q35.2).bind fun t39 =>
    (gLI t39 v4 q35.2).bind fun t44 =>
    (gO 2 (some v0) q35.2).bind fun a45 =>
    (mX2_mul F a45 q35.1 t44 q35.2).bind fun q45 =>
    (gFR 2 3 (some v0) q45.2).bind fun t49 =>
    (gLI t49 v5 q45.2).bind fun t54 =>
    (gO 2 (some v0) q45.2).bind fun a55 =>
    (mX2_mul F a55 q45.1 t54 q45.2).bind fun q55 =>
    if (lg_cmp ((v1 >>> ((q55.1).toInt64 &&& 63)) &&& (1 : Int64)) (0 : Int64)) = 0 then
      ((gFR 2 2 (some v0) q55.2).bind fun t79 =>
      (gSI t79 v3 q55.1 q55.2).bind fun w85 =>
      mX2_countDerived_b89 F r k95 v0 (v1 ||| ((1 : Int64) <<< ((q55.1).toInt64 &&& 63))) (v3 + (1 : Int32)) v4 v5 w85)
    else
      (mX2_countDerived_b89 F r k95 v0 v1 v3 v4 v5 q55.2))
def mX2_countDerived_l19 (F : Nat) (k95 : Nat → Int64 → Int32 → Int32 → gW → Option (Int32 × gW)) : Nat → Nat → Int64 → Int32 → Int32 → Int32 → gW → Option (Int32 × gW)
  | 0, _, _, _, _, _, _ => none
  | n + 1, v0, v1, v3, v4, v5, w => mX2_countDerived_h19 F (mX2_countDerived_l19 F k95 n) k95 v0 v1 v3 v4 v5 w
def mX2_countDerived_h7 (F : Nat) (r : Nat → Int64 → Int32 → Int32 → gW → Option (Int32 × gW)) (k101 : Nat → Int32 → gW → Option (Int32 × gW)) (v0 : Nat) (v1 : Int64) (v3 : Int32) (v4 : Int32) (w : gW) : Option (Int32 × gW) :=
  (gFI 2 7 (some v0) w).bind fun t10 =>
  if t10 ≤ v4 then
    (k101 v0 v3 w)
  else
    (mX2_countDerived_l19 F (fun (v0 : Nat) (v1 : Int64) (v3 : Int32) (v4 : Int32) (w : gW) => r v0 v1 v3 (v4 + (1 : Int32)) w) F v0 v1 v3 v4 (0 : Int32) w)
def mX2_countDerived_l7 (F : Nat) (k101 : Nat → Int32 → gW → Option (Int32 × gW)) : Nat → Nat → Int64 → Int32 → Int32 → gW → Option (Int32 × gW)
  | 0, _, _, _, _, _ => none
  | n + 1, v0, v1, v3, v4, w => mX2_countDerived_h7 F (mX2_countDerived_l7 F k101 n) k101 v0 v1 v3 v4 w
def mX2_countDerived (F : Nat) (v0 : Nat) (w : gW) : Option (Int32 × gW) :=
  mX2_countDerived_l7 F (fun (v0 : Nat) (v3 : Int32) (w : gW) => (gFR 2 2 (some v0) w).bind fun t103 =>
    (gO 2 (some v0) w).bind fun a107 =>
    (mX2_span F a107 t103 v3 w).bind fun q107 =>
    (mJ13_bitCount_95d88 F q107.1 q107.2).bind fun q110 =>
    some (q110.1, q110.2)) F v0 (0 : Int64) (0 : Int32) (0 : Int32) w
def mX2_countMade (F : Nat) (v0 : Nat) (v1 : Int32) (v2 : Int32) (w : gW) : Option (Int32 × gW) :=
  (gFR 2 2 (some v0) w).bind fun t1 =>
  (gSI t1 (0 : Int32) v1 w).bind fun w6 =>
  (gFR 2 2 (some v0) w6).bind fun t8 =>
  (gSI t8 (1 : Int32) v2 w6).bind fun w13 =>
  (gFR 2 2 (some v0) w13).bind fun t16 =>
  (gO 2 (some v0) w13).bind fun a20 =>
  (mX2_span F a20 t16 (2 : Int32) w13).bind fun q20 =>
  (mJ13_bitCount_95d88 F q20.1 q20.2).bind fun q23 =>
  some (q23.1, q23.2)
def mX2_countTurnClasses_b24 (F : Nat) (r : Nat → Int32 → Int32 → gW → Option (Int32 × gW)) (v0 : Nat) (v1 : Int32) (v2 : Int32) (w : gW) : Option (Int32 × gW) :=
  r v0 v1 (v2 + (1 : Int32)) w
def mX2_countTurnClasses_h4 (F : Nat) (r : Nat → Int32 → Int32 → gW → Option (Int32 × gW)) (v0 : Nat) (v1 : Int32) (v2 : Int32) (w : gW) : Option (Int32 × gW) :=
  (gFI 2 7 (some v0) w).bind fun t6 =>
  if t6 ≤ v2 then
    (some (v1, w))
  else
    ((gO 2 (some v0) w).bind fun a14 =>
    (mX2_leastTurned F a14 v2 w).bind fun q14 =>
    if q14.1 = v2 then
      (mX2_countTurnClasses_b24 F r v0 (v1 + (1 : Int32)) v2 q14.2)
    else
      (mX2_countTurnClasses_b24 F r v0 v1 v2 q14.2))
def mX2_countTurnClasses_l4 (F : Nat) : Nat → Nat → Int32 → Int32 → gW → Option (Int32 × gW)
  | 0, _, _, _, _ => none
  | n + 1, v0, v1, v2, w => mX2_countTurnClasses_h4 F (mX2_countTurnClasses_l4 F n) v0 v1 v2 w
def mX2_countTurnClasses (F : Nat) (v0 : Nat) (w : gW) : Option (Int32 × gW) :=
  mX2_countTurnClasses_l4 F F v0 (0 : Int32) (0 : Int32) w
def mX2_extendMakers_b10 (F : Nat) (self : (Option Nat) → Int32 → Int32 → Int64 → gW → Option (Int32 × gW)) (v0 : Option Nat) (v3 : Int64) (w : gW) : Option (Int32 × gW) :=
  (mJ13_bitCount_95d88 F v3 w).bind fun q11 =>
  (gFI 2 7 v0 q11.2).bind fun t15 =>
  if q11.1 = t15 then
    (some ((1 : Int32), q11.2))
  else
    (some ((0 : Int32), q11.2))
def mX2_extendMakers_b118 (F : Nat) (self : (Option Nat) → Int32 → Int32 → Int64 → gW → Option (Int32 × gW)) (r : (Option Nat) → Int32 → Int32 → Int64 → Int32 → gW → Option (Int32 × gW)) (v0 : Option Nat) (v1 : Int32) (v2 : Int32) (v5 : Int64) (v8 : Int32) (w : gW) : Option (Int32 × gW) :=
  r v0 v1 v2 v5 (v8 + (1 : Int32)) w
def mX2_extendMakers_h54 (F : Nat) (self : (Option Nat) → Int32 → Int32 → Int64 → gW → Option (Int32 × gW)) (r : (Option Nat) → Int32 → Int32 → Int64 → Int32 → gW → Option (Int32 × gW)) (v0 : Option Nat) (v1 : Int32) (v2 : Int32) (v5 : Int64) (v8 : Int32) (w : gW) : Option (Int32 × gW) :=
  (gFI 2 7 v0 w).bind fun t57 =>
  if t57 ≤ v8 then
    (some ((0 : Int32), w))
  else
    (if (lg_cmp ((v5 >>> ((v8).toInt64 &&& 63)) &&& (1 : Int64)) (0 : Int64)) = 0 then
      ((gFR 2 5 v0 w).bind fun t76 =>
      (gSI t76 v2 v8 w).bind fun w82 =>
      (gFR 2 5 v0 w82).bind fun t85 =>
      (gO 2 v0 w82).bind fun a91 =>
      (mX2_span F a91 t85 (v2 + (1 : Int32)) w82).bind fun q91 =>
      (self v0 v1 (v2 + (1 : Int32)) q91.1 q91.2).bind fun q103 =>
      if q103.1 = 0 then
        (mX2_extendMakers_b118 F self r v0 v1 v2 (v5 ||| q91.1) v8 q103.2)
      else
        (some ((1 : Int32), q103.2)))
    else
      (mX2_extendMakers_b118 F self r v0 v1 v2 v5 v8 w))
def mX2_extendMakers_l54 (F : Nat) (self : (Option Nat) → Int32 → Int32 → Int64 → gW → Option (Int32 × gW)) : Nat → (Option Nat) → Int32 → Int32 → Int64 → Int32 → gW → Option (Int32 × gW)
  | 0, _, _, _, _, _, _ => none
  | n + 1, v0, v1, v2, v5, v8, w => mX2_extendMakers_h54 F self (mX2_extendMakers_l54 F self n) v0 v1 v2 v5 v8 w
def mX2_extendMakers_b48 (F : Nat) (self : (Option Nat) → Int32 → Int32 → Int64 → gW → Option (Int32 × gW)) (v0 : Option Nat) (v1 : Int32) (v2 : Int32) (v5 : Int64) (s0 : Int32) (w : gW) : Option (Int32 × gW) :=
  mX2_extendMakers_l54 F self F v0 v1 v2 v5 s0 w
def mX2_extendMakers_body (F : Nat) (self : (Option Nat) → Int32 → Int32 → Int64 → gW → Option (Int32 × gW)) (v0 : Option Nat) (v1 : Int32) (v2 : Int32) (v3 : Int64) (w : gW) : Option (Int32 × gW) :=
  if v1 ≤ v2 then
    (mX2_extendMakers_b10 F self v0 v3 w)
  else
    (if v2 < (5 : Int32) then
      (if v2 = 0 then
        (mX2_extendMakers_b48 F self v0 v1 v2 v3 (1 : Int32) w)
      else
        ((gFR 2 5 v0 w).bind fun t39 =>
        (gLI t39 (v2 - (1 : Int32)) w).bind fun t45 =>
        mX2_extendMakers_b48 F self v0 v1 v2 v3 (t45 + (1 : Int32)) w))
    else
      (mX2_extendMakers_b10 F self v0 v3 w))
def mX2_extendMakers (F : Nat) : Nat → (Option Nat) → Int32 → Int32 → Int64 → gW → Option (Int32 × gW)
  | 0, _, _, _, _, _ => none
  | d + 1, v0, v1, v2, v3, w => mX2_extendMakers_body F (mX2_extendMakers F d) v0 v1 v2 v3 w
def mX2_fillTurns_h14 (F : Nat) (r : Nat → Int32 → Int32 → Int32 → gW → Option (gW)) (k38 : Nat → Int32 → Int32 → gW → Option (gW)) (v0 : Nat) (v1 : Int32) (v2 : Int32) (v3 : Int32) (w : gW) : Option (gW) :=
  if v1 ≤ v3 then
    (k38 v0 v1 v2 w)
  else
    ((mX6_mod F (v2 + v3) v1 w).bind fun q26 =>
    (gO 2 (some v0) q26.2).bind fun a29 =>
    (mX2_set F a29 v2 v3 q26.1 q26.2).bind fun q29 =>
    r v0 v1 v2 (v3 + (1 : Int32)) q29)
def mX2_fillTurns_l14 (F : Nat) (k38 : Nat → Int32 → Int32 → gW → Option (gW)) : Nat → Nat → Int32 → Int32 → Int32 → gW → Option (gW)
  | 0, _, _, _, _, _ => none
  | n + 1, v0, v1, v2, v3, w => mX2_fillTurns_h14 F (mX2_fillTurns_l14 F k38 n) k38 v0 v1 v2 v3 w
def mX2_fillTurns_h7 (F : Nat) (r : Nat → Int32 → Int32 → gW → Option (gW)) (v0 : Nat) (v1 : Int32) (v2 : Int32) (w : gW) : Option (gW) :=
  if v1 ≤ v2 then
    (some w)
  else
    (mX2_fillTurns_l14 F (fun (v0 : Nat) (v1 : Int32) (v2 : Int32) (w : gW) => r v0 v1 (v2 + (1 : Int32)) w) F v0 v1 v2 (0 : Int32) w)
def mX2_fillTurns_l7 (F : Nat) : Nat → Nat → Int32 → Int32 → gW → Option (gW)
  | 0, _, _, _, _ => none
  | n + 1, v0, v1, v2, w => mX2_fillTurns_h7 F (mX2_fillTurns_l7 F n) v0 v1 v2 w
def mX2_fillTurns (F : Nat) (v0 : Nat) (v1 : Int32) (w : gW) : Option (gW) :=
  (gP 2 7 (some v0) (.inl v1) w).bind fun w2 =>
  mX2_fillTurns_l7 F F v0 v1 (0 : Int32) w2
def mX2_fillTurnsAndFlips_b92 (F : Nat) (r : Nat → Int32 → Int32 → Int32 → gW → Option (gW)) (k102 : Nat → Int32 → Int32 → gW → Option (gW)) (v0 : Nat) (v1 : Int32) (v2 : Int32) (v3 : Int32) (s0 : Option Nat) (s1 : Int32) (s2 : Int32) (s3 : Int32) (s4 : Int32) (w : gW) : Option (gW) :=
  (gO 2 s0 w).bind fun a93 =>
  (mX2_set F a93 s1 s2 (s3 + s4) w).bind fun q93 =>
  r v0 v1 v2 (v3 + (1 : Int32)) q93
def mX2_fillTurnsAndFlips_b71 (F : Nat) (r : Nat → Int32 → Int32 → Int32 → gW → Option (gW)) (k102 : Nat → Int32 → Int32 → gW → Option (gW)) (v0 : Nat) (v1 : Int32) (v2 : Int32) (v3 : Int32) (v4 : Int32) (s0 : Int32) (w : gW) : Option (gW) :=
  (mX6_mod F v4 v1 w).bind fun q79 =>
  if s0 = 0 then
    (mX2_fillTurnsAndFlips_b92 F r k102 v0 v1 v2 v3 (some v0) v2 v3 q79.1 (0 : Int32) q79.2)
  else
    (mX2_fillTurnsAndFlips_b92 F r k102 v0 v1 v2 v3 (some v0) v2 v3 q79.1 v1 q79.2)
def mX2_fillTurnsAndFlips_b63 (F : Nat) (r : Nat → Int32 → Int32 → Int32 → gW → Option (gW)) (k102 : Nat → Int32 → Int32 → gW → Option (gW)) (v0 : Nat) (v1 : Int32) (v2 : Int32) (v3 : Int32) (v4 : Int32) (s0 : Int32) (s1 : Int32) (w : gW) : Option (gW) :=
  if s0 = s1 then
    (mX2_fillTurnsAndFlips_b71 F r k102 v0 v1 v2 v3 v4 (0 : Int32) w)
  else
    (mX2_fillTurnsAndFlips_b71 F r k102 v0 v1 v2 v3 v4 (1 : Int32) w)
def mX2_fillTurnsAndFlips_b53 (F : Nat) (r : Nat → Int32 → Int32 → Int32 → gW → Option (gW)) (k102 : Nat → Int32 → Int32 → gW → Option (gW)) (v0 : Nat) (v1 : Int32) (v2 : Int32) (v3 : Int32) (v4 : Int32) (s0 : Int32) (w : gW) : Option (gW) :=
  if v1 ≤ v3 then
    (mX2_fillTurnsAndFlips_b63 F r k102 v0 v1 v2 v3 v4 s0 (0 : Int32) w)
  else
    (mX2_fillTurnsAndFlips_b63 F r k102 v0 v1 v2 v3 v4 s0 (1 : Int32) w)
def mX2_fillTurnsAndFlips_b41 (F : Nat) (r : Nat → Int32 → Int32 → Int32 → gW → Option (gW)) (k102 : Nat → Int32 → Int32 → gW → Option (gW)) (v0 : Nat) (v1 : Int32) (v2 : Int32) (v3 : Int32) (s0 : Int32) (w : gW) : Option (gW) :=
  if v1 ≤ v2 then
    (mX2_fillTurnsAndFlips_b53 F r k102 v0 v1 v2 v3 s0 (0 : Int32) w)
  else
    (mX2_fillTurnsAndFlips_b53 F r k102 v0 v1 v2 v3 s0 (1 : Int32) w)
def mX2_fillTurnsAndFlips_h19 (F : Nat) (r : Nat → Int32 → Int32 → Int32 → gW → Option (gW)) (k102 : Nat → Int32 → Int32 → gW → Option (gW)) (v0 : Nat) (v1 : Int32) (v2 : Int32) (v3 : Int32) (w : gW) : Option (gW) :=
  (gFI 2 7 (some v0) w).bind fun t21 =>
  if t21 ≤ v3 then
    (k102 v0 v1 v2 w)
  else
    (if v1 ≤ v2 then
      (mX2_fillTurnsAndFlips_b41 F r k102 v0 v1 v2 v3 (v2 - v3) w)
    else
      (mX2_fillTurnsAndFlips_b41 F r k102 v0 v1 v2 v3 (v2 + v3) w))
def mX2_fillTurnsAndFlips_l19 (F : Nat) (k102 : Nat → Int32 → Int32 → gW → Option (gW)) : Nat → Nat → Int32 → Int32 → Int32 → gW → Option (gW)
  | 0, _, _, _, _, _ => none
  | n + 1, v0, v1, v2, v3, w => mX2_fillTurnsAndFlips_h19 F (mX2_fillTurnsAndFlips_l19 F k102 n) k102 v0 v1 v2 v3 w
def mX2_fillTurnsAndFlips_h9 (F : Nat) (r : Nat → Int32 → Int32 → gW → Option (gW)) (v0 : Nat) (v1 : Int32) (v2 : Int32) (w : gW) : Option (gW) :=
  (gFI 2 7 (some v0) w).bind fun t11 =>
  if t11 ≤ v2 then
    (some w)
  else
    (mX2_fillTurnsAndFlips_l19 F (fun (v0 : Nat) (v1 : Int32) (v2 : Int32) (w : gW) => r v0 v1 (v2 + (1 : Int32)) w) F v0 v1 v2 (0 : Int32) w)
def mX2_fillTurnsAndFlips_l9 (F : Nat) : Nat → Nat → Int32 → Int32 → gW → Option (gW)
  | 0, _, _, _, _ => none
  | n + 1, v0, v1, v2, w => mX2_fillTurnsAndFlips_h9 F (mX2_fillTurnsAndFlips_l9 F n) v0 v1 v2 w
def mX2_fillTurnsAndFlips (F : Nat) (v0 : Nat) (v1 : Int32) (w : gW) : Option (gW) :=
  (gP 2 7 (some v0) (.inl ((2 : Int32) * v1)) w).bind fun w4 =>
  mX2_fillTurnsAndFlips_l9 F F v0 v1 (0 : Int32) w4
def mX2_firstWithoutInverse_h2 (F : Nat) (r : Nat → Int32 → gW → Option (Int32 × gW)) (v0 : Nat) (v1 : Int32) (w : gW) : Option (Int32 × gW) :=
  (gFI 2 7 (some v0) w).bind fun t4 =>
  if t4 ≤ v1 then
    (some ((-1 : Int32), w))
  else
    ((gO 2 (some v0) w).bind fun a12 =>
    (mX2_findInverse F a12 v1 w).bind fun q12 =>
    if 0 ≤ q12.1 then
      (r v0 (v1 + (1 : Int32)) q12.2)
    else
      (some (v1, q12.2)))
def mX2_firstWithoutInverse_l2 (F : Nat) : Nat → Nat → Int32 → gW → Option (Int32 × gW)
  | 0, _, _, _ => none
  | n + 1, v0, v1, w => mX2_firstWithoutInverse_h2 F (mX2_firstWithoutInverse_l2 F n) v0 v1 w
def mX2_firstWithoutInverse (F : Nat) (v0 : Nat) (w : gW) : Option (Int32 × gW) :=
  mX2_firstWithoutInverse_l2 F F v0 (0 : Int32) w
def mX2_settle_h7 (F : Nat) (r : Nat → Int32 → gW → Option (gW)) (v0 : Nat) (v1 : Int32) (w : gW) : Option (gW) :=
  (gFI 2 7 (some v0) w).bind fun t9 =>
  if t9 ≤ v1 then
    (some w)
  else
    ((gFR 2 3 (some v0) w).bind fun t16 =>
    (gO 2 (some v0) w).bind fun a22 =>
    (mX2_findInverse F a22 v1 w).bind fun q22 =>
    (gSI t16 v1 q22.1 q22.2).bind fun w25 =>
    (gFR 2 4 (some v0) w25).bind fun t27 =>
    (gO 2 (some v0) w25).bind fun a33 =>
    (mX2_findPeriod F a33 v1 w25).bind fun q33 =>
    (gSI t27 v1 q33.1 q33.2).bind fun w36 =>
    r v0 (v1 + (1 : Int32)) w36)
def mX2_settle_l7 (F : Nat) : Nat → Nat → Int32 → gW → Option (gW)
  | 0, _, _, _ => none
  | n + 1, v0, v1, w => mX2_settle_h7 F (mX2_settle_l7 F n) v0 v1 w
def mX2_settle (F : Nat) (v0 : Nat) (w : gW) : Option (gW) :=
  (gP 2 6 (some v0) (.inl (-1 : Int32)) w).bind fun w2 =>
  mX2_settle_l7 F F v0 (0 : Int32) w2
def mX5_init (F : Nat) (v0 : Nat) (w : gW) : Option (gW) :=
  (gNI 98 (98 : Int32) w).bind fun w7 =>
  (gP 5 0 (some v0) (.inr (.inr (some w.2))) w7).bind fun w9 =>
  (mX1_init F 14 w9.2 (14 : Int32) (gNO 1 [.null, .null, .null, .int 0, .int 0, .int 0] w9)).bind fun q19 =>
  (gP 5 1 (some v0) (.inr (.inr (some w9.2))) q19).bind fun w22 =>
  (mX1_init F 12 w22.2 (12 : Int32) (gNO 1 [.null, .null, .null, .int 0, .int 0, .int 0] w22)).bind fun q32 =>
  (gP 5 2 (some v0) (.inr (.inr (some w22.2))) q32).bind fun w35 =>
  some w35
def mX5_numberOf_h31 (F : Nat) (r : Nat → (Option Nat) → Int32 → Int32 → Int32 → Int32 → gW → Option (Int32 × gW)) (k86 : (Option Nat) → Int32 → gW → Option (Int32 × gW)) (v0 : Nat) (v1 : Option Nat) (v6 : Int32) (v7 : Int32) (v8 : Int32) (v9 : Int32) (w : gW) : Option (Int32 × gW) :=
  (gFR 5 2 (some v0) w).bind fun t34 =>
  (gFI 1 5 t34 w).bind fun t37 =>
  if t37 ≤ v9 then
    (k86 v1 v7 w)
  else
    ((gFI 0 3 v1 w).bind fun t48 =>
    (mX6_mod F v8 t48 w).bind fun q51 =>
    (gFR 5 2 (some v0) q51.2).bind fun t55 =>
    (gO 1 t55 q51.2).bind fun a62 =>
    (mX1_number F a62 v9 v6 q51.2).bind fun q62 =>
    (gFI 0 3 v1 q62.2).bind fun t72 =>
    (mX6_quotient F v8 t72 q62.2).bind fun q75 =>
    r v0 v1 v6 (v7 + (q51.1 * q62.1)) q75.1 (v9 + (1 : Int32)) q75.2)
def mX5_numberOf_l31 (F : Nat) (k86 : (Option Nat) → Int32 → gW → Option (Int32 × gW)) : Nat → Nat → (Option Nat) → Int32 → Int32 → Int32 → Int32 → gW → Option (Int32 × gW)
  | 0, _, _, _, _, _, _, _ => none
  | n + 1, v0, v1, v6, v7, v8, v9, w => mX5_numberOf_h31 F (mX5_numberOf_l31 F k86 n) k86 v0 v1 v6 v7 v8 v9 w
def mX5_numberOf (F : Nat) (v0 : Nat) (v1 : Option Nat) (v2 : Int32) (v3 : Int32) (v4 : Int32) (v5 : Int32) (w : gW) : Option (Int32 × gW) :=
  if v3 = 0 then
    (some ((0 : Int32), w))
  else
    (if v4 = 0 then
      (some ((0 : Int32), w))
    else
      ((gO 0 v1 w).bind fun a17 =>
      (mX0_place F a17 v3 v4 v5 w).bind fun q17 =>
      mX5_numberOf_l31 F (fun (v1 : Option Nat) (v7 : Int32) (w : gW) => (gFI 0 3 v1 w).bind fun t89 =>
        (mX6_mod F v7 t89 w).bind fun q92 =>
        some (q92.1, q92.2)) F v0 v1 q17.1 (0 : Int32) v2 (0 : Int32) q17.2))
def mX5_readPair_b104 (F : Nat) (r : Nat → (Option Nat) → (Option Nat) → Int32 → Int32 → Int32 → Int32 → gW → Option (Int32 × gW)) (k110 : Nat → (Option Nat) → (Option Nat) → Int32 → Int32 → Int32 → gW → Option (Int32 × gW)) (v0 : Nat) (v1 : Option Nat) (v2 : Option Nat) (v3 : Int32) (v4 : Int32) (v5 : Int32) (v6 : Int32) (w : gW) : Option (Int32 × gW) :=
  r v0 v1 v2 v3 v4 v5 (v6 + (1 : Int32)) w
def mX5_readPair_b97 (F : Nat) (r : Nat → (Option Nat) → (Option Nat) → Int32 → Int32 → Int32 → Int32 → gW → Option (Int32 × gW)) (k110 : Nat → (Option Nat) → (Option Nat) → Int32 → Int32 → Int32 → gW → Option (Int32 × gW)) (v0 : Nat) (v1 : Option Nat) (v2 : Option Nat) (v3 : Int32) (v4 : Int32) (v5 : Int32) (v6 : Int32) (v7 : Int32) (w : gW) : Option (Int32 × gW) :=
  if v7 = 0 then
    (mX5_readPair_b104 F r k110 v0 v1 v2 v3 v4 v5 v6 w)
  else
    (some ((0 : Int32), w))
def mX5_readPair_h29 (F : Nat) (r : Nat → (Option Nat) → (Option Nat) → Int32 → Int32 → Int32 → Int32 → gW → Option (Int32 × gW)) (k110 : Nat → (Option Nat) → (Option Nat) → Int32 → Int32 → Int32 → gW → Option (Int32 × gW)) (v0 : Nat) (v1 : Option Nat) (v2 : Option Nat) (v3 : Int32) (v4 : Int32) (v5 : Int32) (v6 : Int32) (w : gW) : Option (Int32 × gW) :=
  (gFI 0 4 v1 w).bind fun t32 =>
  if t32 ≤ v6 then
    (k110 v0 v1 v2 v3 v4 v5 w)
  else
    ((gFR 4 0 v2 w).bind fun t39 =>
    (gFI 0 4 v1 w).bind fun t43 =>
    (gLI t39 ((t43 * ((v3 * v4) + v5)) + v6) w).bind fun t57 =>
    (gFI 0 3 v1 w).bind fun t59 =>
    (mX6_mod F t57 t59 w).bind fun q62 =>
    if v4 = 0 then
      (mX5_readPair_b97 F r k110 v0 v1 v2 v3 v4 v5 v6 q62.1 q62.2)
    else
      (if v5 = 0 then
        (mX5_readPair_b97 F r k110 v0 v1 v2 v3 v4 v5 v6 q62.1 q62.2)
      else
        ((gFR 5 0 (some v0) q62.2).bind fun t78 =>
        (gO 0 v1 q62.2).bind fun a88 =>
        (mX0_place F a88 v4 v5 v6 q62.2).bind fun q88 =>
        (gSI t78 q88.1 q62.1 q88.2).bind fun w93 =>
        mX5_readPair_b104 F r k110 v0 v1 v2 v3 v4 v5 v6 w93)))
def mX5_readPair_l29 (F : Nat) (k110 : Nat → (Option Nat) → (Option Nat) → Int32 → Int32 → Int32 → gW → Option (Int32 × gW)) : Nat → Nat → (Option Nat) → (Option Nat) → Int32 → Int32 → Int32 → Int32 → gW → Option (Int32 × gW)
  | 0, _, _, _, _, _, _, _, _ => none
  | n + 1, v0, v1, v2, v3, v4, v5, v6, w => mX5_readPair_h29 F (mX5_readPair_l29 F k110 n) k110 v0 v1 v2 v3 v4 v5 v6 w
def mX5_readPair_h20 (F : Nat) (r : Nat → (Option Nat) → (Option Nat) → Int32 → Int32 → Int32 → gW → Option (Int32 × gW)) (k116 : Nat → (Option Nat) → (Option Nat) → Int32 → Int32 → gW → Option (Int32 × gW)) (v0 : Nat) (v1 : Option Nat) (v2 : Option Nat) (v3 : Int32) (v4 : Int32) (v5 : Int32) (w : gW) : Option (Int32 × gW) :=
  if v3 ≤ v5 then
    (k116 v0 v1 v2 v3 v4 w)
  else
    (mX5_readPair_l29 F (fun (v0 : Nat) (v1 : Option Nat) (v2 : Option Nat) (v3 : Int32) (v4 : Int32) (v5 : Int32) (w : gW) => r v0 v1 v2 v3 v4 (v5 + (1 : Int32)) w) F v0 v1 v2 v3 v4 v5 (0 : Int32) w)
def mX5_readPair_l20 (F : Nat) (k116 : Nat → (Option Nat) → (Option Nat) → Int32 → Int32 → gW → Option (Int32 × gW)) : Nat → Nat → (Option Nat) → (Option Nat) → Int32 → Int32 → Int32 → gW → Option (Int32 × gW)
  | 0, _, _, _, _, _, _, _ => none
  | n + 1, v0, v1, v2, v3, v4, v5, w => mX5_readPair_h20 F (mX5_readPair_l20 F k116 n) k116 v0 v1 v2 v3 v4 v5 w
def mX5_readPair_h11 (F : Nat) (r : Nat → (Option Nat) → (Option Nat) → Int32 → Int32 → gW → Option (Int32 × gW)) (v0 : Nat) (v1 : Option Nat) (v2 : Option Nat) (v3 : Int32) (v4 : Int32) (w : gW) : Option (Int32 × gW) :=
  if v3 ≤ v4 then
    (some ((1 : Int32), w))
  else
    (mX5_readPair_l20 F (fun (v0 : Nat) (v1 : Option Nat) (v2 : Option Nat) (v3 : Int32) (v4 : Int32) (w : gW) => r v0 v1 v2 v3 (v4 + (1 : Int32)) w) F v0 v1 v2 v3 v4 (0 : Int32) w)
def mX5_readPair_l11 (F : Nat) : Nat → Nat → (Option Nat) → (Option Nat) → Int32 → Int32 → gW → Option (Int32 × gW)
  | 0, _, _, _, _, _, _ => none
  | n + 1, v0, v1, v2, v3, v4, w => mX5_readPair_h11 F (mX5_readPair_l11 F n) v0 v1 v2 v3 v4 w
def mX5_readPair (F : Nat) (v0 : Nat) (v1 : Option Nat) (v2 : Option Nat) (w : gW) : Option (Int32 × gW) :=
  (gFR 0 2 v1 w).bind fun t1 =>
  (gFI 2 7 t1 w).bind fun t4 =>
  mX5_readPair_l11 F F v0 v1 v2 t4 (0 : Int32) w
def mX5_writeStandard_b102 (F : Nat) (r : Nat → (Option Nat) → Int32 → Int32 → Int32 → Int32 → gW → Option (gW)) (v0 : Nat) (v1 : Option Nat) (v2 : Int32) (v3 : Int32) (v4 : Int32) (v5 : Int32) (w : gW) : Option (gW) :=
  r v0 v1 v2 v3 v4 (v5 + (1 : Int32)) w
def mX5_writeStandard_h49 (F : Nat) (r : Nat → (Option Nat) → Int32 → Int32 → Int32 → Int32 → Int32 → Int32 → Int32 → gW → Option (gW)) (k87 : Nat → (Option Nat) → Int32 → Int32 → Int32 → Int32 → Int32 → gW → Option (gW)) (v0 : Nat) (v1 : Option Nat) (v2 : Int32) (v3 : Int32) (v4 : Int32) (v5 : Int32) (v6 : Int32) (v7 : Int32) (v8 : Int32) (w : gW) : Option (gW) :=
  if v5 ≤ v8 then
    (k87 v0 v1 v2 v3 v4 v5 v7 w)
  else
    ((gFR 5 0 (some v0) w).bind fun t59 =>
    (gLI t59 v8 w).bind fun t64 =>
    (gO 1 v1 w).bind fun a74 =>
    (mX1_leadingNumber F a74 v6 ((v3 - (1 : Int32)) - v8) w).bind fun q74 =>
    r v0 v1 v2 v3 v4 v5 v6 (v7 + (t64 * q74.1)) (v8 + (1 : Int32)) q74.2)
def mX5_writeStandard_l49 (F : Nat) (k87 : Nat → (Option Nat) → Int32 → Int32 → Int32 → Int32 → Int32 → gW → Option (gW)) : Nat → Nat → (Option Nat) → Int32 → Int32 → Int32 → Int32 → Int32 → Int32 → Int32 → gW → Option (gW)
  | 0, _, _, _, _, _, _, _, _, _, _ => none
  | n + 1, v0, v1, v2, v3, v4, v5, v6, v7, v8, w => mX5_writeStandard_h49 F (mX5_writeStandard_l49 F k87 n) k87 v0 v1 v2 v3 v4 v5 v6 v7 v8 w
def mX5_writeStandard_h20 (F : Nat) (r : Nat → (Option Nat) → Int32 → Int32 → Int32 → Int32 → gW → Option (gW)) (v0 : Nat) (v1 : Option Nat) (v2 : Int32) (v3 : Int32) (v4 : Int32) (v5 : Int32) (w : gW) : Option (gW) :=
  if v3 ≤ v5 then
    (some w)
  else
    ((gO 1 v1 w).bind fun a37 =>
    (mX1_leadsAt F a37 ((v3 - (1 : Int32)) - v5) w).bind fun q37 =>
    if q37.1 = 0 then
      (mX5_writeStandard_b102 F r v0 v1 v2 v3 v4 v5 q37.2)
    else
      (mX5_writeStandard_l49 F (fun (v0 : Nat) (v1 : Option Nat) (v2 : Int32) (v3 : Int32) (v4 : Int32) (v5 : Int32) (v7 : Int32) (w : gW) => (gFR 5 0 (some v0) w).bind fun t88 =>
        (mX6_mod F (-v7) v4 w).bind fun q98 =>
        (gSI t88 v5 q98.1 q98.2).bind fun w101 =>
        mX5_writeStandard_b102 F r v0 v1 v2 v3 v4 v5 w101) F v0 v1 v2 v3 v4 v5 ((v3 - (1 : Int32)) - v5) (0 : Int32) v2 q37.2))
def mX5_writeStandard_l20 (F : Nat) : Nat → Nat → (Option Nat) → Int32 → Int32 → Int32 → Int32 → gW → Option (gW)
  | 0, _, _, _, _, _, _, _ => none
  | n + 1, v0, v1, v2, v3, v4, v5, w => mX5_writeStandard_h20 F (mX5_writeStandard_l20 F n) v0 v1 v2 v3 v4 v5 w
def mX5_writeStandard (F : Nat) (v0 : Nat) (v1 : Option Nat) (v2 : Int32) (v3 : Int32) (v4 : Int32) (w : gW) : Option (gW) :=
  (gFR 5 0 (some v0) w).bind fun t1 =>
  (mJ7_fill_53178 F t1 (0 : Int32) w).bind fun q5 =>
  (gFR 5 0 (some v0) q5).bind fun t9 =>
  (gSI t9 v2 (1 : Int32) q5).bind fun w14 =>
  mX5_writeStandard_l20 F F v0 v1 v2 v3 v4 (v2 + (1 : Int32)) w14
def mX6_addDigits_h9 (F : Nat) (r : Int32 → Int32 → Int32 → Int32 → Int32 → Int32 → Int32 → gW → Option (Int32 × gW)) (v0 : Int32) (v1 : Int32) (v2 : Int32) (v3 : Int32) (v4 : Int32) (v5 : Int32) (v6 : Int32) (w : gW) : Option (Int32 × gW) :=
  if v3 ≤ v6 then
    (some (v4, w))
  else
    ((mX6_quotient F v0 v5 w).bind fun q22 =>
    (mX6_quotient F v1 v5 q22.2).bind fun q28 =>
    (mX6_mod F (q22.1 + q28.1) v2 q28.2).bind fun q33 =>
    r v0 v1 v2 v3 (v4 + (v5 * q33.1)) (v5 * v2) (v6 + (1 : Int32)) q33.2)
def mX6_addDigits_l9 (F : Nat) : Nat → Int32 → Int32 → Int32 → Int32 → Int32 → Int32 → Int32 → gW → Option (Int32 × gW)
  | 0, _, _, _, _, _, _, _, _ => none
  | n + 1, v0, v1, v2, v3, v4, v5, v6, w => mX6_addDigits_h9 F (mX6_addDigits_l9 F n) v0 v1 v2 v3 v4 v5 v6 w
def mX6_addDigits (F : Nat) (v0 : Int32) (v1 : Int32) (v2 : Int32) (v3 : Int32) (w : gW) : Option (Int32 × gW) :=
  mX6_addDigits_l9 F F v0 v1 v2 v3 (0 : Int32) (1 : Int32) (0 : Int32) w
def mX6_element (F : Nat) (v0 : Nat) (v1 : Int32) (v2 : Int32) (v3 : Int32) (w : gW) : Option (Int32 × gW) :=
  (gO 6 (some v0) w).bind fun a2 =>
  (mX6_groupAt F a2 v1 w).bind fun q2 =>
  if q2.1 = none then
    (some ((-1 : Int32), q2.2))
  else
    ((gO 2 q2.1 q2.2).bind fun a15 =>
    (mX2_has F a15 v2 q2.2).bind fun q15 =>
    if q15.1 = 0 then
      (some ((-1 : Int32), q15.2))
    else
      (if v3 = (0 : Int32) then ((gFR 2 3 q2.1 q15.2).bind fun t58 =>
        (gLI t58 v2 q15.2).bind fun t62 =>
        some (t62, q15.2)) else if v3 = (1 : Int32) then ((gFR 2 4 q2.1 q15.2).bind fun t66 =>
        (gLI t66 v2 q15.2).bind fun t70 =>
        some (t70, q15.2)) else if v3 = (2 : Int32) then ((gO 2 q2.1 q15.2).bind fun a75 =>
        (mX2_countCommuting F a75 v2 q15.2).bind fun q75 =>
        some (q75.1, q75.2)) else if v3 = (3 : Int32) then ((gO 2 q2.1 q15.2).bind fun a82 =>
        (mX2_leastTurned F a82 v2 q15.2).bind fun q82 =>
        some (q82.1, q82.2)) else (some ((-1 : Int32), q15.2))))
def mX6_sheet (F : Nat) (v0 : Nat) (v1 : Int32) (v2 : Int32) (v3 : Int32) (w : gW) : Option (Int32 × gW) :=
  (gO 6 (some v0) w).bind fun a2 =>
  (mX6_sheetAt F a2 v1 w).bind fun q2 =>
  if q2.1 = none then
    (some ((-1 : Int32), q2.2))
  else
    ((mX6_isLane F v2 q2.2).bind fun q13 =>
    if q13.1 = 0 then
      (some ((-1 : Int32), q13.2))
    else
      (if v3 ≤ (144 : Int32) then
        (if 0 ≤ v3 then
          ((gO 4 q2.1 q13.2).bind fun a39 =>
          (mX4_renew F a39 v2 v3 q13.2).bind fun q39 =>
          some ((1 : Int32), q39))
        else
          (some ((-14 : Int32), q13.2)))
      else
        (some ((-1 : Int32), q13.2))))
def mX7_bounds_b153 (F : Nat) (r : Nat → Int32 → Int32 → Int32 → Int32 → Int32 → gW → Option (gW)) (k162 : Nat → Int32 → Int32 → Int32 → Int32 → gW → Option (gW)) (v0 : Nat) (v1 : Int32) (v2 : Int32) (v3 : Int32) (v4 : Int32) (v5 : Int32) (s0 : Option Nat) (s1 : Int32) (s2 : Int32) (w : gW) : Option (gW) :=
  (gO 7 s0 w).bind fun a153 =>
  (mX7_addTo F a153 s1 s2 w).bind fun q153 =>
  r v0 v1 v2 v3 v4 (v5 + (1 : Int32)) q153
def mX7_bounds_b152 (F : Nat) (r : Nat → Int32 → Int32 → Int32 → Int32 → Int32 → gW → Option (gW)) (k162 : Nat → Int32 → Int32 → Int32 → Int32 → gW → Option (gW)) (v0 : Nat) (v1 : Int32) (v2 : Int32) (v3 : Int32) (v4 : Int32) (v5 : Int32) (s0 : Option Nat) (s1 : Int32) (w : gW) : Option (gW) :=
  mX7_bounds_b153 F r k162 v0 v1 v2 v3 v4 v5 s0 s1 (0 : Int32) w
def mX7_bounds_b121 (F : Nat) (r : Nat → Int32 → Int32 → Int32 → Int32 → Int32 → gW → Option (gW)) (k162 : Nat → Int32 → Int32 → Int32 → Int32 → gW → Option (gW)) (v0 : Nat) (v1 : Int32) (v2 : Int32) (v3 : Int32) (v4 : Int32) (v5 : Int32) (v6 : Int32) (s0 : Option Nat) (s1 : Int32) (s2 : Int32) (w : gW) : Option (gW) :=
  (gO 7 s0 w).bind fun a121 =>
  (mX7_addTo F a121 s1 s2 w).bind fun q121 =>
  (gFI 7 38 (some v0) q121).bind fun t129 =>
  (gO 7 (some v0) q121).bind fun a135 =>
  (mX7_prod F a135 t129 v3 v4 q121).bind fun q135 =>
  if q135.1 = v1 then
    (if v5 = v2 then
      (mX7_bounds_b153 F r k162 v0 v1 v2 v3 v4 v5 (some v0) v6 (-1 : Int32) q135.2)
    else
      (mX7_bounds_b152 F r k162 v0 v1 v2 v3 v4 v5 (some v0) v6 q135.2))
  else
    (mX7_bounds_b152 F r k162 v0 v1 v2 v3 v4 v5 (some v0) v6 q135.2)
def mX7_bounds_b93 (F : Nat) (r : Nat → Int32 → Int32 → Int32 → Int32 → Int32 → gW → Option (gW)) (k162 : Nat → Int32 → Int32 → Int32 → Int32 → gW → Option (gW)) (v0 : Nat) (v1 : Int32) (v2 : Int32) (v3 : Int32) (v4 : Int32) (v5 : Int32) (v6 : Int32) (s0 : Option Nat) (s1 : Int32) (s2 : Int32) (w : gW) : Option (gW) :=
  (gO 7 s0 w).bind fun a93 =>
  (mX7_addTo F a93 s1 s2 w).bind fun q93 =>
  if v4 = v1 then
    ((gFI 7 39 (some v0) q93).bind fun t107 =>
    (gO 7 (some v0) q93).bind fun a114 =>
    (mX7_matrix F a114 t107 v3 v5 v2 q93).bind fun q114 =>
    mX7_bounds_b121 F r k162 v0 v1 v2 v3 v4 v5 v6 (some v0) v6 q114.1 q114.2)
  else
    (mX7_bounds_b121 F r k162 v0 v1 v2 v3 v4 v5 v6 (some v0) v6 (0 : Int32) q93)
def mX7_bounds_b92 (F : Nat) (r : Nat → Int32 → Int32 → Int32 → Int32 → Int32 → gW → Option (gW)) (k162 : Nat → Int32 → Int32 → Int32 → Int32 → gW → Option (gW)) (v0 : Nat) (v1 : Int32) (v2 : Int32) (v3 : Int32) (v4 : Int32) (v5 : Int32) (v6 : Int32) (s0 : Option Nat) (s1 : Int32) (w : gW) : Option (gW) :=
  mX7_bounds_b93 F r k162 v0 v1 v2 v3 v4 v5 v6 s0 s1 (0 : Int32) w
def mX7_bounds_h54 (F : Nat) (r : Nat → Int32 → Int32 → Int32 → Int32 → Int32 → gW → Option (gW)) (k162 : Nat → Int32 → Int32 → Int32 → Int32 → gW → Option (gW)) (v0 : Nat) (v1 : Int32) (v2 : Int32) (v3 : Int32) (v4 : Int32) (v5 : Int32) (w : gW) : Option (gW) :=
  (gFI 7 37 (some v0) w).bind fun t57 =>
  if t57 ≤ v5 then
    (k162 v0 v1 v2 v3 v4 w)
  else
    ((gO 7 (some v0) w).bind fun a69 =>
    (mX7_placeOf F a69 v3 v4 v5 w).bind fun q69 =>
    if v3 = v1 then
      (if v5 = v2 then
        (mX7_bounds_b93 F r k162 v0 v1 v2 v3 v4 v5 q69.1 (some v0) q69.1 (1 : Int32) q69.2)
      else
        (mX7_bounds_b92 F r k162 v0 v1 v2 v3 v4 v5 q69.1 (some v0) q69.1 q69.2))
    else
      (mX7_bounds_b92 F r k162 v0 v1 v2 v3 v4 v5 q69.1 (some v0) q69.1 q69.2))
def mX7_bounds_l54 (F : Nat) (k162 : Nat → Int32 → Int32 → Int32 → Int32 → gW → Option (gW)) : Nat → Nat → Int32 → Int32 → Int32 → Int32 → Int32 → gW → Option (gW)
  | 0, _, _, _, _, _, _, _ => none
  | n + 1, v0, v1, v2, v3, v4, v5, w => mX7_bounds_h54 F (mX7_bounds_l54 F k162 n) k162 v0 v1 v2 v3 v4 v5 w
def mX7_bounds_h42 (F : Nat) (r : Nat → Int32 → Int32 → Int32 → Int32 → gW → Option (gW)) (k168 : Nat → Int32 → Int32 → Int32 → gW → Option (gW)) (v0 : Nat) (v1 : Int32) (v2 : Int32) (v3 : Int32) (v4 : Int32) (w : gW) : Option (gW) :=
  (gFI 7 36 (some v0) w).bind fun t45 =>
  if t45 ≤ v4 then
    (k168 v0 v1 v2 v3 w)
  else
    (mX7_bounds_l54 F (fun (v0 : Nat) (v1 : Int32) (v2 : Int32) (v3 : Int32) (v4 : Int32) (w : gW) => r v0 v1 v2 v3 (v4 + (1 : Int32)) w) F v0 v1 v2 v3 v4 (0 : Int32) w)
def mX7_bounds_l42 (F : Nat) (k168 : Nat → Int32 → Int32 → Int32 → gW → Option (gW)) : Nat → Nat → Int32 → Int32 → Int32 → Int32 → gW → Option (gW)
  | 0, _, _, _, _, _, _ => none
  | n + 1, v0, v1, v2, v3, v4, w => mX7_bounds_h42 F (mX7_bounds_l42 F k168 n) k168 v0 v1 v2 v3 v4 w
def mX7_bounds_h31 (F : Nat) (r : Nat → Int32 → Int32 → Int32 → gW → Option (gW)) (k174 : Nat → Int32 → Int32 → gW → Option (gW)) (v0 : Nat) (v1 : Int32) (v2 : Int32) (v3 : Int32) (w : gW) : Option (gW) :=
  (gFI 7 36 (some v0) w).bind fun t33 =>
  if t33 ≤ v3 then
    (k174 v0 v1 v2 w)
  else
    (mX7_bounds_l42 F (fun (v0 : Nat) (v1 : Int32) (v2 : Int32) (v3 : Int32) (w : gW) => r v0 v1 v2 (v3 + (1 : Int32)) w) F v0 v1 v2 v3 (1 : Int32) w)
def mX7_bounds_l31 (F : Nat) (k174 : Nat → Int32 → Int32 → gW → Option (gW)) : Nat → Nat → Int32 → Int32 → Int32 → gW → Option (gW)
  | 0, _, _, _, _, _ => none
  | n + 1, v0, v1, v2, v3, w => mX7_bounds_h31 F (mX7_bounds_l31 F k174 n) k174 v0 v1 v2 v3 w
def mX7_bounds_h17 (F : Nat) (r : Nat → Int32 → Int32 → gW → Option (gW)) (k184 : Nat → Int32 → gW → Option (gW)) (v0 : Nat) (v1 : Int32) (v2 : Int32) (w : gW) : Option (gW) :=
  (gFI 7 37 (some v0) w).bind fun t19 =>
  if t19 ≤ v2 then
    (k184 v0 v1 w)
  else
    ((gO 7 (some v0) w).bind fun a26 =>
    (mX7_clearLine F a26 w).bind fun q26 =>
    mX7_bounds_l31 F (fun (v0 : Nat) (v1 : Int32) (v2 : Int32) (w : gW) => (gO 7 (some v0) w).bind fun a175 =>
      (mX7_settles F a175 w).bind fun q175 =>
      r v0 v1 (v2 + (1 : Int32)) q175) F v0 v1 v2 (1 : Int32) q26)
def mX7_bounds_l17 (F : Nat) (k184 : Nat → Int32 → gW → Option (gW)) : Nat → Nat → Int32 → Int32 → gW → Option (gW)
  | 0, _, _, _, _ => none
  | n + 1, v0, v1, v2, w => mX7_bounds_h17 F (mX7_bounds_l17 F k184 n) k184 v0 v1 v2 w
def mX7_bounds_h7 (F : Nat) (r : Nat → Int32 → gW → Option (gW)) (k190 : Nat → gW → Option (gW)) (v0 : Nat) (v1 : Int32) (w : gW) : Option (gW) :=
  (gFI 7 36 (some v0) w).bind fun t9 =>
  if t9 ≤ v1 then
    (k190 v0 w)
  else
    (mX7_bounds_l17 F (fun (v0 : Nat) (v1 : Int32) (w : gW) => r v0 (v1 + (1 : Int32)) w) F v0 v1 (0 : Int32) w)
def mX7_bounds_l7 (F : Nat) (k190 : Nat → gW → Option (gW)) : Nat → Nat → Int32 → gW → Option (gW)
  | 0, _, _, _ => none
  | n + 1, v0, v1, w => mX7_bounds_h7 F (mX7_bounds_l7 F k190 n) k190 v0 v1 w
def mX7_bounds_h224 (F : Nat) (r : Nat → Int32 → Int32 → gW → Option (gW)) (k260 : Nat → Int32 → gW → Option (gW)) (v0 : Nat) (v1 : Int32) (v2 : Int32) (w : gW) : Option (gW) :=
  (gFI 7 24 (some v0) w).bind fun t226 =>
  if t226 ≤ v2 then
    (k260 v0 v1 w)
  else
    ((gFR 7 31 (some v0) w).bind fun t233 =>
    (gFR 7 26 (some v0) w).bind fun t243 =>
    (gLI t243 (((98 : Int32) * v1) + v2) w).bind fun t252 =>
    (gSI t233 (((98 : Int32) * v1) + v2) t252 w).bind fun w253 =>
    r v0 v1 (v2 + (1 : Int32)) w253)
def mX7_bounds_l224 (F : Nat) (k260 : Nat → Int32 → gW → Option (gW)) : Nat → Nat → Int32 → Int32 → gW → Option (gW)
  | 0, _, _, _, _ => none
  | n + 1, v0, v1, v2, w => mX7_bounds_h224 F (mX7_bounds_l224 F k260 n) k260 v0 v1 v2 w
def mX7_bounds_h202 (F : Nat) (r : Nat → Int32 → gW → Option (gW)) (v0 : Nat) (v1 : Int32) (w : gW) : Option (gW) :=
  (gFI 7 28 (some v0) w).bind fun t204 =>
  if t204 ≤ v1 then
    (some w)
  else
    ((gFR 7 32 (some v0) w).bind fun t211 =>
    (gFR 7 27 (some v0) w).bind fun t216 =>
    (gLI t216 v1 w).bind fun t220 =>
    (gSI t211 v1 t220 w).bind fun w221 =>
    mX7_bounds_l224 F (fun (v0 : Nat) (v1 : Int32) (w : gW) => r v0 (v1 + (1 : Int32)) w) F v0 v1 (0 : Int32) w221)
def mX7_bounds_l202 (F : Nat) : Nat → Nat → Int32 → gW → Option (gW)
  | 0, _, _, _ => none
  | n + 1, v0, v1, w => mX7_bounds_h202 F (mX7_bounds_l202 F n) v0 v1 w
def mX7_bounds (F : Nat) (v0 : Nat) (w : gW) : Option (gW) :=
  (gP 7 28 (some v0) (.inl (0 : Int32)) w).bind fun w2 =>
  mX7_bounds_l7 F (fun (v0 : Nat) (w : gW) => (gFR 7 30 (some v0) w).bind fun t191 =>
    (gFI 7 28 (some v0) w).bind fun t196 =>
    (gSI t191 (4 : Int32) t196 w).bind fun w199 =>
    mX7_bounds_l202 F F v0 (0 : Int32) w199) F v0 (1 : Int32) w2
def mX7_dimensionNone_b70 (F : Nat) (r : Nat → Int32 → Int32 → Int32 → gW → Option (gW)) (k80 : Nat → Int32 → Int32 → gW → Option (gW)) (v0 : Nat) (v1 : Int32) (v2 : Int32) (v3 : Int32) (s0 : Option Nat) (s1 : Int32) (s2 : Int32) (s3 : Int32) (w : gW) : Option (gW) :=
  (gO 7 s0 w).bind fun a71 =>
  (mX7_addTo F a71 s1 (s2 - s3) w).bind fun q71 =>
  r v0 v1 v2 (v3 + (1 : Int32)) q71
def mX7_dimensionNone_h39 (F : Nat) (r : Nat → Int32 → Int32 → Int32 → gW → Option (gW)) (k80 : Nat → Int32 → Int32 → gW → Option (gW)) (v0 : Nat) (v1 : Int32) (v2 : Int32) (v3 : Int32) (w : gW) : Option (gW) :=
  (gFI 7 37 (some v0) w).bind fun t41 =>
  if t41 ≤ v3 then
    (k80 v0 v1 v2 w)
  else
    ((gFI 7 39 (some v0) w).bind fun t51 =>
    (gO 7 (some v0) w).bind fun a57 =>
    (mX7_matrix F a57 t51 v1 v2 v3 w).bind fun q57 =>
    if v2 = v3 then
      (mX7_dimensionNone_b70 F r k80 v0 v1 v2 v3 (some v0) v3 q57.1 (1 : Int32) q57.2)
    else
      (mX7_dimensionNone_b70 F r k80 v0 v1 v2 v3 (some v0) v3 q57.1 (0 : Int32) q57.2))
def mX7_dimensionNone_l39 (F : Nat) (k80 : Nat → Int32 → Int32 → gW → Option (gW)) : Nat → Nat → Int32 → Int32 → Int32 → gW → Option (gW)
  | 0, _, _, _, _, _ => none
  | n + 1, v0, v1, v2, v3, w => mX7_dimensionNone_h39 F (mX7_dimensionNone_l39 F k80 n) k80 v0 v1 v2 v3 w
def mX7_dimensionNone_h25 (F : Nat) (r : Nat → Int32 → Int32 → gW → Option (gW)) (k90 : Nat → Int32 → gW → Option (gW)) (v0 : Nat) (v1 : Int32) (v2 : Int32) (w : gW) : Option (gW) :=
  (gFI 7 37 (some v0) w).bind fun t27 =>
  if t27 ≤ v2 then
    (k90 v0 v1 w)
  else
    ((gO 7 (some v0) w).bind fun a34 =>
    (mX7_clearLine F a34 w).bind fun q34 =>
    mX7_dimensionNone_l39 F (fun (v0 : Nat) (v1 : Int32) (v2 : Int32) (w : gW) => (gO 7 (some v0) w).bind fun a81 =>
      (mX7_settles F a81 w).bind fun q81 =>
      r v0 v1 (v2 + (1 : Int32)) q81) F v0 v1 v2 (0 : Int32) q34)
def mX7_dimensionNone_l25 (F : Nat) (k90 : Nat → Int32 → gW → Option (gW)) : Nat → Nat → Int32 → Int32 → gW → Option (gW)
  | 0, _, _, _, _ => none
  | n + 1, v0, v1, v2, w => mX7_dimensionNone_h25 F (mX7_dimensionNone_l25 F k90 n) k90 v0 v1 v2 w
def mX7_dimensionNone_h15 (F : Nat) (r : Nat → Int32 → gW → Option (gW)) (k96 : Nat → gW → Option (gW)) (v0 : Nat) (v1 : Int32) (w : gW) : Option (gW) :=
  (gFI 7 36 (some v0) w).bind fun t17 =>
  if t17 ≤ v1 then
    (k96 v0 w)
  else
    (mX7_dimensionNone_l25 F (fun (v0 : Nat) (v1 : Int32) (w : gW) => r v0 (v1 + (1 : Int32)) w) F v0 v1 (0 : Int32) w)
def mX7_dimensionNone_l15 (F : Nat) (k96 : Nat → gW → Option (gW)) : Nat → Nat → Int32 → gW → Option (gW)
  | 0, _, _, _ => none
  | n + 1, v0, v1, w => mX7_dimensionNone_h15 F (mX7_dimensionNone_l15 F k96 n) k96 v0 v1 w
def mX7_dimensionNone (F : Nat) (v0 : Nat) (w : gW) : Option (gW) :=
  (gP 7 28 (some v0) (.inl (0 : Int32)) w).bind fun w2 =>
  (gFI 7 37 (some v0) w2).bind fun t7 =>
  (gP 7 24 (some v0) (.inl t7) w2).bind fun w10 =>
  mX7_dimensionNone_l15 F (fun (v0 : Nat) (w : gW) => (gFR 7 30 (some v0) w).bind fun t97 =>
    (gFI 7 37 (some v0) w).bind fun t102 =>
    (gFI 7 28 (some v0) w).bind fun t106 =>
    (gSI t97 (0 : Int32) (t102 - t106) w).bind fun w110 =>
    (gFR 7 30 (some v0) w110).bind fun t112 =>
    (gFI 7 28 (some v0) w110).bind fun t117 =>
    (gSI t112 (2 : Int32) t117 w110).bind fun w120 =>
    some w120) F v0 (0 : Int32) w10
def mX7_dimensionOne_h105 (F : Nat) (r : Nat → Int32 → Int32 → Int32 → Int32 → gW → Option (gW)) (k148 : Nat → Int32 → Int32 → Int32 → gW → Option (gW)) (v0 : Nat) (v1 : Int32) (v2 : Int32) (v3 : Int32) (v5 : Int32) (w : gW) : Option (gW) :=
  (gFI 7 37 (some v0) w).bind fun t108 =>
  if t108 ≤ v5 then
    (k148 v0 v1 v2 v3 w)
  else
    ((gFI 7 37 (some v0) w).bind fun t119 =>
    (gFI 7 39 (some v0) w).bind fun t128 =>
    (gO 7 (some v0) w).bind fun a135 =>
    (mX7_matrix F a135 t128 v1 v3 v5 w).bind fun q135 =>
    (gO 7 (some v0) q135.2).bind fun a139 =>
    (mX7_addTo F a139 (((v2 - (1 : Int32)) * t119) + v5) (-q135.1) q135.2).bind fun q139 =>
    r v0 v1 v2 v3 (v5 + (1 : Int32)) q139)
def mX7_dimensionOne_l105 (F : Nat) (k148 : Nat → Int32 → Int32 → Int32 → gW → Option (gW)) : Nat → Nat → Int32 → Int32 → Int32 → Int32 → gW → Option (gW)
  | 0, _, _, _, _, _, _ => none
  | n + 1, v0, v1, v2, v3, v5, w => mX7_dimensionOne_h105 F (mX7_dimensionOne_l105 F k148 n) k148 v0 v1 v2 v3 v5 w
def mX7_dimensionOne_b87 (F : Nat) (r : Nat → Int32 → Int32 → Int32 → gW → Option (gW)) (k158 : Nat → Int32 → Int32 → gW → Option (gW)) (v0 : Nat) (v1 : Int32) (v2 : Int32) (v3 : Int32) (w : gW) : Option (gW) :=
  (gFI 7 37 (some v0) w).bind fun t92 =>
  (gO 7 (some v0) w).bind fun a99 =>
  (mX7_addTo F a99 (((v1 - (1 : Int32)) * t92) + v3) (-1 : Int32) w).bind fun q99 =>
  mX7_dimensionOne_l105 F (fun (v0 : Nat) (v1 : Int32) (v2 : Int32) (v3 : Int32) (w : gW) => (gO 7 (some v0) w).bind fun a149 =>
    (mX7_settles F a149 w).bind fun q149 =>
    r v0 v1 v2 (v3 + (1 : Int32)) q149) F v0 v1 v2 v3 (0 : Int32) q99
def mX7_dimensionOne_h42 (F : Nat) (r : Nat → Int32 → Int32 → Int32 → gW → Option (gW)) (k158 : Nat → Int32 → Int32 → gW → Option (gW)) (v0 : Nat) (v1 : Int32) (v2 : Int32) (v3 : Int32) (w : gW) : Option (gW) :=
  (gFI 7 37 (some v0) w).bind fun t44 =>
  if t44 ≤ v3 then
    (k158 v0 v1 v2 w)
  else
    ((gO 7 (some v0) w).bind fun a51 =>
    (mX7_clearLine F a51 w).bind fun q51 =>
    (gFI 7 38 (some v0) q51).bind fun t56 =>
    (gO 7 (some v0) q51).bind fun a61 =>
    (mX7_prod F a61 t56 v1 v2 q51).bind fun q61 =>
    if q61.1 ≤ 0 then
      (mX7_dimensionOne_b87 F r k158 v0 v1 v2 v3 q61.2)
    else
      ((gFI 7 37 (some v0) q61.2).bind fun t77 =>
      (gO 7 (some v0) q61.2).bind fun a84 =>
      (mX7_addTo F a84 (((q61.1 - (1 : Int32)) * t77) + v3) (1 : Int32) q61.2).bind fun q84 =>
      mX7_dimensionOne_b87 F r k158 v0 v1 v2 v3 q84))
def mX7_dimensionOne_l42 (F : Nat) (k158 : Nat → Int32 → Int32 → gW → Option (gW)) : Nat → Nat → Int32 → Int32 → Int32 → gW → Option (gW)
  | 0, _, _, _, _, _ => none
  | n + 1, v0, v1, v2, v3, w => mX7_dimensionOne_h42 F (mX7_dimensionOne_l42 F k158 n) k158 v0 v1 v2 v3 w
def mX7_dimensionOne_h32 (F : Nat) (r : Nat → Int32 → Int32 → gW → Option (gW)) (k164 : Nat → Int32 → gW → Option (gW)) (v0 : Nat) (v1 : Int32) (v2 : Int32) (w : gW) : Option (gW) :=
  (gFI 7 36 (some v0) w).bind fun t34 =>
  if t34 ≤ v2 then
    (k164 v0 v1 w)
  else
    (mX7_dimensionOne_l42 F (fun (v0 : Nat) (v1 : Int32) (v2 : Int32) (w : gW) => r v0 v1 (v2 + (1 : Int32)) w) F v0 v1 v2 (0 : Int32) w)
def mX7_dimensionOne_l32 (F : Nat) (k164 : Nat → Int32 → gW → Option (gW)) : Nat → Nat → Int32 → Int32 → gW → Option (gW)
  | 0, _, _, _, _ => none
  | n + 1, v0, v1, v2, w => mX7_dimensionOne_h32 F (mX7_dimensionOne_l32 F k164 n) k164 v0 v1 v2 w
def mX7_dimensionOne_h22 (F : Nat) (r : Nat → Int32 → gW → Option (gW)) (k170 : Nat → gW → Option (gW)) (v0 : Nat) (v1 : Int32) (w : gW) : Option (gW) :=
  (gFI 7 36 (some v0) w).bind fun t24 =>
  if t24 ≤ v1 then
    (k170 v0 w)
  else
    (mX7_dimensionOne_l32 F (fun (v0 : Nat) (v1 : Int32) (w : gW) => r v0 (v1 + (1 : Int32)) w) F v0 v1 (1 : Int32) w)
def mX7_dimensionOne_l22 (F : Nat) (k170 : Nat → gW → Option (gW)) : Nat → Nat → Int32 → gW → Option (gW)
  | 0, _, _, _ => none
  | n + 1, v0, v1, w => mX7_dimensionOne_h22 F (mX7_dimensionOne_l22 F k170 n) k170 v0 v1 w
def mX7_dimensionOne (F : Nat) (v0 : Nat) (w : gW) : Option (gW) :=
  (gP 7 28 (some v0) (.inl (0 : Int32)) w).bind fun w2 =>
  (gFI 7 36 (some v0) w2).bind fun t7 =>
  (gFI 7 37 (some v0) w2).bind fun t13 =>
  (gP 7 24 (some v0) (.inl ((t7 - (1 : Int32)) * t13)) w2).bind fun w17 =>
  mX7_dimensionOne_l22 F (fun (v0 : Nat) (w : gW) => (gFR 7 30 (some v0) w).bind fun t171 =>
    (gFI 7 24 (some v0) w).bind fun t176 =>
    (gFI 7 28 (some v0) w).bind fun t180 =>
    (gSI t171 (1 : Int32) (t176 - t180) w).bind fun w184 =>
    some w184) F v0 (1 : Int32) w17
def mX7_isCocycle_h97 (F : Nat) (r : Nat → Int32 → Int32 → Int32 → Int32 → Int32 → Int32 → Int32 → gW → Option (Int32 × gW)) (k140 : Nat → Int32 → Int32 → Int32 → Int32 → Int32 → Int32 → gW → Option (Int32 × gW)) (v0 : Nat) (v1 : Int32) (v2 : Int32) (v3 : Int32) (v4 : Int32) (v5 : Int32) (v6 : Int32) (v7 : Int32) (w : gW) : Option (Int32 × gW) :=
  (gFI 7 37 (some v0) w).bind fun t100 =>
  if t100 ≤ v7 then
    (k140 v0 v1 v2 v3 v4 v5 v6 w)
  else
    ((gFI 7 39 (some v0) w).bind fun t110 =>
    (gO 7 (some v0) w).bind fun a118 =>
    (mX7_matrix F a118 t110 v2 v5 v7 w).bind fun q118 =>
    (gO 7 (some v0) q118.2).bind fun a127 =>
    (mX7_twisted F a127 v3 v4 v7 q118.2).bind fun q127 =>
    r v0 v1 v2 v3 v4 v5 (v6 + (q118.1 * q127.1)) (v7 + (1 : Int32)) q127.2)
def mX7_isCocycle_l97 (F : Nat) (k140 : Nat → Int32 → Int32 → Int32 → Int32 → Int32 → Int32 → gW → Option (Int32 × gW)) : Nat → Nat → Int32 → Int32 → Int32 → Int32 → Int32 → Int32 → Int32 → gW → Option (Int32 × gW)
  | 0, _, _, _, _, _, _, _, _, _ => none
  | n + 1, v0, v1, v2, v3, v4, v5, v6, v7, w => mX7_isCocycle_h97 F (mX7_isCocycle_l97 F k140 n) k140 v0 v1 v2 v3 v4 v5 v6 v7 w
def mX7_isCocycle_b159 (F : Nat) (r : Nat → Int32 → Int32 → Int32 → Int32 → Int32 → gW → Option (Int32 × gW)) (k166 : Nat → Int32 → Int32 → Int32 → Int32 → gW → Option (Int32 × gW)) (v0 : Nat) (v2 : Int32) (v3 : Int32) (v4 : Int32) (v5 : Int32) (s0 : Int32) (w : gW) : Option (Int32 × gW) :=
  r v0 s0 v2 v3 v4 (v5 + (1 : Int32)) w
def mX7_isCocycle_b158 (F : Nat) (r : Nat → Int32 → Int32 → Int32 → Int32 → Int32 → gW → Option (Int32 × gW)) (k166 : Nat → Int32 → Int32 → Int32 → Int32 → gW → Option (Int32 × gW)) (v0 : Nat) (v2 : Int32) (v3 : Int32) (v4 : Int32) (v5 : Int32) (w : gW) : Option (Int32 × gW) :=
  mX7_isCocycle_b159 F r k166 v0 v2 v3 v4 v5 (0 : Int32) w
def mX7_isCocycle_h37 (F : Nat) (r : Nat → Int32 → Int32 → Int32 → Int32 → Int32 → gW → Option (Int32 × gW)) (k166 : Nat → Int32 → Int32 → Int32 → Int32 → gW → Option (Int32 × gW)) (v0 : Nat) (v1 : Int32) (v2 : Int32) (v3 : Int32) (v4 : Int32) (v5 : Int32) (w : gW) : Option (Int32 × gW) :=
  (gFI 7 37 (some v0) w).bind fun t40 =>
  if t40 ≤ v5 then
    (k166 v0 v1 v2 v3 v4 w)
  else
    ((gFI 7 38 (some v0) w).bind fun t50 =>
    (gO 7 (some v0) w).bind fun a56 =>
    (mX7_prod F a56 t50 v3 v4 w).bind fun q56 =>
    (gO 7 (some v0) q56.2).bind fun a61 =>
    (mX7_twisted F a61 v2 q56.1 v5 q56.2).bind fun q61 =>
    (gFI 7 38 (some v0) q61.2).bind fun t67 =>
    (gO 7 (some v0) q61.2).bind fun a72 =>
    (mX7_prod F a72 t67 v2 v3 q61.2).bind fun q72 =>
    (gO 7 (some v0) q72.2).bind fun a79 =>
    (mX7_twisted F a79 q72.1 v4 v5 q72.2).bind fun q79 =>
    (gO 7 (some v0) q79.2).bind fun a88 =>
    (mX7_twisted F a88 v2 v3 v5 q79.2).bind fun q88 =>
    mX7_isCocycle_l97 F (fun (v0 : Nat) (v1 : Int32) (v2 : Int32) (v3 : Int32) (v4 : Int32) (v5 : Int32) (v6 : Int32) (w : gW) => if v1 = 0 then
        (mX7_isCocycle_b158 F r k166 v0 v2 v3 v4 v5 w)
      else
        ((gFI 7 23 (some v0) w).bind fun t147 =>
        (gRem v6 t147).bind fun t150 =>
        if t150 = 0 then
          (mX7_isCocycle_b159 F r k166 v0 v2 v3 v4 v5 (1 : Int32) w)
        else
          (mX7_isCocycle_b158 F r k166 v0 v2 v3 v4 v5 w))) F v0 v1 v2 v3 v4 v5 ((q61.1 - q79.1) - q88.1) (0 : Int32) q88.2)
def mX7_isCocycle_l37 (F : Nat) (k166 : Nat → Int32 → Int32 → Int32 → Int32 → gW → Option (Int32 × gW)) : Nat → Nat → Int32 → Int32 → Int32 → Int32 → Int32 → gW → Option (Int32 × gW)
  | 0, _, _, _, _, _, _, _ => none
  | n + 1, v0, v1, v2, v3, v4, v5, w => mX7_isCocycle_h37 F (mX7_isCocycle_l37 F k166 n) k166 v0 v1 v2 v3 v4 v5 w
def mX7_isCocycle_h25 (F : Nat) (r : Nat → Int32 → Int32 → Int32 → Int32 → gW → Option (Int32 × gW)) (k172 : Nat → Int32 → Int32 → Int32 → gW → Option (Int32 × gW)) (v0 : Nat) (v1 : Int32) (v2 : Int32) (v3 : Int32) (v4 : Int32) (w : gW) : Option (Int32 × gW) :=
  (gFI 7 36 (some v0) w).bind fun t28 =>
  if t28 ≤ v4 then
    (k172 v0 v1 v2 v3 w)
  else
    (mX7_isCocycle_l37 F (fun (v0 : Nat) (v1 : Int32) (v2 : Int32) (v3 : Int32) (v4 : Int32) (w : gW) => r v0 v1 v2 v3 (v4 + (1 : Int32)) w) F v0 v1 v2 v3 v4 (0 : Int32) w)
def mX7_isCocycle_l25 (F : Nat) (k172 : Nat → Int32 → Int32 → Int32 → gW → Option (Int32 × gW)) : Nat → Nat → Int32 → Int32 → Int32 → Int32 → gW → Option (Int32 × gW)
  | 0, _, _, _, _, _, _ => none
  | n + 1, v0, v1, v2, v3, v4, w => mX7_isCocycle_h25 F (mX7_isCocycle_l25 F k172 n) k172 v0 v1 v2 v3 v4 w
def mX7_isCocycle_h14 (F : Nat) (r : Nat → Int32 → Int32 → Int32 → gW → Option (Int32 × gW)) (k178 : Nat → Int32 → Int32 → gW → Option (Int32 × gW)) (v0 : Nat) (v1 : Int32) (v2 : Int32) (v3 : Int32) (w : gW) : Option (Int32 × gW) :=
  (gFI 7 36 (some v0) w).bind fun t16 =>
  if t16 ≤ v3 then
    (k178 v0 v1 v2 w)
  else
    (mX7_isCocycle_l25 F (fun (v0 : Nat) (v1 : Int32) (v2 : Int32) (v3 : Int32) (w : gW) => r v0 v1 v2 (v3 + (1 : Int32)) w) F v0 v1 v2 v3 (1 : Int32) w)
def mX7_isCocycle_l14 (F : Nat) (k178 : Nat → Int32 → Int32 → gW → Option (Int32 × gW)) : Nat → Nat → Int32 → Int32 → Int32 → gW → Option (Int32 × gW)
  | 0, _, _, _, _, _ => none
  | n + 1, v0, v1, v2, v3, w => mX7_isCocycle_h14 F (mX7_isCocycle_l14 F k178 n) k178 v0 v1 v2 v3 w
def mX7_isCocycle_h4 (F : Nat) (r : Nat → Int32 → Int32 → gW → Option (Int32 × gW)) (v0 : Nat) (v1 : Int32) (v2 : Int32) (w : gW) : Option (Int32 × gW) :=
  (gFI 7 36 (some v0) w).bind fun t6 =>
  if t6 ≤ v2 then
    ((gBo v1).bind fun v => some (v, w))
  else
    (mX7_isCocycle_l14 F (fun (v0 : Nat) (v1 : Int32) (v2 : Int32) (w : gW) => r v0 v1 (v2 + (1 : Int32)) w) F v0 v1 v2 (1 : Int32) w)
def mX7_isCocycle_l4 (F : Nat) : Nat → Nat → Int32 → Int32 → gW → Option (Int32 × gW)
  | 0, _, _, _, _ => none
  | n + 1, v0, v1, v2, w => mX7_isCocycle_h4 F (mX7_isCocycle_l4 F n) v0 v1 v2 w
def mX7_isCocycle (F : Nat) (v0 : Nat) (w : gW) : Option (Int32 × gW) :=
  mX7_isCocycle_l4 F F v0 (1 : Int32) (1 : Int32) w
def mX7_isElement_b30 (F : Nat)  (w : gW) : Option (Int32 × gW) :=
  some ((0 : Int32), w)
def mX7_isElement (F : Nat) (v0 : Nat) (v1 : Int32) (v2 : Int32) (w : gW) : Option (Int32 × gW) :=
  (gO 7 (some v0) w).bind fun a2 =>
  (mX7_isGroup F a2 v1 w).bind fun q2 =>
  if q2.1 = 0 then
    (mX7_isElement_b30 F q2.2)
  else
    ((gFR 7 1 (some v0) q2.2).bind fun t12 =>
    (gLI t12 v1 q2.2).bind fun t16 =>
    (mX7_in F ((v2).toInt64) (0 : Int64) (((t16 - (1 : Int32))).toInt64) q2.2).bind fun q20 =>
    if q20.1 = 0 then
      (mX7_isElement_b30 F q20.2)
    else
      (some ((1 : Int32), q20.2)))
def mX7_leastMakers_b388 (F : Nat) (r : Nat → Int32 → Int32 → Int32 → Int32 → Int32 → Int32 → Int64 → Int64 → Int32 → gW → Option (Int32 × gW)) (k394 : Nat → Int32 → Int32 → Int32 → Int32 → Int32 → Int32 → gW → Option (Int32 × gW)) (v0 : Nat) (v1 : Int32) (v3 : Int32) (v4 : Int32) (v5 : Int32) (v6 : Int32) (v7 : Int32) (v8 : Int64) (v10 : Int64) (v12 : Int32) (w : gW) : Option (Int32 × gW) :=
  r v0 v1 v3 v4 v5 v6 v7 v8 v10 (v12 + (1 : Int32)) w
def mX7_leastMakers_h172 (F : Nat) (r : Nat → Int32 → Int32 → Int32 → Int32 → Int32 → Int64 → Int64 → Int32 → Int32 → gW → Option (Int32 × gW)) (k205 : Nat → Int32 → Int32 → Int32 → Int32 → Int32 → Int64 → Int64 → Int32 → gW → Option (Int32 × gW)) (v0 : Nat) (v1 : Int32) (v3 : Int32) (v4 : Int32) (v6 : Int32) (v7 : Int32) (v8 : Int64) (v10 : Int64) (v12 : Int32) (v14 : Int32) (w : gW) : Option (Int32 × gW) :=
  if v4 ≤ v14 then
    (k205 v0 v1 v3 v4 v6 v7 v8 v10 v12 w)
  else
    ((gFR 7 12 (some v0) w).bind fun t180 =>
    (gFR 7 19 (some v0) w).bind fun t186 =>
    (gLI t186 (((8 : Int32) * v7) + v14) w).bind fun t197 =>
    (gSI t180 v14 t197 w).bind fun w198 =>
    r v0 v1 v3 v4 v6 v7 v8 v10 v12 (v14 + (1 : Int32)) w198)
def mX7_leastMakers_l172 (F : Nat) (k205 : Nat → Int32 → Int32 → Int32 → Int32 → Int32 → Int64 → Int64 → Int32 → gW → Option (Int32 × gW)) : Nat → Nat → Int32 → Int32 → Int32 → Int32 → Int32 → Int64 → Int64 → Int32 → Int32 → gW → Option (Int32 × gW)
  | 0, _, _, _, _, _, _, _, _, _, _, _ => none
  | n + 1, v0, v1, v3, v4, v6, v7, v8, v10, v12, v14, w => mX7_leastMakers_h172 F (mX7_leastMakers_l172 F k205 n) k205 v0 v1 v3 v4 v6 v7 v8 v10 v12 v14 w
def mX7_leastMakers_b314 (F : Nat) (r : Nat → Int32 → Int32 → Int32 → Int32 → Int32 → Int32 → Int64 → Int64 → Int32 → Int32 → Int32 → gW → Option (Int32 × gW)) (k322 : Nat → Int32 → Int32 → Int32 → Int32 → Int32 → Int32 → Int64 → Int64 → Int32 → Int32 → gW → Option (Int32 × gW)) (v0 : Nat) (v1 : Int32) (v3 : Int32) (v4 : Int32) (v5 : Int32) (v6 : Int32) (v7 : Int32) (v8 : Int64) (v10 : Int64) (v12 : Int32) (v15 : Int32) (s0 : Int32) (w : gW) : Option (Int32 × gW) :=
  r v0 v1 v3 v4 v5 v6 v7 v8 v10 v12 s0 (v15 + (1 : Int32)) w
def mX7_leastMakers_b309 (F : Nat) (r : Nat → Int32 → Int32 → Int32 → Int32 → Int32 → Int32 → Int64 → Int64 → Int32 → Int32 → Int32 → gW → Option (Int32 × gW)) (k322 : Nat → Int32 → Int32 → Int32 → Int32 → Int32 → Int32 → Int64 → Int64 → Int32 → Int32 → gW → Option (Int32 × gW)) (v0 : Nat) (v1 : Int32) (v3 : Int32) (v4 : Int32) (v5 : Int32) (v6 : Int32) (v7 : Int32) (v8 : Int64) (v10 : Int64) (v12 : Int32) (v15 : Int32) (w : gW) : Option (Int32 × gW) :=
  mX7_leastMakers_b314 F r k322 v0 v1 v3 v4 v5 v6 v7 v8 v10 v12 v15 (1 : Int32) w
def mX7_leastMakers_b313 (F : Nat) (r : Nat → Int32 → Int32 → Int32 → Int32 → Int32 → Int32 → Int64 → Int64 → Int32 → Int32 → Int32 → gW → Option (Int32 × gW)) (k322 : Nat → Int32 → Int32 → Int32 → Int32 → Int32 → Int32 → Int64 → Int64 → Int32 → Int32 → gW → Option (Int32 × gW)) (v0 : Nat) (v1 : Int32) (v3 : Int32) (v4 : Int32) (v5 : Int32) (v6 : Int32) (v7 : Int32) (v8 : Int64) (v10 : Int64) (v12 : Int32) (v15 : Int32) (w : gW) : Option (Int32 × gW) :=
  mX7_leastMakers_b314 F r k322 v0 v1 v3 v4 v5 v6 v7 v8 v10 v12 v15 (0 : Int32) w
def mX7_leastMakers_h267 (F : Nat) (r : Nat → Int32 → Int32 → Int32 → Int32 → Int32 → Int32 → Int64 → Int64 → Int32 → Int32 → Int32 → gW → Option (Int32 × gW)) (k322 : Nat → Int32 → Int32 → Int32 → Int32 → Int32 → Int32 → Int64 → Int64 → Int32 → Int32 → gW → Option (Int32 × gW)) (v0 : Nat) (v1 : Int32) (v3 : Int32) (v4 : Int32) (v5 : Int32) (v6 : Int32) (v7 : Int32) (v8 : Int64) (v10 : Int64) (v12 : Int32) (v14 : Int32) (v15 : Int32) (w : gW) : Option (Int32 × gW) :=
  if v6 ≤ v15 then
    (k322 v0 v1 v3 v4 v5 v6 v7 v8 v10 v12 v14 w)
  else
    (if v14 = 0 then
      ((gFR 7 17 (some v0) w).bind fun t280 =>
      (gLL t280 v15 w).bind fun t285 =>
      (gFL 7 15 (some v0) w).bind fun t287 =>
      if (lg_cmp t285 t287) = 0 then
        ((gFR 7 18 (some v0) w).bind fun t295 =>
        (gLL t295 v15 w).bind fun t300 =>
        (gFL 7 16 (some v0) w).bind fun t302 =>
        if (lg_cmp t300 t302) = 0 then
          (mX7_leastMakers_b309 F r k322 v0 v1 v3 v4 v5 v6 v7 v8 v10 v12 v15 w)
        else
          (mX7_leastMakers_b313 F r k322 v0 v1 v3 v4 v5 v6 v7 v8 v10 v12 v15 w))
      else
        (mX7_leastMakers_b313 F r k322 v0 v1 v3 v4 v5 v6 v7 v8 v10 v12 v15 w))
    else
      (mX7_leastMakers_b309 F r k322 v0 v1 v3 v4 v5 v6 v7 v8 v10 v12 v15 w))
def mX7_leastMakers_l267 (F : Nat) (k322 : Nat → Int32 → Int32 → Int32 → Int32 → Int32 → Int32 → Int64 → Int64 → Int32 → Int32 → gW → Option (Int32 × gW)) : Nat → Nat → Int32 → Int32 → Int32 → Int32 → Int32 → Int32 → Int64 → Int64 → Int32 → Int32 → Int32 → gW → Option (Int32 × gW)
  | 0, _, _, _, _, _, _, _, _, _, _, _, _, _ => none
  | n + 1, v0, v1, v3, v4, v5, v6, v7, v8, v10, v12, v14, v15, w => mX7_leastMakers_h267 F (mX7_leastMakers_l267 F k322 n) k322 v0 v1 v3 v4 v5 v6 v7 v8 v10 v12 v14 v15 w
def mX7_leastMakers_h352 (F : Nat) (r : Nat → Int32 → Int32 → Int32 → Int32 → Int32 → Int32 → Int64 → Int64 → Int32 → Int32 → gW → Option (Int32 × gW)) (k385 : Nat → Int32 → Int32 → Int32 → Int32 → Int32 → Int32 → Int64 → Int64 → Int32 → gW → Option (Int32 × gW)) (v0 : Nat) (v1 : Int32) (v3 : Int32) (v4 : Int32) (v5 : Int32) (v6 : Int32) (v7 : Int32) (v8 : Int64) (v10 : Int64) (v12 : Int32) (v15 : Int32) (w : gW) : Option (Int32 × gW) :=
  if v4 < v15 then
    (k385 v0 v1 v3 v4 v5 v6 v7 v8 v10 v12 w)
  else
    ((gFR 7 19 (some v0) w).bind fun t360 =>
    (gFR 7 12 (some v0) w).bind fun t372 =>
    (gLI t372 v15 w).bind fun t377 =>
    (gSI t360 (((8 : Int32) * v6) + v15) t377 w).bind fun w378 =>
    r v0 v1 v3 v4 v5 v6 v7 v8 v10 v12 (v15 + (1 : Int32)) w378)
def mX7_leastMakers_l352 (F : Nat) (k385 : Nat → Int32 → Int32 → Int32 → Int32 → Int32 → Int32 → Int64 → Int64 → Int32 → gW → Option (Int32 × gW)) : Nat → Nat → Int32 → Int32 → Int32 → Int32 → Int32 → Int32 → Int64 → Int64 → Int32 → Int32 → gW → Option (Int32 × gW)
  | 0, _, _, _, _, _, _, _, _, _, _, _, _ => none
  | n + 1, v0, v1, v3, v4, v5, v6, v7, v8, v10, v12, v15, w => mX7_leastMakers_h352 F (mX7_leastMakers_l352 F k385 n) k385 v0 v1 v3 v4 v5 v6 v7 v8 v10 v12 v15 w
def mX7_leastMakers_b259 (F : Nat) (r : Nat → Int32 → Int32 → Int32 → Int32 → Int32 → Int32 → Int64 → Int64 → Int32 → gW → Option (Int32 × gW)) (k394 : Nat → Int32 → Int32 → Int32 → Int32 → Int32 → Int32 → gW → Option (Int32 × gW)) (v0 : Nat) (v1 : Int32) (v3 : Int32) (v4 : Int32) (v6 : Int32) (v7 : Int32) (v8 : Int64) (v10 : Int64) (v12 : Int32) (s0 : Int32) (w : gW) : Option (Int32 × gW) :=
  mX7_leastMakers_l267 F (fun (v0 : Nat) (v1 : Int32) (v3 : Int32) (v4 : Int32) (v5 : Int32) (v6 : Int32) (v7 : Int32) (v8 : Int64) (v10 : Int64) (v12 : Int32) (v14 : Int32) (w : gW) => if v14 = 0 then
      ((gFR 7 17 (some v0) w).bind fun t328 =>
      (gFL 7 15 (some v0) w).bind fun t334 =>
      (gSL t328 v6 t334 w).bind fun w337 =>
      (gFR 7 18 (some v0) w337).bind fun t339 =>
      (gFL 7 16 (some v0) w337).bind fun t345 =>
      (gSL t339 v6 t345 w337).bind fun w348 =>
      mX7_leastMakers_l352 F (fun (v0 : Nat) (v1 : Int32) (v3 : Int32) (v4 : Int32) (v5 : Int32) (v6 : Int32) (v7 : Int32) (v8 : Int64) (v10 : Int64) (v12 : Int32) (w : gW) => mX7_leastMakers_b388 F r k394 v0 v1 v3 v4 v5 (v6 + (1 : Int32)) v7 v8 v10 v12 w) F v0 v1 v3 v4 v5 v6 v7 v8 v10 v12 (0 : Int32) w348)
    else
      (mX7_leastMakers_b388 F r k394 v0 v1 v3 v4 v5 v6 v7 v8 v10 v12 w)) F v0 v1 v3 v4 s0 v6 v7 v8 v10 v12 (0 : Int32) v3 w
def mX7_leastMakers_b162 (F : Nat) (r : Nat → Int32 → Int32 → Int32 → Int32 → Int32 → Int32 → Int64 → Int64 → Int32 → gW → Option (Int32 × gW)) (k394 : Nat → Int32 → Int32 → Int32 → Int32 → Int32 → Int32 → gW → Option (Int32 × gW)) (v0 : Nat) (v1 : Int32) (v3 : Int32) (v4 : Int32) (v5 : Int32) (v6 : Int32) (v7 : Int32) (v8 : Int64) (v10 : Int64) (v12 : Int32) (s0 : Int32) (w : gW) : Option (Int32 × gW) :=
  if s0 = 0 then
    (mX7_leastMakers_l172 F (fun (v0 : Nat) (v1 : Int32) (v3 : Int32) (v4 : Int32) (v6 : Int32) (v7 : Int32) (v8 : Int64) (v10 : Int64) (v12 : Int32) (w : gW) => (gFR 7 12 (some v0) w).bind fun t206 =>
      (gSI t206 v4 v12 w).bind fun w213 =>
      (gO 7 (some v0) w213).bind fun a220 =>
      (mX7_makes F a220 v1 (v4 + (1 : Int32)) w213).bind fun q220 =>
      (gFL 7 15 (some v0) q220).bind fun t226 =>
      (gFL 7 16 (some v0) q220).bind fun t235 =>
      (gFI 7 14 (some v0) q220).bind fun t242 =>
      (gFR 7 1 (some v0) q220).bind fun t246 =>
      (gLI t246 v1 q220).bind fun t250 =>
      if t242 = t250 then
        (mX7_leastMakers_b259 F r k394 v0 v1 v3 v4 v6 v7 (v8 ||| t226) (v10 ||| t235) v12 (1 : Int32) q220)
      else
        (mX7_leastMakers_b259 F r k394 v0 v1 v3 v4 v6 v7 (v8 ||| t226) (v10 ||| t235) v12 (0 : Int32) q220)) F v0 v1 v3 v4 v6 v7 v8 v10 v12 (0 : Int32) w)
  else
    (mX7_leastMakers_b388 F r k394 v0 v1 v3 v4 v5 v6 v7 v8 v10 v12 w)
def mX7_leastMakers_h99 (F : Nat) (r : Nat → Int32 → Int32 → Int32 → Int32 → Int32 → Int32 → Int64 → Int64 → Int32 → gW → Option (Int32 × gW)) (k394 : Nat → Int32 → Int32 → Int32 → Int32 → Int32 → Int32 → gW → Option (Int32 × gW)) (v0 : Nat) (v1 : Int32) (v3 : Int32) (v4 : Int32) (v5 : Int32) (v6 : Int32) (v7 : Int32) (v8 : Int64) (v10 : Int64) (v12 : Int32) (w : gW) : Option (Int32 × gW) :=
  (gFR 7 1 (some v0) w).bind fun t102 =>
  (gLI t102 v1 w).bind fun t106 =>
  if t106 ≤ v12 then
    (k394 v0 v1 v3 v4 v5 v6 v7 w)
  else
    (if v5 = 0 then
      (if (64 : Int32) ≤ v12 then
        (if (lg_cmp ((v10 >>> (((v12 - (64 : Int32))).toInt64 &&& 63)) &&& (1 : Int64)) (1 : Int64)) = 0 then
          (mX7_leastMakers_b162 F r k394 v0 v1 v3 v4 v5 v6 v7 v8 v10 v12 (1 : Int32) w)
        else
          (mX7_leastMakers_b162 F r k394 v0 v1 v3 v4 v5 v6 v7 v8 v10 v12 (0 : Int32) w))
      else
        (if (lg_cmp ((v8 >>> ((v12).toInt64 &&& 63)) &&& (1 : Int64)) (1 : Int64)) = 0 then
          (mX7_leastMakers_b162 F r k394 v0 v1 v3 v4 v5 v6 v7 v8 v10 v12 (1 : Int32) w)
        else
          (mX7_leastMakers_b162 F r k394 v0 v1 v3 v4 v5 v6 v7 v8 v10 v12 (0 : Int32) w)))
    else
      (k394 v0 v1 v3 v4 v5 v6 v7 w))
def mX7_leastMakers_l99 (F : Nat) (k394 : Nat → Int32 → Int32 → Int32 → Int32 → Int32 → Int32 → gW → Option (Int32 × gW)) : Nat → Nat → Int32 → Int32 → Int32 → Int32 → Int32 → Int32 → Int64 → Int64 → Int32 → gW → Option (Int32 × gW)
  | 0, _, _, _, _, _, _, _, _, _, _, _ => none
  | n + 1, v0, v1, v3, v4, v5, v6, v7, v8, v10, v12, w => mX7_leastMakers_h99 F (mX7_leastMakers_l99 F k394 n) k394 v0 v1 v3 v4 v5 v6 v7 v8 v10 v12 w
def mX7_leastMakers_b394 (F : Nat) (r : Nat → Int32 → Int32 → Int32 → Int32 → Int32 → Int32 → gW → Option (Int32 × gW)) (k400 : Nat → Int32 → Int32 → Int32 → Int32 → Int32 → gW → Option (Int32 × gW)) (v0 : Nat) (v1 : Int32) (v3 : Int32) (v4 : Int32) (v5 : Int32) (v6 : Int32) (v7 : Int32) (w : gW) : Option (Int32 × gW) :=
  r v0 v1 v3 v4 v5 v6 (v7 + (1 : Int32)) w
def mX7_leastMakers_h67 (F : Nat) (r : Nat → Int32 → Int32 → Int32 → Int32 → Int32 → Int32 → gW → Option (Int32 × gW)) (k400 : Nat → Int32 → Int32 → Int32 → Int32 → Int32 → gW → Option (Int32 × gW)) (v0 : Nat) (v1 : Int32) (v3 : Int32) (v4 : Int32) (v5 : Int32) (v6 : Int32) (v7 : Int32) (w : gW) : Option (Int32 × gW) :=
  if v3 ≤ v7 then
    (k400 v0 v1 v3 v4 v5 v6 w)
  else
    (if v5 = 0 then
      ((gFR 7 17 (some v0) w).bind fun t79 =>
      (gLL t79 v7 w).bind fun t84 =>
      (gFR 7 18 (some v0) w).bind fun t88 =>
      (gLL t88 v7 w).bind fun t93 =>
      mX7_leastMakers_l99 F (fun (v0 : Nat) (v1 : Int32) (v3 : Int32) (v4 : Int32) (v5 : Int32) (v6 : Int32) (v7 : Int32) (w : gW) => mX7_leastMakers_b394 F r k400 v0 v1 v3 v4 v5 v6 v7 w) F v0 v1 v3 v4 v5 v6 v7 t84 t93 (0 : Int32) w)
    else
      (k400 v0 v1 v3 v4 v5 v6 w))
def mX7_leastMakers_l67 (F : Nat) (k400 : Nat → Int32 → Int32 → Int32 → Int32 → Int32 → gW → Option (Int32 × gW)) : Nat → Nat → Int32 → Int32 → Int32 → Int32 → Int32 → Int32 → gW → Option (Int32 × gW)
  | 0, _, _, _, _, _, _, _, _ => none
  | n + 1, v0, v1, v3, v4, v5, v6, v7, w => mX7_leastMakers_h67 F (mX7_leastMakers_l67 F k400 n) k400 v0 v1 v3 v4 v5 v6 v7 w
def mX7_leastMakers_h445 (F : Nat) (r : Nat → Int32 → Int32 → Int32 → Int32 → Int32 → Int32 → Int32 → gW → Option (Int32 × gW)) (k486 : Nat → Int32 → Int32 → Int32 → Int32 → Int32 → Int32 → gW → Option (Int32 × gW)) (v0 : Nat) (v1 : Int32) (v3 : Int32) (v4 : Int32) (v5 : Int32) (v6 : Int32) (v7 : Int32) (v8 : Int32) (w : gW) : Option (Int32 × gW) :=
  if (8 : Int32) ≤ v8 then
    (k486 v0 v1 v3 v4 v5 v6 v7 w)
  else
    ((gFR 7 19 (some v0) w).bind fun t453 =>
    (gFR 7 19 (some v0) w).bind fun t467 =>
    (gLI t467 (((8 : Int32) * v7) + v8) w).bind fun t478 =>
    (gSI t453 (((8 : Int32) * (v7 - v3)) + v8) t478 w).bind fun w479 =>
    r v0 v1 v3 v4 v5 v6 v7 (v8 + (1 : Int32)) w479)
def mX7_leastMakers_l445 (F : Nat) (k486 : Nat → Int32 → Int32 → Int32 → Int32 → Int32 → Int32 → gW → Option (Int32 × gW)) : Nat → Nat → Int32 → Int32 → Int32 → Int32 → Int32 → Int32 → Int32 → gW → Option (Int32 × gW)
  | 0, _, _, _, _, _, _, _, _, _ => none
  | n + 1, v0, v1, v3, v4, v5, v6, v7, v8, w => mX7_leastMakers_h445 F (mX7_leastMakers_l445 F k486 n) k486 v0 v1 v3 v4 v5 v6 v7 v8 w
def mX7_leastMakers_h403 (F : Nat) (r : Nat → Int32 → Int32 → Int32 → Int32 → Int32 → Int32 → gW → Option (Int32 × gW)) (k492 : Nat → Int32 → Int32 → Int32 → Int32 → Int32 → gW → Option (Int32 × gW)) (v0 : Nat) (v1 : Int32) (v3 : Int32) (v4 : Int32) (v5 : Int32) (v6 : Int32) (v7 : Int32) (w : gW) : Option (Int32 × gW) :=
  if v6 ≤ v7 then
    (k492 v0 v1 v3 v4 v5 v6 w)
  else
    ((gFR 7 17 (some v0) w).bind fun t411 =>
    (gFR 7 17 (some v0) w).bind fun t419 =>
    (gLL t419 v7 w).bind fun t424 =>
    (gSL t411 (v7 - v3) t424 w).bind fun w425 =>
    (gFR 7 18 (some v0) w425).bind fun t427 =>
    (gFR 7 18 (some v0) w425).bind fun t435 =>
    (gLL t435 v7 w425).bind fun t440 =>
    (gSL t427 (v7 - v3) t440 w425).bind fun w441 =>
    mX7_leastMakers_l445 F (fun (v0 : Nat) (v1 : Int32) (v3 : Int32) (v4 : Int32) (v5 : Int32) (v6 : Int32) (v7 : Int32) (w : gW) => r v0 v1 v3 v4 v5 v6 (v7 + (1 : Int32)) w) F v0 v1 v3 v4 v5 v6 v7 (0 : Int32) w441)
def mX7_leastMakers_l403 (F : Nat) (k492 : Nat → Int32 → Int32 → Int32 → Int32 → Int32 → gW → Option (Int32 × gW)) : Nat → Nat → Int32 → Int32 → Int32 → Int32 → Int32 → Int32 → gW → Option (Int32 × gW)
  | 0, _, _, _, _, _, _, _, _ => none
  | n + 1, v0, v1, v3, v4, v5, v6, v7, w => mX7_leastMakers_h403 F (mX7_leastMakers_l403 F k492 n) k492 v0 v1 v3 v4 v5 v6 v7 w
def mX7_leastMakers_b400 (F : Nat) (r : Nat → Int32 → Int32 → Int32 → Int32 → Int32 → gW → Option (Int32 × gW)) (k505 : Nat → Int32 → Int32 → gW → Option (Int32 × gW)) (v0 : Nat) (v1 : Int32) (v3 : Int32) (v4 : Int32) (v5 : Int32) (v6 : Int32) (w : gW) : Option (Int32 × gW) :=
  mX7_leastMakers_l403 F (fun (v0 : Nat) (v1 : Int32) (v3 : Int32) (v4 : Int32) (v5 : Int32) (v6 : Int32) (w : gW) => r v0 v1 (0 : Int32) (v6 - v3) (v4 + (1 : Int32)) v5 w) F v0 v1 v3 v4 v5 v6 v3 w
def mX7_leastMakers_h56 (F : Nat) (r : Nat → Int32 → Int32 → Int32 → Int32 → Int32 → gW → Option (Int32 × gW)) (k505 : Nat → Int32 → Int32 → gW → Option (Int32 × gW)) (v0 : Nat) (v1 : Int32) (v2 : Int32) (v3 : Int32) (v4 : Int32) (v5 : Int32) (w : gW) : Option (Int32 × gW) :=
  if v5 = 0 then
    (mX7_leastMakers_l67 F (fun (v0 : Nat) (v1 : Int32) (v3 : Int32) (v4 : Int32) (v5 : Int32) (v6 : Int32) (w : gW) => mX7_leastMakers_b400 F r k505 v0 v1 v3 v4 v5 v6 w) F v0 v1 v3 v4 v5 v3 v2 w)
  else
    (k505 v0 v1 v4 w)
def mX7_leastMakers_l56 (F : Nat) (k505 : Nat → Int32 → Int32 → gW → Option (Int32 × gW)) : Nat → Nat → Int32 → Int32 → Int32 → Int32 → Int32 → gW → Option (Int32 × gW)
  | 0, _, _, _, _, _, _, _ => none
  | n + 1, v0, v1, v2, v3, v4, v5, w => mX7_leastMakers_h56 F (mX7_leastMakers_l56 F k505 n) k505 v0 v1 v2 v3 v4 v5 w
def mX7_leastMakers_b54 (F : Nat) (v0 : Nat) (v1 : Int32) (v2 : Int32) (v3 : Int32) (v4 : Int32) (s0 : Int32) (w : gW) : Option (Int32 × gW) :=
  mX7_leastMakers_l56 F (fun (v0 : Nat) (v1 : Int32) (v4 : Int32) (w : gW) => (gFR 7 3 (some v0) w).bind fun t506 =>
    (gSI t506 v1 v4 w).bind fun w512 =>
    some (v4, w512)) F v0 v1 v2 v3 v4 s0 w
def mX7_leastMakers (F : Nat) (v0 : Nat) (v1 : Int32) (w : gW) : Option (Int32 × gW) :=
  (gFR 7 3 (some v0) w).bind fun t1 =>
  (gLI t1 v1 w).bind fun t5 =>
  if t5 = (-4 : Int32) then
    ((gFR 7 17 (some v0) w).bind fun t23 =>
    (gSL t23 (0 : Int32) (1 : Int64) w).bind fun w28 =>
    (gFR 7 18 (some v0) w28).bind fun t30 =>
    (gSL t30 (0 : Int32) (0 : Int64) w28).bind fun w35 =>
    (gFR 7 1 (some v0) w35).bind fun t40 =>
    (gLI t40 v1 w35).bind fun t44 =>
    if t44 = (1 : Int32) then
      (mX7_leastMakers_b54 F v0 v1 (0 : Int32) (1 : Int32) (0 : Int32) (1 : Int32) w35)
    else
      (mX7_leastMakers_b54 F v0 v1 (0 : Int32) (1 : Int32) (0 : Int32) (0 : Int32) w35))
  else
    ((gFR 7 3 (some v0) w).bind fun t12 =>
    (gLI t12 v1 w).bind fun t16 =>
    some (t16, w))
def mX7_leastRow_h28 (F : Nat) (r : Nat → Int32 → Int32 → Int32 → Int32 → Int32 → gW → Option (gW)) (k54 : Nat → Int32 → Int32 → Int32 → Int32 → gW → Option (gW)) (v0 : Nat) (v1 : Int32) (v2 : Int32) (v3 : Int32) (v4 : Int32) (v5 : Int32) (w : gW) : Option (gW) :=
  if v3 ≤ v5 then
    (k54 v0 v1 v2 v3 v4 w)
  else
    ((gFR 7 12 (some v0) w).bind fun t35 =>
    (gFR 7 20 (some v0) w).bind fun t41 =>
    (gLI t41 v5 w).bind fun t46 =>
    (gSI t35 v5 t46 w).bind fun w47 =>
    r v0 v1 v2 v3 v4 (v5 + (1 : Int32)) w47)
def mX7_leastRow_l28 (F : Nat) (k54 : Nat → Int32 → Int32 → Int32 → Int32 → gW → Option (gW)) : Nat → Nat → Int32 → Int32 → Int32 → Int32 → Int32 → gW → Option (gW)
  | 0, _, _, _, _, _, _, _ => none
  | n + 1, v0, v1, v2, v3, v4, v5, w => mX7_leastRow_h28 F (mX7_leastRow_l28 F k54 n) k54 v0 v1 v2 v3 v4 v5 w
def mX7_leastRow_h68 (F : Nat) (r : Nat → Int32 → Int32 → Int32 → Int32 → Int32 → gW → Option (gW)) (k94 : Nat → Int32 → Int32 → Int32 → Int32 → Int32 → gW → Option (gW)) (v0 : Nat) (v1 : Int32) (v2 : Int32) (v3 : Int32) (v4 : Int32) (v5 : Int32) (w : gW) : Option (gW) :=
  (gFR 7 1 (some v0) w).bind fun t71 =>
  (gLI t71 v1 w).bind fun t75 =>
  if t75 ≤ v5 then
    (k94 v0 v1 v2 v3 v4 v5 w)
  else
    ((gO 7 (some v0) w).bind fun a82 =>
    (mX7_isMade F a82 v5 w).bind fun q82 =>
    if q82.1 = 0 then
      (k94 v0 v1 v2 v3 v4 v5 q82.2)
    else
      (r v0 v1 v2 v3 v4 (v5 + (1 : Int32)) q82.2))
def mX7_leastRow_l68 (F : Nat) (k94 : Nat → Int32 → Int32 → Int32 → Int32 → Int32 → gW → Option (gW)) : Nat → Nat → Int32 → Int32 → Int32 → Int32 → Int32 → gW → Option (gW)
  | 0, _, _, _, _, _, _, _ => none
  | n + 1, v0, v1, v2, v3, v4, v5, w => mX7_leastRow_h68 F (mX7_leastRow_l68 F k94 n) k94 v0 v1 v2 v3 v4 v5 w
def mX7_leastRow_b221 (F : Nat) (r : Nat → Int32 → Int32 → Int32 → Int32 → gW → Option (gW)) (v0 : Nat) (v1 : Int32) (v2 : Int32) (v3 : Int32) (v4 : Int32) (w : gW) : Option (gW) :=
  r v0 v1 v2 v3 v4 w
def mX7_leastRow_b206 (F : Nat) (r : Nat → Int32 → Int32 → Int32 → Int32 → gW → Option (gW)) (v0 : Nat) (v1 : Int32) (v2 : Int32) (v3 : Int32) (v4 : Int32) (w : gW) : Option (gW) :=
  if v4 = 0 then
    ((gFR 7 20 (some v0) w).bind fun t212 =>
    (gLI t212 v3 w).bind fun t217 =>
    (gSI t212 v3 (t217 + (1 : Int32)) w).bind fun w220 =>
    mX7_leastRow_b221 F r v0 v1 v2 v3 v4 w220)
  else
    (mX7_leastRow_b221 F r v0 v1 v2 v3 v4 w)
def mX7_leastRow_b172 (F : Nat) (r : Nat → Int32 → Int32 → Int32 → Int32 → gW → Option (gW)) (v0 : Nat) (v1 : Int32) (v2 : Int32) (v3 : Int32) (v4 : Int32) (w : gW) : Option (gW) :=
  if v4 = 0 then
    (if v2 ≤ (v3 + (1 : Int32)) then
      (mX7_leastRow_b206 F r v0 v1 v2 v3 v4 w)
    else
      ((gFR 7 20 (some v0) w).bind fun t188 =>
      (gFR 7 20 (some v0) w).bind fun t193 =>
      (gLI t193 ((v3 + (1 : Int32)) - (1 : Int32)) w).bind fun t199 =>
      (gSI t188 (v3 + (1 : Int32)) (t199 + (1 : Int32)) w).bind fun w202 =>
      mX7_leastRow_b221 F r v0 v1 v2 (v3 + (1 : Int32)) v4 w202))
  else
    (mX7_leastRow_b206 F r v0 v1 v2 v3 v4 w)
def mX7_leastRow_b170 (F : Nat) (r : Nat → Int32 → Int32 → Int32 → Int32 → gW → Option (gW)) (v0 : Nat) (v1 : Int32) (v2 : Int32) (v3 : Int32) (s0 : Int32) (w : gW) : Option (gW) :=
  mX7_leastRow_b172 F r v0 v1 v2 v3 s0 w
def mX7_leastRow_b94 (F : Nat) (r : Nat → Int32 → Int32 → Int32 → Int32 → gW → Option (gW)) (v0 : Nat) (v1 : Int32) (v2 : Int32) (v3 : Int32) (v4 : Int32) (v5 : Int32) (w : gW) : Option (gW) :=
  (gFR 7 1 (some v0) w).bind fun t97 =>
  (gLI t97 v1 w).bind fun t101 =>
  if v5 = t101 then
    ((gFR 7 20 (some v0) w).bind fun t109 =>
    (gLI t109 (v3 + (-1 : Int32)) w).bind fun t114 =>
    (gSI t109 (v3 + (-1 : Int32)) (t114 + (1 : Int32)) w).bind fun w117 =>
    mX7_leastRow_b221 F r v0 v1 v2 (v3 + (-1 : Int32)) v4 w117)
  else
    ((gFR 7 20 (some v0) w).bind fun t122 =>
    (gSI t122 v3 v5 w).bind fun w128 =>
    (gFR 7 12 (some v0) w128).bind fun t130 =>
    (gSI t130 v3 v5 w128).bind fun w136 =>
    (gO 7 (some v0) w136).bind fun a142 =>
    (mX7_makes F a142 v1 (v3 + (1 : Int32)) w136).bind fun q142 =>
    (gFI 7 14 (some v0) q142).bind fun t146 =>
    (gFR 7 1 (some v0) q142).bind fun t150 =>
    (gLI t150 v1 q142).bind fun t154 =>
    if t146 = t154 then
      (if (v3 + (1 : Int32)) = v2 then
        (mX7_leastRow_b170 F r v0 v1 v2 v3 (1 : Int32) q142)
      else
        (mX7_leastRow_b170 F r v0 v1 v2 v3 (0 : Int32) q142))
    else
      (mX7_leastRow_b172 F r v0 v1 v2 v3 v4 q142))
def mX7_leastRow_h20 (F : Nat) (r : Nat → Int32 → Int32 → Int32 → Int32 → gW → Option (gW)) (v0 : Nat) (v1 : Int32) (v2 : Int32) (v3 : Int32) (v4 : Int32) (w : gW) : Option (gW) :=
  if v4 = 0 then
    (mX7_leastRow_l28 F (fun (v0 : Nat) (v1 : Int32) (v2 : Int32) (v3 : Int32) (v4 : Int32) (w : gW) => (gO 7 (some v0) w).bind fun a57 =>
      (mX7_makes F a57 v1 v3 w).bind fun q57 =>
      (gFR 7 20 (some v0) q57).bind fun t61 =>
      (gLI t61 v3 q57).bind fun t65 =>
      mX7_leastRow_l68 F (fun (v0 : Nat) (v1 : Int32) (v2 : Int32) (v3 : Int32) (v4 : Int32) (v5 : Int32) (w : gW) => mX7_leastRow_b94 F r v0 v1 v2 v3 v4 v5 w) F v0 v1 v2 v3 v4 t65 q57) F v0 v1 v2 v3 v4 (0 : Int32) w)
  else
    (some w)
def mX7_leastRow_l20 (F : Nat) : Nat → Nat → Int32 → Int32 → Int32 → Int32 → gW → Option (gW)
  | 0, _, _, _, _, _, _ => none
  | n + 1, v0, v1, v2, v3, v4, w => mX7_leastRow_h20 F (mX7_leastRow_l20 F n) v0 v1 v2 v3 v4 w
def mX7_leastRow_b18 (F : Nat) (v0 : Nat) (v1 : Int32) (v2 : Int32) (v3 : Int32) (s0 : Int32) (w : gW) : Option (gW) :=
  mX7_leastRow_l20 F F v0 v1 v2 v3 s0 w
def mX7_leastRow (F : Nat) (v0 : Nat) (v1 : Int32) (v2 : Int32) (w : gW) : Option (gW) :=
  (gFR 7 20 (some v0) w).bind fun t3 =>
  (gSI t3 (0 : Int32) (0 : Int32) w).bind fun w8 =>
  if v2 = 0 then
    (mX7_leastRow_b18 F v0 v1 v2 (0 : Int32) (1 : Int32) w8)
  else
    (mX7_leastRow_b18 F v0 v1 v2 (0 : Int32) (0 : Int32) w8)
def mX7_leastTurned_b50 (F : Nat) (r : Nat → Int32 → Int32 → Int32 → Int32 → gW → Option (Int32 × gW)) (v0 : Nat) (v1 : Int32) (v2 : Int32) (v4 : Int32) (s0 : Int32) (w : gW) : Option (Int32 × gW) :=
  r v0 v1 v2 s0 (v4 + (1 : Int32)) w
def mX7_leastTurned_h5 (F : Nat) (r : Nat → Int32 → Int32 → Int32 → Int32 → gW → Option (Int32 × gW)) (v0 : Nat) (v1 : Int32) (v2 : Int32) (v3 : Int32) (v4 : Int32) (w : gW) : Option (Int32 × gW) :=
  (gFR 7 1 (some v0) w).bind fun t8 =>
  (gLI t8 v1 w).bind fun t12 =>
  if t12 ≤ v4 then
    (some (v3, w))
  else
    ((gO 7 (some v0) w).bind fun a23 =>
    (mX7_prod F a23 v1 v4 v2 w).bind fun q23 =>
    (gO 7 (some v0) q23.2).bind fun a30 =>
    (mX7_inverse F a30 v1 v4 q23.2).bind fun q30 =>
    (gO 7 (some v0) q30.2).bind fun a33 =>
    (mX7_prod F a33 v1 q23.1 q30.1 q30.2).bind fun q33 =>
    if v3 ≤ q33.1 then
      (mX7_leastTurned_b50 F r v0 v1 v2 v4 v3 q33.2)
    else
      (mX7_leastTurned_b50 F r v0 v1 v2 v4 q33.1 q33.2))
def mX7_leastTurned_l5 (F : Nat) : Nat → Nat → Int32 → Int32 → Int32 → Int32 → gW → Option (Int32 × gW)
  | 0, _, _, _, _, _, _ => none
  | n + 1, v0, v1, v2, v3, v4, w => mX7_leastTurned_h5 F (mX7_leastTurned_l5 F n) v0 v1 v2 v3 v4 w
def mX7_leastTurned (F : Nat) (v0 : Nat) (v1 : Int32) (v2 : Int32) (w : gW) : Option (Int32 × gW) :=
  mX7_leastTurned_l5 F F v0 v1 v2 v2 (0 : Int32) w
def mX7_module_b137 (F : Nat) (r : Nat → Int32 → Int32 → Int32 → gW → Option (Int32 × gW)) (k144 : Nat → Int32 → gW → Option (Int32 × gW)) (v0 : Nat) (v3 : Int32) (v4 : Int32) (v5 : Int32) (s0 : Option Nat) (s1 : Int32) (s2 : Int32) (w : gW) : Option (Int32 × gW) :=
  (gSI s0 s1 s2 w).bind fun w137 =>
  r v0 v3 v4 (v5 + (1 : Int32)) w137
def mX7_module_b132 (F : Nat) (r : Nat → Int32 → Int32 → Int32 → gW → Option (Int32 × gW)) (k144 : Nat → Int32 → gW → Option (Int32 × gW)) (v0 : Nat) (v3 : Int32) (v4 : Int32) (v5 : Int32) (s0 : Option Nat) (s1 : Int32) (w : gW) : Option (Int32 × gW) :=
  mX7_module_b137 F r k144 v0 v3 v4 v5 s0 s1 (1 : Int32) w
def mX7_module_b136 (F : Nat) (r : Nat → Int32 → Int32 → Int32 → gW → Option (Int32 × gW)) (k144 : Nat → Int32 → gW → Option (Int32 × gW)) (v0 : Nat) (v3 : Int32) (v4 : Int32) (v5 : Int32) (s0 : Option Nat) (s1 : Int32) (w : gW) : Option (Int32 × gW) :=
  mX7_module_b137 F r k144 v0 v3 v4 v5 s0 s1 (0 : Int32) w
def mX7_module_h93 (F : Nat) (r : Nat → Int32 → Int32 → Int32 → gW → Option (Int32 × gW)) (k144 : Nat → Int32 → gW → Option (Int32 × gW)) (v0 : Nat) (v3 : Int32) (v4 : Int32) (v5 : Int32) (w : gW) : Option (Int32 × gW) :=
  if (32 : Int32) ≤ v5 then
    (k144 v0 v4 w)
  else
    ((gFR 7 11 (some v0) w).bind fun t101 =>
    (gRem v5 (4 : Int32)).bind fun t115 =>
    if t115 = 0 then
      (mX7_module_b132 F r k144 v0 v3 v4 v5 t101 (((32 : Int32) * v4) + v5) w)
    else
      ((gRem v5 (4 : Int32)).bind fun t122 =>
      if t122 = (3 : Int32) then
        (if v3 = (2 : Int32) then
          (mX7_module_b132 F r k144 v0 v3 v4 v5 t101 (((32 : Int32) * v4) + v5) w)
        else
          (mX7_module_b136 F r k144 v0 v3 v4 v5 t101 (((32 : Int32) * v4) + v5) w))
      else
        (mX7_module_b136 F r k144 v0 v3 v4 v5 t101 (((32 : Int32) * v4) + v5) w)))
def mX7_module_l93 (F : Nat) (k144 : Nat → Int32 → gW → Option (Int32 × gW)) : Nat → Nat → Int32 → Int32 → Int32 → gW → Option (Int32 × gW)
  | 0, _, _, _, _, _ => none
  | n + 1, v0, v3, v4, v5, w => mX7_module_h93 F (mX7_module_l93 F k144 n) k144 v0 v3 v4 v5 w
def mX7_module_b34 (F : Nat) (v0 : Nat) (v1 : Int32) (v2 : Int32) (v3 : Int32) (w : gW) : Option (Int32 × gW) :=
  (mX7_in F ((v3).toInt64) (1 : Int64) (2 : Int64) w).bind fun q40 =>
  if q40.1 = 0 then
    (some ((-1 : Int32), q40.2))
  else
    ((gFI 7 7 (some v0) q40.2).bind fun t49 =>
    if t49 = (6 : Int32) then
      (some ((-3 : Int32), q40.2))
    else
      ((gFI 7 7 (some v0) q40.2).bind fun t61 =>
      (gFR 7 8 (some v0) q40.2).bind fun t67 =>
      (gSI t67 t61 v1 q40.2).bind fun w73 =>
      (gFR 7 9 (some v0) w73).bind fun t75 =>
      (gSI t75 t61 v2 w73).bind fun w81 =>
      (gFR 7 10 (some v0) w81).bind fun t83 =>
      (gSI t83 t61 v3 w81).bind fun w89 =>
      mX7_module_l93 F (fun (v0 : Nat) (v4 : Int32) (w : gW) => (gP 7 29 (some v0) (.inl (-4 : Int32)) w).bind fun w147 =>
        (gFI 7 7 (some v0) w147).bind fun t152 =>
        (gP 7 7 (some v0) (.inl (t152 + (1 : Int32))) w147).bind fun w157 =>
        some (v4, w157)) F v0 v3 t61 (0 : Int32) w89))
def mX7_module (F : Nat) (v0 : Nat) (v1 : Int32) (v2 : Int32) (v3 : Int32) (w : gW) : Option (Int32 × gW) :=
  (gO 7 (some v0) w).bind fun a2 =>
  (mX7_isGroup F a2 v1 w).bind fun q2 =>
  if q2.1 = 0 then
    (some ((-1 : Int32), q2.2))
  else
    ((gFR 7 1 (some v0) q2.2).bind fun t9 =>
    (gLI t9 v1 q2.2).bind fun t13 =>
    if (8 : Int32) < t13 then
      (some ((-1 : Int32), q2.2))
    else
      (if v2 = (2 : Int32) then
        (mX7_module_b34 F v0 v1 v2 v3 q2.2)
      else
        (if v2 = (3 : Int32) then
          (mX7_module_b34 F v0 v1 v2 v3 q2.2)
        else
          (if v2 = (5 : Int32) then
            (mX7_module_b34 F v0 v1 v2 v3 q2.2)
          else
            (some ((-1 : Int32), q2.2))))))
def mX7_nextLike_h17 (F : Nat) (r : Nat → Int32 → Int32 → Int32 → gW → Option (Int32 × gW)) (v0 : Nat) (v2 : Int32) (v5 : Int32) (v6 : Int32) (w : gW) : Option (Int32 × gW) :=
  (gFR 7 1 (some v0) w).bind fun t20 =>
  (gLI t20 v2 w).bind fun t24 =>
  if t24 ≤ v5 then
    (some (v5, w))
  else
    ((gO 7 (some v0) w).bind fun a32 =>
    (mX7_orderOf F a32 v2 v5 w).bind fun q32 =>
    if q32.1 = v6 then
      (some (v5, q32.2))
    else
      (r v0 v2 (v5 + (1 : Int32)) v6 q32.2))
def mX7_nextLike_l17 (F : Nat) : Nat → Nat → Int32 → Int32 → Int32 → gW → Option (Int32 × gW)
  | 0, _, _, _, _, _ => none
  | n + 1, v0, v2, v5, v6, w => mX7_nextLike_h17 F (mX7_nextLike_l17 F n) v0 v2 v5 v6 w
def mX7_nextLike (F : Nat) (v0 : Nat) (v1 : Int32) (v2 : Int32) (v3 : Int32) (v4 : Int32) (w : gW) : Option (Int32 × gW) :=
  (gFR 7 20 (some v0) w).bind fun t7 =>
  (gLI t7 v3 w).bind fun t11 =>
  (gO 7 (some v0) w).bind fun a12 =>
  (mX7_orderOf F a12 v1 t11 w).bind fun q12 =>
  mX7_nextLike_l17 F F v0 v2 v4 q12.1 q12.2
def mX7_ofOrder_b33 (F : Nat) (r : Nat → Int32 → Int32 → Int32 → Int32 → gW → Option (Int32 × gW)) (v0 : Nat) (v1 : Int32) (v2 : Int32) (v4 : Int32) (s0 : Int32) (s1 : Int32) (w : gW) : Option (Int32 × gW) :=
  r v0 v1 v2 (s0 + s1) (v4 + (1 : Int32)) w
def mX7_ofOrder_h5 (F : Nat) (r : Nat → Int32 → Int32 → Int32 → Int32 → gW → Option (Int32 × gW)) (v0 : Nat) (v1 : Int32) (v2 : Int32) (v3 : Int32) (v4 : Int32) (w : gW) : Option (Int32 × gW) :=
  (gFR 7 1 (some v0) w).bind fun t8 =>
  (gLI t8 v1 w).bind fun t12 =>
  if t12 ≤ v4 then
    (some (v3, w))
  else
    ((gO 7 (some v0) w).bind fun a21 =>
    (mX7_orderOf F a21 v1 v4 w).bind fun q21 =>
    if q21.1 = v2 then
      (mX7_ofOrder_b33 F r v0 v1 v2 v4 v3 (1 : Int32) q21.2)
    else
      (mX7_ofOrder_b33 F r v0 v1 v2 v4 v3 (0 : Int32) q21.2))
def mX7_ofOrder_l5 (F : Nat) : Nat → Nat → Int32 → Int32 → Int32 → Int32 → gW → Option (Int32 × gW)
  | 0, _, _, _, _, _, _ => none
  | n + 1, v0, v1, v2, v3, v4, w => mX7_ofOrder_h5 F (mX7_ofOrder_l5 F n) v0 v1 v2 v3 v4 w
def mX7_ofOrder (F : Nat) (v0 : Nat) (v1 : Int32) (v2 : Int32) (w : gW) : Option (Int32 × gW) :=
  mX7_ofOrder_l5 F F v0 v1 v2 (0 : Int32) (0 : Int32) w
def mX7_order (F : Nat) (v0 : Nat) (v1 : Int32) (w : gW) : Option (Int32 × gW) :=
  (gO 7 (some v0) w).bind fun a2 =>
  (mX7_isGroup F a2 v1 w).bind fun q2 =>
  if q2.1 = 0 then
    (some ((-1 : Int32), q2.2))
  else
    ((gFR 7 1 (some v0) q2.2).bind fun t9 =>
    (gLI t9 v1 q2.2).bind fun t13 =>
    some (t13, q2.2))
def mX7_pair_h69 (F : Nat) (r : Nat → Int32 → Int32 → Int32 → Int32 → Int32 → Int32 → gW → Option (Int32 × gW)) (k126 : Nat → Int32 → Int32 → Int32 → Int32 → Int32 → gW → Option (Int32 × gW)) (v0 : Nat) (v1 : Int32) (v2 : Int32) (v3 : Int32) (v4 : Int32) (v5 : Int32) (v6 : Int32) (w : gW) : Option (Int32 × gW) :=
  if (v3 * v4) ≤ v6 then
    (k126 v0 v1 v2 v3 v4 v5 w)
  else
    ((gDiv v5 v4).bind fun t91 =>
    (gDiv v6 v4).bind fun t96 =>
    (gO 7 (some v0) w).bind fun a97 =>
    (mX7_prod F a97 v1 t91 t96 w).bind fun q97 =>
    (gRem v5 v4).bind fun t107 =>
    (gRem v6 v4).bind fun t112 =>
    (gO 7 (some v0) q97.2).bind fun a113 =>
    (mX7_prod F a113 v2 t107 t112 q97.2).bind fun q113 =>
    (gO 7 (some v0) q113.2).bind fun a117 =>
    (mX7_set F a117 v5 v6 ((v4 * q97.1) + q113.1) q113.2).bind fun q117 =>
    r v0 v1 v2 v3 v4 v5 (v6 + (1 : Int32)) q117)
def mX7_pair_l69 (F : Nat) (k126 : Nat → Int32 → Int32 → Int32 → Int32 → Int32 → gW → Option (Int32 × gW)) : Nat → Nat → Int32 → Int32 → Int32 → Int32 → Int32 → Int32 → gW → Option (Int32 × gW)
  | 0, _, _, _, _, _, _, _, _ => none
  | n + 1, v0, v1, v2, v3, v4, v5, v6, w => mX7_pair_h69 F (mX7_pair_l69 F k126 n) k126 v0 v1 v2 v3 v4 v5 v6 w
def mX7_pair_h57 (F : Nat) (r : Nat → Int32 → Int32 → Int32 → Int32 → Int32 → gW → Option (Int32 × gW)) (k132 : Nat → Int32 → Int32 → gW → Option (Int32 × gW)) (v0 : Nat) (v1 : Int32) (v2 : Int32) (v3 : Int32) (v4 : Int32) (v5 : Int32) (w : gW) : Option (Int32 × gW) :=
  if (v3 * v4) ≤ v5 then
    (k132 v0 v3 v4 w)
  else
    (mX7_pair_l69 F (fun (v0 : Nat) (v1 : Int32) (v2 : Int32) (v3 : Int32) (v4 : Int32) (v5 : Int32) (w : gW) => r v0 v1 v2 v3 v4 (v5 + (1 : Int32)) w) F v0 v1 v2 v3 v4 v5 (0 : Int32) w)
def mX7_pair_l57 (F : Nat) (k132 : Nat → Int32 → Int32 → gW → Option (Int32 × gW)) : Nat → Nat → Int32 → Int32 → Int32 → Int32 → Int32 → gW → Option (Int32 × gW)
  | 0, _, _, _, _, _, _, _ => none
  | n + 1, v0, v1, v2, v3, v4, v5, w => mX7_pair_h57 F (mX7_pair_l57 F k132 n) k132 v0 v1 v2 v3 v4 v5 w
def mX7_pair (F : Nat) (v0 : Nat) (v1 : Int32) (v2 : Int32) (w : gW) : Option (Int32 × gW) :=
  (gO 7 (some v0) w).bind fun a2 =>
  (mX7_isGroup F a2 v1 w).bind fun q2 =>
  if q2.1 = 0 then
    (some ((-1 : Int32), q2.2))
  else
    ((gO 7 (some v0) q2.2).bind fun a10 =>
    (mX7_isGroup F a10 v2 q2.2).bind fun q10 =>
    if q10.1 = 0 then
      (some ((-1 : Int32), q10.2))
    else
      ((gFR 7 1 (some v0) q10.2).bind fun t19 =>
      (gLI t19 v1 q10.2).bind fun t23 =>
      (gFR 7 1 (some v0) q10.2).bind fun t26 =>
      (gLI t26 v2 q10.2).bind fun t30 =>
      (gFI 7 0 (some v0) q10.2).bind fun t34 =>
      if t34 = (8 : Int32) then
        (some ((-3 : Int32), q10.2))
      else
        (if (t23 * t30) ≤ (48 : Int32) then
          (mX7_pair_l57 F (fun (v0 : Nat) (v3 : Int32) (v4 : Int32) (w : gW) => (gO 7 (some v0) w).bind fun a137 =>
            (mX7_added F a137 (v3 * v4) w).bind fun q137 =>
            some (q137.1, q137.2)) F v0 v1 v2 t23 t30 (0 : Int32) q10.2)
        else
          (some ((-3 : Int32), q10.2)))))
def mX7_pairs_h60 (F : Nat) (r : Nat → Int32 → Int32 → Int32 → Int32 → gW → Option (gW)) (k88 : Nat → Int32 → Int32 → Int32 → gW → Option (gW)) (v0 : Nat) (v1 : Int32) (v2 : Int32) (v3 : Int32) (v4 : Int32) (w : gW) : Option (gW) :=
  (gFI 7 37 (some v0) w).bind fun t63 =>
  if t63 ≤ v4 then
    (k88 v0 v1 v2 v3 w)
  else
    ((gO 7 (some v0) w).bind fun a75 =>
    (mX7_equation F a75 v1 v2 v3 v4 w).bind fun q75 =>
    (gO 7 (some v0) q75).bind fun a79 =>
    (mX7_settles F a79 q75).bind fun q79 =>
    r v0 v1 v2 v3 (v4 + (1 : Int32)) q79)
def mX7_pairs_l60 (F : Nat) (k88 : Nat → Int32 → Int32 → Int32 → gW → Option (gW)) : Nat → Nat → Int32 → Int32 → Int32 → Int32 → gW → Option (gW)
  | 0, _, _, _, _, _, _ => none
  | n + 1, v0, v1, v2, v3, v4, w => mX7_pairs_h60 F (mX7_pairs_l60 F k88 n) k88 v0 v1 v2 v3 v4 w
def mX7_pairs_h49 (F : Nat) (r : Nat → Int32 → Int32 → Int32 → gW → Option (gW)) (k94 : Nat → Int32 → Int32 → gW → Option (gW)) (v0 : Nat) (v1 : Int32) (v2 : Int32) (v3 : Int32) (w : gW) : Option (gW) :=
  (gFI 7 36 (some v0) w).bind fun t51 =>
  if t51 ≤ v3 then
    (k94 v0 v1 v2 w)
  else
    (mX7_pairs_l60 F (fun (v0 : Nat) (v1 : Int32) (v2 : Int32) (v3 : Int32) (w : gW) => r v0 v1 v2 (v3 + (1 : Int32)) w) F v0 v1 v2 v3 (0 : Int32) w)
def mX7_pairs_l49 (F : Nat) (k94 : Nat → Int32 → Int32 → gW → Option (gW)) : Nat → Nat → Int32 → Int32 → Int32 → gW → Option (gW)
  | 0, _, _, _, _, _ => none
  | n + 1, v0, v1, v2, v3, w => mX7_pairs_h49 F (mX7_pairs_l49 F k94 n) k94 v0 v1 v2 v3 w
def mX7_pairs_h39 (F : Nat) (r : Nat → Int32 → Int32 → gW → Option (gW)) (k100 : Nat → Int32 → gW → Option (gW)) (v0 : Nat) (v1 : Int32) (v2 : Int32) (w : gW) : Option (gW) :=
  (gFI 7 36 (some v0) w).bind fun t41 =>
  if t41 ≤ v2 then
    (k100 v0 v1 w)
  else
    (mX7_pairs_l49 F (fun (v0 : Nat) (v1 : Int32) (v2 : Int32) (w : gW) => r v0 v1 (v2 + (1 : Int32)) w) F v0 v1 v2 (1 : Int32) w)
def mX7_pairs_l39 (F : Nat) (k100 : Nat → Int32 → gW → Option (gW)) : Nat → Nat → Int32 → Int32 → gW → Option (gW)
  | 0, _, _, _, _ => none
  | n + 1, v0, v1, v2, w => mX7_pairs_h39 F (mX7_pairs_l39 F k100 n) k100 v0 v1 v2 w
def mX7_pairs_h29 (F : Nat) (r : Nat → Int32 → gW → Option (gW)) (k106 : Nat → gW → Option (gW)) (v0 : Nat) (v1 : Int32) (w : gW) : Option (gW) :=
  (gFI 7 36 (some v0) w).bind fun t31 =>
  if t31 ≤ v1 then
    (k106 v0 w)
  else
    (mX7_pairs_l39 F (fun (v0 : Nat) (v1 : Int32) (w : gW) => r v0 (v1 + (1 : Int32)) w) F v0 v1 (1 : Int32) w)
def mX7_pairs_l29 (F : Nat) (k106 : Nat → gW → Option (gW)) : Nat → Nat → Int32 → gW → Option (gW)
  | 0, _, _, _ => none
  | n + 1, v0, v1, w => mX7_pairs_h29 F (mX7_pairs_l29 F k106 n) k106 v0 v1 w
def mX7_pairs_b178 (F : Nat) (r : Nat → Int32 → Int32 → Int32 → Int32 → gW → Option (gW)) (k185 : Nat → Int32 → Int32 → Int32 → gW → Option (gW)) (v0 : Nat) (v1 : Int32) (v2 : Int32) (v3 : Int32) (v4 : Int32) (s0 : Option Nat) (s1 : Int32) (s2 : Int32) (w : gW) : Option (gW) :=
  (gSI s0 s1 s2 w).bind fun w178 =>
  r v0 v1 v2 v3 (v4 + (1 : Int32)) w178
def mX7_pairs_h147 (F : Nat) (r : Nat → Int32 → Int32 → Int32 → Int32 → gW → Option (gW)) (k185 : Nat → Int32 → Int32 → Int32 → gW → Option (gW)) (v0 : Nat) (v1 : Int32) (v2 : Int32) (v3 : Int32) (v4 : Int32) (w : gW) : Option (gW) :=
  (gFI 7 24 (some v0) w).bind fun t150 =>
  if t150 ≤ v4 then
    (k185 v0 v1 v2 v3 w)
  else
    ((gFR 7 34 (some v0) w).bind fun t157 =>
    if v4 = v3 then
      (mX7_pairs_b178 F r k185 v0 v1 v2 v3 v4 t157 (((98 : Int32) * v1) + v4) (1 : Int32) w)
    else
      (mX7_pairs_b178 F r k185 v0 v1 v2 v3 v4 t157 (((98 : Int32) * v1) + v4) (0 : Int32) w))
def mX7_pairs_l147 (F : Nat) (k185 : Nat → Int32 → Int32 → Int32 → gW → Option (gW)) : Nat → Nat → Int32 → Int32 → Int32 → Int32 → gW → Option (gW)
  | 0, _, _, _, _, _, _ => none
  | n + 1, v0, v1, v2, v3, v4, w => mX7_pairs_h147 F (mX7_pairs_l147 F k185 n) k185 v0 v1 v2 v3 v4 w
def mX7_pairs_h188 (F : Nat) (r : Nat → Int32 → Int32 → Int32 → Int32 → gW → Option (gW)) (k242 : Nat → Int32 → Int32 → Int32 → gW → Option (gW)) (v0 : Nat) (v1 : Int32) (v2 : Int32) (v3 : Int32) (v4 : Int32) (w : gW) : Option (gW) :=
  (gFI 7 28 (some v0) w).bind fun t191 =>
  if t191 ≤ v4 then
    (k242 v0 v1 v2 v3 w)
  else
    ((gFR 7 34 (some v0) w).bind fun t198 =>
    (gFR 7 27 (some v0) w).bind fun t206 =>
    (gLI t206 v4 w).bind fun t211 =>
    (gFI 7 23 (some v0) w).bind fun t214 =>
    (gFR 7 26 (some v0) w).bind fun t218 =>
    (gLI t218 (((98 : Int32) * v4) + v3) w).bind fun t228 =>
    (gFI 7 23 (some v0) w).bind fun t231 =>
    (gRem (t214 - t228) t231).bind fun t234 =>
    (gSI t198 (((98 : Int32) * v1) + t211) t234 w).bind fun w235 =>
    r v0 v1 v2 v3 (v4 + (1 : Int32)) w235)
def mX7_pairs_l188 (F : Nat) (k242 : Nat → Int32 → Int32 → Int32 → gW → Option (gW)) : Nat → Nat → Int32 → Int32 → Int32 → Int32 → gW → Option (gW)
  | 0, _, _, _, _, _, _ => none
  | n + 1, v0, v1, v2, v3, v4, w => mX7_pairs_h188 F (mX7_pairs_l188 F k242 n) k242 v0 v1 v2 v3 v4 w
def mX7_pairs_b245 (F : Nat) (r : Nat → Int32 → Int32 → Int32 → gW → Option (gW)) (k251 : Nat → Int32 → gW → Option (gW)) (v0 : Nat) (v1 : Int32) (v2 : Int32) (v3 : Int32) (w : gW) : Option (gW) :=
  r v0 v1 v2 (v3 + (1 : Int32)) w
def mX7_pairs_b144 (F : Nat) (r : Nat → Int32 → Int32 → Int32 → gW → Option (gW)) (k251 : Nat → Int32 → gW → Option (gW)) (v0 : Nat) (v1 : Int32) (v2 : Int32) (v3 : Int32) (w : gW) : Option (gW) :=
  mX7_pairs_l147 F (fun (v0 : Nat) (v1 : Int32) (v2 : Int32) (v3 : Int32) (w : gW) => mX7_pairs_l188 F (fun (v0 : Nat) (v1 : Int32) (v2 : Int32) (v3 : Int32) (w : gW) => mX7_pairs_b245 F r k251 v0 (v1 + (1 : Int32)) v2 v3 w) F v0 v1 v2 v3 (0 : Int32) w) F v0 v1 v2 v3 (0 : Int32) w
def mX7_pairs_h112 (F : Nat) (r : Nat → Int32 → Int32 → Int32 → gW → Option (gW)) (k251 : Nat → Int32 → gW → Option (gW)) (v0 : Nat) (v1 : Int32) (v2 : Int32) (v3 : Int32) (w : gW) : Option (gW) :=
  (gFI 7 24 (some v0) w).bind fun t114 =>
  if t114 ≤ v3 then
    (k251 v0 v1 w)
  else
    ((gFI 7 28 (some v0) w).bind fun t122 =>
    if t122 ≤ v2 then
      (mX7_pairs_b144 F r k251 v0 v1 v2 v3 w)
    else
      ((gFR 7 27 (some v0) w).bind fun t129 =>
      (gLI t129 v2 w).bind fun t133 =>
      if t133 = v3 then
        (mX7_pairs_b245 F r k251 v0 v1 (v2 + (1 : Int32)) v3 w)
      else
        (mX7_pairs_b144 F r k251 v0 v1 v2 v3 w)))
def mX7_pairs_l112 (F : Nat) (k251 : Nat → Int32 → gW → Option (gW)) : Nat → Nat → Int32 → Int32 → Int32 → gW → Option (gW)
  | 0, _, _, _, _, _ => none
  | n + 1, v0, v1, v2, v3, w => mX7_pairs_h112 F (mX7_pairs_l112 F k251 n) k251 v0 v1 v2 v3 w
def mX7_pairs (F : Nat) (v0 : Nat) (w : gW) : Option (gW) :=
  (gP 7 28 (some v0) (.inl (0 : Int32)) w).bind fun w2 =>
  (gFI 7 36 (some v0) w2).bind fun t7 =>
  (gFI 7 36 (some v0) w2).bind fun t13 =>
  (gFI 7 37 (some v0) w2).bind fun t20 =>
  (gP 7 24 (some v0) (.inl (((t7 - (1 : Int32)) * (t13 - (1 : Int32))) * t20)) w2).bind fun w24 =>
  mX7_pairs_l29 F (fun (v0 : Nat) (w : gW) => mX7_pairs_l112 F (fun (v0 : Nat) (v1 : Int32) (w : gW) => (gFR 7 30 (some v0) w).bind fun t252 =>
      (gSI t252 (3 : Int32) v1 w).bind fun w257 =>
      some w257) F v0 (0 : Int32) (0 : Int32) (0 : Int32) w) F v0 (1 : Int32) w24
def mX7_sound_b64 (F : Nat) (r : Nat → Int32 → Int32 → Int32 → Int32 → Int32 → gW → Option (Int32 × gW)) (k77 : Nat → Int32 → Int32 → Int32 → Int32 → gW → Option (Int32 × gW)) (v0 : Nat) (v1 : Int32) (v2 : Int32) (v3 : Int32) (v4 : Int32) (v5 : Int32) (s0 : Int32) (s1 : Int32) (w : gW) : Option (Int32 × gW) :=
  if s0 = s1 then
    (r v0 v1 v2 v3 v4 (v5 + (1 : Int32)) w)
  else
    (some ((1000 : Int32), w))
def mX7_sound_h36 (F : Nat) (r : Nat → Int32 → Int32 → Int32 → Int32 → Int32 → gW → Option (Int32 × gW)) (k77 : Nat → Int32 → Int32 → Int32 → Int32 → gW → Option (Int32 × gW)) (v0 : Nat) (v1 : Int32) (v2 : Int32) (v3 : Int32) (v4 : Int32) (v5 : Int32) (w : gW) : Option (Int32 × gW) :=
  if v3 ≤ v5 then
    (k77 v0 v1 v2 v3 v4 w)
  else
    ((gO 7 (some v0) w).bind fun a49 =>
    (mX7_matrix F a49 v1 (0 : Int32) v4 v5 w).bind fun q49 =>
    if v4 = v5 then
      (mX7_sound_b64 F r k77 v0 v1 v2 v3 v4 v5 q49.1 (1 : Int32) q49.2)
    else
      (mX7_sound_b64 F r k77 v0 v1 v2 v3 v4 v5 q49.1 (0 : Int32) q49.2))
def mX7_sound_l36 (F : Nat) (k77 : Nat → Int32 → Int32 → Int32 → Int32 → gW → Option (Int32 × gW)) : Nat → Nat → Int32 → Int32 → Int32 → Int32 → Int32 → gW → Option (Int32 × gW)
  | 0, _, _, _, _, _, _, _ => none
  | n + 1, v0, v1, v2, v3, v4, v5, w => mX7_sound_h36 F (mX7_sound_l36 F k77 n) k77 v0 v1 v2 v3 v4 v5 w
def mX7_sound_h27 (F : Nat) (r : Nat → Int32 → Int32 → Int32 → Int32 → gW → Option (Int32 × gW)) (k83 : Nat → Int32 → Int32 → Int32 → gW → Option (Int32 × gW)) (v0 : Nat) (v1 : Int32) (v2 : Int32) (v3 : Int32) (v4 : Int32) (w : gW) : Option (Int32 × gW) :=
  if v3 ≤ v4 then
    (k83 v0 v1 v2 v3 w)
  else
    (mX7_sound_l36 F (fun (v0 : Nat) (v1 : Int32) (v2 : Int32) (v3 : Int32) (v4 : Int32) (w : gW) => r v0 v1 v2 v3 (v4 + (1 : Int32)) w) F v0 v1 v2 v3 v4 (0 : Int32) w)
def mX7_sound_l27 (F : Nat) (k83 : Nat → Int32 → Int32 → Int32 → gW → Option (Int32 × gW)) : Nat → Nat → Int32 → Int32 → Int32 → Int32 → gW → Option (Int32 × gW)
  | 0, _, _, _, _, _, _ => none
  | n + 1, v0, v1, v2, v3, v4, w => mX7_sound_h27 F (mX7_sound_l27 F k83 n) k83 v0 v1 v2 v3 v4 w
def mX7_sound_b180 (F : Nat) (r : Nat → Int32 → Int32 → Int32 → Int32 → Int32 → Int32 → Int32 → gW → Option (Int32 × gW)) (k234 : Nat → Int32 → Int32 → Int32 → Int32 → Int32 → Int32 → gW → Option (Int32 × gW)) (k213 : Nat → Int32 → Int32 → Int32 → gW → Option (Int32 × gW)) (v0 : Nat) (v1 : Int32) (v2 : Int32) (v3 : Int32) (v4 : Int32) (v5 : Int32) (v6 : Int32) (v7 : Int32) (s0 : Int32) (s1 : Int32) (w : gW) : Option (Int32 × gW) :=
  (gFR 7 9 (some v0) w).bind fun t186 =>
  (gLI t186 v1 w).bind fun t190 =>
  (gRem (s0 + s1) t190).bind fun t191 =>
  (gO 7 (some v0) w).bind fun a200 =>
  (mX7_prod F a200 v2 v4 v5 w).bind fun q200 =>
  (gO 7 (some v0) q200.2).bind fun a207 =>
  (mX7_matrix F a207 v1 q200.1 v6 v7 q200.2).bind fun q207 =>
  if t191 = q207.1 then
    (r v0 v1 v2 v3 v4 v5 v6 (v7 + (1 : Int32)) q207.2)
  else
    (k213 v0 v2 v4 v5 q207.2)
def mX7_sound_h123 (F : Nat) (r : Nat → Int32 → Int32 → Int32 → Int32 → Int32 → Int32 → Int32 → gW → Option (Int32 × gW)) (k234 : Nat → Int32 → Int32 → Int32 → Int32 → Int32 → Int32 → gW → Option (Int32 × gW)) (k213 : Nat → Int32 → Int32 → Int32 → gW → Option (Int32 × gW)) (v0 : Nat) (v1 : Int32) (v2 : Int32) (v3 : Int32) (v4 : Int32) (v5 : Int32) (v6 : Int32) (v7 : Int32) (w : gW) : Option (Int32 × gW) :=
  if v3 ≤ v7 then
    (k234 v0 v1 v2 v3 v4 v5 v6 w)
  else
    ((gO 7 (some v0) w).bind fun a136 =>
    (mX7_matrix F a136 v1 v4 v6 (0 : Int32) w).bind fun q136 =>
    (gO 7 (some v0) q136.2).bind fun a146 =>
    (mX7_matrix F a146 v1 v5 (0 : Int32) v7 q136.2).bind fun q146 =>
    if v3 = (2 : Int32) then
      ((gO 7 (some v0) q146.2).bind fun a162 =>
      (mX7_matrix F a162 v1 v4 v6 (1 : Int32) q146.2).bind fun q162 =>
      (gO 7 (some v0) q162.2).bind fun a172 =>
      (mX7_matrix F a172 v1 v5 (1 : Int32) v7 q162.2).bind fun q172 =>
      mX7_sound_b180 F r k234 k213 v0 v1 v2 v3 v4 v5 v6 v7 (q136.1 * q146.1) (q162.1 * q172.1) q172.2)
    else
      (mX7_sound_b180 F r k234 k213 v0 v1 v2 v3 v4 v5 v6 v7 (q136.1 * q146.1) (0 : Int32) q146.2))
def mX7_sound_l123 (F : Nat) (k234 : Nat → Int32 → Int32 → Int32 → Int32 → Int32 → Int32 → gW → Option (Int32 × gW)) (k213 : Nat → Int32 → Int32 → Int32 → gW → Option (Int32 × gW)) : Nat → Nat → Int32 → Int32 → Int32 → Int32 → Int32 → Int32 → Int32 → gW → Option (Int32 × gW)
  | 0, _, _, _, _, _, _, _, _, _ => none
  | n + 1, v0, v1, v2, v3, v4, v5, v6, v7, w => mX7_sound_h123 F (mX7_sound_l123 F k234 k213 n) k234 k213 v0 v1 v2 v3 v4 v5 v6 v7 w
def mX7_sound_h114 (F : Nat) (r : Nat → Int32 → Int32 → Int32 → Int32 → Int32 → Int32 → gW → Option (Int32 × gW)) (k240 : Nat → Int32 → Int32 → Int32 → Int32 → Int32 → gW → Option (Int32 × gW)) (k213 : Nat → Int32 → Int32 → Int32 → gW → Option (Int32 × gW)) (v0 : Nat) (v1 : Int32) (v2 : Int32) (v3 : Int32) (v4 : Int32) (v5 : Int32) (v6 : Int32) (w : gW) : Option (Int32 × gW) :=
  if v3 ≤ v6 then
    (k240 v0 v1 v2 v3 v4 v5 w)
  else
    (mX7_sound_l123 F (fun (v0 : Nat) (v1 : Int32) (v2 : Int32) (v3 : Int32) (v4 : Int32) (v5 : Int32) (v6 : Int32) (w : gW) => r v0 v1 v2 v3 v4 v5 (v6 + (1 : Int32)) w) (fun (v0 : Nat) (v2 : Int32) (v4 : Int32) (v5 : Int32) (w : gW) => k213 v0 v2 v4 v5 w) F v0 v1 v2 v3 v4 v5 v6 (0 : Int32) w)
def mX7_sound_l114 (F : Nat) (k240 : Nat → Int32 → Int32 → Int32 → Int32 → Int32 → gW → Option (Int32 × gW)) (k213 : Nat → Int32 → Int32 → Int32 → gW → Option (Int32 × gW)) : Nat → Nat → Int32 → Int32 → Int32 → Int32 → Int32 → Int32 → gW → Option (Int32 × gW)
  | 0, _, _, _, _, _, _, _, _ => none
  | n + 1, v0, v1, v2, v3, v4, v5, v6, w => mX7_sound_h114 F (mX7_sound_l114 F k240 k213 n) k240 k213 v0 v1 v2 v3 v4 v5 v6 w
def mX7_sound_h100 (F : Nat) (r : Nat → Int32 → Int32 → Int32 → Int32 → Int32 → gW → Option (Int32 × gW)) (k246 : Nat → Int32 → Int32 → Int32 → Int32 → gW → Option (Int32 × gW)) (k213 : Nat → Int32 → Int32 → Int32 → gW → Option (Int32 × gW)) (v0 : Nat) (v1 : Int32) (v2 : Int32) (v3 : Int32) (v4 : Int32) (v5 : Int32) (w : gW) : Option (Int32 × gW) :=
  (gFR 7 1 (some v0) w).bind fun t103 =>
  (gLI t103 v2 w).bind fun t107 =>
  if t107 ≤ v5 then
    (k246 v0 v1 v2 v3 v4 w)
  else
    (mX7_sound_l114 F (fun (v0 : Nat) (v1 : Int32) (v2 : Int32) (v3 : Int32) (v4 : Int32) (v5 : Int32) (w : gW) => r v0 v1 v2 v3 v4 (v5 + (1 : Int32)) w) (fun (v0 : Nat) (v2 : Int32) (v4 : Int32) (v5 : Int32) (w : gW) => k213 v0 v2 v4 v5 w) F v0 v1 v2 v3 v4 v5 (0 : Int32) w)
def mX7_sound_l100 (F : Nat) (k246 : Nat → Int32 → Int32 → Int32 → Int32 → gW → Option (Int32 × gW)) (k213 : Nat → Int32 → Int32 → Int32 → gW → Option (Int32 × gW)) : Nat → Nat → Int32 → Int32 → Int32 → Int32 → Int32 → gW → Option (Int32 × gW)
  | 0, _, _, _, _, _, _, _ => none
  | n + 1, v0, v1, v2, v3, v4, v5, w => mX7_sound_h100 F (mX7_sound_l100 F k246 k213 n) k246 k213 v0 v1 v2 v3 v4 v5 w
def mX7_sound_h86 (F : Nat) (r : Nat → Int32 → Int32 → Int32 → Int32 → gW → Option (Int32 × gW)) (k213 : Nat → Int32 → Int32 → Int32 → gW → Option (Int32 × gW)) (v0 : Nat) (v1 : Int32) (v2 : Int32) (v3 : Int32) (v4 : Int32) (w : gW) : Option (Int32 × gW) :=
  (gFR 7 1 (some v0) w).bind fun t89 =>
  (gLI t89 v2 w).bind fun t93 =>
  if t93 ≤ v4 then
    (some ((0 : Int32), w))
  else
    (mX7_sound_l100 F (fun (v0 : Nat) (v1 : Int32) (v2 : Int32) (v3 : Int32) (v4 : Int32) (w : gW) => r v0 v1 v2 v3 (v4 + (1 : Int32)) w) (fun (v0 : Nat) (v2 : Int32) (v4 : Int32) (v5 : Int32) (w : gW) => k213 v0 v2 v4 v5 w) F v0 v1 v2 v3 v4 (0 : Int32) w)
def mX7_sound_l86 (F : Nat) (k213 : Nat → Int32 → Int32 → Int32 → gW → Option (Int32 × gW)) : Nat → Nat → Int32 → Int32 → Int32 → Int32 → gW → Option (Int32 × gW)
  | 0, _, _, _, _, _, _ => none
  | n + 1, v0, v1, v2, v3, v4, w => mX7_sound_h86 F (mX7_sound_l86 F k213 n) k213 v0 v1 v2 v3 v4 w
def mX7_sound (F : Nat) (v0 : Nat) (v1 : Int32) (w : gW) : Option (Int32 × gW) :=
  (gO 7 (some v0) w).bind fun a2 =>
  (mX7_isModule F a2 v1 w).bind fun q2 =>
  if q2.1 = 0 then
    (some ((-1 : Int32), q2.2))
  else
    ((gFR 7 8 (some v0) q2.2).bind fun t11 =>
    (gLI t11 v1 q2.2).bind fun t15 =>
    (gFR 7 10 (some v0) q2.2).bind fun t18 =>
    (gLI t18 v1 q2.2).bind fun t22 =>
    mX7_sound_l27 F (fun (v0 : Nat) (v1 : Int32) (v2 : Int32) (v3 : Int32) (w : gW) => mX7_sound_l86 F (fun (v0 : Nat) (v2 : Int32) (v4 : Int32) (v5 : Int32) (w : gW) => (gFR 7 1 (some v0) w).bind fun t215 =>
        (gLI t215 v2 w).bind fun t219 =>
        some ((((1 : Int32) + (t219 * v4)) + v5), w)) F v0 v1 v2 v3 (0 : Int32) w) F v0 v1 t15 t22 (0 : Int32) q2.2)
def mX7_turnsMade_b102 (F : Nat) (r : Nat → Int32 → Int32 → Int32 → Int32 → gW → Option (Int32 × gW)) (k108 : Nat → Int32 → Int32 → Int32 → gW → Option (Int32 × gW)) (v0 : Nat) (v1 : Int32) (v2 : Int32) (v3 : Int32) (v4 : Int32) (w : gW) : Option (Int32 × gW) :=
  r v0 v1 v2 v3 (v4 + (1 : Int32)) w
def mX7_turnsMade_h32 (F : Nat) (r : Nat → Int32 → Int32 → Int32 → Int32 → gW → Option (Int32 × gW)) (k108 : Nat → Int32 → Int32 → Int32 → gW → Option (Int32 × gW)) (v0 : Nat) (v1 : Int32) (v2 : Int32) (v3 : Int32) (v4 : Int32) (w : gW) : Option (Int32 × gW) :=
  (gFR 7 1 (some v0) w).bind fun t35 =>
  (gLI t35 v1 w).bind fun t39 =>
  if t39 ≤ v4 then
    (k108 v0 v1 v2 v3 w)
  else
    ((gO 7 (some v0) w).bind fun a52 =>
    (mX7_prod F a52 v1 v3 v4 w).bind fun q52 =>
    (gO 7 (some v0) q52.2).bind fun a58 =>
    (mX7_inverse F a58 v1 v3 q52.2).bind fun q58 =>
    (gO 7 (some v0) q58.2).bind fun a61 =>
    (mX7_prod F a61 v1 q52.1 q58.1 q58.2).bind fun q61 =>
    (gO 7 (some v0) q61.2).bind fun a68 =>
    (mX7_inverse F a68 v1 v4 q61.2).bind fun q68 =>
    (gO 7 (some v0) q68.2).bind fun a71 =>
    (mX7_prod F a71 v1 q61.1 q68.1 q68.2).bind fun q71 =>
    (gO 7 (some v0) q71.2).bind fun a79 =>
    (mX7_isMade F a79 q71.1 q71.2).bind fun q79 =>
    if q79.1 = 0 then
      ((gFR 7 12 (some v0) q79.2).bind fun t86 =>
      (gSI t86 v2 q71.1 q79.2).bind fun w92 =>
      (gO 7 (some v0) w92).bind fun a99 =>
      (mX7_makes F a99 v1 (v2 + (1 : Int32)) w92).bind fun q99 =>
      mX7_turnsMade_b102 F r k108 v0 v1 (v2 + (1 : Int32)) v3 v4 q99)
    else
      (mX7_turnsMade_b102 F r k108 v0 v1 v2 v3 v4 q79.2))
def mX7_turnsMade_l32 (F : Nat) (k108 : Nat → Int32 → Int32 → Int32 → gW → Option (Int32 × gW)) : Nat → Nat → Int32 → Int32 → Int32 → Int32 → gW → Option (Int32 × gW)
  | 0, _, _, _, _, _, _ => none
  | n + 1, v0, v1, v2, v3, v4, w => mX7_turnsMade_h32 F (mX7_turnsMade_l32 F k108 n) k108 v0 v1 v2 v3 v4 w
def mX7_turnsMade_h19 (F : Nat) (r : Nat → Int32 → Int32 → Int32 → gW → Option (Int32 × gW)) (k114 : Nat → gW → Option (Int32 × gW)) (v0 : Nat) (v1 : Int32) (v2 : Int32) (v3 : Int32) (w : gW) : Option (Int32 × gW) :=
  (gFR 7 1 (some v0) w).bind fun t21 =>
  (gLI t21 v1 w).bind fun t25 =>
  if t25 ≤ v3 then
    (k114 v0 w)
  else
    (mX7_turnsMade_l32 F (fun (v0 : Nat) (v1 : Int32) (v2 : Int32) (v3 : Int32) (w : gW) => r v0 v1 v2 (v3 + (1 : Int32)) w) F v0 v1 v2 v3 (0 : Int32) w)
def mX7_turnsMade_l19 (F : Nat) (k114 : Nat → gW → Option (Int32 × gW)) : Nat → Nat → Int32 → Int32 → Int32 → gW → Option (Int32 × gW)
  | 0, _, _, _, _, _ => none
  | n + 1, v0, v1, v2, v3, w => mX7_turnsMade_h19 F (mX7_turnsMade_l19 F k114 n) k114 v0 v1 v2 v3 w
def mX7_turnsMade (F : Nat) (v0 : Nat) (v1 : Int32) (w : gW) : Option (Int32 × gW) :=
  (gP 7 15 (some v0) (.inr (.inl (1 : Int64))) w).bind fun w4 =>
  (gP 7 16 (some v0) (.inr (.inl (0 : Int64))) w4).bind fun w9 =>
  (gP 7 14 (some v0) (.inl (1 : Int32)) w9).bind fun w14 =>
  mX7_turnsMade_l19 F (fun (v0 : Nat) (w : gW) => (gFI 7 14 (some v0) w).bind fun t115 =>
    some (t115, w)) F v0 v1 (0 : Int32) (0 : Int32) w14
def mX0_firstUnsound_b37 (F : Nat) (r : Nat → Int32 → Int32 → gW → Option (Int32 × gW)) (k50 : Nat → Int32 → gW → Option (Int32 × gW)) (v0 : Nat) (v1 : Int32) (v2 : Int32) (s0 : Int32) (s1 : Int32) (w : gW) : Option (Int32 × gW) :=
  if s0 = s1 then
    (r v0 v1 (v2 + (1 : Int32)) w)
  else
    (some ((1000 : Int32), w))
def mX0_firstUnsound_h12 (F : Nat) (r : Nat → Int32 → Int32 → gW → Option (Int32 × gW)) (k50 : Nat → Int32 → gW → Option (Int32 × gW)) (v0 : Nat) (v1 : Int32) (v2 : Int32) (w : gW) : Option (Int32 × gW) :=
  (gFI 0 4 (some v0) w).bind fun t14 =>
  if t14 ≤ v2 then
    (k50 v0 v1 w)
  else
    ((gO 0 (some v0) w).bind fun a24 =>
    (mX0_entry F a24 (0 : Int32) v1 v2 w).bind fun q24 =>
    if v1 = v2 then
      (mX0_firstUnsound_b37 F r k50 v0 v1 v2 q24.1 (1 : Int32) q24.2)
    else
      (mX0_firstUnsound_b37 F r k50 v0 v1 v2 q24.1 (0 : Int32) q24.2))
def mX0_firstUnsound_l12 (F : Nat) (k50 : Nat → Int32 → gW → Option (Int32 × gW)) : Nat → Nat → Int32 → Int32 → gW → Option (Int32 × gW)
  | 0, _, _, _, _ => none
  | n + 1, v0, v1, v2, w => mX0_firstUnsound_h12 F (mX0_firstUnsound_l12 F k50 n) k50 v0 v1 v2 w
def mX0_firstUnsound_h2 (F : Nat) (r : Nat → Int32 → gW → Option (Int32 × gW)) (k56 : Nat → gW → Option (Int32 × gW)) (v0 : Nat) (v1 : Int32) (w : gW) : Option (Int32 × gW) :=
  (gFI 0 4 (some v0) w).bind fun t4 =>
  if t4 ≤ v1 then
    (k56 v0 w)
  else
    (mX0_firstUnsound_l12 F (fun (v0 : Nat) (v1 : Int32) (w : gW) => r v0 (v1 + (1 : Int32)) w) F v0 v1 (0 : Int32) w)
def mX0_firstUnsound_l2 (F : Nat) (k56 : Nat → gW → Option (Int32 × gW)) : Nat → Nat → Int32 → gW → Option (Int32 × gW)
  | 0, _, _, _ => none
  | n + 1, v0, v1, w => mX0_firstUnsound_h2 F (mX0_firstUnsound_l2 F k56 n) k56 v0 v1 w
def mX0_firstUnsound_h71 (F : Nat) (r : Nat → Int32 → Int32 → gW → Option (Int32 × gW)) (k111 : Nat → Int32 → gW → Option (Int32 × gW)) (k91 : Nat → Int32 → Int32 → gW → Option (Int32 × gW)) (v0 : Nat) (v1 : Int32) (v2 : Int32) (w : gW) : Option (Int32 × gW) :=
  (gFR 0 2 (some v0) w).bind fun t73 =>
  (gFI 2 7 t73 w).bind fun t76 =>
  if t76 ≤ v2 then
    (k111 v0 v1 w)
  else
    ((gO 0 (some v0) w).bind fun a85 =>
    (mX0_goesWithProduct F a85 v1 v2 w).bind fun q85 =>
    if q85.1 = 0 then
      (k91 v0 v1 v2 q85.2)
    else
      (r v0 v1 (v2 + (1 : Int32)) q85.2))
def mX0_firstUnsound_l71 (F : Nat) (k111 : Nat → Int32 → gW → Option (Int32 × gW)) (k91 : Nat → Int32 → Int32 → gW → Option (Int32 × gW)) : Nat → Nat → Int32 → Int32 → gW → Option (Int32 × gW)
  | 0, _, _, _, _ => none
  | n + 1, v0, v1, v2, w => mX0_firstUnsound_h71 F (mX0_firstUnsound_l71 F k111 k91 n) k111 k91 v0 v1 v2 w
def mX0_firstUnsound_h58 (F : Nat) (r : Nat → Int32 → gW → Option (Int32 × gW)) (k91 : Nat → Int32 → Int32 → gW → Option (Int32 × gW)) (v0 : Nat) (v1 : Int32) (w : gW) : Option (Int32 × gW) :=
  (gFR 0 2 (some v0) w).bind fun t60 =>
  (gFI 2 7 t60 w).bind fun t63 =>
  if t63 ≤ v1 then
    (some ((0 : Int32), w))
  else
    (mX0_firstUnsound_l71 F (fun (v0 : Nat) (v1 : Int32) (w : gW) => r v0 (v1 + (1 : Int32)) w) (fun (v0 : Nat) (v1 : Int32) (v2 : Int32) (w : gW) => k91 v0 v1 v2 w) F v0 v1 (0 : Int32) w)
def mX0_firstUnsound_l58 (F : Nat) (k91 : Nat → Int32 → Int32 → gW → Option (Int32 × gW)) : Nat → Nat → Int32 → gW → Option (Int32 × gW)
  | 0, _, _, _ => none
  | n + 1, v0, v1, w => mX0_firstUnsound_h58 F (mX0_firstUnsound_l58 F k91 n) k91 v0 v1 w
def mX0_firstUnsound (F : Nat) (v0 : Nat) (w : gW) : Option (Int32 × gW) :=
  mX0_firstUnsound_l2 F (fun (v0 : Nat) (w : gW) => mX0_firstUnsound_l58 F (fun (v0 : Nat) (v1 : Int32) (v2 : Int32) (w : gW) => (gFR 0 2 (some v0) w).bind fun t93 =>
      (gFI 2 7 t93 w).bind fun t96 =>
      some ((((1 : Int32) + (t96 * v1)) + v2), w)) F v0 (0 : Int32) w) F v0 (0 : Int32) w
def mX0_init (F : Nat) (v0 : Nat) (w : gW) : Option (gW) :=
  (gNI 32 (32 : Int32) w).bind fun w7 =>
  (gP 0 0 (some v0) (.inr (.inr (some w.2))) w7).bind fun w9 =>
  (mX5_init F w9.2 (gNO 5 [.null, .null, .null, .int 0, .int 0, .int 0, .int 0] w9)).bind fun q17 =>
  (gP 0 1 (some v0) (.inr (.inr (some w9.2))) q17).bind fun w20 =>
  some w20
def mX0_plus (F : Nat) (v0 : Nat) (v1 : Int32) (v2 : Int32) (w : gW) : Option (Int32 × gW) :=
  (gFI 0 3 (some v0) w).bind fun t3 =>
  (gFI 0 4 (some v0) w).bind fun t7 =>
  (mX6_addDigits F v1 v2 t3 t7 w).bind fun q10 =>
  some (q10.1, q10.2)
def mX1_add_h2 (F : Nat) (r : Nat → (Option Nat) → Int32 → gW → Option (gW)) (k29 : Nat → (Option Nat) → gW → Option (gW)) (v0 : Nat) (v1 : Option Nat) (v2 : Int32) (w : gW) : Option (gW) :=
  (gFI 1 3 (some v0) w).bind fun t4 =>
  if t4 ≤ v2 then
    (k29 v0 v1 w)
  else
    ((gLI v1 v2 w).bind fun t14 =>
    (gFI 1 4 (some v0) w).bind fun t16 =>
    (mX6_mod F t14 t16 w).bind fun q19 =>
    (gSI v1 v2 q19.1 q19.2).bind fun w22 =>
    r v0 v1 (v2 + (1 : Int32)) w22)
def mX1_add_l2 (F : Nat) (k29 : Nat → (Option Nat) → gW → Option (gW)) : Nat → Nat → (Option Nat) → Int32 → gW → Option (gW)
  | 0, _, _, _, _ => none
  | n + 1, v0, v1, v2, w => mX1_add_h2 F (mX1_add_l2 F k29 n) k29 v0 v1 v2 w
def mX1_add_h68 (F : Nat) (r : Nat → (Option Nat) → Int32 → Int32 → Int32 → gW → Option (gW)) (k111 : Nat → Int32 → gW → Option (gW)) (v0 : Nat) (v1 : Option Nat) (v2 : Int32) (v3 : Int32) (v4 : Int32) (w : gW) : Option (gW) :=
  (gFI 1 3 (some v0) w).bind fun t71 =>
  if t71 ≤ v4 then
    (k111 v0 v2 w)
  else
    ((gFR 1 0 (some v0) w).bind fun t78 =>
    (gFI 1 5 (some v0) w).bind fun t82 =>
    (gLI v1 v4 w).bind fun t94 =>
    (gFI 1 4 (some v0) w).bind fun t98 =>
    (mX6_mod F (t94 * v3) t98 w).bind fun q101 =>
    (gSI t78 ((t82 * (98 : Int32)) + v4) q101.1 q101.2).bind fun w104 =>
    r v0 v1 v2 v3 (v4 + (1 : Int32)) w104)
def mX1_add_l68 (F : Nat) (k111 : Nat → Int32 → gW → Option (gW)) : Nat → Nat → (Option Nat) → Int32 → Int32 → Int32 → gW → Option (gW)
  | 0, _, _, _, _, _, _ => none
  | n + 1, v0, v1, v2, v3, v4, w => mX1_add_h68 F (mX1_add_l68 F k111 n) k111 v0 v1 v2 v3 v4 w
def mX1_add (F : Nat) (v0 : Nat) (v1 : Option Nat) (w : gW) : Option (gW) :=
  mX1_add_l2 F (fun (v0 : Nat) (v1 : Option Nat) (w : gW) => (gO 1 (some v0) w).bind fun a31 =>
    (mX1_reduce F a31 v1 w).bind fun q31 =>
    (gO 1 (some v0) q31).bind fun a36 =>
    (mX1_firstNotZero F a36 v1 q31).bind fun q36 =>
    if q36.1 < 0 then
      (some q36.2)
    else
      ((gFI 1 5 (some v0) q36.2).bind fun t45 =>
      (gFR 1 1 (some v0) q36.2).bind fun t49 =>
      (gLen t49 q36.2).bind fun t52 =>
      if t45 < t52 then
        ((gLI v1 q36.1 q36.2).bind fun t60 =>
        (gO 1 (some v0) q36.2).bind fun a61 =>
        (mX1_inverseOf F a61 t60 q36.2).bind fun q61 =>
        mX1_add_l68 F (fun (v0 : Nat) (v2 : Int32) (w : gW) => (gFR 1 1 (some v0) w).bind fun t112 =>
          (gFI 1 5 (some v0) w).bind fun t116 =>
          (gSI t112 t116 v2 w).bind fun w120 =>
          (gFR 1 2 (some v0) w120).bind fun t122 =>
          (gFI 1 5 (some v0) w120).bind fun t127 =>
          (gSI t122 v2 t127 w120).bind fun w130 =>
          (gFI 1 5 (some v0) w130).bind fun t133 =>
          (gP 1 5 (some v0) (.inl (t133 + (1 : Int32))) w130).bind fun w138 =>
          some w138) F v0 v1 q36.1 q61.1 (0 : Int32) q61.2)
      else
        (some q36.2))) F v0 v1 (0 : Int32) w
def mX2_exponent_h2 (F : Nat) (r : Nat → Int32 → gW → Option (Int32 × gW)) (k26 : Nat → gW → Option (Int32 × gW)) (v0 : Nat) (v1 : Int32) (w : gW) : Option (Int32 × gW) :=
  (gFI 2 7 (some v0) w).bind fun t4 =>
  if t4 ≤ v1 then
    (k26 v0 w)
  else
    ((gO 2 (some v0) w).bind fun a12 =>
    (mX2_bringsAllToZero F a12 v1 w).bind fun q12 =>
    if q12.1 = 0 then
      (r v0 (v1 + (1 : Int32)) q12.2)
    else
      (some (v1, q12.2)))
def mX2_exponent_l2 (F : Nat) (k26 : Nat → gW → Option (Int32 × gW)) : Nat → Nat → Int32 → gW → Option (Int32 × gW)
  | 0, _, _, _ => none
  | n + 1, v0, v1, w => mX2_exponent_h2 F (mX2_exponent_l2 F k26 n) k26 v0 v1 w
def mX2_exponent (F : Nat) (v0 : Nat) (w : gW) : Option (Int32 × gW) :=
  mX2_exponent_l2 F (fun (v0 : Nat) (w : gW) => (gFI 2 7 (some v0) w).bind fun t27 =>
    some (t27, w)) F v0 (1 : Int32) w
def mX2_readFrom_b72 (F : Nat) (r : Nat → (Option Nat) → Int32 → Int32 → Int32 → gW → Option (Int32 × gW)) (k87 : Nat → (Option Nat) → Int32 → Int32 → gW → Option (Int32 × gW)) (k65 : Int32 → Int32 → Int32 → gW → Option (Int32 × gW)) (v0 : Nat) (v1 : Option Nat) (v2 : Int32) (v3 : Int32) (v4 : Int32) (v5 : Int32) (w : gW) : Option (Int32 × gW) :=
  (gO 2 (some v0) w).bind fun a78 =>
  (mX2_set F a78 v3 v4 v5 w).bind fun q78 =>
  r v0 v1 v2 v3 (v4 + (1 : Int32)) q78
def mX2_readFrom_b54 (F : Nat) (r : Nat → (Option Nat) → Int32 → Int32 → Int32 → gW → Option (Int32 × gW)) (k87 : Nat → (Option Nat) → Int32 → Int32 → gW → Option (Int32 × gW)) (k65 : Int32 → Int32 → Int32 → gW → Option (Int32 × gW)) (v0 : Nat) (v1 : Option Nat) (v2 : Int32) (v3 : Int32) (v4 : Int32) (v5 : Int32) (w : gW) : Option (Int32 × gW) :=
  if v4 = 0 then
    (if v5 = v3 then
      (mX2_readFrom_b72 F r k87 k65 v0 v1 v2 v3 v4 v5 w)
    else
      (k65 v2 v3 v4 w))
  else
    (mX2_readFrom_b72 F r k87 k65 v0 v1 v2 v3 v4 v5 w)
def mX2_readFrom_h15 (F : Nat) (r : Nat → (Option Nat) → Int32 → Int32 → Int32 → gW → Option (Int32 × gW)) (k87 : Nat → (Option Nat) → Int32 → Int32 → gW → Option (Int32 × gW)) (k65 : Int32 → Int32 → Int32 → gW → Option (Int32 × gW)) (v0 : Nat) (v1 : Option Nat) (v2 : Int32) (v3 : Int32) (v4 : Int32) (w : gW) : Option (Int32 × gW) :=
  if v2 ≤ v4 then
    (k87 v0 v1 v2 v3 w)
  else
    ((gFR 4 0 v1 w).bind fun t22 =>
    (gLI t22 ((v2 * v3) + v4) w).bind fun t31 =>
    (gO 2 (some v0) w).bind fun a37 =>
    (mX2_has F a37 t31 w).bind fun q37 =>
    if q37.1 = 0 then
      (k65 v2 v3 v4 q37.2)
    else
      (if v3 = 0 then
        (if t31 = v4 then
          (mX2_readFrom_b54 F r k87 k65 v0 v1 v2 v3 v4 t31 q37.2)
        else
          (k65 v2 v3 v4 q37.2))
      else
        (mX2_readFrom_b54 F r k87 k65 v0 v1 v2 v3 v4 t31 q37.2)))
def mX2_readFrom_l15 (F : Nat) (k87 : Nat → (Option Nat) → Int32 → Int32 → gW → Option (Int32 × gW)) (k65 : Int32 → Int32 → Int32 → gW → Option (Int32 × gW)) : Nat → Nat → (Option Nat) → Int32 → Int32 → Int32 → gW → Option (Int32 × gW)
  | 0, _, _, _, _, _, _ => none
  | n + 1, v0, v1, v2, v3, v4, w => mX2_readFrom_h15 F (mX2_readFrom_l15 F k87 k65 n) k87 k65 v0 v1 v2 v3 v4 w
def mX2_readFrom_h7 (F : Nat) (r : Nat → (Option Nat) → Int32 → Int32 → gW → Option (Int32 × gW)) (k93 : Nat → gW → Option (Int32 × gW)) (k65 : Int32 → Int32 → Int32 → gW → Option (Int32 × gW)) (v0 : Nat) (v1 : Option Nat) (v2 : Int32) (v3 : Int32) (w : gW) : Option (Int32 × gW) :=
  if v2 ≤ v3 then
    (k93 v0 w)
  else
    (mX2_readFrom_l15 F (fun (v0 : Nat) (v1 : Option Nat) (v2 : Int32) (v3 : Int32) (w : gW) => r v0 v1 v2 (v3 + (1 : Int32)) w) (fun (v2 : Int32) (v3 : Int32) (v4 : Int32) (w : gW) => k65 v2 v3 v4 w) F v0 v1 v2 v3 (0 : Int32) w)
def mX2_readFrom_l7 (F : Nat) (k93 : Nat → gW → Option (Int32 × gW)) (k65 : Int32 → Int32 → Int32 → gW → Option (Int32 × gW)) : Nat → Nat → (Option Nat) → Int32 → Int32 → gW → Option (Int32 × gW)
  | 0, _, _, _, _, _ => none
  | n + 1, v0, v1, v2, v3, w => mX2_readFrom_h7 F (mX2_readFrom_l7 F k93 k65 n) k93 k65 v0 v1 v2 v3 w
def mX2_readFrom_b65 (F : Nat) (v2 : Int32) (v3 : Int32) (v4 : Int32) (w : gW) : Option (Int32 × gW) :=
  some (((v2 * v3) + v4), w)
def mX2_readFrom (F : Nat) (v0 : Nat) (v1 : Option Nat) (v2 : Int32) (w : gW) : Option (Int32 × gW) :=
  (gP 2 7 (some v0) (.inl v2) w).bind fun w2 =>
  mX2_readFrom_l7 F (fun (v0 : Nat) (w : gW) => (gO 2 (some v0) w).bind fun a94 =>
    (mX2_firstUnlike F a94 w).bind fun q94 =>
    if q94.1 < 0 then
      ((gO 2 (some v0) q94.2).bind fun a109 =>
      (mX2_firstWithoutInverse F a109 q94.2).bind fun q109 =>
      if q109.1 < 0 then
        (some ((-1 : Int32), q109.2))
      else
        (some (((3000 : Int32) + q109.1), q109.2)))
    else
      (some (((1000 : Int32) + q94.1), q94.2))) (fun (v2 : Int32) (v3 : Int32) (v4 : Int32) (w : gW) => mX2_readFrom_b65 F v2 v3 v4 w) F v0 v1 v2 (0 : Int32) w2
def mX5_classRead_h36 (F : Nat) (r : Nat → (Option Nat) → Int32 → Int32 → gW → Option (Int32 × gW)) (k69 : Nat → Int32 → gW → Option (Int32 × gW)) (v0 : Nat) (v1 : Option Nat) (v3 : Int32) (v4 : Int32) (w : gW) : Option (Int32 × gW) :=
  if v4 < 0 then
    (k69 v0 v3 w)
  else
    ((gFI 0 3 v1 w).bind fun t43 =>
    (gFR 5 0 (some v0) w).bind fun t48 =>
    (gFR 5 2 (some v0) w).bind fun t52 =>
    (gO 1 t52 w).bind fun a57 =>
    (mX1_leadOf F a57 v4 w).bind fun q57 =>
    (gLI t48 q57.1 q57.2).bind fun t60 =>
    r v0 v1 ((v3 * t43) + t60) (v4 + (-1 : Int32)) q57.2)
def mX5_classRead_l36 (F : Nat) (k69 : Nat → Int32 → gW → Option (Int32 × gW)) : Nat → Nat → (Option Nat) → Int32 → Int32 → gW → Option (Int32 × gW)
  | 0, _, _, _, _, _ => none
  | n + 1, v0, v1, v3, v4, w => mX5_classRead_h36 F (mX5_classRead_l36 F k69 n) k69 v0 v1 v3 v4 w
def mX5_classRead (F : Nat) (v0 : Nat) (v1 : Option Nat) (v2 : Option Nat) (w : gW) : Option (Int32 × gW) :=
  (gO 5 (some v0) w).bind fun a3 =>
  (mX5_readPair F a3 v1 v2 w).bind fun q3 =>
  if q3.1 = 0 then
    (some ((-4 : Int32), q3.2))
  else
    ((gFR 5 1 (some v0) q3.2).bind fun t13 =>
    (gFR 5 0 (some v0) q3.2).bind fun t17 =>
    (gO 1 t13 q3.2).bind fun a20 =>
    (mX1_reduce F a20 t17 q3.2).bind fun q20 =>
    (gFR 5 2 (some v0) q20).bind fun t26 =>
    (gFI 1 5 t26 q20).bind fun t29 =>
    mX5_classRead_l36 F (fun (v0 : Nat) (v3 : Int32) (w : gW) => (gFR 5 2 (some v0) w).bind fun t70 =>
      (gFR 5 0 (some v0) w).bind fun t74 =>
      (gO 1 t70 w).bind fun a77 =>
      (mX1_reduce F a77 t74 w).bind fun q77 =>
      (gFR 5 2 (some v0) q77).bind fun t81 =>
      (gFR 5 0 (some v0) q77).bind fun t85 =>
      (gO 1 t81 q77).bind fun a88 =>
      (mX1_firstNotZero F a88 t85 q77).bind fun q88 =>
      if 0 ≤ q88.1 then
        (some ((-4 : Int32), q88.2))
      else
        (some (v3, q88.2))) F v0 v1 (0 : Int32) (t29 - (1 : Int32)) q20)
def mX5_vectorOf_h11 (F : Nat) (r : Nat → (Option Nat) → Int32 → Int32 → Int32 → Int32 → Int32 → gW → Option (Int32 × gW)) (v0 : Nat) (v1 : Option Nat) (v2 : Int32) (v3 : Int32) (v4 : Int32) (v5 : Int32) (v6 : Int32) (w : gW) : Option (Int32 × gW) :=
  if v6 < 0 then
    (some (v5, w))
  else
    ((gFI 0 3 v1 w).bind fun t19 =>
    (gO 5 (some v0) w).bind fun a31 =>
    (mX5_numberOf F a31 v1 v2 v3 v4 v6 w).bind fun q31 =>
    r v0 v1 v2 v3 v4 ((v5 * t19) + q31.1) (v6 + (-1 : Int32)) q31.2)
def mX5_vectorOf_l11 (F : Nat) : Nat → Nat → (Option Nat) → Int32 → Int32 → Int32 → Int32 → Int32 → gW → Option (Int32 × gW)
  | 0, _, _, _, _, _, _, _, _ => none
  | n + 1, v0, v1, v2, v3, v4, v5, v6, w => mX5_vectorOf_h11 F (mX5_vectorOf_l11 F n) v0 v1 v2 v3 v4 v5 v6 w
def mX5_vectorOf (F : Nat) (v0 : Nat) (v1 : Option Nat) (v2 : Int32) (v3 : Int32) (v4 : Int32) (w : gW) : Option (Int32 × gW) :=
  (gFI 0 4 v1 w).bind fun t4 =>
  mX5_vectorOf_l11 F F v0 v1 v2 v3 v4 (0 : Int32) (t4 - (1 : Int32)) w
def mX6_keep (F : Nat) (v0 : Nat) (v1 : Option Nat) (w : gW) : Option (Int32 × gW) :=
  (gO 2 v1 w).bind fun a1 =>
  (mX2_settle F a1 w).bind fun q1 =>
  (gFI 6 3 (some v0) q1).bind fun t6 =>
  (gP 6 3 (some v0) (.inl (t6 + (1 : Int32))) q1).bind fun w12 =>
  some (t6, w12)
def mX6_made (F : Nat) (v0 : Nat) (v1 : Int32) (v2 : Int32) (v3 : Int32) (w : gW) : Option (Int32 × gW) :=
  (gO 6 (some v0) w).bind fun a2 =>
  (mX6_groupAt F a2 v1 w).bind fun q2 =>
  if q2.1 = none then
    (some ((-1 : Int32), q2.2))
  else
    ((gO 2 q2.1 q2.2).bind fun a15 =>
    (mX2_has F a15 v2 q2.2).bind fun q15 =>
    if q15.1 = 0 then
      (some ((-1 : Int32), q15.2))
    else
      ((gO 2 q2.1 q15.2).bind fun a24 =>
      (mX2_has F a24 v3 q15.2).bind fun q24 =>
      if q24.1 = 0 then
        (some ((-1 : Int32), q24.2))
      else
        ((gO 2 q2.1 q24.2).bind fun a36 =>
        (mX2_countMade F a36 v2 v3 q24.2).bind fun q36 =>
        some (q36.1, q36.2))))
def mX7_about_b87 (F : Nat) (r : Nat → Int32 → Int32 → Int32 → Int32 → Int32 → gW → Option (Int32 × gW)) (k96 : Int32 → Int32 → Int32 → gW → Option (Int32 × gW)) (v0 : Nat) (v1 : Int32) (v2 : Int32) (v3 : Int32) (v5 : Int32) (s0 : Int32) (s1 : Int32) (w : gW) : Option (Int32 × gW) :=
  r v0 v1 v2 v3 (s0 + s1) (v5 + (1 : Int32)) w
def mX7_about_h63 (F : Nat) (r : Nat → Int32 → Int32 → Int32 → Int32 → Int32 → gW → Option (Int32 × gW)) (k96 : Int32 → Int32 → Int32 → gW → Option (Int32 × gW)) (v0 : Nat) (v1 : Int32) (v2 : Int32) (v3 : Int32) (v4 : Int32) (v5 : Int32) (w : gW) : Option (Int32 × gW) :=
  if v3 ≤ v5 then
    (k96 v2 v3 v4 w)
  else
    ((gO 7 (some v0) w).bind fun a75 =>
    (mX7_friends F a75 v1 v5 w).bind fun q75 =>
    if q75.1 = v3 then
      (mX7_about_b87 F r k96 v0 v1 v2 v3 v5 v4 (1 : Int32) q75.2)
    else
      (mX7_about_b87 F r k96 v0 v1 v2 v3 v5 v4 (0 : Int32) q75.2))
def mX7_about_l63 (F : Nat) (k96 : Int32 → Int32 → Int32 → gW → Option (Int32 × gW)) : Nat → Nat → Int32 → Int32 → Int32 → Int32 → Int32 → gW → Option (Int32 × gW)
  | 0, _, _, _, _, _, _, _ => none
  | n + 1, v0, v1, v2, v3, v4, v5, w => mX7_about_h63 F (mX7_about_l63 F k96 n) k96 v0 v1 v2 v3 v4 v5 w
def mX7_about_h148 (F : Nat) (r : Nat → Int32 → Int32 → Int32 → Int32 → Int32 → Int32 → gW → Option (Int32 × gW)) (k166 : Nat → Int32 → Int32 → Int32 → Int32 → gW → Option (Int32 × gW)) (v0 : Nat) (v1 : Int32) (v3 : Int32) (v4 : Int32) (v5 : Int32) (v6 : Int32) (v7 : Int32) (w : gW) : Option (Int32 × gW) :=
  (gRem v7 v6).bind fun t152 =>
  if t152 = 0 then
    (k166 v0 v1 v3 v5 v7 w)
  else
    (r v0 v1 v3 v4 v5 v6 (v7 + v4) w)
def mX7_about_l148 (F : Nat) (k166 : Nat → Int32 → Int32 → Int32 → Int32 → gW → Option (Int32 × gW)) : Nat → Nat → Int32 → Int32 → Int32 → Int32 → Int32 → Int32 → gW → Option (Int32 × gW)
  | 0, _, _, _, _, _, _, _, _ => none
  | n + 1, v0, v1, v3, v4, v5, v6, v7, w => mX7_about_h148 F (mX7_about_l148 F k166 n) k166 v0 v1 v3 v4 v5 v6 v7 w
def mX7_about_h129 (F : Nat) (r : Nat → Int32 → Int32 → Int32 → Int32 → gW → Option (Int32 × gW)) (v0 : Nat) (v1 : Int32) (v3 : Int32) (v4 : Int32) (v5 : Int32) (w : gW) : Option (Int32 × gW) :=
  if v3 ≤ v5 then
    (some (v4, w))
  else
    ((gO 7 (some v0) w).bind fun a139 =>
    (mX7_orderOf F a139 v1 v5 w).bind fun q139 =>
    mX7_about_l148 F (fun (v0 : Nat) (v1 : Int32) (v3 : Int32) (v5 : Int32) (v7 : Int32) (w : gW) => r v0 v1 v3 v7 (v5 + (1 : Int32)) w) F v0 v1 v3 v4 v5 q139.1 v4 q139.2)
def mX7_about_l129 (F : Nat) : Nat → Nat → Int32 → Int32 → Int32 → Int32 → gW → Option (Int32 × gW)
  | 0, _, _, _, _, _, _ => none
  | n + 1, v0, v1, v3, v4, v5, w => mX7_about_h129 F (mX7_about_l129 F n) v0 v1 v3 v4 v5 w
def mX7_about_b207 (F : Nat) (r : Nat → Int32 → Int32 → Int32 → Int32 → gW → Option (Int32 × gW)) (v0 : Nat) (v1 : Int32) (v3 : Int32) (v5 : Int32) (s0 : Int32) (s1 : Int32) (w : gW) : Option (Int32 × gW) :=
  r v0 v1 v3 (s0 + s1) (v5 + (1 : Int32)) w
def mX7_about_h182 (F : Nat) (r : Nat → Int32 → Int32 → Int32 → Int32 → gW → Option (Int32 × gW)) (v0 : Nat) (v1 : Int32) (v3 : Int32) (v4 : Int32) (v5 : Int32) (w : gW) : Option (Int32 × gW) :=
  if v3 ≤ v5 then
    (some (v4, w))
  else
    ((gO 7 (some v0) w).bind fun a194 =>
    (mX7_leastTurned F a194 v1 v5 w).bind fun q194 =>
    if q194.1 = v5 then
      (mX7_about_b207 F r v0 v1 v3 v5 v4 (1 : Int32) q194.2)
    else
      (mX7_about_b207 F r v0 v1 v3 v5 v4 (0 : Int32) q194.2))
def mX7_about_l182 (F : Nat) : Nat → Nat → Int32 → Int32 → Int32 → Int32 → gW → Option (Int32 × gW)
  | 0, _, _, _, _, _, _ => none
  | n + 1, v0, v1, v3, v4, v5, w => mX7_about_h182 F (mX7_about_l182 F n) v0 v1 v3 v4 v5 w
def mX7_about (F : Nat) (v0 : Nat) (v1 : Int32) (v2 : Int32) (w : gW) : Option (Int32 × gW) :=
  (gO 7 (some v0) w).bind fun a2 =>
  (mX7_isGroup F a2 v1 w).bind fun q2 =>
  if q2.1 = 0 then
    (some ((-1 : Int32), q2.2))
  else
    ((gFR 7 1 (some v0) q2.2).bind fun t11 =>
    (gLI t11 v1 q2.2).bind fun t15 =>
    if v2 = (0 : Int32) then (mX7_about_l63 F (fun (v2 : Int32) (v3 : Int32) (v4 : Int32) (w : gW) => if v2 = 0 then
          (some (v4, w))
        else
          (if v4 = v3 then
            (some ((1 : Int32), w))
          else
            (some ((0 : Int32), w)))) F v0 v1 v2 t15 (0 : Int32) (0 : Int32) q2.2) else if v2 = (1 : Int32) then ((gO 7 (some v0) q2.2).bind fun a119 =>
      (mX7_turnsMade F a119 v1 q2.2).bind fun q119 =>
      some (q119.1, q119.2)) else if v2 = (2 : Int32) then (mX7_about_l129 F F v0 v1 t15 (1 : Int32) (0 : Int32) q2.2) else if v2 = (3 : Int32) then (mX7_about_l182 F F v0 v1 t15 (0 : Int32) (0 : Int32) q2.2) else if v2 = (4 : Int32) then (mX7_about_l63 F (fun (v2 : Int32) (v3 : Int32) (v4 : Int32) (w : gW) => if v2 = 0 then
          (some (v4, w))
        else
          (if v4 = v3 then
            (some ((1 : Int32), w))
          else
            (some ((0 : Int32), w)))) F v0 v1 v2 t15 (0 : Int32) (0 : Int32) q2.2) else if v2 = (5 : Int32) then ((gO 7 (some v0) q2.2).bind fun a221 =>
      (mX7_leastMakers F a221 v1 q2.2).bind fun q221 =>
      some (q221.1, q221.2)) else (some ((-1 : Int32), q2.2)))
def mX7_acts_b50 (F : Nat) (v0 : Nat) (v1 : Int32) (v2 : Int32) (v3 : Int32) (v4 : Int32) (v5 : Int32) (v6 : Int32) (v7 : Int32) (s0 : Int32) (w : gW) : Option (Int32 × gW) :=
  (mX7_in F ((v3).toInt64) (0 : Int64) ((v7).toInt64) w).bind fun q58 =>
  if q58.1 = 0 then
    (some ((-1 : Int32), q58.2))
  else
    ((mX7_in F ((v4).toInt64) (0 : Int64) ((s0).toInt64) q58.2).bind fun q71 =>
    if q71.1 = 0 then
      (some ((-1 : Int32), q71.2))
    else
      ((mX7_in F ((v5).toInt64) (0 : Int64) ((s0).toInt64) q71.2).bind fun q84 =>
      if q84.1 = 0 then
        (some ((-1 : Int32), q84.2))
      else
        ((mX7_in F ((v6).toInt64) (0 : Int64) ((s0).toInt64) q84.2).bind fun q97 =>
        if q97.1 = 0 then
          (some ((-1 : Int32), q97.2))
        else
          ((gFR 7 11 (some v0) q97.2).bind fun t116 =>
          (gSI t116 (((32 : Int32) * v1) + ((4 : Int32) * v2)) v3 q97.2).bind fun w122 =>
          (gFR 7 11 (some v0) w122).bind fun t124 =>
          (gSI t124 ((((32 : Int32) * v1) + ((4 : Int32) * v2)) + (1 : Int32)) v4 w122).bind fun w133 =>
          (gFR 7 11 (some v0) w133).bind fun t135 =>
          (gSI t135 ((((32 : Int32) * v1) + ((4 : Int32) * v2)) + (2 : Int32)) v5 w133).bind fun w144 =>
          (gFR 7 11 (some v0) w144).bind fun t146 =>
          (gSI t146 ((((32 : Int32) * v1) + ((4 : Int32) * v2)) + (3 : Int32)) v6 w144).bind fun w155 =>
          (gP 7 29 (some v0) (.inl (-4 : Int32)) w155).bind fun w159 =>
          some ((1 : Int32), w159)))))
def mX7_acts (F : Nat) (v0 : Nat) (v1 : Int32) (v2 : Int32) (v3 : Int32) (v4 : Int32) (v5 : Int32) (v6 : Int32) (w : gW) : Option (Int32 × gW) :=
  (gO 7 (some v0) w).bind fun a2 =>
  (mX7_isModule F a2 v1 w).bind fun q2 =>
  if q2.1 = 0 then
    (some ((-1 : Int32), q2.2))
  else
    ((gFR 7 8 (some v0) q2.2).bind fun t10 =>
    (gLI t10 v1 q2.2).bind fun t14 =>
    (gO 7 (some v0) q2.2).bind fun a16 =>
    (mX7_isElement F a16 t14 v2 q2.2).bind fun q16 =>
    if q16.1 = 0 then
      (some ((-1 : Int32), q16.2))
    else
      ((gFR 7 9 (some v0) q16.2).bind fun t25 =>
      (gLI t25 v1 q16.2).bind fun t29 =>
      (gFR 7 10 (some v0) q16.2).bind fun t35 =>
      (gLI t35 v1 q16.2).bind fun t39 =>
      if t39 = (1 : Int32) then
        (mX7_acts_b50 F v0 v1 v2 v3 v4 v5 v6 (t29 - (1 : Int32)) (0 : Int32) q16.2)
      else
        (mX7_acts_b50 F v0 v1 v2 v3 v4 v5 v6 (t29 - (1 : Int32)) (t29 - (1 : Int32)) q16.2)))
def mX7_element (F : Nat) (v0 : Nat) (v1 : Int32) (v2 : Int32) (v3 : Int32) (w : gW) : Option (Int32 × gW) :=
  (gO 7 (some v0) w).bind fun a3 =>
  (mX7_isElement F a3 v1 v2 w).bind fun q3 =>
  if q3.1 = 0 then
    (some ((-1 : Int32), q3.2))
  else
    (if v3 = (0 : Int32) then ((gO 7 (some v0) q3.2).bind fun a47 =>
      (mX7_inverse F a47 v1 v2 q3.2).bind fun q47 =>
      some (q47.1, q47.2)) else if v3 = (1 : Int32) then ((gO 7 (some v0) q3.2).bind fun a54 =>
      (mX7_orderOf F a54 v1 v2 q3.2).bind fun q54 =>
      some (q54.1, q54.2)) else if v3 = (2 : Int32) then ((gO 7 (some v0) q3.2).bind fun a61 =>
      (mX7_friends F a61 v1 v2 q3.2).bind fun q61 =>
      some (q61.1, q61.2)) else if v3 = (3 : Int32) then ((gO 7 (some v0) q3.2).bind fun a68 =>
      (mX7_leastTurned F a68 v1 v2 q3.2).bind fun q68 =>
      some (q68.1, q68.2)) else (some ((-1 : Int32), q3.2)))
def mX7_know_h76 (F : Nat) (r : Nat → Int32 → Int32 → gW → Option (gW)) (k107 : Nat → Int32 → gW → Option (gW)) (v0 : Nat) (v2 : Int32) (v3 : Int32) (w : gW) : Option (gW) :=
  (gFI 7 24 (some v0) w).bind fun t78 =>
  if t78 ≤ v3 then
    (k107 v0 v2 w)
  else
    ((gFR 7 25 (some v0) w).bind fun t85 =>
    (gFR 7 34 (some v0) w).bind fun t90 =>
    (gLI t90 (((98 : Int32) * v2) + v3) w).bind fun t99 =>
    (gSI t85 v3 t99 w).bind fun w100 =>
    r v0 v2 (v3 + (1 : Int32)) w100)
def mX7_know_l76 (F : Nat) (k107 : Nat → Int32 → gW → Option (gW)) : Nat → Nat → Int32 → Int32 → gW → Option (gW)
  | 0, _, _, _, _ => none
  | n + 1, v0, v2, v3, w => mX7_know_h76 F (mX7_know_l76 F k107 n) k107 v0 v2 v3 w
def mX7_know_h64 (F : Nat) (r : Nat → Int32 → gW → Option (gW)) (k121 : Nat → gW → Option (gW)) (v0 : Nat) (v2 : Int32) (w : gW) : Option (gW) :=
  (gFR 7 30 (some v0) w).bind fun t66 =>
  (gLI t66 (3 : Int32) w).bind fun t70 =>
  if t70 ≤ v2 then
    (k121 v0 w)
  else
    (mX7_know_l76 F (fun (v0 : Nat) (v2 : Int32) (w : gW) => (gO 7 (some v0) w).bind fun a108 =>
      (mX7_lessBound F a108 w).bind fun q108 =>
      (gO 7 (some v0) q108).bind fun a112 =>
      (mX7_settles F a112 q108).bind fun q112 =>
      r v0 (v2 + (1 : Int32)) q112) F v0 v2 (0 : Int32) w)
def mX7_know_l64 (F : Nat) (k121 : Nat → gW → Option (gW)) : Nat → Nat → Int32 → gW → Option (gW)
  | 0, _, _, _ => none
  | n + 1, v0, v2, w => mX7_know_h64 F (mX7_know_l64 F k121 n) k121 v0 v2 w
def mX7_know_h131 (F : Nat) (r : Nat → Int32 → gW → Option (gW)) (v0 : Nat) (v2 : Int32) (w : gW) : Option (gW) :=
  (gFI 7 28 (some v0) w).bind fun t135 =>
  if ((98 : Int32) * t135) ≤ v2 then
    (some w)
  else
    ((gFR 7 33 (some v0) w).bind fun t143 =>
    (gFR 7 26 (some v0) w).bind fun t148 =>
    (gLI t148 v2 w).bind fun t152 =>
    (gSI t143 v2 t152 w).bind fun w153 =>
    r v0 (v2 + (1 : Int32)) w153)
def mX7_know_l131 (F : Nat) : Nat → Nat → Int32 → gW → Option (gW)
  | 0, _, _, _ => none
  | n + 1, v0, v2, w => mX7_know_h131 F (mX7_know_l131 F n) v0 v2 w
def mX7_know (F : Nat) (v0 : Nat) (v1 : Int32) (w : gW) : Option (gW) :=
  (gO 7 (some v0) w).bind fun a2 =>
  (mX7_start F a2 v1 w).bind fun q2 =>
  (gFI 7 29 (some v0) q2).bind fun t6 =>
  if t6 = v1 then
    ((gFI 7 36 (some v0) q2).bind fun t15 =>
    (gFI 7 36 (some v0) q2).bind fun t21 =>
    (gFI 7 37 (some v0) q2).bind fun t28 =>
    (gP 7 24 (some v0) (.inl (((t15 - (1 : Int32)) * (t21 - (1 : Int32))) * t28)) q2).bind fun w32 =>
    some w32)
  else
    ((gP 7 29 (some v0) (.inl v1) q2).bind fun w38 =>
    (gO 7 (some v0) w38).bind fun a42 =>
    (mX7_dimensionNone F a42 w38).bind fun q42 =>
    (gO 7 (some v0) q42).bind fun a46 =>
    (mX7_dimensionOne F a46 q42).bind fun q46 =>
    (gO 7 (some v0) q46).bind fun a50 =>
    (mX7_pairs F a50 q46).bind fun q50 =>
    (gO 7 (some v0) q50).bind fun a54 =>
    (mX7_bounds F a54 q50).bind fun q54 =>
    (gP 7 28 (some v0) (.inl (0 : Int32)) q54).bind fun w59 =>
    mX7_know_l64 F (fun (v0 : Nat) (w : gW) => (gFI 7 28 (some v0) w).bind fun t123 =>
      (gP 7 35 (some v0) (.inl t123) w).bind fun w126 =>
      mX7_know_l131 F F v0 (0 : Int32) w126) F v0 (0 : Int32) w59)
def mX7_made (F : Nat) (v0 : Nat) (v1 : Int32) (v2 : Int32) (v3 : Int32) (w : gW) : Option (Int32 × gW) :=
  (gO 7 (some v0) w).bind fun a3 =>
  (mX7_isElement F a3 v1 v2 w).bind fun q3 =>
  if q3.1 = 0 then
    (some ((-1 : Int32), q3.2))
  else
    ((gO 7 (some v0) q3.2).bind fun a12 =>
    (mX7_isElement F a12 v1 v3 q3.2).bind fun q12 =>
    if q12.1 = 0 then
      (some ((-1 : Int32), q12.2))
    else
      ((gFR 7 12 (some v0) q12.2).bind fun t21 =>
      (gSI t21 (0 : Int32) v2 q12.2).bind fun w26 =>
      (gFR 7 12 (some v0) w26).bind fun t28 =>
      (gSI t28 (1 : Int32) v3 w26).bind fun w33 =>
      (gO 7 (some v0) w33).bind fun a37 =>
      (mX7_makes F a37 v1 (2 : Int32) w33).bind fun q37 =>
      (gFI 7 14 (some v0) q37).bind fun t41 =>
      some (t41, q37)))
def mX7_product_b28 (F : Nat)  (w : gW) : Option (Int32 × gW) :=
  some ((-1 : Int32), w)
def mX7_product (F : Nat) (v0 : Nat) (v1 : Int32) (v2 : Int32) (v3 : Int32) (w : gW) : Option (Int32 × gW) :=
  (gO 7 (some v0) w).bind fun a3 =>
  (mX7_isElement F a3 v1 v2 w).bind fun q3 =>
  if q3.1 = 0 then
    (mX7_product_b28 F q3.2)
  else
    ((gO 7 (some v0) q3.2).bind fun a12 =>
    (mX7_isElement F a12 v1 v3 q3.2).bind fun q12 =>
    if q12.1 = 0 then
      (mX7_product_b28 F q12.2)
    else
      ((gO 7 (some v0) q12.2).bind fun a22 =>
      (mX7_prod F a22 v1 v2 v3 q12.2).bind fun q22 =>
      some (q22.1, q22.2)))
def mX7_same_h50 (F : Nat) (r : Nat → Int32 → Int32 → Int32 → Int32 → gW → Option (Int32 × gW)) (k86 : Nat → Int32 → Int32 → Int32 → gW → Option (Int32 × gW)) (v0 : Nat) (v1 : Int32) (v2 : Int32) (v3 : Int32) (v4 : Int32) (w : gW) : Option (Int32 × gW) :=
  (gFR 7 1 (some v0) w).bind fun t53 =>
  (gLI t53 v1 w).bind fun t57 =>
  if t57 < v4 then
    (k86 v0 v1 v2 v3 w)
  else
    ((gO 7 (some v0) w).bind fun a65 =>
    (mX7_ofOrder F a65 v1 v4 w).bind fun q65 =>
    (gO 7 (some v0) q65.2).bind fun a72 =>
    (mX7_ofOrder F a72 v2 v4 q65.2).bind fun q72 =>
    if q65.1 = q72.1 then
      (r v0 v1 v2 v3 (v4 + (1 : Int32)) q72.2)
    else
      (some ((0 : Int32), q72.2)))
def mX7_same_l50 (F : Nat) (k86 : Nat → Int32 → Int32 → Int32 → gW → Option (Int32 × gW)) : Nat → Nat → Int32 → Int32 → Int32 → Int32 → gW → Option (Int32 × gW)
  | 0, _, _, _, _, _, _ => none
  | n + 1, v0, v1, v2, v3, v4, w => mX7_same_h50 F (mX7_same_l50 F k86 n) k86 v0 v1 v2 v3 v4 w
def mX7_same_h103 (F : Nat) (r : Nat → Int32 → Int32 → Int32 → Int32 → Int32 → gW → Option (Int32 × gW)) (k132 : Nat → Int32 → Int32 → Int32 → Int32 → gW → Option (Int32 × gW)) (v0 : Nat) (v1 : Int32) (v2 : Int32) (v3 : Int32) (v4 : Int32) (v5 : Int32) (w : gW) : Option (Int32 × gW) :=
  if v4 ≤ v5 then
    (k132 v0 v1 v2 v3 v4 w)
  else
    ((gFR 7 21 (some v0) w).bind fun t111 =>
    (gO 7 (some v0) w).bind fun a122 =>
    (mX7_nextLike F a122 v1 v2 v5 (0 : Int32) w).bind fun q122 =>
    (gSI t111 v5 q122.1 q122.2).bind fun w125 =>
    r v0 v1 v2 v3 v4 (v5 + (1 : Int32)) w125)
def mX7_same_l103 (F : Nat) (k132 : Nat → Int32 → Int32 → Int32 → Int32 → gW → Option (Int32 × gW)) : Nat → Nat → Int32 → Int32 → Int32 → Int32 → Int32 → gW → Option (Int32 × gW)
  | 0, _, _, _, _, _, _, _ => none
  | n + 1, v0, v1, v2, v3, v4, v5, w => mX7_same_h103 F (mX7_same_l103 F k132 n) k132 v0 v1 v2 v3 v4 v5 w
def mX7_same_b232 (F : Nat) (r : Nat → Int32 → Int32 → Int32 → Int32 → Int32 → Int32 → Int32 → gW → Option (Int32 × gW)) (k261 : Nat → Int32 → Int32 → Int32 → Int32 → Int32 → Int32 → gW → Option (Int32 × gW)) (v0 : Nat) (v1 : Int32) (v2 : Int32) (v3 : Int32) (v4 : Int32) (v5 : Int32) (v7 : Int32) (s0 : Int32) (w : gW) : Option (Int32 × gW) :=
  if s0 = 0 then
    (r v0 v1 v2 v3 v4 v5 v7 s0 w)
  else
    ((gFR 7 21 (some v0) w).bind fun t240 =>
    (gO 7 (some v0) w).bind fun a251 =>
    (mX7_nextLike F a251 v1 v2 v7 (0 : Int32) w).bind fun q251 =>
    (gSI t240 v7 q251.1 q251.2).bind fun w254 =>
    r v0 v1 v2 v3 v4 v5 (v7 + (-1 : Int32)) s0 w254)
def mX7_same_h177 (F : Nat) (r : Nat → Int32 → Int32 → Int32 → Int32 → Int32 → Int32 → Int32 → gW → Option (Int32 × gW)) (k261 : Nat → Int32 → Int32 → Int32 → Int32 → Int32 → Int32 → gW → Option (Int32 × gW)) (v0 : Nat) (v1 : Int32) (v2 : Int32) (v3 : Int32) (v4 : Int32) (v5 : Int32) (v7 : Int32) (v8 : Int32) (w : gW) : Option (Int32 × gW) :=
  if v7 < 0 then
    (k261 v0 v1 v2 v3 v4 v5 v8 w)
  else
    (if v8 = 0 then
      (k261 v0 v1 v2 v3 v4 v5 v8 w)
    else
      ((gFR 7 21 (some v0) w).bind fun t188 =>
      (gFR 7 21 (some v0) w).bind fun t199 =>
      (gLI t199 v7 w).bind fun t204 =>
      (gO 7 (some v0) w).bind fun a207 =>
      (mX7_nextLike F a207 v1 v2 v7 (t204 + (1 : Int32)) w).bind fun q207 =>
      (gSI t188 v7 q207.1 q207.2).bind fun w210 =>
      (gFR 7 21 (some v0) w210).bind fun t212 =>
      (gLI t212 v7 w210).bind fun t217 =>
      (gFR 7 1 (some v0) w210).bind fun t219 =>
      (gLI t219 v2 w210).bind fun t223 =>
      if t217 = t223 then
        (mX7_same_b232 F r k261 v0 v1 v2 v3 v4 v5 v7 (1 : Int32) w210)
      else
        (mX7_same_b232 F r k261 v0 v1 v2 v3 v4 v5 v7 (0 : Int32) w210)))
def mX7_same_l177 (F : Nat) (k261 : Nat → Int32 → Int32 → Int32 → Int32 → Int32 → Int32 → gW → Option (Int32 × gW)) : Nat → Nat → Int32 → Int32 → Int32 → Int32 → Int32 → Int32 → Int32 → gW → Option (Int32 × gW)
  | 0, _, _, _, _, _, _, _, _, _ => none
  | n + 1, v0, v1, v2, v3, v4, v5, v7, v8, w => mX7_same_h177 F (mX7_same_l177 F k261 n) k261 v0 v1 v2 v3 v4 v5 v7 v8 w
def mX7_same_b271 (F : Nat) (r : Nat → Int32 → Int32 → Int32 → Int32 → Int32 → Int32 → gW → Option (Int32 × gW)) (v0 : Nat) (v1 : Int32) (v2 : Int32) (v3 : Int32) (v4 : Int32) (v5 : Int32) (s0 : Int32) (w : gW) : Option (Int32 × gW) :=
  r v0 v1 v2 v3 v4 v5 s0 w
def mX7_same_b261 (F : Nat) (r : Nat → Int32 → Int32 → Int32 → Int32 → Int32 → Int32 → gW → Option (Int32 × gW)) (v0 : Nat) (v1 : Int32) (v2 : Int32) (v3 : Int32) (v4 : Int32) (v5 : Int32) (v8 : Int32) (w : gW) : Option (Int32 × gW) :=
  if v8 = 0 then
    (mX7_same_b271 F r v0 v1 v2 v3 v4 v5 (1 : Int32) w)
  else
    (mX7_same_b271 F r v0 v1 v2 v3 v4 v5 (0 : Int32) w)
def mX7_same_h138 (F : Nat) (r : Nat → Int32 → Int32 → Int32 → Int32 → Int32 → Int32 → gW → Option (Int32 × gW)) (v0 : Nat) (v1 : Int32) (v2 : Int32) (v3 : Int32) (v4 : Int32) (v5 : Int32) (v6 : Int32) (w : gW) : Option (Int32 × gW) :=
  if v6 = 0 then
    (some ((0 : Int32), w))
  else
    (if v5 = v3 then
      (some ((-5 : Int32), w))
    else
      ((gO 7 (some v0) w).bind fun a160 =>
      (mX7_goes F a160 v1 v2 v4 w).bind fun q160 =>
      if q160.1 = 0 then
        (mX7_same_l177 F (fun (v0 : Nat) (v1 : Int32) (v2 : Int32) (v3 : Int32) (v4 : Int32) (v5 : Int32) (v8 : Int32) (w : gW) => mX7_same_b261 F r v0 v1 v2 v3 v4 v5 v8 w) F v0 v1 v2 v3 v4 (v5 + (1 : Int32)) (v4 - (1 : Int32)) (1 : Int32) q160.2)
      else
        (some ((1 : Int32), q160.2))))
def mX7_same_l138 (F : Nat) : Nat → Nat → Int32 → Int32 → Int32 → Int32 → Int32 → Int32 → gW → Option (Int32 × gW)
  | 0, _, _, _, _, _, _, _, _ => none
  | n + 1, v0, v1, v2, v3, v4, v5, v6, w => mX7_same_h138 F (mX7_same_l138 F n) v0 v1 v2 v3 v4 v5 v6 w
def mX7_same (F : Nat) (v0 : Nat) (v1 : Int32) (v2 : Int32) (v3 : Int32) (w : gW) : Option (Int32 × gW) :=
  (gO 7 (some v0) w).bind fun a2 =>
  (mX7_isGroup F a2 v1 w).bind fun q2 =>
  if q2.1 = 0 then
    (some ((-1 : Int32), q2.2))
  else
    ((gO 7 (some v0) q2.2).bind fun a10 =>
    (mX7_isGroup F a10 v2 q2.2).bind fun q10 =>
    if q10.1 = 0 then
      (some ((-1 : Int32), q10.2))
    else
      ((mX7_in F ((v3).toInt64) (0 : Int64) (20000 : Int64) q10.2).bind fun q22 =>
      if q22.1 = 0 then
        (some ((-1 : Int32), q22.2))
      else
        ((gFR 7 1 (some v0) q22.2).bind fun t31 =>
        (gLI t31 v1 q22.2).bind fun t35 =>
        (gFR 7 1 (some v0) q22.2).bind fun t37 =>
        (gLI t37 v2 q22.2).bind fun t41 =>
        if t35 = t41 then
          (mX7_same_l50 F (fun (v0 : Nat) (v1 : Int32) (v2 : Int32) (v3 : Int32) (w : gW) => (gO 7 (some v0) w).bind fun a88 =>
            (mX7_leastMakers F a88 v1 w).bind fun q88 =>
            (gO 7 (some v0) q88.2).bind fun a97 =>
            (mX7_leastRow F a97 v1 q88.1 q88.2).bind fun q97 =>
            mX7_same_l103 F (fun (v0 : Nat) (v1 : Int32) (v2 : Int32) (v3 : Int32) (v4 : Int32) (w : gW) => mX7_same_l138 F F v0 v1 v2 v3 v4 (0 : Int32) (1 : Int32) w) F v0 v1 v2 v3 q88.1 (0 : Int32) q97) F v0 v1 v2 v3 (1 : Int32) q22.2)
        else
          (some ((0 : Int32), q22.2)))))
def mX2_fillOver_h90 (F : Nat) (r : Nat → (Option Nat) → Int32 → (Option Nat) → Int32 → Int32 → Int32 → Int32 → Int32 → Int32 → Int32 → gW → Option (gW)) (k143 : Nat → (Option Nat) → Int32 → (Option Nat) → Int32 → Int32 → Int32 → Int32 → Int32 → gW → Option (gW)) (v0 : Nat) (v1 : Option Nat) (v2 : Int32) (v3 : Option Nat) (v4 : Int32) (v5 : Int32) (v6 : Int32) (v7 : Int32) (v8 : Int32) (v9 : Int32) (v10 : Int32) (w : gW) : Option (gW) :=
  if v4 ≤ v10 then
    (k143 v0 v1 v2 v3 v4 v5 v6 v7 v8 w)
  else
    ((gO 2 v3 w).bind fun a121 =>
    (mX2_mul F a121 v5 v6 w).bind fun q121 =>
    (gO 0 v1 q121.2).bind fun a130 =>
    (mX0_plus F a130 v10 v9 q121.2).bind fun q130 =>
    (gO 2 (some v0) q130.2).bind fun a134 =>
    (mX2_set F a134 ((v4 * v5) + v10) ((v4 * v6) + v8) ((v4 * q121.1) + q130.1) q130.2).bind fun q134 =>
    r v0 v1 v2 v3 v4 v5 v6 v7 v8 v9 (v10 + (1 : Int32)) q134)
def mX2_fillOver_l90 (F : Nat) (k143 : Nat → (Option Nat) → Int32 → (Option Nat) → Int32 → Int32 → Int32 → Int32 → Int32 → gW → Option (gW)) : Nat → Nat → (Option Nat) → Int32 → (Option Nat) → Int32 → Int32 → Int32 → Int32 → Int32 → Int32 → Int32 → gW → Option (gW)
  | 0, _, _, _, _, _, _, _, _, _, _, _, _ => none
  | n + 1, v0, v1, v2, v3, v4, v5, v6, v7, v8, v9, v10, w => mX2_fillOver_h90 F (mX2_fillOver_l90 F k143 n) k143 v0 v1 v2 v3 v4 v5 v6 v7 v8 v9 v10 w
def mX2_fillOver_h64 (F : Nat) (r : Nat → (Option Nat) → Int32 → (Option Nat) → Int32 → Int32 → Int32 → Int32 → Int32 → gW → Option (gW)) (k149 : Nat → (Option Nat) → Int32 → (Option Nat) → Int32 → Int32 → Int32 → gW → Option (gW)) (v0 : Nat) (v1 : Option Nat) (v2 : Int32) (v3 : Option Nat) (v4 : Int32) (v5 : Int32) (v6 : Int32) (v7 : Int32) (v8 : Int32) (w : gW) : Option (gW) :=
  if v4 ≤ v8 then
    (k149 v0 v1 v2 v3 v4 v5 v6 w)
  else
    ((gO 0 v1 w).bind fun a77 =>
    (mX0_move F a77 v5 v8 w).bind fun q77 =>
    (gO 0 v1 q77.2).bind fun a82 =>
    (mX0_plus F a82 q77.1 v7 q77.2).bind fun q82 =>
    mX2_fillOver_l90 F (fun (v0 : Nat) (v1 : Option Nat) (v2 : Int32) (v3 : Option Nat) (v4 : Int32) (v5 : Int32) (v6 : Int32) (v7 : Int32) (v8 : Int32) (w : gW) => r v0 v1 v2 v3 v4 v5 v6 v7 (v8 + (1 : Int32)) w) F v0 v1 v2 v3 v4 v5 v6 v7 v8 q82.1 (0 : Int32) q82.2)
def mX2_fillOver_l64 (F : Nat) (k149 : Nat → (Option Nat) → Int32 → (Option Nat) → Int32 → Int32 → Int32 → gW → Option (gW)) : Nat → Nat → (Option Nat) → Int32 → (Option Nat) → Int32 → Int32 → Int32 → Int32 → Int32 → gW → Option (gW)
  | 0, _, _, _, _, _, _, _, _, _, _ => none
  | n + 1, v0, v1, v2, v3, v4, v5, v6, v7, v8, w => mX2_fillOver_h64 F (mX2_fillOver_l64 F k149 n) k149 v0 v1 v2 v3 v4 v5 v6 v7 v8 w
def mX2_fillOver_h37 (F : Nat) (r : Nat → (Option Nat) → Int32 → (Option Nat) → Int32 → Int32 → Int32 → gW → Option (gW)) (k155 : Nat → (Option Nat) → Int32 → (Option Nat) → Int32 → Int32 → gW → Option (gW)) (v0 : Nat) (v1 : Option Nat) (v2 : Int32) (v3 : Option Nat) (v4 : Int32) (v5 : Int32) (v6 : Int32) (w : gW) : Option (gW) :=
  (gFI 2 7 v3 w).bind fun t40 =>
  if t40 ≤ v6 then
    (k155 v0 v1 v2 v3 v4 v5 w)
  else
    ((gFR 0 1 v1 w).bind fun t47 =>
    (gO 5 t47 w).bind fun a56 =>
    (mX5_vectorOf F a56 v1 v2 v5 v6 w).bind fun q56 =>
    mX2_fillOver_l64 F (fun (v0 : Nat) (v1 : Option Nat) (v2 : Int32) (v3 : Option Nat) (v4 : Int32) (v5 : Int32) (v6 : Int32) (w : gW) => r v0 v1 v2 v3 v4 v5 (v6 + (1 : Int32)) w) F v0 v1 v2 v3 v4 v5 v6 q56.1 (0 : Int32) q56.2)
def mX2_fillOver_l37 (F : Nat) (k155 : Nat → (Option Nat) → Int32 → (Option Nat) → Int32 → Int32 → gW → Option (gW)) : Nat → Nat → (Option Nat) → Int32 → (Option Nat) → Int32 → Int32 → Int32 → gW → Option (gW)
  | 0, _, _, _, _, _, _, _, _ => none
  | n + 1, v0, v1, v2, v3, v4, v5, v6, w => mX2_fillOver_h37 F (mX2_fillOver_l37 F k155 n) k155 v0 v1 v2 v3 v4 v5 v6 w
def mX2_fillOver_h25 (F : Nat) (r : Nat → (Option Nat) → Int32 → (Option Nat) → Int32 → Int32 → gW → Option (gW)) (v0 : Nat) (v1 : Option Nat) (v2 : Int32) (v3 : Option Nat) (v4 : Int32) (v5 : Int32) (w : gW) : Option (gW) :=
  (gFI 2 7 v3 w).bind fun t28 =>
  if t28 ≤ v5 then
    (some w)
  else
    (mX2_fillOver_l37 F (fun (v0 : Nat) (v1 : Option Nat) (v2 : Int32) (v3 : Option Nat) (v4 : Int32) (v5 : Int32) (w : gW) => r v0 v1 v2 v3 v4 (v5 + (1 : Int32)) w) F v0 v1 v2 v3 v4 v5 (0 : Int32) w)
def mX2_fillOver_l25 (F : Nat) : Nat → Nat → (Option Nat) → Int32 → (Option Nat) → Int32 → Int32 → gW → Option (gW)
  | 0, _, _, _, _, _, _, _ => none
  | n + 1, v0, v1, v2, v3, v4, v5, w => mX2_fillOver_h25 F (mX2_fillOver_l25 F n) v0 v1 v2 v3 v4 v5 w
def mX2_fillOver (F : Nat) (v0 : Nat) (v1 : Option Nat) (v2 : Int32) (w : gW) : Option (gW) :=
  (gFR 0 2 v1 w).bind fun t1 =>
  (gFI 0 5 v1 w).bind fun t6 =>
  (gFI 2 7 t1 w).bind fun t15 =>
  (gP 2 7 (some v0) (.inl (t6 * t15)) w).bind fun w19 =>
  mX2_fillOver_l25 F F v0 v1 v2 t1 t6 (0 : Int32) w19
def mX5_findBounds_h48 (F : Nat) (r : Nat → (Option Nat) → Int32 → Int32 → gW → Option (gW)) (k80 : Nat → (Option Nat) → Int32 → gW → Option (gW)) (v0 : Nat) (v1 : Option Nat) (v2 : Int32) (v3 : Int32) (w : gW) : Option (gW) :=
  (gFI 0 4 v1 w).bind fun t50 =>
  if t50 ≤ v3 then
    (k80 v0 v1 v2 w)
  else
    ((gO 5 (some v0) w).bind fun a60 =>
    (mX5_writeBound F a60 v1 v2 v3 w).bind fun q60 =>
    (gFR 5 1 (some v0) q60).bind fun t64 =>
    (gFR 5 0 (some v0) q60).bind fun t68 =>
    (gO 1 t64 q60).bind fun a71 =>
    (mX1_add F a71 t68 q60).bind fun q71 =>
    r v0 v1 v2 (v3 + (1 : Int32)) q71)
def mX5_findBounds_l48 (F : Nat) (k80 : Nat → (Option Nat) → Int32 → gW → Option (gW)) : Nat → Nat → (Option Nat) → Int32 → Int32 → gW → Option (gW)
  | 0, _, _, _, _, _ => none
  | n + 1, v0, v1, v2, v3, w => mX5_findBounds_h48 F (mX5_findBounds_l48 F k80 n) k80 v0 v1 v2 v3 w
def mX5_findBounds_h35 (F : Nat) (r : Nat → (Option Nat) → Int32 → gW → Option (gW)) (v0 : Nat) (v1 : Option Nat) (v2 : Int32) (w : gW) : Option (gW) :=
  (gFR 0 2 v1 w).bind fun t37 =>
  (gFI 2 7 t37 w).bind fun t40 =>
  if t40 ≤ v2 then
    (some w)
  else
    (mX5_findBounds_l48 F (fun (v0 : Nat) (v1 : Option Nat) (v2 : Int32) (w : gW) => r v0 v1 (v2 + (1 : Int32)) w) F v0 v1 v2 (0 : Int32) w)
def mX5_findBounds_l35 (F : Nat) : Nat → Nat → (Option Nat) → Int32 → gW → Option (gW)
  | 0, _, _, _, _ => none
  | n + 1, v0, v1, v2, w => mX5_findBounds_h35 F (mX5_findBounds_l35 F n) v0 v1 v2 w
def mX5_findBounds (F : Nat) (v0 : Nat) (v1 : Option Nat) (w : gW) : Option (gW) :=
  (gFR 0 2 v1 w).bind fun t2 =>
  (gFI 2 7 t2 w).bind fun t5 =>
  (gFI 0 4 v1 w).bind fun t11 =>
  (gP 5 5 (some v0) (.inl ((t5 - (1 : Int32)) * t11)) w).bind fun w15 =>
  (gFR 5 1 (some v0) w15).bind fun t19 =>
  (gO 0 v1 w15).bind fun a23 =>
  (mX0_places F a23 w15).bind fun q23 =>
  (gFI 0 3 v1 q23.2).bind fun t27 =>
  (gO 1 t19 q23.2).bind fun a30 =>
  (mX1_begin F a30 q23.1 t27 q23.2).bind fun q30 =>
  mX5_findBounds_l35 F F v0 v1 (1 : Int32) q30
def mX5_findStandards_b62 (F : Nat) (r : Nat → (Option Nat) → (Option Nat) → Int32 → Int32 → gW → Option (gW)) (k68 : Nat → (Option Nat) → gW → Option (gW)) (v0 : Nat) (v1 : Option Nat) (v2 : Option Nat) (v3 : Int32) (v4 : Int32) (w : gW) : Option (gW) :=
  r v0 v1 v2 v3 (v4 + (1 : Int32)) w
def mX5_findStandards_h20 (F : Nat) (r : Nat → (Option Nat) → (Option Nat) → Int32 → Int32 → gW → Option (gW)) (k68 : Nat → (Option Nat) → gW → Option (gW)) (v0 : Nat) (v1 : Option Nat) (v2 : Option Nat) (v3 : Int32) (v4 : Int32) (w : gW) : Option (gW) :=
  if v3 ≤ v4 then
    (k68 v0 v1 w)
  else
    ((gO 1 v2 w).bind fun a33 =>
    (mX1_leadsAt F a33 ((v3 - (1 : Int32)) - v4) w).bind fun q33 =>
    if q33.1 = 0 then
      ((gFI 0 3 v1 q33.2).bind fun t45 =>
      (gO 5 (some v0) q33.2).bind fun a48 =>
      (mX5_writeStandard F a48 v2 v4 v3 t45 q33.2).bind fun q48 =>
      (gFR 5 2 (some v0) q48).bind fun t52 =>
      (gFR 5 0 (some v0) q48).bind fun t56 =>
      (gO 1 t52 q48).bind fun a59 =>
      (mX1_add F a59 t56 q48).bind fun q59 =>
      mX5_findStandards_b62 F r k68 v0 v1 v2 v3 v4 q59)
    else
      (mX5_findStandards_b62 F r k68 v0 v1 v2 v3 v4 q33.2))
def mX5_findStandards_l20 (F : Nat) (k68 : Nat → (Option Nat) → gW → Option (gW)) : Nat → Nat → (Option Nat) → (Option Nat) → Int32 → Int32 → gW → Option (gW)
  | 0, _, _, _, _, _, _ => none
  | n + 1, v0, v1, v2, v3, v4, w => mX5_findStandards_h20 F (mX5_findStandards_l20 F k68 n) k68 v0 v1 v2 v3 v4 w
def mX5_findStandards (F : Nat) (v0 : Nat) (v1 : Option Nat) (v2 : Option Nat) (w : gW) : Option (gW) :=
  (gO 0 v1 w).bind fun a1 =>
  (mX0_places F a1 w).bind fun q1 =>
  (gFR 5 2 (some v0) q1.2).bind fun t6 =>
  (gFI 0 3 v1 q1.2).bind fun t11 =>
  (gO 1 t6 q1.2).bind fun a14 =>
  (mX1_begin F a14 q1.1 t11 q1.2).bind fun q14 =>
  mX5_findStandards_l20 F (fun (v0 : Nat) (v1 : Option Nat) (w : gW) => (gFI 0 3 v1 w).bind fun t70 =>
    (gFR 5 2 (some v0) w).bind fun t74 =>
    (gFI 1 5 t74 w).bind fun t77 =>
    (mX6_power F t70 t77 w).bind fun q80 =>
    (gP 5 6 (some v0) (.inl q80.1) q80.2).bind fun w83 =>
    some w83) F v0 v1 v2 q1.1 (0 : Int32) q14
def mX5_findUnmoved_b76 (F : Nat) (r : Nat → (Option Nat) → (Option Nat) → Int32 → Int32 → Int32 → gW → Option (gW)) (k84 : Nat → (Option Nat) → (Option Nat) → Int32 → Int32 → gW → Option (gW)) (v0 : Nat) (v1 : Option Nat) (v2 : Option Nat) (v3 : Int32) (v4 : Int32) (v5 : Int32) (s0 : Option Nat) (s1 : Int32) (s2 : Int32) (s3 : Int32) (w : gW) : Option (gW) :=
  (gSI s0 s1 (s2 - s3) w).bind fun w77 =>
  r v0 v1 v2 v3 v4 (v5 + (1 : Int32)) w77
def mX5_findUnmoved_h40 (F : Nat) (r : Nat → (Option Nat) → (Option Nat) → Int32 → Int32 → Int32 → gW → Option (gW)) (k84 : Nat → (Option Nat) → (Option Nat) → Int32 → Int32 → gW → Option (gW)) (v0 : Nat) (v1 : Option Nat) (v2 : Option Nat) (v3 : Int32) (v4 : Int32) (v5 : Int32) (w : gW) : Option (gW) :=
  (gFI 0 4 v1 w).bind fun t43 =>
  if t43 ≤ v5 then
    (k84 v0 v1 v2 v3 v4 w)
  else
    ((gFR 5 0 (some v0) w).bind fun t50 =>
    (gO 0 v1 w).bind fun a61 =>
    (mX0_entry F a61 v3 v4 v5 w).bind fun q61 =>
    if v4 = v5 then
      (mX5_findUnmoved_b76 F r k84 v0 v1 v2 v3 v4 v5 t50 v5 q61.1 (1 : Int32) q61.2)
    else
      (mX5_findUnmoved_b76 F r k84 v0 v1 v2 v3 v4 v5 t50 v5 q61.1 (0 : Int32) q61.2))
def mX5_findUnmoved_l40 (F : Nat) (k84 : Nat → (Option Nat) → (Option Nat) → Int32 → Int32 → gW → Option (gW)) : Nat → Nat → (Option Nat) → (Option Nat) → Int32 → Int32 → Int32 → gW → Option (gW)
  | 0, _, _, _, _, _, _, _ => none
  | n + 1, v0, v1, v2, v3, v4, v5, w => mX5_findUnmoved_h40 F (mX5_findUnmoved_l40 F k84 n) k84 v0 v1 v2 v3 v4 v5 w
def mX5_findUnmoved_h28 (F : Nat) (r : Nat → (Option Nat) → (Option Nat) → Int32 → Int32 → gW → Option (gW)) (k98 : Nat → (Option Nat) → (Option Nat) → Int32 → gW → Option (gW)) (v0 : Nat) (v1 : Option Nat) (v2 : Option Nat) (v3 : Int32) (v4 : Int32) (w : gW) : Option (gW) :=
  (gFI 0 4 v1 w).bind fun t31 =>
  if t31 ≤ v4 then
    (k98 v0 v1 v2 v3 w)
  else
    (mX5_findUnmoved_l40 F (fun (v0 : Nat) (v1 : Option Nat) (v2 : Option Nat) (v3 : Int32) (v4 : Int32) (w : gW) => (gFR 5 0 (some v0) w).bind fun t86 =>
      (gO 1 v2 w).bind fun a89 =>
      (mX1_add F a89 t86 w).bind fun q89 =>
      r v0 v1 v2 v3 (v4 + (1 : Int32)) q89) F v0 v1 v2 v3 v4 (0 : Int32) w)
def mX5_findUnmoved_l28 (F : Nat) (k98 : Nat → (Option Nat) → (Option Nat) → Int32 → gW → Option (gW)) : Nat → Nat → (Option Nat) → (Option Nat) → Int32 → Int32 → gW → Option (gW)
  | 0, _, _, _, _, _, _ => none
  | n + 1, v0, v1, v2, v3, v4, w => mX5_findUnmoved_h28 F (mX5_findUnmoved_l28 F k98 n) k98 v0 v1 v2 v3 v4 w
def mX5_findUnmoved_h14 (F : Nat) (r : Nat → (Option Nat) → (Option Nat) → Int32 → gW → Option (gW)) (k104 : Nat → (Option Nat) → (Option Nat) → gW → Option (gW)) (v0 : Nat) (v1 : Option Nat) (v2 : Option Nat) (v3 : Int32) (w : gW) : Option (gW) :=
  (gFR 0 2 v1 w).bind fun t16 =>
  (gFI 2 7 t16 w).bind fun t19 =>
  if t19 ≤ v3 then
    (k104 v0 v1 v2 w)
  else
    (mX5_findUnmoved_l28 F (fun (v0 : Nat) (v1 : Option Nat) (v2 : Option Nat) (v3 : Int32) (w : gW) => r v0 v1 v2 (v3 + (1 : Int32)) w) F v0 v1 v2 v3 (0 : Int32) w)
def mX5_findUnmoved_l14 (F : Nat) (k104 : Nat → (Option Nat) → (Option Nat) → gW → Option (gW)) : Nat → Nat → (Option Nat) → (Option Nat) → Int32 → gW → Option (gW)
  | 0, _, _, _, _, _ => none
  | n + 1, v0, v1, v2, v3, w => mX5_findUnmoved_h14 F (mX5_findUnmoved_l14 F k104 n) k104 v0 v1 v2 v3 w
def mX5_findUnmoved (F : Nat) (v0 : Nat) (v1 : Option Nat) (v2 : Option Nat) (w : gW) : Option (gW) :=
  (gFI 0 4 v1 w).bind fun t2 =>
  (gFI 0 3 v1 w).bind fun t6 =>
  (gO 1 v2 w).bind fun a9 =>
  (mX1_begin F a9 t2 t6 w).bind fun q9 =>
  mX5_findUnmoved_l14 F (fun (v0 : Nat) (v1 : Option Nat) (v2 : Option Nat) (w : gW) => (gFI 1 5 v2 w).bind fun t106 =>
    (gP 5 4 (some v0) (.inl t106) w).bind fun w109 =>
    (gFI 0 4 v1 w109).bind fun t114 =>
    (gFI 5 4 (some v0) w109).bind fun t118 =>
    (gP 5 3 (some v0) (.inl (t114 - t118)) w109).bind fun w122 =>
    some w122) F v0 v1 v2 (0 : Int32) q9
def mX6_cyclic (F : Nat) (v0 : Nat) (v1 : Int32) (w : gW) : Option (Int32 × gW) :=
  if v1 < (1 : Int32) then
    (some ((-1 : Int32), w))
  else
    (if v1 ≤ (48 : Int32) then
      ((gO 6 (some v0) w).bind fun a14 =>
      (mX6_spareGroup F a14 w).bind fun q14 =>
      if q14.1 = none then
        (some ((-3 : Int32), q14.2))
      else
        ((gO 2 q14.1 q14.2).bind fun a27 =>
        (mX2_fillTurns F a27 v1 q14.2).bind fun q27 =>
        (gO 6 (some v0) q27).bind fun a32 =>
        (mX6_keep F a32 q14.1 q27).bind fun q32 =>
        some (q32.1, q32.2)))
    else
      (some ((-1 : Int32), w)))
def mX6_dihedral (F : Nat) (v0 : Nat) (v1 : Int32) (w : gW) : Option (Int32 × gW) :=
  if v1 < (1 : Int32) then
    (some ((-1 : Int32), w))
  else
    (if v1 ≤ (24 : Int32) then
      ((gO 6 (some v0) w).bind fun a14 =>
      (mX6_spareGroup F a14 w).bind fun q14 =>
      if q14.1 = none then
        (some ((-3 : Int32), q14.2))
      else
        ((gO 2 q14.1 q14.2).bind fun a27 =>
        (mX2_fillTurnsAndFlips F a27 v1 q14.2).bind fun q27 =>
        (gO 6 (some v0) q27).bind fun a32 =>
        (mX6_keep F a32 q14.1 q27).bind fun q32 =>
        some (q32.1, q32.2)))
    else
      (some ((-1 : Int32), w)))
def mX6_module_b91 (F : Nat) (v0 : Nat) (v2 : Int32) (v3 : Int32) (v4 : Option Nat) (w : gW) : Option (Int32 × gW) :=
  (gFR 6 1 (some v0) w).bind fun t92 =>
  (gFI 6 4 (some v0) w).bind fun t96 =>
  (gLR 0 t92 t96 w).bind fun t99 =>
  (gO 0 t99 w).bind fun a104 =>
  (mX0_begin F a104 v4 v2 v3 w).bind fun q104 =>
  (gFI 6 4 (some v0) q104).bind fun t109 =>
  (gP 6 4 (some v0) (.inl (t109 + (1 : Int32))) q104).bind fun w115 =>
  some (t109, w115)
def mX6_module_b39 (F : Nat) (v0 : Nat) (v2 : Int32) (v3 : Int32) (v4 : Option Nat) (w : gW) : Option (Int32 × gW) :=
  if v3 < (1 : Int32) then
    (some ((-1 : Int32), w))
  else
    (if v3 ≤ (2 : Int32) then
      ((gFI 6 4 (some v0) w).bind fun t52 =>
      if t52 < (6 : Int32) then
        ((gFR 6 1 (some v0) w).bind fun t64 =>
        (gFI 6 4 (some v0) w).bind fun t68 =>
        (gLR 0 t64 t68 w).bind fun t71 =>
        if t71 = none then
          ((gFR 6 1 (some v0) w).bind fun t76 =>
          (gFI 6 4 (some v0) w).bind fun t80 =>
          (mX0_init F w.2 (gNO 0 [.null, .null, .null, .int 0, .int 0, .int 0, .int 0] w)).bind fun q87 =>
          (gSR 0 t76 t80 (some w.2) q87).bind fun w90 =>
          mX6_module_b91 F v0 v2 v3 v4 w90)
        else
          (mX6_module_b91 F v0 v2 v3 v4 w))
      else
        (some ((-3 : Int32), w)))
    else
      (some ((-1 : Int32), w)))
def mX6_module (F : Nat) (v0 : Nat) (v1 : Int32) (v2 : Int32) (v3 : Int32) (w : gW) : Option (Int32 × gW) :=
  (gO 6 (some v0) w).bind fun a2 =>
  (mX6_groupAt F a2 v1 w).bind fun q2 =>
  if q2.1 = none then
    (some ((-1 : Int32), q2.2))
  else
    ((gFI 2 7 q2.1 q2.2).bind fun t14 =>
    if t14 ≤ (8 : Int32) then
      (if v2 = (2 : Int32) then
        (mX6_module_b39 F v0 v2 v3 q2.1 q2.2)
      else
        (if v2 = (3 : Int32) then
          (mX6_module_b39 F v0 v2 v3 q2.1 q2.2)
        else
          (if v2 = (5 : Int32) then
            (mX6_module_b39 F v0 v2 v3 q2.1 q2.2)
          else
            (some ((-1 : Int32), q2.2)))))
    else
      (some ((-1 : Int32), q2.2)))
def mX6_pair (F : Nat) (v0 : Nat) (v1 : Int32) (v2 : Int32) (w : gW) : Option (Int32 × gW) :=
  (gO 6 (some v0) w).bind fun a2 =>
  (mX6_groupAt F a2 v1 w).bind fun q2 =>
  (gO 6 (some v0) q2.2).bind fun a8 =>
  (mX6_groupAt F a8 v2 q2.2).bind fun q8 =>
  if q2.1 = none then
    (some ((-1 : Int32), q8.2))
  else
    (if q8.1 = none then
      (some ((-1 : Int32), q8.2))
    else
      ((gFI 2 7 q2.1 q8.2).bind fun t25 =>
      (gFI 2 7 q8.1 q8.2).bind fun t30 =>
      if (t25 * t30) ≤ (48 : Int32) then
        ((gO 6 (some v0) q8.2).bind fun a43 =>
        (mX6_spareGroup F a43 q8.2).bind fun q43 =>
        if q43.1 = none then
          (some ((-3 : Int32), q43.2))
        else
          ((gO 2 q43.1 q43.2).bind fun a61 =>
          (mX2_fillPair F a61 q2.1 q8.1 q43.2).bind fun q61 =>
          (gO 6 (some v0) q61).bind fun a67 =>
          (mX6_keep F a67 q43.1 q61).bind fun q67 =>
          some (q67.1, q67.2)))
      else
        (some ((-3 : Int32), q8.2))))
def mX6_quaternions (F : Nat) (v0 : Nat) (w : gW) : Option (Int32 × gW) :=
  (gO 6 (some v0) w).bind fun a1 =>
  (mX6_spareGroup F a1 w).bind fun q1 =>
  if q1.1 = none then
    (some ((-3 : Int32), q1.2))
  else
    ((gO 2 q1.1 q1.2).bind fun a13 =>
    (mX2_fillUnits F a13 q1.2).bind fun q13 =>
    (gO 6 (some v0) q13).bind fun a18 =>
    (mX6_keep F a18 q1.1 q13).bind fun q18 =>
    some (q18.1, q18.2))
def mX6_sound (F : Nat) (v0 : Nat) (v1 : Int32) (w : gW) : Option (Int32 × gW) :=
  (gO 6 (some v0) w).bind fun a2 =>
  (mX6_actionAt F a2 v1 w).bind fun q2 =>
  if q2.1 = none then
    (some ((-1 : Int32), q2.2))
  else
    ((gO 0 q2.1 q2.2).bind fun a15 =>
    (mX0_firstUnsound F a15 q2.2).bind fun q15 =>
    some (q15.1, q15.2))
def mX6_table (F : Nat) (v0 : Nat) (v1 : Int32) (v2 : Int32) (v3 : Int32) (w : gW) : Option (Int32 × gW) :=
  (gO 6 (some v0) w).bind fun a2 =>
  (mX6_sheetAt F a2 v1 w).bind fun q2 =>
  if q2.1 = none then
    (some ((-1 : Int32), q2.2))
  else
    ((mX6_isLane F v2 q2.2).bind fun q13 =>
    if q13.1 = 0 then
      (some ((-1 : Int32), q13.2))
    else
      (if v3 < (1 : Int32) then
        (some ((-1 : Int32), q13.2))
      else
        (if v3 ≤ (12 : Int32) then
          ((gO 4 q2.1 q13.2).bind fun a38 =>
          (mX4_faultOfReading F a38 v2 (v3 * v3) q13.2).bind fun q38 =>
          if q38.1 = 0 then
            ((gO 6 (some v0) q38.2).bind fun a55 =>
            (mX6_spareGroup F a55 q38.2).bind fun q55 =>
            if q55.1 = none then
              (some ((-3 : Int32), q55.2))
            else
              ((gO 2 q55.1 q55.2).bind fun a73 =>
              (mX2_readFrom F a73 q2.1 v3 q55.2).bind fun q73 =>
              if q73.1 < 0 then
                ((gO 6 (some v0) q73.2).bind fun a92 =>
                (mX6_keep F a92 q55.1 q73.2).bind fun q92 =>
                some (q92.1, q92.2))
              else
                (some (((-100 : Int32) - q73.1), q73.2))))
          else
            (some (((-10 : Int32) - q38.1), q38.2)))
        else
          (some ((-1 : Int32), q13.2)))))
def mX7_classOf_b211 (F : Nat) (r : Nat → Int32 → Int32 → Int32 → Int32 → gW → Option (Int32 × gW)) (k217 : Nat → Int32 → Int32 → Int32 → gW → Option (Int32 × gW)) (v0 : Nat) (v2 : Int32) (v5 : Int32) (v6 : Int32) (v7 : Int32) (w : gW) : Option (Int32 × gW) :=
  r v0 v2 v5 v6 (v7 + (1 : Int32)) w
def mX7_classOf_b203 (F : Nat) (r : Nat → Int32 → Int32 → Int32 → Int32 → gW → Option (Int32 × gW)) (k217 : Nat → Int32 → Int32 → Int32 → gW → Option (Int32 × gW)) (v0 : Nat) (v2 : Int32) (v5 : Int32) (v6 : Int32) (v7 : Int32) (v8 : Int32) (w : gW) : Option (Int32 × gW) :=
  if v8 = 0 then
    (mX7_classOf_b211 F r k217 v0 v2 v5 v6 v7 w)
  else
    (some ((-4 : Int32), w))
def mX7_classOf_b171 (F : Nat) (r : Nat → Int32 → Int32 → Int32 → Int32 → gW → Option (Int32 × gW)) (k217 : Nat → Int32 → Int32 → Int32 → gW → Option (Int32 × gW)) (v0 : Nat) (v2 : Int32) (v5 : Int32) (v6 : Int32) (v7 : Int32) (s0 : Int32) (w : gW) : Option (Int32 × gW) :=
  if v5 ≤ 0 then
    (mX7_classOf_b203 F r k217 v0 v2 v5 v6 v7 s0 w)
  else
    (if v6 ≤ 0 then
      (mX7_classOf_b203 F r k217 v0 v2 v5 v6 v7 s0 w)
    else
      ((gFR 7 25 (some v0) w).bind fun t184 =>
      (gO 7 (some v0) w).bind fun a194 =>
      (mX7_placeOf F a194 v5 v6 v7 w).bind fun q194 =>
      (gSI t184 q194.1 s0 q194.2).bind fun w199 =>
      mX7_classOf_b211 F r k217 v0 v2 v5 v6 v7 w199))
def mX7_classOf_h109 (F : Nat) (r : Nat → Int32 → Int32 → Int32 → Int32 → gW → Option (Int32 × gW)) (k217 : Nat → Int32 → Int32 → Int32 → gW → Option (Int32 × gW)) (v0 : Nat) (v2 : Int32) (v5 : Int32) (v6 : Int32) (v7 : Int32) (w : gW) : Option (Int32 × gW) :=
  (gFI 7 37 (some v0) w).bind fun t112 =>
  if t112 ≤ v7 then
    (k217 v0 v2 v5 v6 w)
  else
    ((gFR 7 6 (some v0) w).bind fun t119 =>
    (gFI 7 37 (some v0) w).bind fun t128 =>
    (gFI 7 36 (some v0) w).bind fun t132 =>
    (gLI t119 ((((144 : Int32) * v2) + (t128 * ((t132 * v5) + v6))) + v7) w).bind fun t146 =>
    (gFI 7 23 (some v0) w).bind fun t148 =>
    (gRem t146 t148).bind fun t151 =>
    if 0 ≤ t151 then
      (mX7_classOf_b171 F r k217 v0 v2 v5 v6 v7 t151 w)
    else
      ((gFI 7 23 (some v0) w).bind fun t162 =>
      mX7_classOf_b171 F r k217 v0 v2 v5 v6 v7 (t151 + t162) w))
def mX7_classOf_l109 (F : Nat) (k217 : Nat → Int32 → Int32 → Int32 → gW → Option (Int32 × gW)) : Nat → Nat → Int32 → Int32 → Int32 → Int32 → gW → Option (Int32 × gW)
  | 0, _, _, _, _, _, _ => none
  | n + 1, v0, v2, v5, v6, v7, w => mX7_classOf_h109 F (mX7_classOf_l109 F k217 n) k217 v0 v2 v5 v6 v7 w
def mX7_classOf_h97 (F : Nat) (r : Nat → Int32 → Int32 → Int32 → gW → Option (Int32 × gW)) (k223 : Nat → Int32 → Int32 → gW → Option (Int32 × gW)) (v0 : Nat) (v2 : Int32) (v5 : Int32) (v6 : Int32) (w : gW) : Option (Int32 × gW) :=
  (gFI 7 36 (some v0) w).bind fun t100 =>
  if t100 ≤ v6 then
    (k223 v0 v2 v5 w)
  else
    (mX7_classOf_l109 F (fun (v0 : Nat) (v2 : Int32) (v5 : Int32) (v6 : Int32) (w : gW) => r v0 v2 v5 (v6 + (1 : Int32)) w) F v0 v2 v5 v6 (0 : Int32) w)
def mX7_classOf_l97 (F : Nat) (k223 : Nat → Int32 → Int32 → gW → Option (Int32 × gW)) : Nat → Nat → Int32 → Int32 → Int32 → gW → Option (Int32 × gW)
  | 0, _, _, _, _, _ => none
  | n + 1, v0, v2, v5, v6, w => mX7_classOf_h97 F (mX7_classOf_l97 F k223 n) k223 v0 v2 v5 v6 w
def mX7_classOf_h85 (F : Nat) (r : Nat → Int32 → Int32 → gW → Option (Int32 × gW)) (k229 : Nat → gW → Option (Int32 × gW)) (v0 : Nat) (v2 : Int32) (v5 : Int32) (w : gW) : Option (Int32 × gW) :=
  (gFI 7 36 (some v0) w).bind fun t88 =>
  if t88 ≤ v5 then
    (k229 v0 w)
  else
    (mX7_classOf_l97 F (fun (v0 : Nat) (v2 : Int32) (v5 : Int32) (w : gW) => r v0 v2 (v5 + (1 : Int32)) w) F v0 v2 v5 (0 : Int32) w)
def mX7_classOf_l85 (F : Nat) (k229 : Nat → gW → Option (Int32 × gW)) : Nat → Nat → Int32 → Int32 → gW → Option (Int32 × gW)
  | 0, _, _, _, _ => none
  | n + 1, v0, v2, v5, w => mX7_classOf_h85 F (mX7_classOf_l85 F k229 n) k229 v0 v2 v5 w
def mX7_classOf (F : Nat) (v0 : Nat) (v1 : Int32) (v2 : Int32) (v3 : Int32) (w : gW) : Option (Int32 × gW) :=
  (gO 7 (some v0) w).bind fun a2 =>
  (mX7_isModule F a2 v1 w).bind fun q2 =>
  if q2.1 = 0 then
    (some ((-1 : Int32), q2.2))
  else
    ((mX7_in F ((v2).toInt64) (0 : Int64) (3 : Int64) q2.2).bind fun q14 =>
    if q14.1 = 0 then
      (some ((-1 : Int32), q14.2))
    else
      ((mX7_in F ((v3).toInt64) (0 : Int64) (1 : Int64) q14.2).bind fun q24 =>
      if q24.1 = 0 then
        (some ((-1 : Int32), q24.2))
      else
        ((gO 7 (some v0) q24.2).bind fun a34 =>
        (mX7_sound F a34 v1 q24.2).bind fun q34 =>
        if q34.1 = 0 then
          ((gO 7 (some v0) q34.2).bind fun a45 =>
          (mX7_know F a45 v1 q34.2).bind fun q45 =>
          (gFI 7 37 (some v0) q45).bind fun t52 =>
          (gFI 7 36 (some v0) q45).bind fun t56 =>
          (gFI 7 36 (some v0) q45).bind fun t61 =>
          (gO 7 (some v0) q45).bind fun a65 =>
          (mX7_faultOf F a65 v2 v3 ((t52 * t56) * t61) q45).bind fun q65 =>
          if 0 ≤ q65.1 then
            ((gO 7 (some v0) q65.2).bind fun a79 =>
            (mX7_clearLine F a79 q65.2).bind fun q79 =>
            mX7_classOf_l85 F (fun (v0 : Nat) (w : gW) => (gO 7 (some v0) w).bind fun a230 =>
              (mX7_isCocycle F a230 w).bind fun q230 =>
              if q230.1 = 0 then
                (some ((-4 : Int32), q230.2))
              else
                ((gO 7 (some v0) q230.2).bind fun a237 =>
                (mX7_classOfLine F a237 q230.2).bind fun q237 =>
                some (q237.1, q237.2))) F v0 v2 (0 : Int32) q79)
          else
            (some (q65.1, q65.2)))
        else
          (some ((-2 : Int32), q34.2)))))
def mX7_dimension (F : Nat) (v0 : Nat) (v1 : Int32) (v2 : Int32) (w : gW) : Option (Int32 × gW) :=
  (gO 7 (some v0) w).bind fun a2 =>
  (mX7_isModule F a2 v1 w).bind fun q2 =>
  if q2.1 = 0 then
    (some ((-1 : Int32), q2.2))
  else
    ((mX7_in F ((v2).toInt64) (0 : Int64) (6 : Int64) q2.2).bind fun q14 =>
    if q14.1 = 0 then
      (some ((-1 : Int32), q14.2))
    else
      ((gO 7 (some v0) q14.2).bind fun a24 =>
      (mX7_sound F a24 v1 q14.2).bind fun q24 =>
      if q24.1 = 0 then
        ((gO 7 (some v0) q24.2).bind fun a35 =>
        (mX7_know F a35 v1 q24.2).bind fun q35 =>
        if (5 : Int32) ≤ v2 then
          (if v2 = (5 : Int32) then
            ((gFI 7 35 (some v0) q35).bind fun t58 =>
            some (t58, q35))
          else
            ((gFR 7 30 (some v0) q35).bind fun t65 =>
            (gLI t65 (1 : Int32) q35).bind fun t69 =>
            (gFR 7 30 (some v0) q35).bind fun t71 =>
            (gLI t71 (2 : Int32) q35).bind fun t75 =>
            some ((t69 - t75), q35)))
        else
          ((gFR 7 30 (some v0) q35).bind fun t44 =>
          (gLI t44 v2 q35).bind fun t48 =>
          some (t48, q35)))
      else
        (some ((-2 : Int32), q24.2))))
def mX7_lacks (F : Nat) (v0 : Nat) (v1 : Int32) (v2 : Int32) (w : gW) : Option (Int32 × gW) :=
  (gO 7 (some v0) w).bind fun a2 =>
  (mX7_isModule F a2 v1 w).bind fun q2 =>
  if q2.1 = 0 then
    (some ((-1 : Int32), q2.2))
  else
    (if 0 ≤ v2 then
      ((gO 7 (some v0) q2.2).bind fun a16 =>
      (mX7_sound F a16 v1 q2.2).bind fun q16 =>
      if q16.1 = 0 then
        ((gO 7 (some v0) q16.2).bind fun a27 =>
        (mX7_know F a27 v1 q16.2).bind fun q27 =>
        (gFI 7 23 (some v0) q27).bind fun t34 =>
        (gFI 7 35 (some v0) q27).bind fun t38 =>
        (mX7_power F t34 t38 q27).bind fun q41 =>
        (mX7_in F ((v2).toInt64) (0 : Int64) (((q41.1 - (1 : Int32))).toInt64) q41.2).bind fun q47 =>
        if q47.1 = 0 then
          (some ((-1 : Int32), q47.2))
        else
          (some ((0 : Int32), q47.2)))
      else
        (some ((-2 : Int32), q16.2)))
    else
      (some ((-1 : Int32), q2.2)))
def mX7_over_b225 (F : Nat) (r : Nat → Int32 → Int32 → Int32 → Int32 → Int32 → Int32 → Int32 → Int32 → gW → Option (Int32 × gW)) (k258 : Nat → Int32 → Int32 → Int32 → Int32 → Int32 → Int32 → gW → Option (Int32 × gW)) (v0 : Nat) (v4 : Int32) (v5 : Int32) (v6 : Int32) (v7 : Int32) (v8 : Int32) (v9 : Int32) (v10 : Int32) (v11 : Int32) (s0 : Int32) (s1 : Int32) (w : gW) : Option (Int32 × gW) :=
  (gFI 7 23 (some v0) w).bind fun t235 =>
  (gRem (s0 + s1) t235).bind fun t238 =>
  (gFI 7 23 (some v0) w).bind fun t246 =>
  r v0 v4 v5 v6 v7 v8 (v9 + (v10 * t238)) (v10 * t246) (v11 + (1 : Int32)) w
def mX7_over_b145 (F : Nat) (r : Nat → Int32 → Int32 → Int32 → Int32 → Int32 → Int32 → Int32 → Int32 → gW → Option (Int32 × gW)) (k258 : Nat → Int32 → Int32 → Int32 → Int32 → Int32 → Int32 → gW → Option (Int32 × gW)) (v0 : Nat) (v4 : Int32) (v5 : Int32) (v6 : Int32) (v7 : Int32) (v8 : Int32) (v9 : Int32) (v10 : Int32) (v11 : Int32) (s0 : Int32) (w : gW) : Option (Int32 × gW) :=
  (gO 7 (some v0) w).bind fun a152 =>
  (mX7_twisted F a152 v7 v8 v11 w).bind fun q152 =>
  (gFI 7 39 (some v0) q152.2).bind fun t162 =>
  (gO 7 (some v0) q152.2).bind fun a170 =>
  (mX7_matrix F a170 t162 v7 v11 (0 : Int32) q152.2).bind fun q170 =>
  (gRem v6 v4).bind fun t177 =>
  (gFI 7 23 (some v0) q170.2).bind fun t179 =>
  (gRem t177 t179).bind fun t182 =>
  (gFI 7 37 (some v0) q170.2).bind fun t190 =>
  if t190 = (2 : Int32) then
    ((gFI 7 39 (some v0) q170.2).bind fun t199 =>
    (gO 7 (some v0) q170.2).bind fun a207 =>
    (mX7_matrix F a207 t199 v7 v11 (1 : Int32) q170.2).bind fun q207 =>
    (gRem v6 v4).bind fun t214 =>
    (gFI 7 23 (some v0) q207.2).bind fun t216 =>
    (gDiv t214 t216).bind fun t219 =>
    mX7_over_b225 F r k258 v0 v4 v5 v6 v7 v8 v9 v10 v11 ((s0 + q152.1) + (q170.1 * t182)) (q207.1 * t219) q207.2)
  else
    (mX7_over_b225 F r k258 v0 v4 v5 v6 v7 v8 v9 v10 v11 ((s0 + q152.1) + (q170.1 * t182)) (0 : Int32) q170.2)
def mX7_over_h108 (F : Nat) (r : Nat → Int32 → Int32 → Int32 → Int32 → Int32 → Int32 → Int32 → Int32 → gW → Option (Int32 × gW)) (k258 : Nat → Int32 → Int32 → Int32 → Int32 → Int32 → Int32 → gW → Option (Int32 × gW)) (v0 : Nat) (v4 : Int32) (v5 : Int32) (v6 : Int32) (v7 : Int32) (v8 : Int32) (v9 : Int32) (v10 : Int32) (v11 : Int32) (w : gW) : Option (Int32 × gW) :=
  (gFI 7 37 (some v0) w).bind fun t111 =>
  if t111 ≤ v11 then
    (k258 v0 v4 v5 v6 v7 v8 v9 w)
  else
    (if v11 = 0 then
      ((gRem v5 v4).bind fun t126 =>
      (gFI 7 23 (some v0) w).bind fun t128 =>
      (gRem t126 t128).bind fun t131 =>
      mX7_over_b145 F r k258 v0 v4 v5 v6 v7 v8 v9 v10 v11 t131 w)
    else
      ((gRem v5 v4).bind fun t139 =>
      (gFI 7 23 (some v0) w).bind fun t141 =>
      (gDiv t139 t141).bind fun t144 =>
      mX7_over_b145 F r k258 v0 v4 v5 v6 v7 v8 v9 v10 v11 t144 w))
def mX7_over_l108 (F : Nat) (k258 : Nat → Int32 → Int32 → Int32 → Int32 → Int32 → Int32 → gW → Option (Int32 × gW)) : Nat → Nat → Int32 → Int32 → Int32 → Int32 → Int32 → Int32 → Int32 → Int32 → gW → Option (Int32 × gW)
  | 0, _, _, _, _, _, _, _, _, _, _ => none
  | n + 1, v0, v4, v5, v6, v7, v8, v9, v10, v11, w => mX7_over_h108 F (mX7_over_l108 F k258 n) k258 v0 v4 v5 v6 v7 v8 v9 v10 v11 w
def mX7_over_h73 (F : Nat) (r : Nat → Int32 → Int32 → Int32 → gW → Option (Int32 × gW)) (k290 : Nat → Int32 → Int32 → gW → Option (Int32 × gW)) (v0 : Nat) (v4 : Int32) (v5 : Int32) (v6 : Int32) (w : gW) : Option (Int32 × gW) :=
  (gFI 7 36 (some v0) w).bind fun t78 =>
  if (v4 * t78) ≤ v6 then
    (k290 v0 v4 v5 w)
  else
    ((gDiv v5 v4).bind fun t89 =>
    (gDiv v6 v4).bind fun t96 =>
    mX7_over_l108 F (fun (v0 : Nat) (v4 : Int32) (v5 : Int32) (v6 : Int32) (v7 : Int32) (v8 : Int32) (v9 : Int32) (w : gW) => (gFI 7 38 (some v0) w).bind fun t267 =>
      (gO 7 (some v0) w).bind fun a274 =>
      (mX7_prod F a274 t267 v7 v8 w).bind fun q274 =>
      (gO 7 (some v0) q274.2).bind fun a281 =>
      (mX7_set F a281 v5 v6 ((v4 * q274.1) + v9) q274.2).bind fun q281 =>
      r v0 v4 v5 (v6 + (1 : Int32)) q281) F v0 v4 v5 v6 t89 t96 (0 : Int32) (1 : Int32) (0 : Int32) w)
def mX7_over_l73 (F : Nat) (k290 : Nat → Int32 → Int32 → gW → Option (Int32 × gW)) : Nat → Nat → Int32 → Int32 → Int32 → gW → Option (Int32 × gW)
  | 0, _, _, _, _, _ => none
  | n + 1, v0, v4, v5, v6, w => mX7_over_h73 F (mX7_over_l73 F k290 n) k290 v0 v4 v5 v6 w
def mX7_over_h58 (F : Nat) (r : Nat → Int32 → Int32 → gW → Option (Int32 × gW)) (k296 : Nat → Int32 → gW → Option (Int32 × gW)) (v0 : Nat) (v4 : Int32) (v5 : Int32) (w : gW) : Option (Int32 × gW) :=
  (gFI 7 36 (some v0) w).bind fun t63 =>
  if (v4 * t63) ≤ v5 then
    (k296 v0 v4 w)
  else
    (mX7_over_l73 F (fun (v0 : Nat) (v4 : Int32) (v5 : Int32) (w : gW) => r v0 v4 (v5 + (1 : Int32)) w) F v0 v4 v5 (0 : Int32) w)
def mX7_over_l58 (F : Nat) (k296 : Nat → Int32 → gW → Option (Int32 × gW)) : Nat → Nat → Int32 → Int32 → gW → Option (Int32 × gW)
  | 0, _, _, _, _ => none
  | n + 1, v0, v4, v5, w => mX7_over_h58 F (mX7_over_l58 F k296 n) k296 v0 v4 v5 w
def mX7_over (F : Nat) (v0 : Nat) (v1 : Int32) (v2 : Int32) (w : gW) : Option (Int32 × gW) :=
  (gO 7 (some v0) w).bind fun a3 =>
  (mX7_lacks F a3 v1 v2 w).bind fun q3 =>
  if 0 ≤ q3.1 then
    ((gFI 7 23 (some v0) q3.2).bind fun t14 =>
    (gFI 7 37 (some v0) q3.2).bind fun t18 =>
    (mX7_power F t14 t18 q3.2).bind fun q21 =>
    (gFI 7 0 (some v0) q21.2).bind fun t27 =>
    if t27 = (8 : Int32) then
      (some ((-3 : Int32), q21.2))
    else
      ((gFI 7 36 (some v0) q21.2).bind fun t38 =>
      if (q21.1 * t38) ≤ (48 : Int32) then
        ((gO 7 (some v0) q21.2).bind fun a52 =>
        (mX7_sumOf F a52 v2 q21.2).bind fun q52 =>
        mX7_over_l58 F (fun (v0 : Nat) (v4 : Int32) (w : gW) => (gFI 7 36 (some v0) w).bind fun t300 =>
          (gO 7 (some v0) w).bind fun a304 =>
          (mX7_added F a304 (v4 * t300) w).bind fun q304 =>
          some (q304.1, q304.2)) F v0 q21.1 (0 : Int32) q52)
      else
        (some ((-3 : Int32), q21.2))))
  else
    (some (q3.1, q3.2))
def mX7_parts (F : Nat) (v0 : Nat) (v1 : Int32) (v2 : Int32) (w : gW) : Option (Int32 × gW) :=
  (gO 7 (some v0) w).bind fun a3 =>
  (mX7_lacks F a3 v1 v2 w).bind fun q3 =>
  if 0 ≤ q3.1 then
    (if v2 = 0 then
      ((gFI 7 23 (some v0) q3.2).bind fun t20 =>
      (gFR 7 30 (some v0) q3.2).bind fun t24 =>
      (gLI t24 (1 : Int32) q3.2).bind fun t28 =>
      (mX7_power F t20 t28 q3.2).bind fun q29 =>
      some (q29.1, q29.2))
    else
      (some ((0 : Int32), q3.2)))
  else
    (some (q3.1, q3.2))
def mX7_sum_h43 (F : Nat) (r : Nat → Int32 → Int32 → Int32 → Int32 → Int32 → gW → Option (Int32 × gW)) (v0 : Nat) (v2 : Int32) (v3 : Int32) (v5 : Int32) (v6 : Int32) (v7 : Int32) (w : gW) : Option (Int32 × gW) :=
  (gFI 7 35 (some v0) w).bind fun t46 =>
  if t46 ≤ v7 then
    (some (v5, w))
  else
    ((gDiv v2 v6).bind fun t57 =>
    (gFI 7 23 (some v0) w).bind fun t59 =>
    (gRem t57 t59).bind fun t62 =>
    (gDiv v3 v6).bind fun t66 =>
    (gFI 7 23 (some v0) w).bind fun t68 =>
    (gRem t66 t68).bind fun t71 =>
    (gFI 7 23 (some v0) w).bind fun t74 =>
    (gRem (t62 + t71) t74).bind fun t77 =>
    (gFI 7 23 (some v0) w).bind fun t87 =>
    r v0 v2 v3 (v5 + (t77 * v6)) (v6 * t87) (v7 + (1 : Int32)) w)
def mX7_sum_l43 (F : Nat) : Nat → Nat → Int32 → Int32 → Int32 → Int32 → Int32 → gW → Option (Int32 × gW)
  | 0, _, _, _, _, _, _, _ => none
  | n + 1, v0, v2, v3, v5, v6, v7, w => mX7_sum_h43 F (mX7_sum_l43 F n) v0 v2 v3 v5 v6 v7 w
def mX7_sum_b24 (F : Nat) (v0 : Nat) (v2 : Int32) (v3 : Int32) (s0 : Int32) (w : gW) : Option (Int32 × gW) :=
  if 0 ≤ s0 then
    (mX7_sum_l43 F F v0 v2 v3 (0 : Int32) (1 : Int32) (0 : Int32) w)
  else
    (some (s0, w))
def mX7_sum (F : Nat) (v0 : Nat) (v1 : Int32) (v2 : Int32) (v3 : Int32) (w : gW) : Option (Int32 × gW) :=
  (gO 7 (some v0) w).bind fun a3 =>
  (mX7_lacks F a3 v1 v2 w).bind fun q3 =>
  if 0 ≤ q3.1 then
    ((gO 7 (some v0) q3.2).bind fun a21 =>
    (mX7_lacks F a21 v1 v3 q3.2).bind fun q21 =>
    mX7_sum_b24 F v0 v2 v3 q21.1 q21.2)
  else
    (mX7_sum_b24 F v0 v2 v3 q3.1 q3.2)
def mX7_times_h53 (F : Nat) (r : Nat → Int32 → Int32 → Int32 → Int32 → Int32 → gW → Option (Int32 × gW)) (v0 : Nat) (v2 : Int32) (v3 : Int32) (v5 : Int32) (v6 : Int32) (v7 : Int32) (w : gW) : Option (Int32 × gW) :=
  (gFI 7 35 (some v0) w).bind fun t56 =>
  if t56 ≤ v7 then
    (some (v5, w))
  else
    ((gDiv v2 v6).bind fun t67 =>
    (gFI 7 23 (some v0) w).bind fun t69 =>
    (gRem t67 t69).bind fun t72 =>
    (gFI 7 23 (some v0) w).bind fun t76 =>
    (gRem (t72 * v3) t76).bind fun t79 =>
    (gFI 7 23 (some v0) w).bind fun t89 =>
    r v0 v2 v3 (v5 + (t79 * v6)) (v6 * t89) (v7 + (1 : Int32)) w)
def mX7_times_l53 (F : Nat) : Nat → Nat → Int32 → Int32 → Int32 → Int32 → Int32 → gW → Option (Int32 × gW)
  | 0, _, _, _, _, _, _, _ => none
  | n + 1, v0, v2, v3, v5, v6, v7, w => mX7_times_h53 F (mX7_times_l53 F n) v0 v2 v3 v5 v6 v7 w
def mX7_times (F : Nat) (v0 : Nat) (v1 : Int32) (v2 : Int32) (v3 : Int32) (w : gW) : Option (Int32 × gW) :=
  (gO 7 (some v0) w).bind fun a2 =>
  (mX7_isModule F a2 v1 w).bind fun q2 =>
  if q2.1 = 0 then
    (some ((-1 : Int32), q2.2))
  else
    ((gFR 7 9 (some v0) q2.2).bind fun t12 =>
    (gLI t12 v1 q2.2).bind fun t16 =>
    (mX7_in F ((v3).toInt64) (1 : Int64) (((t16 - (1 : Int32))).toInt64) q2.2).bind fun q20 =>
    if q20.1 = 0 then
      (some ((-1 : Int32), q20.2))
    else
      ((gO 7 (some v0) q20.2).bind fun a31 =>
      (mX7_lacks F a31 v1 v2 q20.2).bind fun q31 =>
      if 0 ≤ q31.1 then
        (mX7_times_l53 F F v0 v2 v3 (0 : Int32) (1 : Int32) (0 : Int32) q31.2)
      else
        (some (q31.1, q31.2))))
def mX7_twist (F : Nat) (v0 : Nat) (v1 : Int32) (v2 : Int32) (v3 : Int32) (v4 : Int32) (v5 : Int32) (w : gW) : Option (Int32 × gW) :=
  (gO 7 (some v0) w).bind fun a2 =>
  (mX7_isModule F a2 v1 w).bind fun q2 =>
  if q2.1 = 0 then
    (some ((-1 : Int32), q2.2))
  else
    ((gFR 7 8 (some v0) q2.2).bind fun t10 =>
    (gLI t10 v1 q2.2).bind fun t14 =>
    (gO 7 (some v0) q2.2).bind fun a16 =>
    (mX7_isElement F a16 t14 v3 q2.2).bind fun q16 =>
    if q16.1 = 0 then
      (some ((-1 : Int32), q16.2))
    else
      ((gFR 7 8 (some v0) q16.2).bind fun t24 =>
      (gLI t24 v1 q16.2).bind fun t28 =>
      (gO 7 (some v0) q16.2).bind fun a31 =>
      (mX7_isElement F a31 t28 v4 q16.2).bind fun q31 =>
      if q31.1 = 0 then
        (some ((-1 : Int32), q31.2))
      else
        ((gFR 7 10 (some v0) q31.2).bind fun t42 =>
        (gLI t42 v1 q31.2).bind fun t46 =>
        (mX7_in F ((v5).toInt64) (0 : Int64) (((t46 - (1 : Int32))).toInt64) q31.2).bind fun q50 =>
        if q50.1 = 0 then
          (some ((-1 : Int32), q50.2))
        else
          ((gO 7 (some v0) q50.2).bind fun a61 =>
          (mX7_lacks F a61 v1 v2 q50.2).bind fun q61 =>
          if 0 ≤ q61.1 then
            ((gO 7 (some v0) q61.2).bind fun a76 =>
            (mX7_sumOf F a76 v2 q61.2).bind fun q76 =>
            (gO 7 (some v0) q76).bind fun a85 =>
            (mX7_twisted F a85 v3 v4 v5 q76).bind fun q85 =>
            some (q85.1, q85.2))
          else
            (some (q61.1, q61.2))))))
def mX2_findMakers_b29 (F : Nat) (r : Nat → Int32 → gW → Option (Int32 × gW)) (k35 : Nat → gW → Option (Int32 × gW)) (v0 : Nat) (v1 : Int32) (w : gW) : Option (Int32 × gW) :=
  r v0 (v1 + (1 : Int32)) w
def mX2_findMakers_h2 (F : Nat) (r : Nat → Int32 → gW → Option (Int32 × gW)) (k35 : Nat → gW → Option (Int32 × gW)) (v0 : Nat) (v1 : Int32) (w : gW) : Option (Int32 × gW) :=
  if (5 : Int32) < v1 then
    (k35 v0 w)
  else
    ((gFI 2 6 (some v0) w).bind fun t8 =>
    if 0 ≤ t8 then
      (k35 v0 w)
    else
      ((mX2_extendMakers F 7 (some v0) v1 (0 : Int32) (1 : Int64) w).bind fun q18 =>
      if q18.1 = 0 then
        (mX2_findMakers_b29 F r k35 v0 v1 q18.2)
      else
        ((gP 2 6 (some v0) (.inl v1) q18.2).bind fun w26 =>
        mX2_findMakers_b29 F r k35 v0 v1 w26)))
def mX2_findMakers_l2 (F : Nat) (k35 : Nat → gW → Option (Int32 × gW)) : Nat → Nat → Int32 → gW → Option (Int32 × gW)
  | 0, _, _, _ => none
  | n + 1, v0, v1, w => mX2_findMakers_h2 F (mX2_findMakers_l2 F k35 n) k35 v0 v1 w
def mX2_findMakers_b35 (F : Nat) (v0 : Nat) (w : gW) : Option (Int32 × gW) :=
  (gFI 2 6 (some v0) w).bind fun t36 =>
  some (t36, w)
def mX2_findMakers (F : Nat) (v0 : Nat) (w : gW) : Option (Int32 × gW) :=
  mX2_findMakers_l2 F (fun (v0 : Nat) (w : gW) => mX2_findMakers_b35 F v0 w) F v0 (0 : Int32) w
def mX3_search_h38 (F : Nat) (r : Nat → (Option Nat) → (Option Nat) → Int32 → Int32 → gW → Option (Int32 × gW)) (k78 : Nat → (Option Nat) → (Option Nat) → Int32 → gW → Option (Int32 × gW)) (v0 : Nat) (v1 : Option Nat) (v2 : Option Nat) (v3 : Int32) (v4 : Int32) (w : gW) : Option (Int32 × gW) :=
  (gFI 3 7 (some v0) w).bind fun t41 =>
  if t41 ≤ v4 then
    (k78 v0 v1 v2 v3 w)
  else
    ((gFR 3 5 (some v0) w).bind fun t48 =>
    (gFR 2 4 v1 w).bind fun t56 =>
    (gFR 2 5 v1 w).bind fun t60 =>
    (gLI t60 v4 w).bind fun t65 =>
    (gLI t56 t65 w).bind fun t66 =>
    (gO 3 (some v0) w).bind fun a68 =>
    (mX3_nextOfPeriod F a68 v2 t66 (0 : Int32) w).bind fun q68 =>
    (gSI t48 v4 q68.1 q68.2).bind fun w71 =>
    r v0 v1 v2 v3 (v4 + (1 : Int32)) w71)
def mX3_search_l38 (F : Nat) (k78 : Nat → (Option Nat) → (Option Nat) → Int32 → gW → Option (Int32 × gW)) : Nat → Nat → (Option Nat) → (Option Nat) → Int32 → Int32 → gW → Option (Int32 × gW)
  | 0, _, _, _, _, _, _ => none
  | n + 1, v0, v1, v2, v3, v4, w => mX3_search_h38 F (mX3_search_l38 F k78 n) k78 v0 v1 v2 v3 v4 w
def mX3_search_h89 (F : Nat) (r : Nat → (Option Nat) → (Option Nat) → Int32 → Int32 → gW → Option (Int32 × gW)) (v0 : Nat) (v1 : Option Nat) (v2 : Option Nat) (v3 : Int32) (v4 : Int32) (w : gW) : Option (Int32 × gW) :=
  if v3 < v4 then
    (some ((-5 : Int32), w))
  else
    ((gO 3 (some v0) w).bind fun a100 =>
    (mX3_goesWithProducts F a100 v1 v2 v4 w).bind fun q100 =>
    if q100.1 = 0 then
      ((gO 3 (some v0) q100.2).bind fun a111 =>
      (mX3_stepGiven F a111 v1 v2 q100.2).bind fun q111 =>
      if q111.1 = 0 then
        (some ((0 : Int32), q111.2))
      else
        (r v0 v1 v2 v3 (v4 + (1 : Int32)) q111.2))
    else
      (some ((1 : Int32), q100.2)))
def mX3_search_l89 (F : Nat) : Nat → Nat → (Option Nat) → (Option Nat) → Int32 → Int32 → gW → Option (Int32 × gW)
  | 0, _, _, _, _, _, _ => none
  | n + 1, v0, v1, v2, v3, v4, w => mX3_search_h89 F (mX3_search_l89 F n) v0 v1 v2 v3 v4 w
def mX3_search (F : Nat) (v0 : Nat) (v1 : Option Nat) (v2 : Option Nat) (v3 : Int32) (w : gW) : Option (Int32 × gW) :=
  (gFI 2 7 v1 w).bind fun t1 =>
  (gFI 2 7 v2 w).bind fun t5 =>
  if t1 = t5 then
    ((gO 3 (some v0) w).bind fun a14 =>
    (mX3_likeInPeriods F a14 v1 v2 w).bind fun q14 =>
    if q14.1 = 0 then
      (some ((0 : Int32), q14.2))
    else
      ((gO 2 v1 q14.2).bind fun a24 =>
      (mX2_findMakers F a24 q14.2).bind fun q24 =>
      (gP 3 7 (some v0) (.inl q24.1) q24.2).bind fun w27 =>
      (gO 3 (some v0) w27).bind fun a32 =>
      (mX3_layPaths F a32 v1 w27).bind fun q32 =>
      mX3_search_l38 F (fun (v0 : Nat) (v1 : Option Nat) (v2 : Option Nat) (v3 : Int32) (w : gW) => (gFR 3 4 (some v0) w).bind fun t79 =>
        (mJ7_fill_53178 F t79 (0 : Int32) w).bind fun q83 =>
        mX3_search_l89 F F v0 v1 v2 v3 (1 : Int32) q83) F v0 v1 v2 v3 (0 : Int32) q32))
  else
    (some ((0 : Int32), w))
def mX5_writeEquations_h21 (F : Nat) (r : Nat → (Option Nat) → (Option Nat) → Int32 → Int32 → gW → Option (gW)) (k72 : Nat → (Option Nat) → (Option Nat) → gW → Option (gW)) (v0 : Nat) (v1 : Option Nat) (v2 : Option Nat) (v3 : Int32) (v4 : Int32) (w : gW) : Option (gW) :=
  (gFR 5 1 (some v0) w).bind fun t24 =>
  (gFI 1 5 t24 w).bind fun t27 =>
  if t27 ≤ v4 then
    (k72 v0 v1 v2 w)
  else
    ((gFR 5 0 (some v0) w).bind fun t34 =>
    (mJ7_fill_53178 F t34 (0 : Int32) w).bind fun q38 =>
    (gFR 5 0 (some v0) q38).bind fun t42 =>
    (gFR 5 1 (some v0) q38).bind fun t47 =>
    (gO 1 t47 q38).bind fun a52 =>
    (mX1_leadOf F a52 v4 q38).bind fun q52 =>
    (gSI t42 (v3 - q52.1) (1 : Int32) q52.2).bind fun w57 =>
    (gFR 5 0 (some v0) w57).bind fun t60 =>
    (gO 1 v2 w57).bind fun a63 =>
    (mX1_add F a63 t60 w57).bind fun q63 =>
    r v0 v1 v2 v3 (v4 + (1 : Int32)) q63)
def mX5_writeEquations_l21 (F : Nat) (k72 : Nat → (Option Nat) → (Option Nat) → gW → Option (gW)) : Nat → Nat → (Option Nat) → (Option Nat) → Int32 → Int32 → gW → Option (gW)
  | 0, _, _, _, _, _, _ => none
  | n + 1, v0, v1, v2, v3, v4, w => mX5_writeEquations_h21 F (mX5_writeEquations_l21 F k72 n) k72 v0 v1 v2 v3 v4 w
def mX5_writeEquations_h124 (F : Nat) (r : Nat → (Option Nat) → (Option Nat) → Int32 → Int32 → Int32 → Int32 → Int32 → gW → Option (gW)) (k168 : Nat → (Option Nat) → (Option Nat) → Int32 → Int32 → Int32 → Int32 → gW → Option (gW)) (v0 : Nat) (v1 : Option Nat) (v2 : Option Nat) (v4 : Int32) (v5 : Int32) (v6 : Int32) (v7 : Int32) (v8 : Int32) (w : gW) : Option (gW) :=
  (gFI 0 4 v1 w).bind fun t127 =>
  if t127 ≤ v8 then
    (k168 v0 v1 v2 v4 v5 v6 v7 w)
  else
    ((gFR 0 2 v1 w).bind fun t136 =>
    (gFR 2 5 t136 w).bind fun t139 =>
    (gLI t139 v5 w).bind fun t144 =>
    (gO 5 (some v0) w).bind fun a151 =>
    (mX5_writeCocycleRule F a151 v1 t144 v6 v7 v8 w).bind fun q151 =>
    (gFR 5 0 (some v0) q151).bind fun t156 =>
    (gO 1 v2 q151).bind fun a159 =>
    (mX1_add F a159 t156 q151).bind fun q159 =>
    r v0 v1 v2 v4 v5 v6 v7 (v8 + (1 : Int32)) q159)
def mX5_writeEquations_l124 (F : Nat) (k168 : Nat → (Option Nat) → (Option Nat) → Int32 → Int32 → Int32 → Int32 → gW → Option (gW)) : Nat → Nat → (Option Nat) → (Option Nat) → Int32 → Int32 → Int32 → Int32 → Int32 → gW → Option (gW)
  | 0, _, _, _, _, _, _, _, _, _ => none
  | n + 1, v0, v1, v2, v4, v5, v6, v7, v8, w => mX5_writeEquations_h124 F (mX5_writeEquations_l124 F k168 n) k168 v0 v1 v2 v4 v5 v6 v7 v8 w
def mX5_writeEquations_h109 (F : Nat) (r : Nat → (Option Nat) → (Option Nat) → Int32 → Int32 → Int32 → Int32 → gW → Option (gW)) (k174 : Nat → (Option Nat) → (Option Nat) → Int32 → Int32 → Int32 → gW → Option (gW)) (v0 : Nat) (v1 : Option Nat) (v2 : Option Nat) (v4 : Int32) (v5 : Int32) (v6 : Int32) (v7 : Int32) (w : gW) : Option (gW) :=
  (gFR 0 2 v1 w).bind fun t112 =>
  (gFI 2 7 t112 w).bind fun t115 =>
  if t115 ≤ v7 then
    (k174 v0 v1 v2 v4 v5 v6 w)
  else
    (mX5_writeEquations_l124 F (fun (v0 : Nat) (v1 : Option Nat) (v2 : Option Nat) (v4 : Int32) (v5 : Int32) (v6 : Int32) (v7 : Int32) (w : gW) => r v0 v1 v2 v4 v5 v6 (v7 + (1 : Int32)) w) F v0 v1 v2 v4 v5 v6 v7 (0 : Int32) w)
def mX5_writeEquations_l109 (F : Nat) (k174 : Nat → (Option Nat) → (Option Nat) → Int32 → Int32 → Int32 → gW → Option (gW)) : Nat → Nat → (Option Nat) → (Option Nat) → Int32 → Int32 → Int32 → Int32 → gW → Option (gW)
  | 0, _, _, _, _, _, _, _, _ => none
  | n + 1, v0, v1, v2, v4, v5, v6, v7, w => mX5_writeEquations_h109 F (mX5_writeEquations_l109 F k174 n) k174 v0 v1 v2 v4 v5 v6 v7 w
def mX5_writeEquations_h94 (F : Nat) (r : Nat → (Option Nat) → (Option Nat) → Int32 → Int32 → Int32 → gW → Option (gW)) (k180 : Nat → (Option Nat) → (Option Nat) → Int32 → Int32 → gW → Option (gW)) (v0 : Nat) (v1 : Option Nat) (v2 : Option Nat) (v4 : Int32) (v5 : Int32) (v6 : Int32) (w : gW) : Option (gW) :=
  (gFR 0 2 v1 w).bind fun t97 =>
  (gFI 2 7 t97 w).bind fun t100 =>
  if t100 ≤ v6 then
    (k180 v0 v1 v2 v4 v5 w)
  else
    (mX5_writeEquations_l109 F (fun (v0 : Nat) (v1 : Option Nat) (v2 : Option Nat) (v4 : Int32) (v5 : Int32) (v6 : Int32) (w : gW) => r v0 v1 v2 v4 v5 (v6 + (1 : Int32)) w) F v0 v1 v2 v4 v5 v6 (1 : Int32) w)
def mX5_writeEquations_l94 (F : Nat) (k180 : Nat → (Option Nat) → (Option Nat) → Int32 → Int32 → gW → Option (gW)) : Nat → Nat → (Option Nat) → (Option Nat) → Int32 → Int32 → Int32 → gW → Option (gW)
  | 0, _, _, _, _, _, _, _ => none
  | n + 1, v0, v1, v2, v4, v5, v6, w => mX5_writeEquations_h94 F (mX5_writeEquations_l94 F k180 n) k180 v0 v1 v2 v4 v5 v6 w
def mX5_writeEquations_h84 (F : Nat) (r : Nat → (Option Nat) → (Option Nat) → Int32 → Int32 → gW → Option (gW)) (v0 : Nat) (v1 : Option Nat) (v2 : Option Nat) (v4 : Int32) (v5 : Int32) (w : gW) : Option (gW) :=
  if v4 ≤ v5 then
    (some w)
  else
    (mX5_writeEquations_l94 F (fun (v0 : Nat) (v1 : Option Nat) (v2 : Option Nat) (v4 : Int32) (v5 : Int32) (w : gW) => r v0 v1 v2 v4 (v5 + (1 : Int32)) w) F v0 v1 v2 v4 v5 (1 : Int32) w)
def mX5_writeEquations_l84 (F : Nat) : Nat → Nat → (Option Nat) → (Option Nat) → Int32 → Int32 → gW → Option (gW)
  | 0, _, _, _, _, _, _ => none
  | n + 1, v0, v1, v2, v4, v5, w => mX5_writeEquations_h84 F (mX5_writeEquations_l84 F n) v0 v1 v2 v4 v5 w
def mX5_writeEquations (F : Nat) (v0 : Nat) (v1 : Option Nat) (v2 : Option Nat) (w : gW) : Option (gW) :=
  (gO 0 v1 w).bind fun a1 =>
  (mX0_places F a1 w).bind fun q1 =>
  (gFI 0 3 v1 q1.2).bind fun t12 =>
  (gO 1 v2 q1.2).bind fun a15 =>
  (mX1_begin F a15 ((q1.1 - (1 : Int32)) + (1 : Int32)) t12 q1.2).bind fun q15 =>
  mX5_writeEquations_l21 F (fun (v0 : Nat) (v1 : Option Nat) (v2 : Option Nat) (w : gW) => (gFR 0 2 v1 w).bind fun t73 =>
    (gO 2 t73 w).bind fun a76 =>
    (mX2_findMakers F a76 w).bind fun q76 =>
    mX5_writeEquations_l84 F F v0 v1 v2 q76.1 (0 : Int32) q76.2) F v0 v1 v2 (q1.1 - (1 : Int32)) (0 : Int32) q15
def mX6_about (F : Nat) (v0 : Nat) (v1 : Int32) (v2 : Int32) (w : gW) : Option (Int32 × gW) :=
  (gO 6 (some v0) w).bind fun a2 =>
  (mX6_groupAt F a2 v1 w).bind fun q2 =>
  if q2.1 = none then
    (some ((-1 : Int32), q2.2))
  else
    (if v2 = (0 : Int32) then ((gO 2 q2.1 q2.2).bind fun a53 =>
      (mX2_countCentral F a53 q2.2).bind fun q53 =>
      some (q53.1, q53.2)) else if v2 = (1 : Int32) then ((gO 2 q2.1 q2.2).bind fun a58 =>
      (mX2_countDerived F a58 q2.2).bind fun q58 =>
      some (q58.1, q58.2)) else if v2 = (2 : Int32) then ((gO 2 q2.1 q2.2).bind fun a63 =>
      (mX2_exponent F a63 q2.2).bind fun q63 =>
      some (q63.1, q63.2)) else if v2 = (3 : Int32) then ((gO 2 q2.1 q2.2).bind fun a68 =>
      (mX2_countTurnClasses F a68 q2.2).bind fun q68 =>
      some (q68.1, q68.2)) else if v2 = (4 : Int32) then ((gO 2 q2.1 q2.2).bind fun a73 =>
      (mX2_countCentral F a73 q2.2).bind fun q73 =>
      (gFI 2 7 q2.1 q73.2).bind fun t77 =>
      if q73.1 = t77 then
        (some ((1 : Int32), q73.2))
      else
        (some ((0 : Int32), q73.2))) else if v2 = (5 : Int32) then ((gO 2 q2.1 q2.2).bind fun a90 =>
      (mX2_findMakers F a90 q2.2).bind fun q90 =>
      some (q90.1, q90.2)) else (some ((-1 : Int32), q2.2)))
def mX6_same_b55 (F : Nat) (v0 : Nat) (v3 : Int32) (v4 : Option Nat) (v5 : Option Nat) (w : gW) : Option (Int32 × gW) :=
  (gFR 6 5 (some v0) w).bind fun t56 =>
  (gO 3 t56 w).bind fun a64 =>
  (mX3_search F a64 v4 v5 v3 w).bind fun q64 =>
  some (q64.1, q64.2)
def mX6_same (F : Nat) (v0 : Nat) (v1 : Int32) (v2 : Int32) (v3 : Int32) (w : gW) : Option (Int32 × gW) :=
  (gO 6 (some v0) w).bind fun a2 =>
  (mX6_groupAt F a2 v1 w).bind fun q2 =>
  (gO 6 (some v0) q2.2).bind fun a9 =>
  (mX6_groupAt F a9 v2 q2.2).bind fun q9 =>
  if q2.1 = none then
    (some ((-1 : Int32), q9.2))
  else
    (if q9.1 = none then
      (some ((-1 : Int32), q9.2))
    else
      (if v3 < 0 then
        (some ((-1 : Int32), q9.2))
      else
        (if v3 ≤ (20000 : Int32) then
          ((gFR 6 5 (some v0) q9.2).bind fun t38 =>
          if t38 = none then
            ((mX3_init F q9.2.2 (gNO 3 [.null, .null, .null, .null, .null, .null, .null, .int 0] q9.2)).bind fun q49 =>
            (gP 6 5 (some v0) (.inr (.inr (some q9.2.2))) q49).bind fun w52 =>
            mX6_same_b55 F v0 v3 q2.1 q9.1 w52)
          else
            (mX6_same_b55 F v0 v3 q2.1 q9.1 q9.2))
        else
          (some ((-1 : Int32), q9.2)))))
def mX6_solve_b35 (F : Nat) (v0 : Nat) (v1 : Option Nat) (w : gW) : Option (gW) :=
  (gFR 0 1 v1 w).bind fun t36 =>
  (gFR 6 6 (some v0) w).bind fun t43 =>
  (gO 5 t36 w).bind fun a46 =>
  (mX5_findUnmoved F a46 v1 t43 w).bind fun q46 =>
  (gO 5 t36 q46).bind fun a51 =>
  (mX5_findBounds F a51 v1 q46).bind fun q51 =>
  (gFR 6 6 (some v0) q51).bind fun t57 =>
  (gO 5 t36 q51).bind fun a60 =>
  (mX5_writeEquations F a60 v1 t57 q51).bind fun q60 =>
  (gFR 6 6 (some v0) q60).bind fun t66 =>
  (gO 5 t36 q60).bind fun a69 =>
  (mX5_findStandards F a69 v1 t66 q60).bind fun q69 =>
  (gP 0 6 v1 (.inl (1 : Int32)) q69).bind fun w74 =>
  some w74
def mX6_solve (F : Nat) (v0 : Nat) (v1 : Option Nat) (w : gW) : Option (gW) :=
  (gFI 0 6 v1 w).bind fun t1 =>
  if t1 = 0 then
    ((gO 0 v1 w).bind fun a8 =>
    (mX0_firstUnsound F a8 w).bind fun q8 =>
    if q8.1 = 0 then
      ((gFR 6 6 (some v0) q8.2).bind fun t16 =>
      if t16 = none then
        ((mX1_init F 98 q8.2.2 (98 : Int32) (gNO 1 [.null, .null, .null, .int 0, .int 0, .int 0] q8.2)).bind fun q29 =>
        (gP 6 6 (some v0) (.inr (.inr (some q8.2.2))) q29).bind fun w32 =>
        mX6_solve_b35 F v0 v1 w32)
      else
        (mX6_solve_b35 F v0 v1 q8.2))
    else
      (some q8.2))
  else
    (some w)
def mX6_classOf (F : Nat) (v0 : Nat) (v1 : Int32) (v2 : Int32) (v3 : Int32) (w : gW) : Option (Int32 × gW) :=
  (gO 6 (some v0) w).bind fun a2 =>
  (mX6_actionAt F a2 v1 w).bind fun q2 =>
  (gO 6 (some v0) q2.2).bind fun a9 =>
  (mX6_sheetAt F a9 v2 q2.2).bind fun q9 =>
  if q2.1 = none then
    (some ((-1 : Int32), q9.2))
  else
    (if q9.1 = none then
      (some ((-1 : Int32), q9.2))
    else
      ((mX6_isLane F v3 q9.2).bind fun q25 =>
      if q25.1 = 0 then
        (some ((-1 : Int32), q25.2))
      else
        ((gO 6 (some v0) q25.2).bind fun a36 =>
        (mX6_solve F a36 q2.1 q25.2).bind fun q36 =>
        (gFI 0 6 q2.1 q36).bind fun t41 =>
        if t41 = 0 then
          (some ((-2 : Int32), q36))
        else
          ((gFI 0 4 q2.1 q36).bind fun t55 =>
          (gFR 0 2 q2.1 q36).bind fun t60 =>
          (gFI 2 7 t60 q36).bind fun t63 =>
          (gFR 0 2 q2.1 q36).bind fun t69 =>
          (gFI 2 7 t69 q36).bind fun t72 =>
          (gO 4 q9.1 q36).bind fun a76 =>
          (mX4_faultOfReading F a76 v3 ((t55 * t63) * t72) q36).bind fun q76 =>
          if q76.1 = 0 then
            ((gFR 0 1 q2.1 q76.2).bind fun t94 =>
            (gO 5 t94 q76.2).bind fun a101 =>
            (mX5_classRead F a101 q2.1 q9.1 q76.2).bind fun q101 =>
            some (q101.1, q101.2))
          else
            (some (((-10 : Int32) - q76.1), q76.2))))))
def mX6_dimension (F : Nat) (v0 : Nat) (v1 : Int32) (v2 : Int32) (w : gW) : Option (Int32 × gW) :=
  (gO 6 (some v0) w).bind fun a2 =>
  (mX6_actionAt F a2 v1 w).bind fun q2 =>
  if q2.1 = none then
    (some ((-1 : Int32), q2.2))
  else
    (if v2 < 0 then
      (some ((-1 : Int32), q2.2))
    else
      (if v2 ≤ (6 : Int32) then
        ((gO 6 (some v0) q2.2).bind fun a24 =>
        (mX6_solve F a24 q2.1 q2.2).bind fun q24 =>
        (gFI 0 6 q2.1 q24).bind fun t28 =>
        if t28 = 0 then
          (some ((-2 : Int32), q24))
        else
          ((gFR 0 1 q2.1 q24).bind fun t35 =>
          (gO 5 t35 q24).bind fun a39 =>
          (mX5_dimensionOf F a39 v2 q24).bind fun q39 =>
          some (q39.1, q39.2)))
      else
        (some ((-1 : Int32), q2.2))))
def mX6_over (F : Nat) (v0 : Nat) (v1 : Int32) (v2 : Int32) (w : gW) : Option (Int32 × gW) :=
  (gO 6 (some v0) w).bind fun a2 =>
  (mX6_actionAt F a2 v1 w).bind fun q2 =>
  if q2.1 = none then
    (some ((-1 : Int32), q2.2))
  else
    ((gO 6 (some v0) q2.2).bind fun a14 =>
    (mX6_solve F a14 q2.1 q2.2).bind fun q14 =>
    (mX6_refusalOf F q2.1 v2 q14).bind fun q19 =>
    if q19.1 = 0 then
      ((gFI 0 5 q2.1 q19.2).bind fun t33 =>
      (gFR 0 2 q2.1 q19.2).bind fun t37 =>
      (gFI 2 7 t37 q19.2).bind fun t40 =>
      if (t33 * t40) ≤ (48 : Int32) then
        ((gO 6 (some v0) q19.2).bind fun a53 =>
        (mX6_spareGroup F a53 q19.2).bind fun q53 =>
        if q53.1 = none then
          (some ((-3 : Int32), q53.2))
        else
          ((gO 2 q53.1 q53.2).bind fun a70 =>
          (mX2_fillOver F a70 q2.1 v2 q53.2).bind fun q70 =>
          (gO 6 (some v0) q70).bind fun a76 =>
          (mX6_keep F a76 q53.1 q70).bind fun q76 =>
          some (q76.1, q76.2)))
      else
        (some ((-3 : Int32), q19.2)))
    else
      (some (q19.1, q19.2)))
def mX6_parts (F : Nat) (v0 : Nat) (v1 : Int32) (v2 : Int32) (w : gW) : Option (Int32 × gW) :=
  (gO 6 (some v0) w).bind fun a2 =>
  (mX6_actionAt F a2 v1 w).bind fun q2 =>
  if q2.1 = none then
    (some ((-1 : Int32), q2.2))
  else
    ((gO 6 (some v0) q2.2).bind fun a14 =>
    (mX6_solve F a14 q2.1 q2.2).bind fun q14 =>
    (mX6_refusalOf F q2.1 v2 q14).bind fun q19 =>
    if q19.1 = 0 then
      (if v2 = 0 then
        ((gFI 0 3 q2.1 q19.2).bind fun t37 =>
        (gFR 0 1 q2.1 q19.2).bind fun t41 =>
        (gO 5 t41 q19.2).bind fun a45 =>
        (mX5_dimensionOf F a45 (1 : Int32) q19.2).bind fun q45 =>
        (mX6_power F t37 q45.1 q45.2).bind fun q48 =>
        some (q48.1, q48.2))
      else
        (some ((0 : Int32), q19.2)))
    else
      (some (q19.1, q19.2)))
def mX6_sum_b41 (F : Nat) (v2 : Int32) (v3 : Int32) (v4 : Option Nat) (v5 : Int32) (w : gW) : Option (Int32 × gW) :=
  if v5 = 0 then
    ((gFI 0 3 v4 w).bind fun t55 =>
    (gFR 0 1 v4 w).bind fun t60 =>
    (gFR 5 2 t60 w).bind fun t63 =>
    (gFI 1 5 t63 w).bind fun t66 =>
    (mX6_addDigits F v2 v3 t55 t66 w).bind fun q69 =>
    some (q69.1, q69.2))
  else
    (some (v5, w))
def mX6_sum (F : Nat) (v0 : Nat) (v1 : Int32) (v2 : Int32) (v3 : Int32) (w : gW) : Option (Int32 × gW) :=
  (gO 6 (some v0) w).bind fun a2 =>
  (mX6_actionAt F a2 v1 w).bind fun q2 =>
  if q2.1 = none then
    (some ((-1 : Int32), q2.2))
  else
    ((gO 6 (some v0) q2.2).bind fun a17 =>
    (mX6_solve F a17 q2.1 q2.2).bind fun q17 =>
    (mX6_refusalOf F q2.1 v2 q17).bind fun q23 =>
    if q23.1 = 0 then
      ((mX6_refusalOf F q2.1 v3 q23.2).bind fun q36 =>
      mX6_sum_b41 F v2 v3 q2.1 q36.1 q36.2)
    else
      (mX6_sum_b41 F v2 v3 q2.1 q23.1 q23.2))
def mX6_times_h56 (F : Nat) (r : Int32 → Int32 → (Option Nat) → Int32 → Int32 → gW → Option (Int32 × gW)) (v2 : Int32) (v3 : Int32) (v4 : Option Nat) (v6 : Int32) (v7 : Int32) (w : gW) : Option (Int32 × gW) :=
  if v3 ≤ v7 then
    (some (v6, w))
  else
    ((gFI 0 3 v4 w).bind fun t67 =>
    (gFR 0 1 v4 w).bind fun t72 =>
    (gFR 5 2 t72 w).bind fun t75 =>
    (gFI 1 5 t75 w).bind fun t78 =>
    (mX6_addDigits F v6 v2 t67 t78 w).bind fun q81 =>
    r v2 v3 v4 q81.1 (v7 + (1 : Int32)) q81.2)
def mX6_times_l56 (F : Nat) : Nat → Int32 → Int32 → (Option Nat) → Int32 → Int32 → gW → Option (Int32 × gW)
  | 0, _, _, _, _, _, _ => none
  | n + 1, v2, v3, v4, v6, v7, w => mX6_times_h56 F (mX6_times_l56 F n) v2 v3 v4 v6 v7 w
def mX6_times (F : Nat) (v0 : Nat) (v1 : Int32) (v2 : Int32) (v3 : Int32) (w : gW) : Option (Int32 × gW) :=
  (gO 6 (some v0) w).bind fun a2 =>
  (mX6_actionAt F a2 v1 w).bind fun q2 =>
  if q2.1 = none then
    (some ((-1 : Int32), q2.2))
  else
    (if v3 < (1 : Int32) then
      (some ((-1 : Int32), q2.2))
    else
      ((gFI 0 3 q2.1 q2.2).bind fun t20 =>
      if v3 < t20 then
        ((gO 6 (some v0) q2.2).bind fun a31 =>
        (mX6_solve F a31 q2.1 q2.2).bind fun q31 =>
        (mX6_refusalOf F q2.1 v2 q31).bind fun q37 =>
        if q37.1 = 0 then
          (mX6_times_l56 F F v2 v3 q2.1 (0 : Int32) (0 : Int32) q37.2)
        else
          (some (q37.1, q37.2)))
      else
        (some ((-1 : Int32), q2.2))))
def mX6_twist (F : Nat) (v0 : Nat) (v1 : Int32) (v2 : Int32) (v3 : Int32) (v4 : Int32) (v5 : Int32) (w : gW) : Option (Int32 × gW) :=
  (gO 6 (some v0) w).bind fun a2 =>
  (mX6_actionAt F a2 v1 w).bind fun q2 =>
  if q2.1 = none then
    (some ((-1 : Int32), q2.2))
  else
    ((gFR 0 2 q2.1 q2.2).bind fun t14 =>
    (gO 2 t14 q2.2).bind fun a18 =>
    (mX2_has F a18 v3 q2.2).bind fun q18 =>
    if q18.1 = 0 then
      (some ((-1 : Int32), q18.2))
    else
      ((gFR 0 2 q2.1 q18.2).bind fun t26 =>
      (gO 2 t26 q18.2).bind fun a31 =>
      (mX2_has F a31 v4 q18.2).bind fun q31 =>
      if q31.1 = 0 then
        (some ((-1 : Int32), q31.2))
      else
        (if v5 < 0 then
          (some ((-1 : Int32), q31.2))
        else
          ((gFI 0 4 q2.1 q31.2).bind fun t46 =>
          if v5 < t46 then
            ((gO 6 (some v0) q31.2).bind fun a57 =>
            (mX6_solve F a57 q2.1 q31.2).bind fun q57 =>
            (mX6_refusalOf F q2.1 v2 q57).bind fun q63 =>
            if q63.1 = 0 then
              ((gFR 0 1 q2.1 q63.2).bind fun t80 =>
              (gO 5 t80 q63.2).bind fun a91 =>
              (mX5_numberOf F a91 q2.1 v2 v3 v4 v5 q63.2).bind fun q91 =>
              some (q91.1, q91.2))
            else
              (some (q63.1, q63.2)))
          else
            (some ((-1 : Int32), q31.2))))))
def mL_law_b1082 (F : Nat) (L : Nat) (xs : Nat → Int32) (r : (Option Nat) → (Option Nat) → Int32 → gW → Option (Unit)) (v1 : Option Nat) (v2 : Option Nat) (v3 : Int32) (w : gW) : Option (Unit) :=
  r v1 v2 (v3 + (7 : Int32)) w
def mL_law_h18 (F : Nat) (L : Nat) (xs : Nat → Int32) (r : (Option Nat) → (Option Nat) → Int32 → gW → Option (Unit)) (v1 : Option Nat) (v2 : Option Nat) (v3 : Int32) (w : gW) : Option (Unit) :=
  if ((Int32.ofNat L) - (7 : Int32)) < v3 then
    (some ())
  else
    ((gSc L xs v3).bind fun t29 =>
    if (t29 &&& (31 : Int32)) = (0 : Int32) then ((gSc L xs (v3 + (1 : Int32))).bind fun t157 =>
      (gO 6 v1 w).bind fun a158 =>
      (mX6_cyclic F a158 t157 w).bind fun q158 =>
      (gSc L xs (v3 + (1 : Int32))).bind fun t166 =>
      (gO 7 v2 q158.2).bind fun a167 =>
      (mX7_cyclic F a167 t166 q158.2).bind fun q167 =>
      if q158.1 = q167.1 then
        (mL_law_b1082 F L xs r v1 v2 v3 q167.2)
      else
        (none)) else if (t29 &&& (31 : Int32)) = (1 : Int32) then ((gSc L xs (v3 + (1 : Int32))).bind fun t180 =>
      (gO 6 v1 w).bind fun a181 =>
      (mX6_dihedral F a181 t180 w).bind fun q181 =>
      (gSc L xs (v3 + (1 : Int32))).bind fun t189 =>
      (gO 7 v2 q181.2).bind fun a190 =>
      (mX7_dihedral F a190 t189 q181.2).bind fun q190 =>
      if q181.1 = q190.1 then
        (mL_law_b1082 F L xs r v1 v2 v3 q190.2)
      else
        (none)) else if (t29 &&& (31 : Int32)) = (2 : Int32) then ((gO 6 v1 w).bind fun a199 =>
      (mX6_quaternions F a199 w).bind fun q199 =>
      (gO 7 v2 q199.2).bind fun a203 =>
      (mX7_quaternions F a203 q199.2).bind fun q203 =>
      if q199.1 = q203.1 then
        (mL_law_b1082 F L xs r v1 v2 v3 q203.2)
      else
        (none)) else if (t29 &&& (31 : Int32)) = (3 : Int32) then ((gSc L xs (v3 + (1 : Int32))).bind fun t216 =>
      (gSc L xs (v3 + (2 : Int32))).bind fun t221 =>
      (gO 6 v1 w).bind fun a222 =>
      (mX6_pair F a222 t216 t221 w).bind fun q222 =>
      (gSc L xs (v3 + (1 : Int32))).bind fun t230 =>
      (gSc L xs (v3 + (2 : Int32))).bind fun t235 =>
      (gO 7 v2 q222.2).bind fun a236 =>
      (mX7_pair F a236 t230 t235 q222.2).bind fun q236 =>
      if q222.1 = q236.1 then
        (mL_law_b1082 F L xs r v1 v2 v3 q236.2)
      else
        (none)) else if (t29 &&& (31 : Int32)) = (4 : Int32) then ((gSc L xs (v3 + (1 : Int32))).bind fun t249 =>
      (gSc L xs (v3 + (2 : Int32))).bind fun t254 =>
      (gSc L xs (v3 + (3 : Int32))).bind fun t259 =>
      (gO 6 v1 w).bind fun a260 =>
      (mX6_sheet F a260 t249 t254 t259 w).bind fun q260 =>
      (gSc L xs (v3 + (1 : Int32))).bind fun t268 =>
      (gSc L xs (v3 + (2 : Int32))).bind fun t273 =>
      (gSc L xs (v3 + (3 : Int32))).bind fun t278 =>
      (gO 7 v2 q260.2).bind fun a279 =>
      (mX7_sheet F a279 t268 t273 t278 q260.2).bind fun q279 =>
      if q260.1 = q279.1 then
        (mL_law_b1082 F L xs r v1 v2 v3 q279.2)
      else
        (none)) else if (t29 &&& (31 : Int32)) = (5 : Int32) then ((gSc L xs (v3 + (1 : Int32))).bind fun t292 =>
      (gSc L xs (v3 + (2 : Int32))).bind fun t297 =>
      (gSc L xs (v3 + (3 : Int32))).bind fun t302 =>
      (gO 6 v1 w).bind fun a303 =>
      (mX6_lay F a303 t292 t297 t302 w).bind fun q303 =>
      (gSc L xs (v3 + (1 : Int32))).bind fun t311 =>
      (gSc L xs (v3 + (2 : Int32))).bind fun t316 =>
      (gSc L xs (v3 + (3 : Int32))).bind fun t321 =>
      (gO 7 v2 q303.2).bind fun a322 =>
      (mX7_lay F a322 t311 t316 t321 q303.2).bind fun q322 =>
      if q303.1 = q322.1 then
        (mL_law_b1082 F L xs r v1 v2 v3 q322.2)
      else
        (none)) else if (t29 &&& (31 : Int32)) = (6 : Int32) then ((gSc L xs (v3 + (1 : Int32))).bind fun t335 =>
      (gSc L xs (v3 + (2 : Int32))).bind fun t340 =>
      (gSc L xs (v3 + (3 : Int32))).bind fun t345 =>
      (gO 6 v1 w).bind fun a346 =>
      (mX6_table F a346 t335 t340 t345 w).bind fun q346 =>
      (gSc L xs (v3 + (1 : Int32))).bind fun t354 =>
      (gSc L xs (v3 + (2 : Int32))).bind fun t359 =>
      (gSc L xs (v3 + (3 : Int32))).bind fun t364 =>
      (gO 7 v2 q346.2).bind fun a365 =>
      (mX7_table F a365 t354 t359 t364 q346.2).bind fun q365 =>
      if q346.1 = q365.1 then
        (mL_law_b1082 F L xs r v1 v2 v3 q365.2)
      else
        (none)) else if (t29 &&& (31 : Int32)) = (7 : Int32) then ((gO 6 v1 w).bind fun a374 =>
      (mX6_drop F a374 w).bind fun q374 =>
      (gO 7 v2 q374.2).bind fun a378 =>
      (mX7_drop F a378 q374.2).bind fun q378 =>
      if q374.1 = q378.1 then
        (mL_law_b1082 F L xs r v1 v2 v3 q378.2)
      else
        (none)) else if (t29 &&& (31 : Int32)) = (8 : Int32) then ((gSc L xs (v3 + (1 : Int32))).bind fun t391 =>
      (gO 6 v1 w).bind fun a392 =>
      (mX6_order F a392 t391 w).bind fun q392 =>
      (gSc L xs (v3 + (1 : Int32))).bind fun t400 =>
      (gO 7 v2 q392.2).bind fun a401 =>
      (mX7_order F a401 t400 q392.2).bind fun q401 =>
      if q392.1 = q401.1 then
        (mL_law_b1082 F L xs r v1 v2 v3 q401.2)
      else
        (none)) else if (t29 &&& (31 : Int32)) = (9 : Int32) then ((gSc L xs (v3 + (1 : Int32))).bind fun t414 =>
      (gSc L xs (v3 + (2 : Int32))).bind fun t419 =>
      (gSc L xs (v3 + (3 : Int32))).bind fun t424 =>
      (gO 6 v1 w).bind fun a425 =>
      (mX6_product F a425 t414 t419 t424 w).bind fun q425 =>
      (gSc L xs (v3 + (1 : Int32))).bind fun t433 =>
      (gSc L xs (v3 + (2 : Int32))).bind fun t438 =>
      (gSc L xs (v3 + (3 : Int32))).bind fun t443 =>
      (gO 7 v2 q425.2).bind fun a444 =>
      (mX7_product F a444 t433 t438 t443 q425.2).bind fun q444 =>
      if q425.1 = q444.1 then
        (mL_law_b1082 F L xs r v1 v2 v3 q444.2)
      else
        (none)) else if (t29 &&& (31 : Int32)) = (10 : Int32) then ((gSc L xs (v3 + (1 : Int32))).bind fun t457 =>
      (gSc L xs (v3 + (2 : Int32))).bind fun t462 =>
      (gSc L xs (v3 + (3 : Int32))).bind fun t467 =>
      (gO 6 v1 w).bind fun a468 =>
      (mX6_element F a468 t457 t462 t467 w).bind fun q468 =>
      (gSc L xs (v3 + (1 : Int32))).bind fun t476 =>
      (gSc L xs (v3 + (2 : Int32))).bind fun t481 =>
      (gSc L xs (v3 + (3 : Int32))).bind fun t486 =>
      (gO 7 v2 q468.2).bind fun a487 =>
      (mX7_element F a487 t476 t481 t486 q468.2).bind fun q487 =>
      if q468.1 = q487.1 then
        (mL_law_b1082 F L xs r v1 v2 v3 q487.2)
      else
        (none)) else if (t29 &&& (31 : Int32)) = (11 : Int32) then ((gSc L xs (v3 + (1 : Int32))).bind fun t500 =>
      (gSc L xs (v3 + (2 : Int32))).bind fun t505 =>
      (gO 6 v1 w).bind fun a506 =>
      (mX6_about F a506 t500 t505 w).bind fun q506 =>
      (gSc L xs (v3 + (1 : Int32))).bind fun t514 =>
      (gSc L xs (v3 + (2 : Int32))).bind fun t519 =>
      (gO 7 v2 q506.2).bind fun a520 =>
      (mX7_about F a520 t514 t519 q506.2).bind fun q520 =>
      if q506.1 = q520.1 then
        (mL_law_b1082 F L xs r v1 v2 v3 q520.2)
      else
        (none)) else if (t29 &&& (31 : Int32)) = (12 : Int32) then ((gSc L xs (v3 + (1 : Int32))).bind fun t533 =>
      (gSc L xs (v3 + (2 : Int32))).bind fun t538 =>
      (gSc L xs (v3 + (3 : Int32))).bind fun t543 =>
      (gO 6 v1 w).bind fun a544 =>
      (mX6_made F a544 t533 t538 t543 w).bind fun q544 =>
      (gSc L xs (v3 + (1 : Int32))).bind fun t552 =>
      (gSc L xs (v3 + (2 : Int32))).bind fun t557 =>
      (gSc L xs (v3 + (3 : Int32))).bind fun t562 =>
      (gO 7 v2 q544.2).bind fun a563 =>
      (mX7_made F a563 t552 t557 t562 q544.2).bind fun q563 =>
      if q544.1 = q563.1 then
        (mL_law_b1082 F L xs r v1 v2 v3 q563.2)
      else
        (none)) else if (t29 &&& (31 : Int32)) = (13 : Int32) then ((gSc L xs (v3 + (1 : Int32))).bind fun t576 =>
      (gSc L xs (v3 + (2 : Int32))).bind fun t581 =>
      (gSc L xs (v3 + (3 : Int32))).bind fun t586 =>
      (gO 6 v1 w).bind fun a587 =>
      (mX6_same F a587 t576 t581 t586 w).bind fun q587 =>
      (gSc L xs (v3 + (1 : Int32))).bind fun t595 =>
      (gSc L xs (v3 + (2 : Int32))).bind fun t600 =>
      (gSc L xs (v3 + (3 : Int32))).bind fun t605 =>
      (gO 7 v2 q587.2).bind fun a606 =>
      (mX7_same F a606 t595 t600 t605 q587.2).bind fun q606 =>
      if q587.1 = q606.1 then
        (mL_law_b1082 F L xs r v1 v2 v3 q606.2)
      else
        (none)) else if (t29 &&& (31 : Int32)) = (14 : Int32) then ((gSc L xs (v3 + (1 : Int32))).bind fun t619 =>
      (gSc L xs (v3 + (2 : Int32))).bind fun t624 =>
      (gSc L xs (v3 + (3 : Int32))).bind fun t629 =>
      (gO 6 v1 w).bind fun a630 =>
      (mX6_module F a630 t619 t624 t629 w).bind fun q630 =>
      (gSc L xs (v3 + (1 : Int32))).bind fun t638 =>
      (gSc L xs (v3 + (2 : Int32))).bind fun t643 =>
      (gSc L xs (v3 + (3 : Int32))).bind fun t648 =>
      (gO 7 v2 q630.2).bind fun a649 =>
      (mX7_module F a649 t638 t643 t648 q630.2).bind fun q649 =>
      if q630.1 = q649.1 then
        (mL_law_b1082 F L xs r v1 v2 v3 q649.2)
      else
        (none)) else if (t29 &&& (31 : Int32)) = (15 : Int32) then ((gSc L xs (v3 + (1 : Int32))).bind fun t662 =>
      (gSc L xs (v3 + (2 : Int32))).bind fun t667 =>
      (gSc L xs (v3 + (3 : Int32))).bind fun t672 =>
      (gSc L xs (v3 + (4 : Int32))).bind fun t677 =>
      (gSc L xs (v3 + (5 : Int32))).bind fun t682 =>
      (gSc L xs (v3 + (6 : Int32))).bind fun t688 =>
      (gO 6 v1 w).bind fun a689 =>
      (mX6_acts F a689 t662 t667 t672 t677 t682 t688 w).bind fun q689 =>
      (gSc L xs (v3 + (1 : Int32))).bind fun t697 =>
      (gSc L xs (v3 + (2 : Int32))).bind fun t702 =>
      (gSc L xs (v3 + (3 : Int32))).bind fun t707 =>
      (gSc L xs (v3 + (4 : Int32))).bind fun t712 =>
      (gSc L xs (v3 + (5 : Int32))).bind fun t717 =>
      (gSc L xs (v3 + (6 : Int32))).bind fun t723 =>
      (gO 7 v2 q689.2).bind fun a724 =>
      (mX7_acts F a724 t697 t702 t707 t712 t717 t723 q689.2).bind fun q724 =>
      if q689.1 = q724.1 then
        (mL_law_b1082 F L xs r v1 v2 v3 q724.2)
      else
        (none)) else if (t29 &&& (31 : Int32)) = (16 : Int32) then ((gSc L xs (v3 + (1 : Int32))).bind fun t737 =>
      (gO 6 v1 w).bind fun a738 =>
      (mX6_sound F a738 t737 w).bind fun q738 =>
      (gSc L xs (v3 + (1 : Int32))).bind fun t746 =>
      (gO 7 v2 q738.2).bind fun a747 =>
      (mX7_sound F a747 t746 q738.2).bind fun q747 =>
      if q738.1 = q747.1 then
        (mL_law_b1082 F L xs r v1 v2 v3 q747.2)
      else
        (none)) else if (t29 &&& (31 : Int32)) = (17 : Int32) then ((gSc L xs (v3 + (1 : Int32))).bind fun t760 =>
      (gSc L xs (v3 + (2 : Int32))).bind fun t765 =>
      (gO 6 v1 w).bind fun a766 =>
      (mX6_dimension F a766 t760 t765 w).bind fun q766 =>
      (gSc L xs (v3 + (1 : Int32))).bind fun t774 =>
      (gSc L xs (v3 + (2 : Int32))).bind fun t779 =>
      (gO 7 v2 q766.2).bind fun a780 =>
      (mX7_dimension F a780 t774 t779 q766.2).bind fun q780 =>
      if q766.1 = q780.1 then
        (mL_law_b1082 F L xs r v1 v2 v3 q780.2)
      else
        (none)) else if (t29 &&& (31 : Int32)) = (18 : Int32) then ((gSc L xs (v3 + (1 : Int32))).bind fun t793 =>
      (gSc L xs (v3 + (2 : Int32))).bind fun t798 =>
      (gSc L xs (v3 + (3 : Int32))).bind fun t803 =>
      (gSc L xs (v3 + (4 : Int32))).bind fun t808 =>
      (gSc L xs (v3 + (5 : Int32))).bind fun t813 =>
      (gO 6 v1 w).bind fun a814 =>
      (mX6_twist F a814 t793 t798 t803 t808 t813 w).bind fun q814 =>
      (gSc L xs (v3 + (1 : Int32))).bind fun t822 =>
      (gSc L xs (v3 + (2 : Int32))).bind fun t827 =>
      (gSc L xs (v3 + (3 : Int32))).bind fun t832 =>
      (gSc L xs (v3 + (4 : Int32))).bind fun t837 =>
      (gSc L xs (v3 + (5 : Int32))).bind fun t842 =>
      (gO 7 v2 q814.2).bind fun a843 =>
      (mX7_twist F a843 t822 t827 t832 t837 t842 q814.2).bind fun q843 =>
      if q814.1 = q843.1 then
        (mL_law_b1082 F L xs r v1 v2 v3 q843.2)
      else
        (none)) else if (t29 &&& (31 : Int32)) = (19 : Int32) then ((gSc L xs (v3 + (1 : Int32))).bind fun t856 =>
      (gSc L xs (v3 + (2 : Int32))).bind fun t861 =>
      (gO 6 v1 w).bind fun a862 =>
      (mX6_over F a862 t856 t861 w).bind fun q862 =>
      (gSc L xs (v3 + (1 : Int32))).bind fun t870 =>
      (gSc L xs (v3 + (2 : Int32))).bind fun t875 =>
      (gO 7 v2 q862.2).bind fun a876 =>
      (mX7_over F a876 t870 t875 q862.2).bind fun q876 =>
      if q862.1 = q876.1 then
        (mL_law_b1082 F L xs r v1 v2 v3 q876.2)
      else
        (none)) else if (t29 &&& (31 : Int32)) = (20 : Int32) then ((gSc L xs (v3 + (1 : Int32))).bind fun t889 =>
      (gSc L xs (v3 + (2 : Int32))).bind fun t894 =>
      (gSc L xs (v3 + (3 : Int32))).bind fun t899 =>
      (gO 6 v1 w).bind fun a900 =>
      (mX6_classOf F a900 t889 t894 t899 w).bind fun q900 =>
      (gSc L xs (v3 + (1 : Int32))).bind fun t908 =>
      (gSc L xs (v3 + (2 : Int32))).bind fun t913 =>
      (gSc L xs (v3 + (3 : Int32))).bind fun t918 =>
      (gO 7 v2 q900.2).bind fun a919 =>
      (mX7_classOf F a919 t908 t913 t918 q900.2).bind fun q919 =>
      if q900.1 = q919.1 then
        (mL_law_b1082 F L xs r v1 v2 v3 q919.2)
      else
        (none)) else if (t29 &&& (31 : Int32)) = (21 : Int32) then ((gSc L xs (v3 + (1 : Int32))).bind fun t932 =>
      (gSc L xs (v3 + (2 : Int32))).bind fun t937 =>
      (gO 6 v1 w).bind fun a938 =>
      (mX6_parts F a938 t932 t937 w).bind fun q938 =>
      (gSc L xs (v3 + (1 : Int32))).bind fun t946 =>
      (gSc L xs (v3 + (2 : Int32))).bind fun t951 =>
      (gO 7 v2 q938.2).bind fun a952 =>
      (mX7_parts F a952 t946 t951 q938.2).bind fun q952 =>
      if q938.1 = q952.1 then
        (mL_law_b1082 F L xs r v1 v2 v3 q952.2)
      else
        (none)) else if (t29 &&& (31 : Int32)) = (22 : Int32) then ((gSc L xs (v3 + (1 : Int32))).bind fun t965 =>
      (gSc L xs (v3 + (2 : Int32))).bind fun t970 =>
      (gSc L xs (v3 + (3 : Int32))).bind fun t975 =>
      (gO 6 v1 w).bind fun a976 =>
      (mX6_sum F a976 t965 t970 t975 w).bind fun q976 =>
      (gSc L xs (v3 + (1 : Int32))).bind fun t984 =>
      (gSc L xs (v3 + (2 : Int32))).bind fun t989 =>
      (gSc L xs (v3 + (3 : Int32))).bind fun t994 =>
      (gO 7 v2 q976.2).bind fun a995 =>
      (mX7_sum F a995 t984 t989 t994 q976.2).bind fun q995 =>
      if q976.1 = q995.1 then
        (mL_law_b1082 F L xs r v1 v2 v3 q995.2)
      else
        (none)) else if (t29 &&& (31 : Int32)) = (23 : Int32) then ((gSc L xs (v3 + (1 : Int32))).bind fun t1008 =>
      (gSc L xs (v3 + (2 : Int32))).bind fun t1013 =>
      (gSc L xs (v3 + (3 : Int32))).bind fun t1018 =>
      (gO 6 v1 w).bind fun a1019 =>
      (mX6_times F a1019 t1008 t1013 t1018 w).bind fun q1019 =>
      (gSc L xs (v3 + (1 : Int32))).bind fun t1027 =>
      (gSc L xs (v3 + (2 : Int32))).bind fun t1032 =>
      (gSc L xs (v3 + (3 : Int32))).bind fun t1037 =>
      (gO 7 v2 q1019.2).bind fun a1038 =>
      (mX7_times F a1038 t1027 t1032 t1037 q1019.2).bind fun q1038 =>
      if q1019.1 = q1038.1 then
        (mL_law_b1082 F L xs r v1 v2 v3 q1038.2)
      else
        (none)) else if (t29 &&& (31 : Int32)) = (24 : Int32) then ((gSc L xs (v3 + (1 : Int32))).bind fun t1051 =>
      (gO 6 v1 w).bind fun a1052 =>
      (mX6_count F a1052 t1051 w).bind fun q1052 =>
      (gSc L xs (v3 + (1 : Int32))).bind fun t1060 =>
      (gO 7 v2 q1052.2).bind fun a1061 =>
      (mX7_count F a1061 t1060 q1052.2).bind fun q1061 =>
      if q1052.1 = q1061.1 then
        (mL_law_b1082 F L xs r v1 v2 v3 q1061.2)
      else
        (none)) else if (t29 &&& (31 : Int32)) = (25 : Int32) then ((gO 6 v1 w).bind fun a1070 =>
      (mX6_leave F a1070 w).bind fun q1070 =>
      (gO 7 v2 q1070.2).bind fun a1074 =>
      (mX7_leave F a1074 q1070.2).bind fun q1074 =>
      if q1070.1 = q1074.1 then
        (mL_law_b1082 F L xs r v1 v2 v3 q1074.2)
      else
        (none)) else (mL_law_b1082 F L xs r v1 v2 v3 w))
def mL_law_l18 (F : Nat) (L : Nat) (xs : Nat → Int32) : Nat → (Option Nat) → (Option Nat) → Int32 → gW → Option (Unit)
  | 0, _, _, _, _ => none
  | n + 1, v1, v2, v3, w => mL_law_h18 F L xs (mL_law_l18 F L xs n) v1 v2 v3 w
def mL_law (F : Nat) (L : Nat) (xs : Nat → Int32) (w : gW) : Option Unit :=
  (mX6_init F w.2 (gNO 6 [.null, .null, .null, .int 0, .int 0, .null, .null] w)).bind fun q4 =>
  (mX7_init F q4.2 (gNO 7 [.int 0, .null, .null, .null, .null, .null, .null, .int 0, .null, .null, .null, .null, .null, .null, .int 0, .long 0, .long 0, .null, .null, .null, .null, .null, .null, .int 0, .int 0, .null, .null, .null, .int 0, .int 0, .null, .null, .null, .null, .null, .int 0, .int 0, .int 0, .int 0, .int 0] q4)).bind fun q12 =>
  mL_law_l18 F L xs 513 (some w.2) (some q4.2) (0 : Int32) q12
