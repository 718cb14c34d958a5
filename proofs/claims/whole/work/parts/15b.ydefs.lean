/-! THE CLASS'S METHODS OVER WHOLE NUMBERS (laid by a program of mine) -/
def zJ9_floorMod_7cf53 (F : Nat) (C : yC) (v0 : Int) (v1 : Int) (w : zO) : Option (Int × zO) :=
  zRem v0 v1 fun t2 =>
  zLe (0 : Int) (Int32.ofInt v0 ^^^ Int32.ofInt v1).toInt
  (some (t2, w))
  (zEq t2 (0 : Int)
    (some (t2, w))
    (some ((t2 + v1), w)))
def zX0_entry (F : Nat) (C : yC) (v0 : Nat) (v1 : Int) (v2 : Int) (v3 : Int) (w : zO) : Option (Int × zO) :=
  yAR C 0 (some v0) <|
  yLd C 0 0 32 (some v0) ((((v1 * (2 : Int)) + v2) * (2 : Int)) + v3) w fun t13 =>
  some (t13, w)
def zX0_isNumber_b16 (F : Nat) (C : yC) (w : zO) : Option (Int × zO) :=
  some ((0 : Int), w)
def zX0_isNumber (F : Nat) (C : yC) (v0 : Nat) (v1 : Int) (w : zO) : Option (Int × zO) :=
  zLt v1 (0 : Int)
  (zX0_isNumber_b16 F C w)
  (yFI C 0 3 (some v0) w fun t6 =>
    zLe t6 v1
    (zX0_isNumber_b16 F C w)
    (some ((1 : Int), w)))
def zX0_place (F : Nat) (C : yC) (v0 : Nat) (v1 : Int) (v2 : Int) (v3 : Int) (w : zO) : Option (Int × zO) :=
  yFR C 0 2 (some v0) fun t4 =>
  yFI C 2 7 t4 w fun t7 =>
  yFI C 0 4 (some v0) w fun t18 =>
  some (((((((v1 - (1 : Int)) * (t7 - (1 : Int))) + v2) - (1 : Int)) * t18) + v3), w)
def zX0_places (F : Nat) (C : yC) (v0 : Nat) (w : zO) : Option (Int × zO) :=
  yFR C 0 2 (some v0) fun t1 =>
  yFI C 2 7 t1 w fun t4 =>
  yFR C 0 2 (some v0) fun t10 =>
  yFI C 2 7 t10 w fun t13 =>
  yFI C 0 4 (some v0) w fun t20 =>
  some ((((t4 - (1 : Int)) * (t13 - (1 : Int))) * t20), w)
def zX0_put (F : Nat) (C : yC) (v0 : Nat) (v1 : Int) (v2 : Int) (v3 : Int) (v4 : Int) (v5 : Int) (w : zO) : Option zO :=
  yAR C 0 (some v0) <|
  ySt C 0 0 32 (some v0) ((v1 * (2 : Int)) * (2 : Int)) v2 w fun w14 =>
  yAR C 0 (some v0) <|
  ySt C 0 0 32 (some v0) (((v1 * (2 : Int)) * (2 : Int)) + (1 : Int)) v3 w14 fun w24 =>
  yAR C 0 (some v0) <|
  ySt C 0 0 32 (some v0) (((v1 * (2 : Int)) * (2 : Int)) + (2 : Int)) v4 w24 fun w35 =>
  yAR C 0 (some v0) <|
  ySt C 0 0 32 (some v0) (((v1 * (2 : Int)) * (2 : Int)) + (3 : Int)) v5 w35 fun w46 =>
  yPI C 0 6 (some v0) (0 : Int) w46 fun w49 =>
  some w49
def zX1_firstNotZero_h2 (F : Nat) (C : yC) (r : Nat → Option Nat → Int → zO → Option (Int × zO)) (v0 : Nat) (v1 : Option Nat) (v2 : Int) (w : zO) : Option (Int × zO) :=
  yFI C 1 3 (some v0) w fun t4 =>
  zLe t4 v2
  (some ((-1 : Int), w))
  (yLd C 5 0 98 v1 v2 w fun t12 =>
    zEq t12 (0 : Int)
    (r v0 v1 (v2 + (1 : Int)) w)
    (some (v2, w)))
def zX1_firstNotZero_l2 (F : Nat) (C : yC)  : Nat → Nat → Option Nat → Int → zO → Option (Int × zO)
  | 0, _, _, _, _ => none
  | n + 1, v0, v1, v2, w => zX1_firstNotZero_h2 F C (zX1_firstNotZero_l2 F C  n)  v0 v1 v2 w
def zX1_firstNotZero (F : Nat) (C : yC) (v0 : Nat) (v1 : Option Nat) (w : zO) : Option (Int × zO) :=
  zX1_firstNotZero_l2 F C F v0 v1 (0 : Int) w
def zX1_leadOf (F : Nat) (C : yC) (v0 : Nat) (v1 : Int) (w : zO) : Option (Int × zO) :=
  yAR C 1 (some v0) <|
  yLE C 1 1 1 (some v0) v1 w fun t5 =>
  some (t5, w)
def zX1_leadsAt (F : Nat) (C : yC) (v0 : Nat) (v1 : Int) (w : zO) : Option (Int × zO) :=
  yAR C 1 (some v0) <|
  yLd C 1 2 98 (some v0) v1 w fun t5 =>
  zLt t5 (0 : Int)
  (some ((0 : Int), w))
  (some ((1 : Int), w))
def zX1_number (F : Nat) (C : yC) (v0 : Nat) (v1 : Int) (v2 : Int) (w : zO) : Option (Int × zO) :=
  yAR C 1 (some v0) <|
  yLE C 1 0 98 (some v0) ((v1 * (98 : Int)) + v2) w fun t10 =>
  some (t10, w)
def zX2_has_b16 (F : Nat) (C : yC) (w : zO) : Option (Int × zO) :=
  some ((0 : Int), w)
def zX2_has (F : Nat) (C : yC) (v0 : Nat) (v1 : Int) (w : zO) : Option (Int × zO) :=
  zLt v1 (0 : Int)
  (zX2_has_b16 F C w)
  (yFI C 2 7 (some v0) w fun t6 =>
    zLe t6 v1
    (zX2_has_b16 F C w)
    (some ((1 : Int), w)))
def zX2_mul (F : Nat) (C : yC) (v0 : Nat) (v1 : Int) (v2 : Int) (w : zO) : Option (Int × zO) :=
  yAR C 2 (some v0) <|
  yLd C 2 0 2304 (some v0) ((v1 * (48 : Int)) + v2) w fun t10 =>
  some (t10, w)
def zX2_set (F : Nat) (C : yC) (v0 : Nat) (v1 : Int) (v2 : Int) (v3 : Int) (w : zO) : Option zO :=
  yAR C 2 (some v0) <|
  ySt C 2 0 2304 (some v0) ((v1 * (48 : Int)) + v2) v3 w fun w11 =>
  some w11
def zX3_nextOfPeriod_h3 (F : Nat) (C : yC) (r : Option Nat → Int → Int → zO → Option (Int × zO)) (v1 : Option Nat) (v2 : Int) (v4 : Int) (w : zO) : Option (Int × zO) :=
  yFI C 2 7 v1 w fun t6 =>
  zLe t6 v4
  (some ((-1 : Int), w))
  (yAR C 2 v1 <|
    yLd C 2 4 48 v1 v4 w fun t18 =>
    zEq t18 v2
    (some (v4, w))
    (r v1 v2 (v4 + (1 : Int)) w))
def zX3_nextOfPeriod_l3 (F : Nat) (C : yC)  : Nat → Option Nat → Int → Int → zO → Option (Int × zO)
  | 0, _, _, _, _ => none
  | n + 1, v1, v2, v4, w => zX3_nextOfPeriod_h3 F C (zX3_nextOfPeriod_l3 F C  n)  v1 v2 v4 w
def zX3_nextOfPeriod (F : Nat) (C : yC) (v0 : Nat) (v1 : Option Nat) (v2 : Int) (v3 : Int) (w : zO) : Option (Int × zO) :=
  zX3_nextOfPeriod_l3 F C F v1 v2 v3 w
def zX4_faultOfReading (F : Nat) (C : yC) (v0 : Nat) (v1 : Int) (v2 : Int) (w : zO) : Option (Int × zO) :=
  yFI C 4 1 (some v0) w fun t1 =>
  zEq t1 (-1 : Int)
  (some ((1 : Int), w))
  (yFI C 4 1 (some v0) w fun t11 =>
    zEq t11 v1
    (yFI C 4 2 (some v0) w fun t21 =>
      zLe v2 t21
      (some ((0 : Int), w))
      (some ((2 : Int), w)))
    (some ((3 : Int), w)))
def zX4_put_b18 (F : Nat) (C : yC) (s0 : Option Nat) (s1 : Int) (s2 : Int) (w : zO) : Option zO :=
  ySt C 4 0 144 s0 s1 s2 w fun w18 =>
  some w18
def zX4_put (F : Nat) (C : yC) (v0 : Nat) (v1 : Int) (v2 : Int) (w : zO) : Option zO :=
  yAR C 4 (some v0) <|
  yFI C 4 1 (some v0) w fun t6 =>
  zEq t6 (0 : Int)
  (zX4_put_b18 F C (some v0) v1 ((Int32.ofInt v2).toInt8.toInt32).toInt w)
  (zX4_put_b18 F C (some v0) v1 v2 w)
def zX5_dimensionOf (F : Nat) (C : yC) (v0 : Nat) (v1 : Int) (w : zO) : Option (Int × zO) :=
  zEq v1 (0 : Int)
  (yFI C 5 3 (some v0) w fun t41 =>
    some (t41, w))
  (zEq v1 (1 : Int)
    (yFI C 5 5 (some v0) w fun t46 =>
      yFR C 5 1 (some v0) fun t50 =>
      yFI C 1 5 t50 w fun t53 =>
      some ((t46 - t53), w))
    (zEq v1 (2 : Int)
      (yFI C 5 4 (some v0) w fun t59 =>
        some (t59, w))
      (zEq v1 (3 : Int)
        (yFR C 5 1 (some v0) fun t64 =>
          yFI C 1 5 t64 w fun t67 =>
          yFR C 5 2 (some v0) fun t71 =>
          yFI C 1 5 t71 w fun t74 =>
          some ((t67 + t74), w))
        (zEq v1 (4 : Int)
          (yFR C 5 1 (some v0) fun t80 =>
            yFI C 1 5 t80 w fun t83 =>
            some (t83, w))
          (zEq v1 (5 : Int)
            (yFR C 5 2 (some v0) fun t88 =>
              yFI C 1 5 t88 w fun t91 =>
              some (t91, w))
            (yFI C 5 5 (some v0) w fun t96 =>
              yFR C 5 1 (some v0) fun t100 =>
              yFI C 1 5 t100 w fun t103 =>
              yFI C 5 4 (some v0) w fun t108 =>
              some (((t96 - t103) - t108), w)))))))
def zX6_isLane_b9 (F : Nat) (C : yC) (w : zO) : Option (Int × zO) :=
  some ((1 : Int), w)
def zX6_isLane (F : Nat) (C : yC) (v0 : Int) (w : zO) : Option (Int × zO) :=
  zEq v0 (0 : Int)
  (zX6_isLane_b9 F C w)
  (zEq v0 (1 : Int)
    (zX6_isLane_b9 F C w)
    (some ((0 : Int), w)))
def zX6_power_h4 (F : Nat) (C : yC) (r : Int → Int → Int → Int → zO → Option (Int × zO)) (v0 : Int) (v1 : Int) (v2 : Int) (v3 : Int) (w : zO) : Option (Int × zO) :=
  zLe v1 v3
  (some (v2, w))
  (r v0 v1 (v2 * v0) (v3 + (1 : Int)) w)
def zX6_power_l4 (F : Nat) (C : yC)  : Nat → Int → Int → Int → Int → zO → Option (Int × zO)
  | 0, _, _, _, _, _ => none
  | n + 1, v0, v1, v2, v3, w => zX6_power_h4 F C (zX6_power_l4 F C  n)  v0 v1 v2 v3 w
def zX6_power (F : Nat) (C : yC) (v0 : Int) (v1 : Int) (w : zO) : Option (Int × zO) :=
  zX6_power_l4 F C F v0 v1 (1 : Int) (0 : Int) w
def zX6_quotient (F : Nat) (C : yC) (v0 : Int) (v1 : Int) (w : zO) : Option (Int × zO) :=
  zLe v1 (0 : Int)
  (some ((0 : Int), w))
  (zDiv v0 v1 fun t6 =>
    some (t6, w))
def zX6_refusalOf (F : Nat) (C : yC) (v0 : Option Nat) (v1 : Int) (w : zO) : Option (Int × zO) :=
  zLe (0 : Int) v1
  (yFI C 0 6 v0 w fun t7 =>
    zEq t7 (0 : Int)
    (some ((-2 : Int), w))
    (yFR C 0 1 v0 fun t18 =>
      yFI C 5 6 t18 w fun t21 =>
      zLe t21 v1
      (some ((-1 : Int), w))
      (some ((0 : Int), w))))
  (some ((-1 : Int), w))
def zX1_begin (F : Nat) (C : yC) (v0 : Nat) (v1 : Int) (v2 : Int) (w : zO) : Option zO :=
  yPI C 1 3 (some v0) v1 w fun w2 =>
  yPI C 1 4 (some v0) v2 w2 fun w7 =>
  yPI C 1 5 (some v0) (0 : Int) w7 fun w12 =>
  yAR C 1 (some v0) <|
  yFill C 1 2 98 (some v0) (-1 : Int) w12 fun q20 =>
  some q20
def zX1_leadingNumber (F : Nat) (C : yC) (v0 : Nat) (v1 : Int) (v2 : Int) (w : zO) : Option (Int × zO) :=
  yAR C 1 (some v0) <|
  yLd C 1 2 98 (some v0) v1 w fun t6 =>
  yO C 1 (some v0) fun a8 =>
  yC1 (zX1_number F C a8 t6 v2 w) fun q8_1 q8_2 =>
  some (q8_1, q8_2)
def zX3_goesWithProducts_h17 (F : Nat) (C : yC) (r : Nat → Option Nat → Option Nat → Int → Int → zO → Option (Int × zO)) (k97 : Nat → Option Nat → Option Nat → zO → Option (Int × zO)) (v0 : Nat) (v1 : Option Nat) (v2 : Option Nat) (v3 : Int) (v4 : Int) (w : zO) : Option (Int × zO) :=
  yFI C 2 7 v1 w fun t20 =>
  zLe t20 v4
  (k97 v0 v1 v2 w)
  (yAR C 3 (some v0) <|
    yAR C 3 (some v0) <|
    yLd C 3 1 48 (some v0) v4 w fun t37 =>
    yLd C 3 3 48 (some v0) t37 w fun t38 =>
    yAR C 3 (some v0) <|
    yAR C 3 (some v0) <|
    yLd C 3 2 48 (some v0) v4 w fun t49 =>
    yLd C 3 5 5 (some v0) t49 w fun t50 =>
    yO C 2 v2 fun a51 =>
    yC1 (zX2_mul F C a51 t38 t50 w) fun q51_1 q51_2 =>
    yAR C 3 (some v0) <|
    yLd C 3 4 48 (some v0) q51_1 q51_2 fun t62 =>
    zEq t62 v3
    (some ((0 : Int), q51_2))
    (yAR C 3 (some v0) <|
      ySt C 3 4 48 (some v0) q51_1 v3 q51_2 fun w76 =>
      yAR C 3 (some v0) <|
      yAR C 3 (some v0) <|
      yLd C 3 0 48 (some v0) v4 w76 fun t87 =>
      ySt C 3 3 48 (some v0) t87 q51_1 w76 fun w90 =>
      r v0 v1 v2 v3 (v4 + (1 : Int)) w90))
def zX3_goesWithProducts_l17 (F : Nat) (C : yC) (k97 : Nat → Option Nat → Option Nat → zO → Option (Int × zO)) : Nat → Nat → Option Nat → Option Nat → Int → Int → zO → Option (Int × zO)
  | 0, _, _, _, _, _, _ => none
  | n + 1, v0, v1, v2, v3, v4, w => zX3_goesWithProducts_h17 F C (zX3_goesWithProducts_l17 F C k97 n) k97 v0 v1 v2 v3 v4 w
def zX3_goesWithProducts_h112 (F : Nat) (C : yC) (r : Nat → Option Nat → Option Nat → Int → Int → zO → Option (Int × zO)) (k168 : Nat → Option Nat → Option Nat → Int → zO → Option (Int × zO)) (v0 : Nat) (v1 : Option Nat) (v2 : Option Nat) (v4 : Int) (v5 : Int) (w : zO) : Option (Int × zO) :=
  yFI C 3 7 (some v0) w fun t115 =>
  zLe t115 v5
  (k168 v0 v1 v2 v4 w)
  (yAR C 3 (some v0) <|
    yLd C 3 3 48 (some v0) v4 w fun t128 =>
    yAR C 3 (some v0) <|
    yLd C 3 5 5 (some v0) v5 w fun t135 =>
    yO C 2 v2 fun a136 =>
    yC1 (zX2_mul F C a136 t128 t135 w) fun q136_1 q136_2 =>
    yAR C 3 (some v0) <|
    yAR C 2 v1 <|
    yLd C 2 5 5 v1 v5 q136_2 fun t152 =>
    yO C 2 v1 fun a153 =>
    yC1 (zX2_mul F C a153 v4 t152 q136_2) fun q153_1 q153_2 =>
    yLd C 3 3 48 (some v0) q153_1 q153_2 fun t156 =>
    zEq q136_1 t156
    (r v0 v1 v2 v4 (v5 + (1 : Int)) q153_2)
    (some ((0 : Int), q153_2)))
def zX3_goesWithProducts_l112 (F : Nat) (C : yC) (k168 : Nat → Option Nat → Option Nat → Int → zO → Option (Int × zO)) : Nat → Nat → Option Nat → Option Nat → Int → Int → zO → Option (Int × zO)
  | 0, _, _, _, _, _, _ => none
  | n + 1, v0, v1, v2, v4, v5, w => zX3_goesWithProducts_h112 F C (zX3_goesWithProducts_l112 F C k168 n) k168 v0 v1 v2 v4 v5 w
def zX3_goesWithProducts_h100 (F : Nat) (C : yC) (r : Nat → Option Nat → Option Nat → Int → zO → Option (Int × zO)) (v0 : Nat) (v1 : Option Nat) (v2 : Option Nat) (v4 : Int) (w : zO) : Option (Int × zO) :=
  yFI C 2 7 v1 w fun t103 =>
  zLe t103 v4
  (some ((1 : Int), w))
  (zX3_goesWithProducts_l112 F C (fun (v0 : Nat) (v1 : Option Nat) (v2 : Option Nat) (v4 : Int) (w : zO) =>
      r v0 v1 v2 (v4 + (1 : Int)) w) F v0 v1 v2 v4 (0 : Int) w)
def zX3_goesWithProducts_l100 (F : Nat) (C : yC)  : Nat → Nat → Option Nat → Option Nat → Int → zO → Option (Int × zO)
  | 0, _, _, _, _, _ => none
  | n + 1, v0, v1, v2, v4, w => zX3_goesWithProducts_h100 F C (zX3_goesWithProducts_l100 F C  n)  v0 v1 v2 v4 w
def zX3_goesWithProducts (F : Nat) (C : yC) (v0 : Nat) (v1 : Option Nat) (v2 : Option Nat) (v3 : Int) (w : zO) : Option (Int × zO) :=
  yAR C 3 (some v0) <|
  ySt C 3 3 48 (some v0) (0 : Int) (0 : Int) w fun w6 =>
  yAR C 3 (some v0) <|
  ySt C 3 4 48 (some v0) (0 : Int) v3 w6 fun w13 =>
  zX3_goesWithProducts_l17 F C (fun (v0 : Nat) (v1 : Option Nat) (v2 : Option Nat) (w : zO) =>
    zX3_goesWithProducts_l100 F C F v0 v1 v2 (0 : Int) w) F v0 v1 v2 v3 (1 : Int) w13
def zX3_layPaths_b125 (F : Nat) (C : yC) (r : Nat → Option Nat → Int64 → Int → Int → Int → zO → Option zO) (k131 : Nat → Option Nat → Int64 → Int → Int → zO → Option zO) (v0 : Nat) (v1 : Option Nat) (v2 : Int64) (v4 : Int) (v5 : Int) (v6 : Int) (w : zO) : Option zO :=
  r v0 v1 v2 v4 v5 (v6 + (1 : Int)) w
def zX3_layPaths_h34 (F : Nat) (C : yC) (r : Nat → Option Nat → Int64 → Int → Int → Int → zO → Option zO) (k131 : Nat → Option Nat → Int64 → Int → Int → zO → Option zO) (v0 : Nat) (v1 : Option Nat) (v2 : Int64) (v4 : Int) (v5 : Int) (v6 : Int) (w : zO) : Option zO :=
  yFI C 3 7 (some v0) w fun t37 =>
  zLe t37 v6
  (k131 v0 v1 v2 v4 v5 w)
  (yAR C 3 (some v0) <|
    yLd C 3 0 48 (some v0) v5 w fun t50 =>
    yAR C 2 v1 <|
    yLd C 2 5 5 v1 v6 w fun t57 =>
    yO C 2 v1 fun a58 =>
    yC1 (zX2_mul F C a58 t50 t57 w) fun q58_1 q58_2 =>
    if (lg_cmp ((v2 >>> ((Int32.ofInt q58_1).toInt64 &&& (63 : Int64))) &&& (1 : Int64)) (0 : Int64)) = 0 then
    (yFI C 2 7 v1 q58_2 fun t77 =>
      zLe t77 v4
      (zX3_layPaths_b125 F C r k131 v0 v1 v2 v4 v5 v6 q58_2)
      (yAR C 3 (some v0) <|
        ySt C 3 0 48 (some v0) v4 q58_1 q58_2 fun w98 =>
        yAR C 3 (some v0) <|
        yAR C 3 (some v0) <|
        yLd C 3 0 48 (some v0) v5 w98 fun t111 =>
        ySt C 3 1 48 (some v0) v4 t111 w98 fun w112 =>
        yAR C 3 (some v0) <|
        ySt C 3 2 48 (some v0) v4 v6 w112 fun w121 =>
        zX3_layPaths_b125 F C r k131 v0 v1 (v2 ||| ((1 : Int64) <<< ((Int32.ofInt q58_1).toInt64 &&& (63 : Int64)))) (v4 + (1 : Int)) v5 v6 w121))
else
    (zX3_layPaths_b125 F C r k131 v0 v1 v2 v4 v5 v6 q58_2))
def zX3_layPaths_l34 (F : Nat) (C : yC) (k131 : Nat → Option Nat → Int64 → Int → Int → zO → Option zO) : Nat → Nat → Option Nat → Int64 → Int → Int → Int → zO → Option zO
  | 0, _, _, _, _, _, _, _ => none
  | n + 1, v0, v1, v2, v4, v5, v6, w => zX3_layPaths_h34 F C (zX3_layPaths_l34 F C k131 n) k131 v0 v1 v2 v4 v5 v6 w
def zX3_layPaths_h15 (F : Nat) (C : yC) (r : Nat → Option Nat → Int64 → Int → Int → zO → Option zO) (v0 : Nat) (v1 : Option Nat) (v2 : Int64) (v4 : Int) (v5 : Int) (w : zO) : Option zO :=
  zLe v4 v5
  (some w)
  (yFI C 2 7 v1 w fun t25 =>
    zLe t25 v5
    (some w)
    (zX3_layPaths_l34 F C (fun (v0 : Nat) (v1 : Option Nat) (v2 : Int64) (v4 : Int) (v5 : Int) (w : zO) =>
        r v0 v1 v2 v4 (v5 + (1 : Int)) w) F v0 v1 v2 v4 v5 (0 : Int) w))
def zX3_layPaths_l15 (F : Nat) (C : yC)  : Nat → Nat → Option Nat → Int64 → Int → Int → zO → Option zO
  | 0, _, _, _, _, _, _ => none
  | n + 1, v0, v1, v2, v4, v5, w => zX3_layPaths_h15 F C (zX3_layPaths_l15 F C  n)  v0 v1 v2 v4 v5 w
def zX3_layPaths (F : Nat) (C : yC) (v0 : Nat) (v1 : Option Nat) (w : zO) : Option zO :=
  yAR C 3 (some v0) <|
  ySt C 3 0 48 (some v0) (0 : Int) (0 : Int) w fun w11 =>
  zX3_layPaths_l15 F C F v0 v1 (1 : Int64) (1 : Int) (0 : Int) w11
def zX3_stepGiven_h7 (F : Nat) (C : yC) (r : Nat → Option Nat → Option Nat → Int → zO → Option (Int × zO)) (k46 : Nat → Int → Int → zO → Option (Int × zO)) (v0 : Nat) (v1 : Option Nat) (v2 : Option Nat) (v3 : Int) (w : zO) : Option (Int × zO) :=
  zLt v3 (0 : Int)
  (some ((0 : Int), w))
  (yAR C 2 v1 <|
    yAR C 2 v1 <|
    yLd C 2 5 5 v1 v3 w fun t20 =>
    yLd C 2 4 48 v1 t20 w fun t21 =>
    yAR C 3 (some v0) <|
    yLd C 3 5 5 (some v0) v3 w fun t33 =>
    yO C 3 (some v0) fun a36 =>
    yC1 (zX3_nextOfPeriod F C a36 v2 t21 (t33 + (1 : Int)) w) fun q36_1 q36_2 =>
    zLt q36_1 (0 : Int)
    (yAR C 3 (some v0) <|
      yO C 3 (some v0) fun a66 =>
      yC1 (zX3_nextOfPeriod F C a66 v2 t21 (0 : Int) q36_2) fun q66_1 q66_2 =>
      ySt C 3 5 5 (some v0) v3 q66_1 q66_2 fun w69 =>
      r v0 v1 v2 (v3 + (-1 : Int)) w69)
    (k46 v0 v3 q36_1 q36_2))
def zX3_stepGiven_l7 (F : Nat) (C : yC) (k46 : Nat → Int → Int → zO → Option (Int × zO)) : Nat → Nat → Option Nat → Option Nat → Int → zO → Option (Int × zO)
  | 0, _, _, _, _, _ => none
  | n + 1, v0, v1, v2, v3, w => zX3_stepGiven_h7 F C (zX3_stepGiven_l7 F C k46 n) k46 v0 v1 v2 v3 w
def zX3_stepGiven (F : Nat) (C : yC) (v0 : Nat) (v1 : Option Nat) (v2 : Option Nat) (w : zO) : Option (Int × zO) :=
  yFI C 3 7 (some v0) w fun t1 =>
  zX3_stepGiven_l7 F C (fun (v0 : Nat) (v3 : Int) (v5 : Int) (w : zO) =>
    yAR C 3 (some v0) <|
    ySt C 3 5 5 (some v0) v3 v5 w fun w53 =>
    some ((1 : Int), w53)) F v0 v1 v2 (t1 - (1 : Int)) w
def zX4_renew (F : Nat) (C : yC) (v0 : Nat) (v1 : Int) (v2 : Int) (w : zO) : Option zO :=
  yPI C 4 1 (some v0) v1 w fun w2 =>
  yPI C 4 2 (some v0) v2 w2 fun w7 =>
  yAR C 4 (some v0) <|
  yFill C 4 0 144 (some v0) (0 : Int) w7 fun q15 =>
  some q15
def zX5_writeBound_h95 (F : Nat) (C : yC) (r : Nat → Option Nat → Int → Int → Int → Int → Int → zO → Option zO) (k143 : Nat → Option Nat → Int → Int → Int → Int → zO → Option zO) (v0 : Nat) (v1 : Option Nat) (v2 : Int) (v3 : Int) (v4 : Int) (v5 : Int) (v7 : Int) (w : zO) : Option zO :=
  yFI C 0 4 v1 w fun t98 =>
  zLe t98 v7
  (k143 v0 v1 v2 v3 v4 v5 w)
  (zEq v5 v2
    (yAR C 5 (some v0) <|
      yO C 0 v1 fun a121 =>
      yC1 (zX0_place F C a121 v4 v5 v7 w) fun q121_1 q121_2 =>
      yLd C 5 0 98 (some v0) q121_1 q121_2 fun t125 =>
      yO C 0 v1 fun a132 =>
      yC1 (zX0_entry F C a132 v4 v7 v3 q121_2) fun q132_1 q132_2 =>
      ySt C 5 0 98 (some v0) q121_1 (t125 + q132_1) q132_2 fun w136 =>
      r v0 v1 v2 v3 v4 v5 (v7 + (1 : Int)) w136)
    (k143 v0 v1 v2 v3 v4 v5 w))
def zX5_writeBound_l95 (F : Nat) (C : yC) (k143 : Nat → Option Nat → Int → Int → Int → Int → zO → Option zO) : Nat → Nat → Option Nat → Int → Int → Int → Int → Int → zO → Option zO
  | 0, _, _, _, _, _, _, _, _ => none
  | n + 1, v0, v1, v2, v3, v4, v5, v7, w => zX5_writeBound_h95 F C (zX5_writeBound_l95 F C k143 n) k143 v0 v1 v2 v3 v4 v5 v7 w
def zX5_writeBound_b143 (F : Nat) (C : yC) (r : Nat → Option Nat → Int → Int → Int → Int → zO → Option zO) (k149 : Nat → Option Nat → Int → Int → Int → zO → Option zO) (v0 : Nat) (v1 : Option Nat) (v2 : Int) (v3 : Int) (v4 : Int) (v5 : Int) (w : zO) : Option zO :=
  r v0 v1 v2 v3 v4 (v5 + (1 : Int)) w
def zX5_writeBound_b92 (F : Nat) (C : yC) (r : Nat → Option Nat → Int → Int → Int → Int → zO → Option zO) (k149 : Nat → Option Nat → Int → Int → Int → zO → Option zO) (v0 : Nat) (v1 : Option Nat) (v2 : Int) (v3 : Int) (v4 : Int) (v5 : Int) (w : zO) : Option zO :=
  zX5_writeBound_l95 F C (fun (v0 : Nat) (v1 : Option Nat) (v2 : Int) (v3 : Int) (v4 : Int) (v5 : Int) (w : zO) =>
    zX5_writeBound_b143 F C r k149 v0 v1 v2 v3 v4 v5 w) F v0 v1 v2 v3 v4 v5 (0 : Int) w
def zX5_writeBound_b66 (F : Nat) (C : yC) (r : Nat → Option Nat → Int → Int → Int → Int → zO → Option zO) (k149 : Nat → Option Nat → Int → Int → Int → zO → Option zO) (v0 : Nat) (v1 : Option Nat) (v2 : Int) (v3 : Int) (v4 : Int) (v5 : Int) (v6 : Int) (w : zO) : Option zO :=
  yFR C 0 2 v1 fun t67 =>
  yO C 2 t67 fun a74 =>
  yC1 (zX2_mul F C a74 v4 v5 w) fun q74_1 q74_2 =>
  zEq q74_1 v2
  (yAR C 5 (some v0) <|
    yLd C 5 0 98 (some v0) v6 q74_2 fun t88 =>
    ySt C 5 0 98 (some v0) v6 (t88 - (1 : Int)) q74_2 fun w91 =>
    zX5_writeBound_b92 F C r k149 v0 v1 v2 v3 v4 v5 w91)
  (zX5_writeBound_b92 F C r k149 v0 v1 v2 v3 v4 v5 q74_2)
def zX5_writeBound_h26 (F : Nat) (C : yC) (r : Nat → Option Nat → Int → Int → Int → Int → zO → Option zO) (k149 : Nat → Option Nat → Int → Int → Int → zO → Option zO) (v0 : Nat) (v1 : Option Nat) (v2 : Int) (v3 : Int) (v4 : Int) (v5 : Int) (w : zO) : Option zO :=
  yFR C 0 2 v1 fun t29 =>
  yFI C 2 7 t29 w fun t32 =>
  zLe t32 v5
  (k149 v0 v1 v2 v3 v4 w)
  (yO C 0 v1 fun a44 =>
    yC1 (zX0_place F C a44 v4 v5 v3 w) fun q44_1 q44_2 =>
    zEq v4 v2
    (yAR C 5 (some v0) <|
      yLd C 5 0 98 (some v0) q44_1 q44_2 fun t62 =>
      ySt C 5 0 98 (some v0) q44_1 (t62 + (1 : Int)) q44_2 fun w65 =>
      zX5_writeBound_b66 F C r k149 v0 v1 v2 v3 v4 v5 q44_1 w65)
    (zX5_writeBound_b66 F C r k149 v0 v1 v2 v3 v4 v5 q44_1 q44_2))
def zX5_writeBound_l26 (F : Nat) (C : yC) (k149 : Nat → Option Nat → Int → Int → Int → zO → Option zO) : Nat → Nat → Option Nat → Int → Int → Int → Int → zO → Option zO
  | 0, _, _, _, _, _, _, _ => none
  | n + 1, v0, v1, v2, v3, v4, v5, w => zX5_writeBound_h26 F C (zX5_writeBound_l26 F C k149 n) k149 v0 v1 v2 v3 v4 v5 w
def zX5_writeBound_h11 (F : Nat) (C : yC) (r : Nat → Option Nat → Int → Int → Int → zO → Option zO) (v0 : Nat) (v1 : Option Nat) (v2 : Int) (v3 : Int) (v4 : Int) (w : zO) : Option zO :=
  yFR C 0 2 v1 fun t14 =>
  yFI C 2 7 t14 w fun t17 =>
  zLe t17 v4
  (some w)
  (zX5_writeBound_l26 F C (fun (v0 : Nat) (v1 : Option Nat) (v2 : Int) (v3 : Int) (v4 : Int) (w : zO) =>
      r v0 v1 v2 v3 (v4 + (1 : Int)) w) F v0 v1 v2 v3 v4 (1 : Int) w)
def zX5_writeBound_l11 (F : Nat) (C : yC)  : Nat → Nat → Option Nat → Int → Int → Int → zO → Option zO
  | 0, _, _, _, _, _, _ => none
  | n + 1, v0, v1, v2, v3, v4, w => zX5_writeBound_h11 F C (zX5_writeBound_l11 F C  n)  v0 v1 v2 v3 v4 w
def zX5_writeBound (F : Nat) (C : yC) (v0 : Nat) (v1 : Option Nat) (v2 : Int) (v3 : Int) (w : zO) : Option zO :=
  yAR C 5 (some v0) <|
  yFill C 5 0 98 (some v0) (0 : Int) w fun q5 =>
  zX5_writeBound_l11 F C F v0 v1 v2 v3 (1 : Int) q5
def zX5_writeCocycleRule_h42 (F : Nat) (C : yC) (r : Nat → Option Nat → Int → Int → Int → Int → Int → Int → Int → Int → zO → Option zO) (k86 : Nat → Option Nat → Int → Int → Int → Int → Int → Int → Int → zO → Option zO) (v0 : Nat) (v1 : Option Nat) (v2 : Int) (v3 : Int) (v4 : Int) (v5 : Int) (v6 : Int) (v7 : Int) (v8 : Int) (v9 : Int) (w : zO) : Option zO :=
  yFI C 0 4 v1 w fun t45 =>
  zLe t45 v9
  (k86 v0 v1 v2 v3 v4 v5 v6 v7 v8 w)
  (yAR C 5 (some v0) <|
    yO C 0 v1 fun a63 =>
    yC1 (zX0_place F C a63 v3 v4 v9 w) fun q63_1 q63_2 =>
    yLd C 5 0 98 (some v0) (v6 - q63_1) q63_2 fun t68 =>
    yO C 0 v1 fun a75 =>
    yC1 (zX0_entry F C a75 v2 v5 v9 q63_2) fun q75_1 q75_2 =>
    ySt C 5 0 98 (some v0) (v6 - q63_1) (t68 + q75_1) q75_2 fun w79 =>
    r v0 v1 v2 v3 v4 v5 v6 v7 v8 (v9 + (1 : Int)) w79)
def zX5_writeCocycleRule_l42 (F : Nat) (C : yC) (k86 : Nat → Option Nat → Int → Int → Int → Int → Int → Int → Int → zO → Option zO) : Nat → Nat → Option Nat → Int → Int → Int → Int → Int → Int → Int → Int → zO → Option zO
  | 0, _, _, _, _, _, _, _, _, _, _, _ => none
  | n + 1, v0, v1, v2, v3, v4, v5, v6, v7, v8, v9, w => zX5_writeCocycleRule_h42 F C (zX5_writeCocycleRule_l42 F C k86 n) k86 v0 v1 v2 v3 v4 v5 v6 v7 v8 v9 w
def zX5_writeCocycleRule_b139 (F : Nat) (C : yC) (v0 : Nat) (v1 : Option Nat) (v2 : Int) (v3 : Int) (v5 : Int) (v6 : Int) (w : zO) : Option zO :=
  yAR C 5 (some v0) <|
  yO C 0 v1 fun a150 =>
  yC1 (zX0_place F C a150 v2 v3 v5 w) fun q150_1 q150_2 =>
  yLd C 5 0 98 (some v0) (v6 - q150_1) q150_2 fun t155 =>
  ySt C 5 0 98 (some v0) (v6 - q150_1) (t155 - (1 : Int)) q150_2 fun w158 =>
  some w158
def zX5_writeCocycleRule_b112 (F : Nat) (C : yC) (v0 : Nat) (v1 : Option Nat) (v2 : Int) (v3 : Int) (v4 : Int) (v5 : Int) (v6 : Int) (v7 : Int) (w : zO) : Option zO :=
  zEq v7 (0 : Int)
  (zX5_writeCocycleRule_b139 F C v0 v1 v2 v3 v5 v6 w)
  (yAR C 5 (some v0) <|
    yO C 0 v1 fun a130 =>
    yC1 (zX0_place F C a130 v7 v4 v5 w) fun q130_1 q130_2 =>
    yLd C 5 0 98 (some v0) (v6 - q130_1) q130_2 fun t135 =>
    ySt C 5 0 98 (some v0) (v6 - q130_1) (t135 - (1 : Int)) q130_2 fun w138 =>
    zX5_writeCocycleRule_b139 F C v0 v1 v2 v3 v5 v6 w138)
def zX5_writeCocycleRule (F : Nat) (C : yC) (v0 : Nat) (v1 : Option Nat) (v2 : Int) (v3 : Int) (v4 : Int) (v5 : Int) (w : zO) : Option zO :=
  yO C 0 v1 fun a1 =>
  yC1 (zX0_places F C a1 w) fun q1_1 q1_2 =>
  yFR C 0 2 v1 fun t9 =>
  yO C 2 t9 fun a14 =>
  yC1 (zX2_mul F C a14 v2 v3 q1_2) fun q14_1 q14_2 =>
  yFR C 0 2 v1 fun t20 =>
  yO C 2 t20 fun a26 =>
  yC1 (zX2_mul F C a26 v3 v4 q14_2) fun q26_1 q26_2 =>
  yAR C 5 (some v0) <|
  yFill C 5 0 98 (some v0) (0 : Int) q26_2 fun q36 =>
  zX5_writeCocycleRule_l42 F C (fun (v0 : Nat) (v1 : Option Nat) (v2 : Int) (v3 : Int) (v4 : Int) (v5 : Int) (v6 : Int) (v7 : Int) (v8 : Int) (w : zO) =>
    zEq v8 (0 : Int)
    (zX5_writeCocycleRule_b112 F C v0 v1 v2 v3 v4 v5 v6 v7 w)
    (yAR C 5 (some v0) <|
      yO C 0 v1 fun a103 =>
      yC1 (zX0_place F C a103 v2 v8 v5 w) fun q103_1 q103_2 =>
      yLd C 5 0 98 (some v0) (v6 - q103_1) q103_2 fun t108 =>
      ySt C 5 0 98 (some v0) (v6 - q103_1) (t108 + (1 : Int)) q103_2 fun w111 =>
      zX5_writeCocycleRule_b112 F C v0 v1 v2 v3 v4 v5 v6 v7 w111)) F v0 v1 v2 v3 v4 v5 (q1_1 - (1 : Int)) q14_1 q26_1 (0 : Int) q36
def zX6_mod (F : Nat) (C : yC) (v0 : Int) (v1 : Int) (w : zO) : Option (Int × zO) :=
  zLe v1 (0 : Int)
  (some ((0 : Int), w))
  (yC1 (zJ9_floorMod_7cf53 F C v0 v1 w) fun q6_1 q6_2 =>
    some (q6_1, q6_2))
def zX0_goesWithProduct_h40 (F : Nat) (C : yC) (r : Nat → Int → Int → Int → Int → Int → Int → Int → zO → Option (Int × zO)) (k79 : Nat → Int → Int → Int → Int → Int → Int → zO → Option (Int × zO)) (v0 : Nat) (v1 : Int) (v2 : Int) (v3 : Int) (v4 : Int) (v5 : Int) (v6 : Int) (v7 : Int) (w : zO) : Option (Int × zO) :=
  yFI C 0 4 (some v0) w fun t43 =>
  zLe t43 v7
  (k79 v0 v1 v2 v3 v4 v5 v6 w)
  (yO C 0 (some v0) fun a57 =>
    yC1 (zX0_entry F C a57 v1 v4 v7 w) fun q57_1 q57_2 =>
    yO C 0 (some v0) fun a66 =>
    yC1 (zX0_entry F C a66 v2 v7 v5 q57_2) fun q66_1 q66_2 =>
    r v0 v1 v2 v3 v4 v5 (v6 + (q57_1 * q66_1)) (v7 + (1 : Int)) q66_2)
def zX0_goesWithProduct_l40 (F : Nat) (C : yC) (k79 : Nat → Int → Int → Int → Int → Int → Int → zO → Option (Int × zO)) : Nat → Nat → Int → Int → Int → Int → Int → Int → Int → zO → Option (Int × zO)
  | 0, _, _, _, _, _, _, _, _, _ => none
  | n + 1, v0, v1, v2, v3, v4, v5, v6, v7, w => zX0_goesWithProduct_h40 F C (zX0_goesWithProduct_l40 F C k79 n) k79 v0 v1 v2 v3 v4 v5 v6 v7 w
def zX0_goesWithProduct_h25 (F : Nat) (C : yC) (r : Nat → Int → Int → Int → Int → Int → zO → Option (Int × zO)) (k108 : Nat → Int → Int → Int → Int → zO → Option (Int × zO)) (v0 : Nat) (v1 : Int) (v2 : Int) (v3 : Int) (v4 : Int) (v5 : Int) (w : zO) : Option (Int × zO) :=
  yFI C 0 4 (some v0) w fun t28 =>
  zLe t28 v5
  (k108 v0 v1 v2 v3 v4 w)
  (zX0_goesWithProduct_l40 F C (fun (v0 : Nat) (v1 : Int) (v2 : Int) (v3 : Int) (v4 : Int) (v5 : Int) (v6 : Int) (w : zO) =>
      yFI C 0 3 (some v0) w fun t82 =>
      yC1 (zX6_mod F C v6 t82 w) fun q85_1 q85_2 =>
      yO C 0 (some v0) fun a94 =>
      yC1 (zX0_entry F C a94 v3 v4 v5 q85_2) fun q94_1 q94_2 =>
      zEq q85_1 q94_1
      (r v0 v1 v2 v3 v4 (v5 + (1 : Int)) q94_2)
      (some ((0 : Int), q94_2))) F v0 v1 v2 v3 v4 v5 (0 : Int) (0 : Int) w)
def zX0_goesWithProduct_l25 (F : Nat) (C : yC) (k108 : Nat → Int → Int → Int → Int → zO → Option (Int × zO)) : Nat → Nat → Int → Int → Int → Int → Int → zO → Option (Int × zO)
  | 0, _, _, _, _, _, _, _ => none
  | n + 1, v0, v1, v2, v3, v4, v5, w => zX0_goesWithProduct_h25 F C (zX0_goesWithProduct_l25 F C k108 n) k108 v0 v1 v2 v3 v4 v5 w
def zX0_goesWithProduct_h13 (F : Nat) (C : yC) (r : Nat → Int → Int → Int → Int → zO → Option (Int × zO)) (v0 : Nat) (v1 : Int) (v2 : Int) (v3 : Int) (v4 : Int) (w : zO) : Option (Int × zO) :=
  yFI C 0 4 (some v0) w fun t16 =>
  zLe t16 v4
  (some ((1 : Int), w))
  (zX0_goesWithProduct_l25 F C (fun (v0 : Nat) (v1 : Int) (v2 : Int) (v3 : Int) (v4 : Int) (w : zO) =>
      r v0 v1 v2 v3 (v4 + (1 : Int)) w) F v0 v1 v2 v3 v4 (0 : Int) w)
def zX0_goesWithProduct_l13 (F : Nat) (C : yC)  : Nat → Nat → Int → Int → Int → Int → zO → Option (Int × zO)
  | 0, _, _, _, _, _, _ => none
  | n + 1, v0, v1, v2, v3, v4, w => zX0_goesWithProduct_h13 F C (zX0_goesWithProduct_l13 F C  n)  v0 v1 v2 v3 v4 w
def zX0_goesWithProduct (F : Nat) (C : yC) (v0 : Nat) (v1 : Int) (v2 : Int) (w : zO) : Option (Int × zO) :=
  yFR C 0 2 (some v0) fun t1 =>
  yO C 2 t1 fun a6 =>
  yC1 (zX2_mul F C a6 v1 v2 w) fun q6_1 q6_2 =>
  zX0_goesWithProduct_l13 F C F v0 v1 v2 q6_1 (0 : Int) q6_2
def zX0_move_b66 (F : Nat) (C : yC) (r : Nat → Int → Int → Int → Int → Int → zO → Option (Int × zO)) (v0 : Nat) (v1 : Int) (v2 : Int) (v3 : Int) (v4 : Int) (v5 : Int) (v6 : Int) (w : zO) : Option (Int × zO) :=
  yFI C 0 3 (some v0) w fun t72 =>
  yC1 (zX6_mod F C v6 t72 w) fun q75_1 q75_2 =>
  yFI C 0 3 (some v0) q75_2 fun t84 =>
  r v0 v1 v2 (v3 + (v4 * q75_1)) (v4 * t84) (v5 + (1 : Int)) q75_2
def zX0_move_h8 (F : Nat) (C : yC) (r : Nat → Int → Int → Int → Int → Int → zO → Option (Int × zO)) (v0 : Nat) (v1 : Int) (v2 : Int) (v3 : Int) (v4 : Int) (v5 : Int) (w : zO) : Option (Int × zO) :=
  yFI C 0 4 (some v0) w fun t11 =>
  zLe t11 v5
  (some (v3, w))
  (yO C 0 (some v0) fun a22 =>
    yC1 (zX0_entry F C a22 v1 v5 (0 : Int) w) fun q22_1 q22_2 =>
    yFI C 0 3 (some v0) q22_2 fun t27 =>
    yC1 (zX6_mod F C v2 t27 q22_2) fun q30_1 q30_2 =>
    yFI C 0 4 (some v0) q30_2 fun t37 =>
    zLe t37 (1 : Int)
    (zX0_move_b66 F C r v0 v1 v2 v3 v4 v5 (q22_1 * q30_1) q30_2)
    (yO C 0 (some v0) fun a51 =>
      yC1 (zX0_entry F C a51 v1 v5 (1 : Int) q30_2) fun q51_1 q51_2 =>
      yFI C 0 3 (some v0) q51_2 fun t56 =>
      yC1 (zX6_quotient F C v2 t56 q51_2) fun q59_1 q59_2 =>
      zX0_move_b66 F C r v0 v1 v2 v3 v4 v5 ((q22_1 * q30_1) + (q51_1 * q59_1)) q59_2))
def zX0_move_l8 (F : Nat) (C : yC)  : Nat → Nat → Int → Int → Int → Int → Int → zO → Option (Int × zO)
  | 0, _, _, _, _, _, _, _ => none
  | n + 1, v0, v1, v2, v3, v4, v5, w => zX0_move_h8 F C (zX0_move_l8 F C  n)  v0 v1 v2 v3 v4 v5 w
def zX0_move (F : Nat) (C : yC) (v0 : Nat) (v1 : Int) (v2 : Int) (w : zO) : Option (Int × zO) :=
  zX0_move_l8 F C F v0 v1 v2 (0 : Int) (1 : Int) (0 : Int) w
def zX1_inverseOf_h2 (F : Nat) (C : yC) (r : Nat → Int → Int → zO → Option (Int × zO)) (v0 : Nat) (v1 : Int) (v2 : Int) (w : zO) : Option (Int × zO) :=
  yFI C 1 4 (some v0) w fun t4 =>
  zLe t4 v2
  (some ((0 : Int), w))
  (yFI C 1 4 (some v0) w fun t14 =>
    yC1 (zX6_mod F C (v1 * v2) t14 w) fun q17_1 q17_2 =>
    zEq q17_1 (1 : Int)
    (some (v2, q17_2))
    (r v0 v1 (v2 + (1 : Int)) q17_2))
def zX1_inverseOf_l2 (F : Nat) (C : yC)  : Nat → Nat → Int → Int → zO → Option (Int × zO)
  | 0, _, _, _, _ => none
  | n + 1, v0, v1, v2, w => zX1_inverseOf_h2 F C (zX1_inverseOf_l2 F C  n)  v0 v1 v2 w
def zX1_inverseOf (F : Nat) (C : yC) (v0 : Nat) (v1 : Int) (w : zO) : Option (Int × zO) :=
  zX1_inverseOf_l2 F C F v0 v1 (1 : Int) w
def zX1_reduce_b99 (F : Nat) (C : yC) (r : Nat → Option Nat → Int → zO → Option zO) (v0 : Nat) (v1 : Option Nat) (v2 : Int) (w : zO) : Option zO :=
  r v0 v1 (v2 + (1 : Int)) w
def zX1_reduce_b93 (F : Nat) (C : yC) (r : Nat → Option Nat → Int → Int → Int → Int → zO → Option zO) (k99 : Nat → Option Nat → Int → zO → Option zO) (v0 : Nat) (v1 : Option Nat) (v2 : Int) (v3 : Int) (v4 : Int) (v5 : Int) (w : zO) : Option zO :=
  r v0 v1 v2 v3 v4 (v5 + (1 : Int)) w
def zX1_reduce_h47 (F : Nat) (C : yC) (r : Nat → Option Nat → Int → Int → Int → Int → zO → Option zO) (k99 : Nat → Option Nat → Int → zO → Option zO) (v0 : Nat) (v1 : Option Nat) (v2 : Int) (v3 : Int) (v4 : Int) (v5 : Int) (w : zO) : Option zO :=
  yFI C 1 3 (some v0) w fun t50 =>
  zLe t50 v5
  (k99 v0 v1 v2 w)
  (yAR C 1 (some v0) <|
    yLE C 1 0 98 (some v0) (v3 + v5) w fun t64 =>
    zEq t64 (0 : Int)
    (zX1_reduce_b93 F C r k99 v0 v1 v2 v3 v4 v5 w)
    (yLd C 5 0 98 v1 v5 w fun t78 =>
      yFI C 1 4 (some v0) w fun t86 =>
      yC1 (zX6_mod F C (t78 + (v4 * t64)) t86 w) fun q89_1 q89_2 =>
      ySt C 5 0 98 v1 v5 q89_1 q89_2 fun w92 =>
      zX1_reduce_b93 F C r k99 v0 v1 v2 v3 v4 v5 w92))
def zX1_reduce_l47 (F : Nat) (C : yC) (k99 : Nat → Option Nat → Int → zO → Option zO) : Nat → Nat → Option Nat → Int → Int → Int → Int → zO → Option zO
  | 0, _, _, _, _, _, _, _ => none
  | n + 1, v0, v1, v2, v3, v4, v5, w => zX1_reduce_h47 F C (zX1_reduce_l47 F C k99 n) k99 v0 v1 v2 v3 v4 v5 w
def zX1_reduce_h2 (F : Nat) (C : yC) (r : Nat → Option Nat → Int → zO → Option zO) (v0 : Nat) (v1 : Option Nat) (v2 : Int) (w : zO) : Option zO :=
  yFI C 1 3 (some v0) w fun t4 =>
  zLe t4 v2
  (some w)
  (yLd C 5 0 98 v1 v2 w fun t12 =>
    zEq t12 (0 : Int)
    (zX1_reduce_b99 F C r v0 v1 v2 w)
    (yO C 1 (some v0) fun a18 =>
      yC1 (zX1_leadsAt F C a18 v2 w) fun q18_1 q18_2 =>
      zEq q18_1 (0 : Int)
      (zX1_reduce_b99 F C r v0 v1 v2 q18_2)
      (yAR C 1 (some v0) <|
        yLd C 1 2 98 (some v0) v2 q18_2 fun t29 =>
        yFI C 1 4 (some v0) q18_2 fun t35 =>
        yLd C 5 0 98 v1 v2 q18_2 fun t40 =>
        zX1_reduce_l47 F C (fun (v0 : Nat) (v1 : Option Nat) (v2 : Int) (w : zO) =>
          zX1_reduce_b99 F C r v0 v1 v2 w) F v0 v1 v2 (t29 * (98 : Int)) (t35 - t40) v2 q18_2)))
def zX1_reduce_l2 (F : Nat) (C : yC)  : Nat → Nat → Option Nat → Int → zO → Option zO
  | 0, _, _, _, _ => none
  | n + 1, v0, v1, v2, w => zX1_reduce_h2 F C (zX1_reduce_l2 F C  n)  v0 v1 v2 w
def zX1_reduce (F : Nat) (C : yC) (v0 : Nat) (v1 : Option Nat) (w : zO) : Option zO :=
  zX1_reduce_l2 F C F v0 v1 (0 : Int) w
def zX5_numberOf_h31 (F : Nat) (C : yC) (r : Nat → Option Nat → Int → Int → Int → Int → zO → Option (Int × zO)) (k86 : Option Nat → Int → zO → Option (Int × zO)) (v0 : Nat) (v1 : Option Nat) (v6 : Int) (v7 : Int) (v8 : Int) (v9 : Int) (w : zO) : Option (Int × zO) :=
  yFR C 5 2 (some v0) fun t34 =>
  yFI C 1 5 t34 w fun t37 =>
  zLe t37 v9
  (k86 v1 v7 w)
  (yFI C 0 3 v1 w fun t48 =>
    yC1 (zX6_mod F C v8 t48 w) fun q51_1 q51_2 =>
    yFR C 5 2 (some v0) fun t55 =>
    yO C 1 t55 fun a62 =>
    yC1 (zX1_number F C a62 v9 v6 q51_2) fun q62_1 q62_2 =>
    yFI C 0 3 v1 q62_2 fun t72 =>
    yC1 (zX6_quotient F C v8 t72 q62_2) fun q75_1 q75_2 =>
    r v0 v1 v6 (v7 + (q51_1 * q62_1)) q75_1 (v9 + (1 : Int)) q75_2)
def zX5_numberOf_l31 (F : Nat) (C : yC) (k86 : Option Nat → Int → zO → Option (Int × zO)) : Nat → Nat → Option Nat → Int → Int → Int → Int → zO → Option (Int × zO)
  | 0, _, _, _, _, _, _, _ => none
  | n + 1, v0, v1, v6, v7, v8, v9, w => zX5_numberOf_h31 F C (zX5_numberOf_l31 F C k86 n) k86 v0 v1 v6 v7 v8 v9 w
def zX5_numberOf (F : Nat) (C : yC) (v0 : Nat) (v1 : Option Nat) (v2 : Int) (v3 : Int) (v4 : Int) (v5 : Int) (w : zO) : Option (Int × zO) :=
  zEq v3 (0 : Int)
  (some ((0 : Int), w))
  (zEq v4 (0 : Int)
    (some ((0 : Int), w))
    (yO C 0 v1 fun a17 =>
      yC1 (zX0_place F C a17 v3 v4 v5 w) fun q17_1 q17_2 =>
      zX5_numberOf_l31 F C (fun (v1 : Option Nat) (v7 : Int) (w : zO) =>
        yFI C 0 3 v1 w fun t89 =>
        yC1 (zX6_mod F C v7 t89 w) fun q92_1 q92_2 =>
        some (q92_1, q92_2)) F v0 v1 q17_1 (0 : Int) v2 (0 : Int) q17_2))
def zX5_readPair_b104 (F : Nat) (C : yC) (r : Nat → Option Nat → Option Nat → Int → Int → Int → Int → zO → Option (Int × zO)) (k110 : Nat → Option Nat → Option Nat → Int → Int → Int → zO → Option (Int × zO)) (v0 : Nat) (v1 : Option Nat) (v2 : Option Nat) (v3 : Int) (v4 : Int) (v5 : Int) (v6 : Int) (w : zO) : Option (Int × zO) :=
  r v0 v1 v2 v3 v4 v5 (v6 + (1 : Int)) w
def zX5_readPair_b97 (F : Nat) (C : yC) (r : Nat → Option Nat → Option Nat → Int → Int → Int → Int → zO → Option (Int × zO)) (k110 : Nat → Option Nat → Option Nat → Int → Int → Int → zO → Option (Int × zO)) (v0 : Nat) (v1 : Option Nat) (v2 : Option Nat) (v3 : Int) (v4 : Int) (v5 : Int) (v6 : Int) (v7 : Int) (w : zO) : Option (Int × zO) :=
  zEq v7 (0 : Int)
  (zX5_readPair_b104 F C r k110 v0 v1 v2 v3 v4 v5 v6 w)
  (some ((0 : Int), w))
def zX5_readPair_h29 (F : Nat) (C : yC) (r : Nat → Option Nat → Option Nat → Int → Int → Int → Int → zO → Option (Int × zO)) (k110 : Nat → Option Nat → Option Nat → Int → Int → Int → zO → Option (Int × zO)) (v0 : Nat) (v1 : Option Nat) (v2 : Option Nat) (v3 : Int) (v4 : Int) (v5 : Int) (v6 : Int) (w : zO) : Option (Int × zO) :=
  yFI C 0 4 v1 w fun t32 =>
  zLe t32 v6
  (k110 v0 v1 v2 v3 v4 v5 w)
  (yAR C 4 v2 <|
    yFI C 0 4 v1 w fun t43 =>
    yLd C 4 0 144 v2 ((t43 * ((v3 * v4) + v5)) + v6) w fun t57 =>
    yFI C 0 3 v1 w fun t59 =>
    yC1 (zX6_mod F C t57 t59 w) fun q62_1 q62_2 =>
    zEq v4 (0 : Int)
    (zX5_readPair_b97 F C r k110 v0 v1 v2 v3 v4 v5 v6 q62_1 q62_2)
    (zEq v5 (0 : Int)
      (zX5_readPair_b97 F C r k110 v0 v1 v2 v3 v4 v5 v6 q62_1 q62_2)
      (yAR C 5 (some v0) <|
        yO C 0 v1 fun a88 =>
        yC1 (zX0_place F C a88 v4 v5 v6 q62_2) fun q88_1 q88_2 =>
        ySt C 5 0 98 (some v0) q88_1 q62_1 q88_2 fun w93 =>
        zX5_readPair_b104 F C r k110 v0 v1 v2 v3 v4 v5 v6 w93)))
def zX5_readPair_l29 (F : Nat) (C : yC) (k110 : Nat → Option Nat → Option Nat → Int → Int → Int → zO → Option (Int × zO)) : Nat → Nat → Option Nat → Option Nat → Int → Int → Int → Int → zO → Option (Int × zO)
  | 0, _, _, _, _, _, _, _, _ => none
  | n + 1, v0, v1, v2, v3, v4, v5, v6, w => zX5_readPair_h29 F C (zX5_readPair_l29 F C k110 n) k110 v0 v1 v2 v3 v4 v5 v6 w
def zX5_readPair_h20 (F : Nat) (C : yC) (r : Nat → Option Nat → Option Nat → Int → Int → Int → zO → Option (Int × zO)) (k116 : Nat → Option Nat → Option Nat → Int → Int → zO → Option (Int × zO)) (v0 : Nat) (v1 : Option Nat) (v2 : Option Nat) (v3 : Int) (v4 : Int) (v5 : Int) (w : zO) : Option (Int × zO) :=
  zLe v3 v5
  (k116 v0 v1 v2 v3 v4 w)
  (zX5_readPair_l29 F C (fun (v0 : Nat) (v1 : Option Nat) (v2 : Option Nat) (v3 : Int) (v4 : Int) (v5 : Int) (w : zO) =>
      r v0 v1 v2 v3 v4 (v5 + (1 : Int)) w) F v0 v1 v2 v3 v4 v5 (0 : Int) w)
def zX5_readPair_l20 (F : Nat) (C : yC) (k116 : Nat → Option Nat → Option Nat → Int → Int → zO → Option (Int × zO)) : Nat → Nat → Option Nat → Option Nat → Int → Int → Int → zO → Option (Int × zO)
  | 0, _, _, _, _, _, _, _ => none
  | n + 1, v0, v1, v2, v3, v4, v5, w => zX5_readPair_h20 F C (zX5_readPair_l20 F C k116 n) k116 v0 v1 v2 v3 v4 v5 w
def zX5_readPair_h11 (F : Nat) (C : yC) (r : Nat → Option Nat → Option Nat → Int → Int → zO → Option (Int × zO)) (v0 : Nat) (v1 : Option Nat) (v2 : Option Nat) (v3 : Int) (v4 : Int) (w : zO) : Option (Int × zO) :=
  zLe v3 v4
  (some ((1 : Int), w))
  (zX5_readPair_l20 F C (fun (v0 : Nat) (v1 : Option Nat) (v2 : Option Nat) (v3 : Int) (v4 : Int) (w : zO) =>
      r v0 v1 v2 v3 (v4 + (1 : Int)) w) F v0 v1 v2 v3 v4 (0 : Int) w)
def zX5_readPair_l11 (F : Nat) (C : yC)  : Nat → Nat → Option Nat → Option Nat → Int → Int → zO → Option (Int × zO)
  | 0, _, _, _, _, _, _ => none
  | n + 1, v0, v1, v2, v3, v4, w => zX5_readPair_h11 F C (zX5_readPair_l11 F C  n)  v0 v1 v2 v3 v4 w
def zX5_readPair (F : Nat) (C : yC) (v0 : Nat) (v1 : Option Nat) (v2 : Option Nat) (w : zO) : Option (Int × zO) :=
  yFR C 0 2 v1 fun t1 =>
  yFI C 2 7 t1 w fun t4 =>
  zX5_readPair_l11 F C F v0 v1 v2 t4 (0 : Int) w
def zX5_writeStandard_b102 (F : Nat) (C : yC) (r : Nat → Option Nat → Int → Int → Int → Int → zO → Option zO) (v0 : Nat) (v1 : Option Nat) (v2 : Int) (v3 : Int) (v4 : Int) (v5 : Int) (w : zO) : Option zO :=
  r v0 v1 v2 v3 v4 (v5 + (1 : Int)) w
def zX5_writeStandard_h49 (F : Nat) (C : yC) (r : Nat → Option Nat → Int → Int → Int → Int → Int → Int → Int → zO → Option zO) (k87 : Nat → Option Nat → Int → Int → Int → Int → Int → zO → Option zO) (v0 : Nat) (v1 : Option Nat) (v2 : Int) (v3 : Int) (v4 : Int) (v5 : Int) (v6 : Int) (v7 : Int) (v8 : Int) (w : zO) : Option zO :=
  zLe v5 v8
  (k87 v0 v1 v2 v3 v4 v5 v7 w)
  (yAR C 5 (some v0) <|
    yLd C 5 0 98 (some v0) v8 w fun t64 =>
    yO C 1 v1 fun a74 =>
    yC1 (zX1_leadingNumber F C a74 v6 ((v3 - (1 : Int)) - v8) w) fun q74_1 q74_2 =>
    r v0 v1 v2 v3 v4 v5 v6 (v7 + (t64 * q74_1)) (v8 + (1 : Int)) q74_2)
def zX5_writeStandard_l49 (F : Nat) (C : yC) (k87 : Nat → Option Nat → Int → Int → Int → Int → Int → zO → Option zO) : Nat → Nat → Option Nat → Int → Int → Int → Int → Int → Int → Int → zO → Option zO
  | 0, _, _, _, _, _, _, _, _, _, _ => none
  | n + 1, v0, v1, v2, v3, v4, v5, v6, v7, v8, w => zX5_writeStandard_h49 F C (zX5_writeStandard_l49 F C k87 n) k87 v0 v1 v2 v3 v4 v5 v6 v7 v8 w
def zX5_writeStandard_h20 (F : Nat) (C : yC) (r : Nat → Option Nat → Int → Int → Int → Int → zO → Option zO) (v0 : Nat) (v1 : Option Nat) (v2 : Int) (v3 : Int) (v4 : Int) (v5 : Int) (w : zO) : Option zO :=
  zLe v3 v5
  (some w)
  (yO C 1 v1 fun a37 =>
    yC1 (zX1_leadsAt F C a37 ((v3 - (1 : Int)) - v5) w) fun q37_1 q37_2 =>
    zEq q37_1 (0 : Int)
    (zX5_writeStandard_b102 F C r v0 v1 v2 v3 v4 v5 q37_2)
    (zX5_writeStandard_l49 F C (fun (v0 : Nat) (v1 : Option Nat) (v2 : Int) (v3 : Int) (v4 : Int) (v5 : Int) (v7 : Int) (w : zO) =>
        yAR C 5 (some v0) <|
        yC1 (zX6_mod F C (-v7) v4 w) fun q98_1 q98_2 =>
        ySt C 5 0 98 (some v0) v5 q98_1 q98_2 fun w101 =>
        zX5_writeStandard_b102 F C r v0 v1 v2 v3 v4 v5 w101) F v0 v1 v2 v3 v4 v5 ((v3 - (1 : Int)) - v5) (0 : Int) v2 q37_2))
def zX5_writeStandard_l20 (F : Nat) (C : yC)  : Nat → Nat → Option Nat → Int → Int → Int → Int → zO → Option zO
  | 0, _, _, _, _, _, _, _ => none
  | n + 1, v0, v1, v2, v3, v4, v5, w => zX5_writeStandard_h20 F C (zX5_writeStandard_l20 F C  n)  v0 v1 v2 v3 v4 v5 w
def zX5_writeStandard (F : Nat) (C : yC) (v0 : Nat) (v1 : Option Nat) (v2 : Int) (v3 : Int) (v4 : Int) (w : zO) : Option zO :=
  yAR C 5 (some v0) <|
  yFill C 5 0 98 (some v0) (0 : Int) w fun q5 =>
  yAR C 5 (some v0) <|
  ySt C 5 0 98 (some v0) v2 (1 : Int) q5 fun w14 =>
  zX5_writeStandard_l20 F C F v0 v1 v2 v3 v4 (v2 + (1 : Int)) w14
def zX6_addDigits_h9 (F : Nat) (C : yC) (r : Int → Int → Int → Int → Int → Int → Int → zO → Option (Int × zO)) (v0 : Int) (v1 : Int) (v2 : Int) (v3 : Int) (v4 : Int) (v5 : Int) (v6 : Int) (w : zO) : Option (Int × zO) :=
  zLe v3 v6
  (some (v4, w))
  (yC1 (zX6_quotient F C v0 v5 w) fun q22_1 q22_2 =>
    yC1 (zX6_quotient F C v1 v5 q22_2) fun q28_1 q28_2 =>
    yC1 (zX6_mod F C (q22_1 + q28_1) v2 q28_2) fun q33_1 q33_2 =>
    r v0 v1 v2 v3 (v4 + (v5 * q33_1)) (v5 * v2) (v6 + (1 : Int)) q33_2)
def zX6_addDigits_l9 (F : Nat) (C : yC)  : Nat → Int → Int → Int → Int → Int → Int → Int → zO → Option (Int × zO)
  | 0, _, _, _, _, _, _, _, _ => none
  | n + 1, v0, v1, v2, v3, v4, v5, v6, w => zX6_addDigits_h9 F C (zX6_addDigits_l9 F C  n)  v0 v1 v2 v3 v4 v5 v6 w
def zX6_addDigits (F : Nat) (C : yC) (v0 : Int) (v1 : Int) (v2 : Int) (v3 : Int) (w : zO) : Option (Int × zO) :=
  zX6_addDigits_l9 F C F v0 v1 v2 v3 (0 : Int) (1 : Int) (0 : Int) w
def zX0_firstUnsound_b37 (F : Nat) (C : yC) (r : Nat → Int → Int → zO → Option (Int × zO)) (k50 : Nat → Int → zO → Option (Int × zO)) (v0 : Nat) (v1 : Int) (v2 : Int) (s0 : Int) (s1 : Int) (w : zO) : Option (Int × zO) :=
  zEq s0 s1
  (r v0 v1 (v2 + (1 : Int)) w)
  (some ((1000 : Int), w))
def zX0_firstUnsound_h12 (F : Nat) (C : yC) (r : Nat → Int → Int → zO → Option (Int × zO)) (k50 : Nat → Int → zO → Option (Int × zO)) (v0 : Nat) (v1 : Int) (v2 : Int) (w : zO) : Option (Int × zO) :=
  yFI C 0 4 (some v0) w fun t14 =>
  zLe t14 v2
  (k50 v0 v1 w)
  (yO C 0 (some v0) fun a24 =>
    yC1 (zX0_entry F C a24 (0 : Int) v1 v2 w) fun q24_1 q24_2 =>
    zEq v1 v2
    (zX0_firstUnsound_b37 F C r k50 v0 v1 v2 q24_1 (1 : Int) q24_2)
    (zX0_firstUnsound_b37 F C r k50 v0 v1 v2 q24_1 (0 : Int) q24_2))
def zX0_firstUnsound_l12 (F : Nat) (C : yC) (k50 : Nat → Int → zO → Option (Int × zO)) : Nat → Nat → Int → Int → zO → Option (Int × zO)
  | 0, _, _, _, _ => none
  | n + 1, v0, v1, v2, w => zX0_firstUnsound_h12 F C (zX0_firstUnsound_l12 F C k50 n) k50 v0 v1 v2 w
def zX0_firstUnsound_h2 (F : Nat) (C : yC) (r : Nat → Int → zO → Option (Int × zO)) (k56 : Nat → zO → Option (Int × zO)) (v0 : Nat) (v1 : Int) (w : zO) : Option (Int × zO) :=
  yFI C 0 4 (some v0) w fun t4 =>
  zLe t4 v1
  (k56 v0 w)
  (zX0_firstUnsound_l12 F C (fun (v0 : Nat) (v1 : Int) (w : zO) =>
      r v0 (v1 + (1 : Int)) w) F v0 v1 (0 : Int) w)
def zX0_firstUnsound_l2 (F : Nat) (C : yC) (k56 : Nat → zO → Option (Int × zO)) : Nat → Nat → Int → zO → Option (Int × zO)
  | 0, _, _, _ => none
  | n + 1, v0, v1, w => zX0_firstUnsound_h2 F C (zX0_firstUnsound_l2 F C k56 n) k56 v0 v1 w
def zX0_firstUnsound_h71 (F : Nat) (C : yC) (r : Nat → Int → Int → zO → Option (Int × zO)) (k111 : Nat → Int → zO → Option (Int × zO)) (k91 : Nat → Int → Int → zO → Option (Int × zO)) (v0 : Nat) (v1 : Int) (v2 : Int) (w : zO) : Option (Int × zO) :=
  yFR C 0 2 (some v0) fun t73 =>
  yFI C 2 7 t73 w fun t76 =>
  zLe t76 v2
  (k111 v0 v1 w)
  (yO C 0 (some v0) fun a85 =>
    yC1 (zX0_goesWithProduct F C a85 v1 v2 w) fun q85_1 q85_2 =>
    zEq q85_1 (0 : Int)
    (k91 v0 v1 v2 q85_2)
    (r v0 v1 (v2 + (1 : Int)) q85_2))
def zX0_firstUnsound_l71 (F : Nat) (C : yC) (k111 : Nat → Int → zO → Option (Int × zO)) (k91 : Nat → Int → Int → zO → Option (Int × zO)) : Nat → Nat → Int → Int → zO → Option (Int × zO)
  | 0, _, _, _, _ => none
  | n + 1, v0, v1, v2, w => zX0_firstUnsound_h71 F C (zX0_firstUnsound_l71 F C k111 k91 n) k111 k91 v0 v1 v2 w
def zX0_firstUnsound_h58 (F : Nat) (C : yC) (r : Nat → Int → zO → Option (Int × zO)) (k91 : Nat → Int → Int → zO → Option (Int × zO)) (v0 : Nat) (v1 : Int) (w : zO) : Option (Int × zO) :=
  yFR C 0 2 (some v0) fun t60 =>
  yFI C 2 7 t60 w fun t63 =>
  zLe t63 v1
  (some ((0 : Int), w))
  (zX0_firstUnsound_l71 F C (fun (v0 : Nat) (v1 : Int) (w : zO) =>
      r v0 (v1 + (1 : Int)) w) (fun (v0 : Nat) (v1 : Int) (v2 : Int) (w : zO) =>
      k91 v0 v1 v2 w) F v0 v1 (0 : Int) w)
def zX0_firstUnsound_l58 (F : Nat) (C : yC) (k91 : Nat → Int → Int → zO → Option (Int × zO)) : Nat → Nat → Int → zO → Option (Int × zO)
  | 0, _, _, _ => none
  | n + 1, v0, v1, w => zX0_firstUnsound_h58 F C (zX0_firstUnsound_l58 F C k91 n) k91 v0 v1 w
def zX0_firstUnsound (F : Nat) (C : yC) (v0 : Nat) (w : zO) : Option (Int × zO) :=
  zX0_firstUnsound_l2 F C (fun (v0 : Nat) (w : zO) =>
    zX0_firstUnsound_l58 F C (fun (v0 : Nat) (v1 : Int) (v2 : Int) (w : zO) =>
      yFR C 0 2 (some v0) fun t93 =>
      yFI C 2 7 t93 w fun t96 =>
      some ((((1 : Int) + (t96 * v1)) + v2), w)) F v0 (0 : Int) w) F v0 (0 : Int) w
def zX0_plus (F : Nat) (C : yC) (v0 : Nat) (v1 : Int) (v2 : Int) (w : zO) : Option (Int × zO) :=
  yFI C 0 3 (some v0) w fun t3 =>
  yFI C 0 4 (some v0) w fun t7 =>
  yC1 (zX6_addDigits F C v1 v2 t3 t7 w) fun q10_1 q10_2 =>
  some (q10_1, q10_2)
def zX1_add_h2 (F : Nat) (C : yC) (r : Nat → Option Nat → Int → zO → Option zO) (k29 : Nat → Option Nat → zO → Option zO) (v0 : Nat) (v1 : Option Nat) (v2 : Int) (w : zO) : Option zO :=
  yFI C 1 3 (some v0) w fun t4 =>
  zLe t4 v2
  (k29 v0 v1 w)
  (yLd C 5 0 98 v1 v2 w fun t14 =>
    yFI C 1 4 (some v0) w fun t16 =>
    yC1 (zX6_mod F C t14 t16 w) fun q19_1 q19_2 =>
    ySt C 5 0 98 v1 v2 q19_1 q19_2 fun w22 =>
    r v0 v1 (v2 + (1 : Int)) w22)
def zX1_add_l2 (F : Nat) (C : yC) (k29 : Nat → Option Nat → zO → Option zO) : Nat → Nat → Option Nat → Int → zO → Option zO
  | 0, _, _, _, _ => none
  | n + 1, v0, v1, v2, w => zX1_add_h2 F C (zX1_add_l2 F C k29 n) k29 v0 v1 v2 w
def zX1_add_h68 (F : Nat) (C : yC) (r : Nat → Option Nat → Int → Int → Int → zO → Option zO) (k111 : Nat → Int → zO → Option zO) (v0 : Nat) (v1 : Option Nat) (v2 : Int) (v3 : Int) (v4 : Int) (w : zO) : Option zO :=
  yFI C 1 3 (some v0) w fun t71 =>
  zLe t71 v4
  (k111 v0 v2 w)
  (yAR C 1 (some v0) <|
    yFI C 1 5 (some v0) w fun t82 =>
    yLd C 5 0 98 v1 v4 w fun t94 =>
    yFI C 1 4 (some v0) w fun t98 =>
    yC1 (zX6_mod F C (t94 * v3) t98 w) fun q101_1 q101_2 =>
    ySE C 1 0 98 (some v0) ((t82 * (98 : Int)) + v4) q101_1 q101_2 fun w104 =>
    r v0 v1 v2 v3 (v4 + (1 : Int)) w104)
def zX1_add_l68 (F : Nat) (C : yC) (k111 : Nat → Int → zO → Option zO) : Nat → Nat → Option Nat → Int → Int → Int → zO → Option zO
  | 0, _, _, _, _, _, _ => none
  | n + 1, v0, v1, v2, v3, v4, w => zX1_add_h68 F C (zX1_add_l68 F C k111 n) k111 v0 v1 v2 v3 v4 w
def zX1_add (F : Nat) (C : yC) (v0 : Nat) (v1 : Option Nat) (w : zO) : Option zO :=
  zX1_add_l2 F C (fun (v0 : Nat) (v1 : Option Nat) (w : zO) =>
    yO C 1 (some v0) fun a31 =>
    yC0 (zX1_reduce F C a31 v1 w) fun q31 =>
    yO C 1 (some v0) fun a36 =>
    yC1 (zX1_firstNotZero F C a36 v1 q31) fun q36_1 q36_2 =>
    zLt q36_1 (0 : Int)
    (some q36_2)
    (yFI C 1 5 (some v0) q36_2 fun t45 =>
      yAR C 1 (some v0) <|
      yLnE C 1 1 (some v0) fun t52 =>
      zLt t45 t52
      (yLd C 5 0 98 v1 q36_1 q36_2 fun t60 =>
        yO C 1 (some v0) fun a61 =>
        yC1 (zX1_inverseOf F C a61 t60 q36_2) fun q61_1 q61_2 =>
        zX1_add_l68 F C (fun (v0 : Nat) (v2 : Int) (w : zO) =>
          yAR C 1 (some v0) <|
          yFI C 1 5 (some v0) w fun t116 =>
          ySE C 1 1 1 (some v0) t116 v2 w fun w120 =>
          yAR C 1 (some v0) <|
          yFI C 1 5 (some v0) w120 fun t127 =>
          ySt C 1 2 98 (some v0) v2 t127 w120 fun w130 =>
          yFI C 1 5 (some v0) w130 fun t133 =>
          yPI C 1 5 (some v0) (t133 + (1 : Int)) w130 fun w138 =>
          some w138) F v0 v1 q36_1 q61_1 (0 : Int) q61_2)
      (some q36_2))) F v0 v1 (0 : Int) w
def zX5_classRead_h36 (F : Nat) (C : yC) (r : Nat → Option Nat → Int → Int → zO → Option (Int × zO)) (k69 : Nat → Int → zO → Option (Int × zO)) (v0 : Nat) (v1 : Option Nat) (v3 : Int) (v4 : Int) (w : zO) : Option (Int × zO) :=
  zLt v4 (0 : Int)
  (k69 v0 v3 w)
  (yFI C 0 3 v1 w fun t43 =>
    yAR C 5 (some v0) <|
    yFR C 5 2 (some v0) fun t52 =>
    yO C 1 t52 fun a57 =>
    yC1 (zX1_leadOf F C a57 v4 w) fun q57_1 q57_2 =>
    yLd C 5 0 98 (some v0) q57_1 q57_2 fun t60 =>
    r v0 v1 ((v3 * t43) + t60) (v4 + (-1 : Int)) q57_2)
def zX5_classRead_l36 (F : Nat) (C : yC) (k69 : Nat → Int → zO → Option (Int × zO)) : Nat → Nat → Option Nat → Int → Int → zO → Option (Int × zO)
  | 0, _, _, _, _, _ => none
  | n + 1, v0, v1, v3, v4, w => zX5_classRead_h36 F C (zX5_classRead_l36 F C k69 n) k69 v0 v1 v3 v4 w
def zX5_classRead (F : Nat) (C : yC) (v0 : Nat) (v1 : Option Nat) (v2 : Option Nat) (w : zO) : Option (Int × zO) :=
  yO C 5 (some v0) fun a3 =>
  yC1 (zX5_readPair F C a3 v1 v2 w) fun q3_1 q3_2 =>
  zEq q3_1 (0 : Int)
  (some ((-4 : Int), q3_2))
  (yFR C 5 1 (some v0) fun t13 =>
    yAR C 5 (some v0) <|
    yO C 1 t13 fun a20 =>
    yC0 (zX1_reduce F C a20 (some v0) q3_2) fun q20 =>
    yFR C 5 2 (some v0) fun t26 =>
    yFI C 1 5 t26 q20 fun t29 =>
    zX5_classRead_l36 F C (fun (v0 : Nat) (v3 : Int) (w : zO) =>
      yFR C 5 2 (some v0) fun t70 =>
      yAR C 5 (some v0) <|
      yO C 1 t70 fun a77 =>
      yC0 (zX1_reduce F C a77 (some v0) w) fun q77 =>
      yFR C 5 2 (some v0) fun t81 =>
      yAR C 5 (some v0) <|
      yO C 1 t81 fun a88 =>
      yC1 (zX1_firstNotZero F C a88 (some v0) q77) fun q88_1 q88_2 =>
      zLe (0 : Int) q88_1
      (some ((-4 : Int), q88_2))
      (some (v3, q88_2))) F v0 v1 (0 : Int) (t29 - (1 : Int)) q20)
def zX5_vectorOf_h11 (F : Nat) (C : yC) (r : Nat → Option Nat → Int → Int → Int → Int → Int → zO → Option (Int × zO)) (v0 : Nat) (v1 : Option Nat) (v2 : Int) (v3 : Int) (v4 : Int) (v5 : Int) (v6 : Int) (w : zO) : Option (Int × zO) :=
  zLt v6 (0 : Int)
  (some (v5, w))
  (yFI C 0 3 v1 w fun t19 =>
    yO C 5 (some v0) fun a31 =>
    yC1 (zX5_numberOf F C a31 v1 v2 v3 v4 v6 w) fun q31_1 q31_2 =>
    r v0 v1 v2 v3 v4 ((v5 * t19) + q31_1) (v6 + (-1 : Int)) q31_2)
def zX5_vectorOf_l11 (F : Nat) (C : yC)  : Nat → Nat → Option Nat → Int → Int → Int → Int → Int → zO → Option (Int × zO)
  | 0, _, _, _, _, _, _, _, _ => none
  | n + 1, v0, v1, v2, v3, v4, v5, v6, w => zX5_vectorOf_h11 F C (zX5_vectorOf_l11 F C  n)  v0 v1 v2 v3 v4 v5 v6 w
def zX5_vectorOf (F : Nat) (C : yC) (v0 : Nat) (v1 : Option Nat) (v2 : Int) (v3 : Int) (v4 : Int) (w : zO) : Option (Int × zO) :=
  yFI C 0 4 v1 w fun t4 =>
  zX5_vectorOf_l11 F C F v0 v1 v2 v3 v4 (0 : Int) (t4 - (1 : Int)) w
def zX2_fillOver_h90 (F : Nat) (C : yC) (r : Nat → Option Nat → Int → Option Nat → Int → Int → Int → Int → Int → Int → Int → zO → Option zO) (k143 : Nat → Option Nat → Int → Option Nat → Int → Int → Int → Int → Int → zO → Option zO) (v0 : Nat) (v1 : Option Nat) (v2 : Int) (v3 : Option Nat) (v4 : Int) (v5 : Int) (v6 : Int) (v7 : Int) (v8 : Int) (v9 : Int) (v10 : Int) (w : zO) : Option zO :=
  zLe v4 v10
  (k143 v0 v1 v2 v3 v4 v5 v6 v7 v8 w)
  (yO C 2 v3 fun a121 =>
    yC1 (zX2_mul F C a121 v5 v6 w) fun q121_1 q121_2 =>
    yO C 0 v1 fun a130 =>
    yC1 (zX0_plus F C a130 v10 v9 q121_2) fun q130_1 q130_2 =>
    yO C 2 (some v0) fun a134 =>
    yC0 (zX2_set F C a134 ((v4 * v5) + v10) ((v4 * v6) + v8) ((v4 * q121_1) + q130_1) q130_2) fun q134 =>
    r v0 v1 v2 v3 v4 v5 v6 v7 v8 v9 (v10 + (1 : Int)) q134)
def zX2_fillOver_l90 (F : Nat) (C : yC) (k143 : Nat → Option Nat → Int → Option Nat → Int → Int → Int → Int → Int → zO → Option zO) : Nat → Nat → Option Nat → Int → Option Nat → Int → Int → Int → Int → Int → Int → Int → zO → Option zO
  | 0, _, _, _, _, _, _, _, _, _, _, _, _ => none
  | n + 1, v0, v1, v2, v3, v4, v5, v6, v7, v8, v9, v10, w => zX2_fillOver_h90 F C (zX2_fillOver_l90 F C k143 n) k143 v0 v1 v2 v3 v4 v5 v6 v7 v8 v9 v10 w
def zX2_fillOver_h64 (F : Nat) (C : yC) (r : Nat → Option Nat → Int → Option Nat → Int → Int → Int → Int → Int → zO → Option zO) (k149 : Nat → Option Nat → Int → Option Nat → Int → Int → Int → zO → Option zO) (v0 : Nat) (v1 : Option Nat) (v2 : Int) (v3 : Option Nat) (v4 : Int) (v5 : Int) (v6 : Int) (v7 : Int) (v8 : Int) (w : zO) : Option zO :=
  zLe v4 v8
  (k149 v0 v1 v2 v3 v4 v5 v6 w)
  (yO C 0 v1 fun a77 =>
    yC1 (zX0_move F C a77 v5 v8 w) fun q77_1 q77_2 =>
    yO C 0 v1 fun a82 =>
    yC1 (zX0_plus F C a82 q77_1 v7 q77_2) fun q82_1 q82_2 =>
    zX2_fillOver_l90 F C (fun (v0 : Nat) (v1 : Option Nat) (v2 : Int) (v3 : Option Nat) (v4 : Int) (v5 : Int) (v6 : Int) (v7 : Int) (v8 : Int) (w : zO) =>
      r v0 v1 v2 v3 v4 v5 v6 v7 (v8 + (1 : Int)) w) F v0 v1 v2 v3 v4 v5 v6 v7 v8 q82_1 (0 : Int) q82_2)
def zX2_fillOver_l64 (F : Nat) (C : yC) (k149 : Nat → Option Nat → Int → Option Nat → Int → Int → Int → zO → Option zO) : Nat → Nat → Option Nat → Int → Option Nat → Int → Int → Int → Int → Int → zO → Option zO
  | 0, _, _, _, _, _, _, _, _, _, _ => none
  | n + 1, v0, v1, v2, v3, v4, v5, v6, v7, v8, w => zX2_fillOver_h64 F C (zX2_fillOver_l64 F C k149 n) k149 v0 v1 v2 v3 v4 v5 v6 v7 v8 w
def zX2_fillOver_h37 (F : Nat) (C : yC) (r : Nat → Option Nat → Int → Option Nat → Int → Int → Int → zO → Option zO) (k155 : Nat → Option Nat → Int → Option Nat → Int → Int → zO → Option zO) (v0 : Nat) (v1 : Option Nat) (v2 : Int) (v3 : Option Nat) (v4 : Int) (v5 : Int) (v6 : Int) (w : zO) : Option zO :=
  yFI C 2 7 v3 w fun t40 =>
  zLe t40 v6
  (k155 v0 v1 v2 v3 v4 v5 w)
  (yFR C 0 1 v1 fun t47 =>
    yO C 5 t47 fun a56 =>
    yC1 (zX5_vectorOf F C a56 v1 v2 v5 v6 w) fun q56_1 q56_2 =>
    zX2_fillOver_l64 F C (fun (v0 : Nat) (v1 : Option Nat) (v2 : Int) (v3 : Option Nat) (v4 : Int) (v5 : Int) (v6 : Int) (w : zO) =>
      r v0 v1 v2 v3 v4 v5 (v6 + (1 : Int)) w) F v0 v1 v2 v3 v4 v5 v6 q56_1 (0 : Int) q56_2)
def zX2_fillOver_l37 (F : Nat) (C : yC) (k155 : Nat → Option Nat → Int → Option Nat → Int → Int → zO → Option zO) : Nat → Nat → Option Nat → Int → Option Nat → Int → Int → Int → zO → Option zO
  | 0, _, _, _, _, _, _, _, _ => none
  | n + 1, v0, v1, v2, v3, v4, v5, v6, w => zX2_fillOver_h37 F C (zX2_fillOver_l37 F C k155 n) k155 v0 v1 v2 v3 v4 v5 v6 w
def zX2_fillOver_h25 (F : Nat) (C : yC) (r : Nat → Option Nat → Int → Option Nat → Int → Int → zO → Option zO) (v0 : Nat) (v1 : Option Nat) (v2 : Int) (v3 : Option Nat) (v4 : Int) (v5 : Int) (w : zO) : Option zO :=
  yFI C 2 7 v3 w fun t28 =>
  zLe t28 v5
  (some w)
  (zX2_fillOver_l37 F C (fun (v0 : Nat) (v1 : Option Nat) (v2 : Int) (v3 : Option Nat) (v4 : Int) (v5 : Int) (w : zO) =>
      r v0 v1 v2 v3 v4 (v5 + (1 : Int)) w) F v0 v1 v2 v3 v4 v5 (0 : Int) w)
def zX2_fillOver_l25 (F : Nat) (C : yC)  : Nat → Nat → Option Nat → Int → Option Nat → Int → Int → zO → Option zO
  | 0, _, _, _, _, _, _, _ => none
  | n + 1, v0, v1, v2, v3, v4, v5, w => zX2_fillOver_h25 F C (zX2_fillOver_l25 F C  n)  v0 v1 v2 v3 v4 v5 w
def zX2_fillOver (F : Nat) (C : yC) (v0 : Nat) (v1 : Option Nat) (v2 : Int) (w : zO) : Option zO :=
  yFR C 0 2 v1 fun t1 =>
  yFI C 0 5 v1 w fun t6 =>
  yFI C 2 7 t1 w fun t15 =>
  yPI C 2 7 (some v0) (t6 * t15) w fun w19 =>
  zX2_fillOver_l25 F C F v0 v1 v2 t1 t6 (0 : Int) w19
def zX5_findBounds_h48 (F : Nat) (C : yC) (r : Nat → Option Nat → Int → Int → zO → Option zO) (k80 : Nat → Option Nat → Int → zO → Option zO) (v0 : Nat) (v1 : Option Nat) (v2 : Int) (v3 : Int) (w : zO) : Option zO :=
  yFI C 0 4 v1 w fun t50 =>
  zLe t50 v3
  (k80 v0 v1 v2 w)
  (yO C 5 (some v0) fun a60 =>
    yC0 (zX5_writeBound F C a60 v1 v2 v3 w) fun q60 =>
    yFR C 5 1 (some v0) fun t64 =>
    yAR C 5 (some v0) <|
    yO C 1 t64 fun a71 =>
    yC0 (zX1_add F C a71 (some v0) q60) fun q71 =>
    r v0 v1 v2 (v3 + (1 : Int)) q71)
def zX5_findBounds_l48 (F : Nat) (C : yC) (k80 : Nat → Option Nat → Int → zO → Option zO) : Nat → Nat → Option Nat → Int → Int → zO → Option zO
  | 0, _, _, _, _, _ => none
  | n + 1, v0, v1, v2, v3, w => zX5_findBounds_h48 F C (zX5_findBounds_l48 F C k80 n) k80 v0 v1 v2 v3 w
def zX5_findBounds_h35 (F : Nat) (C : yC) (r : Nat → Option Nat → Int → zO → Option zO) (v0 : Nat) (v1 : Option Nat) (v2 : Int) (w : zO) : Option zO :=
  yFR C 0 2 v1 fun t37 =>
  yFI C 2 7 t37 w fun t40 =>
  zLe t40 v2
  (some w)
  (zX5_findBounds_l48 F C (fun (v0 : Nat) (v1 : Option Nat) (v2 : Int) (w : zO) =>
      r v0 v1 (v2 + (1 : Int)) w) F v0 v1 v2 (0 : Int) w)
def zX5_findBounds_l35 (F : Nat) (C : yC)  : Nat → Nat → Option Nat → Int → zO → Option zO
  | 0, _, _, _, _ => none
  | n + 1, v0, v1, v2, w => zX5_findBounds_h35 F C (zX5_findBounds_l35 F C  n)  v0 v1 v2 w
def zX5_findBounds (F : Nat) (C : yC) (v0 : Nat) (v1 : Option Nat) (w : zO) : Option zO :=
  yFR C 0 2 v1 fun t2 =>
  yFI C 2 7 t2 w fun t5 =>
  yFI C 0 4 v1 w fun t11 =>
  yPI C 5 5 (some v0) ((t5 - (1 : Int)) * t11) w fun w15 =>
  yFR C 5 1 (some v0) fun t19 =>
  yO C 0 v1 fun a23 =>
  yC1 (zX0_places F C a23 w15) fun q23_1 q23_2 =>
  yFI C 0 3 v1 q23_2 fun t27 =>
  yO C 1 t19 fun a30 =>
  yC0 (zX1_begin F C a30 q23_1 t27 q23_2) fun q30 =>
  zX5_findBounds_l35 F C F v0 v1 (1 : Int) q30
def zX5_findStandards_b62 (F : Nat) (C : yC) (r : Nat → Option Nat → Option Nat → Int → Int → zO → Option zO) (k68 : Nat → Option Nat → zO → Option zO) (v0 : Nat) (v1 : Option Nat) (v2 : Option Nat) (v3 : Int) (v4 : Int) (w : zO) : Option zO :=
  r v0 v1 v2 v3 (v4 + (1 : Int)) w
def zX5_findStandards_h20 (F : Nat) (C : yC) (r : Nat → Option Nat → Option Nat → Int → Int → zO → Option zO) (k68 : Nat → Option Nat → zO → Option zO) (v0 : Nat) (v1 : Option Nat) (v2 : Option Nat) (v3 : Int) (v4 : Int) (w : zO) : Option zO :=
  zLe v3 v4
  (k68 v0 v1 w)
  (yO C 1 v2 fun a33 =>
    yC1 (zX1_leadsAt F C a33 ((v3 - (1 : Int)) - v4) w) fun q33_1 q33_2 =>
    zEq q33_1 (0 : Int)
    (yFI C 0 3 v1 q33_2 fun t45 =>
      yO C 5 (some v0) fun a48 =>
      yC0 (zX5_writeStandard F C a48 v2 v4 v3 t45 q33_2) fun q48 =>
      yFR C 5 2 (some v0) fun t52 =>
      yAR C 5 (some v0) <|
      yO C 1 t52 fun a59 =>
      yC0 (zX1_add F C a59 (some v0) q48) fun q59 =>
      zX5_findStandards_b62 F C r k68 v0 v1 v2 v3 v4 q59)
    (zX5_findStandards_b62 F C r k68 v0 v1 v2 v3 v4 q33_2))
def zX5_findStandards_l20 (F : Nat) (C : yC) (k68 : Nat → Option Nat → zO → Option zO) : Nat → Nat → Option Nat → Option Nat → Int → Int → zO → Option zO
  | 0, _, _, _, _, _, _ => none
  | n + 1, v0, v1, v2, v3, v4, w => zX5_findStandards_h20 F C (zX5_findStandards_l20 F C k68 n) k68 v0 v1 v2 v3 v4 w
def zX5_findStandards (F : Nat) (C : yC) (v0 : Nat) (v1 : Option Nat) (v2 : Option Nat) (w : zO) : Option zO :=
  yO C 0 v1 fun a1 =>
  yC1 (zX0_places F C a1 w) fun q1_1 q1_2 =>
  yFR C 5 2 (some v0) fun t6 =>
  yFI C 0 3 v1 q1_2 fun t11 =>
  yO C 1 t6 fun a14 =>
  yC0 (zX1_begin F C a14 q1_1 t11 q1_2) fun q14 =>
  zX5_findStandards_l20 F C (fun (v0 : Nat) (v1 : Option Nat) (w : zO) =>
    yFI C 0 3 v1 w fun t70 =>
    yFR C 5 2 (some v0) fun t74 =>
    yFI C 1 5 t74 w fun t77 =>
    yC1 (zX6_power F C t70 t77 w) fun q80_1 q80_2 =>
    yPI C 5 6 (some v0) q80_1 q80_2 fun w83 =>
    some w83) F v0 v1 v2 q1_1 (0 : Int) q14
def zX5_findUnmoved_b76 (F : Nat) (C : yC) (r : Nat → Option Nat → Option Nat → Int → Int → Int → zO → Option zO) (k84 : Nat → Option Nat → Option Nat → Int → Int → zO → Option zO) (v0 : Nat) (v1 : Option Nat) (v2 : Option Nat) (v3 : Int) (v4 : Int) (v5 : Int) (s0 : Option Nat) (s1 : Int) (s2 : Int) (s3 : Int) (w : zO) : Option zO :=
  ySt C 5 0 98 s0 s1 (s2 - s3) w fun w77 =>
  r v0 v1 v2 v3 v4 (v5 + (1 : Int)) w77
def zX5_findUnmoved_h40 (F : Nat) (C : yC) (r : Nat → Option Nat → Option Nat → Int → Int → Int → zO → Option zO) (k84 : Nat → Option Nat → Option Nat → Int → Int → zO → Option zO) (v0 : Nat) (v1 : Option Nat) (v2 : Option Nat) (v3 : Int) (v4 : Int) (v5 : Int) (w : zO) : Option zO :=
  yFI C 0 4 v1 w fun t43 =>
  zLe t43 v5
  (k84 v0 v1 v2 v3 v4 w)
  (yAR C 5 (some v0) <|
    yO C 0 v1 fun a61 =>
    yC1 (zX0_entry F C a61 v3 v4 v5 w) fun q61_1 q61_2 =>
    zEq v4 v5
    (zX5_findUnmoved_b76 F C r k84 v0 v1 v2 v3 v4 v5 (some v0) v5 q61_1 (1 : Int) q61_2)
    (zX5_findUnmoved_b76 F C r k84 v0 v1 v2 v3 v4 v5 (some v0) v5 q61_1 (0 : Int) q61_2))
def zX5_findUnmoved_l40 (F : Nat) (C : yC) (k84 : Nat → Option Nat → Option Nat → Int → Int → zO → Option zO) : Nat → Nat → Option Nat → Option Nat → Int → Int → Int → zO → Option zO
  | 0, _, _, _, _, _, _, _ => none
  | n + 1, v0, v1, v2, v3, v4, v5, w => zX5_findUnmoved_h40 F C (zX5_findUnmoved_l40 F C k84 n) k84 v0 v1 v2 v3 v4 v5 w
def zX5_findUnmoved_h28 (F : Nat) (C : yC) (r : Nat → Option Nat → Option Nat → Int → Int → zO → Option zO) (k98 : Nat → Option Nat → Option Nat → Int → zO → Option zO) (v0 : Nat) (v1 : Option Nat) (v2 : Option Nat) (v3 : Int) (v4 : Int) (w : zO) : Option zO :=
  yFI C 0 4 v1 w fun t31 =>
  zLe t31 v4
  (k98 v0 v1 v2 v3 w)
  (zX5_findUnmoved_l40 F C (fun (v0 : Nat) (v1 : Option Nat) (v2 : Option Nat) (v3 : Int) (v4 : Int) (w : zO) =>
      yAR C 5 (some v0) <|
      yO C 1 v2 fun a89 =>
      yC0 (zX1_add F C a89 (some v0) w) fun q89 =>
      r v0 v1 v2 v3 (v4 + (1 : Int)) q89) F v0 v1 v2 v3 v4 (0 : Int) w)
def zX5_findUnmoved_l28 (F : Nat) (C : yC) (k98 : Nat → Option Nat → Option Nat → Int → zO → Option zO) : Nat → Nat → Option Nat → Option Nat → Int → Int → zO → Option zO
  | 0, _, _, _, _, _, _ => none
  | n + 1, v0, v1, v2, v3, v4, w => zX5_findUnmoved_h28 F C (zX5_findUnmoved_l28 F C k98 n) k98 v0 v1 v2 v3 v4 w
def zX5_findUnmoved_h14 (F : Nat) (C : yC) (r : Nat → Option Nat → Option Nat → Int → zO → Option zO) (k104 : Nat → Option Nat → Option Nat → zO → Option zO) (v0 : Nat) (v1 : Option Nat) (v2 : Option Nat) (v3 : Int) (w : zO) : Option zO :=
  yFR C 0 2 v1 fun t16 =>
  yFI C 2 7 t16 w fun t19 =>
  zLe t19 v3
  (k104 v0 v1 v2 w)
  (zX5_findUnmoved_l28 F C (fun (v0 : Nat) (v1 : Option Nat) (v2 : Option Nat) (v3 : Int) (w : zO) =>
      r v0 v1 v2 (v3 + (1 : Int)) w) F v0 v1 v2 v3 (0 : Int) w)
def zX5_findUnmoved_l14 (F : Nat) (C : yC) (k104 : Nat → Option Nat → Option Nat → zO → Option zO) : Nat → Nat → Option Nat → Option Nat → Int → zO → Option zO
  | 0, _, _, _, _, _ => none
  | n + 1, v0, v1, v2, v3, w => zX5_findUnmoved_h14 F C (zX5_findUnmoved_l14 F C k104 n) k104 v0 v1 v2 v3 w
def zX5_findUnmoved (F : Nat) (C : yC) (v0 : Nat) (v1 : Option Nat) (v2 : Option Nat) (w : zO) : Option zO :=
  yFI C 0 4 v1 w fun t2 =>
  yFI C 0 3 v1 w fun t6 =>
  yO C 1 v2 fun a9 =>
  yC0 (zX1_begin F C a9 t2 t6 w) fun q9 =>
  zX5_findUnmoved_l14 F C (fun (v0 : Nat) (v1 : Option Nat) (v2 : Option Nat) (w : zO) =>
    yFI C 1 5 v2 w fun t106 =>
    yPI C 5 4 (some v0) t106 w fun w109 =>
    yFI C 0 4 v1 w109 fun t114 =>
    yFI C 5 4 (some v0) w109 fun t118 =>
    yPI C 5 3 (some v0) (t114 - t118) w109 fun w122 =>
    some w122) F v0 v1 v2 (0 : Int) q9
def zX5_writeEquations_h21 (F : Nat) (C : yC) (r : Nat → Option Nat → Option Nat → Int → Int → zO → Option zO) (k72 : Nat → Option Nat → Option Nat → zO → Option zO) (v0 : Nat) (v1 : Option Nat) (v2 : Option Nat) (v3 : Int) (v4 : Int) (w : zO) : Option zO :=
  yFR C 5 1 (some v0) fun t24 =>
  yFI C 1 5 t24 w fun t27 =>
  zLe t27 v4
  (k72 v0 v1 v2 w)
  (yAR C 5 (some v0) <|
    yFill C 5 0 98 (some v0) (0 : Int) w fun q38 =>
    yAR C 5 (some v0) <|
    yFR C 5 1 (some v0) fun t47 =>
    yO C 1 t47 fun a52 =>
    yC1 (zX1_leadOf F C a52 v4 q38) fun q52_1 q52_2 =>
    ySt C 5 0 98 (some v0) (v3 - q52_1) (1 : Int) q52_2 fun w57 =>
    yAR C 5 (some v0) <|
    yO C 1 v2 fun a63 =>
    yC0 (zX1_add F C a63 (some v0) w57) fun q63 =>
    r v0 v1 v2 v3 (v4 + (1 : Int)) q63)
def zX5_writeEquations_l21 (F : Nat) (C : yC) (k72 : Nat → Option Nat → Option Nat → zO → Option zO) : Nat → Nat → Option Nat → Option Nat → Int → Int → zO → Option zO
  | 0, _, _, _, _, _, _ => none
  | n + 1, v0, v1, v2, v3, v4, w => zX5_writeEquations_h21 F C (zX5_writeEquations_l21 F C k72 n) k72 v0 v1 v2 v3 v4 w
def zX5_writeEquations_h124 (F : Nat) (C : yC) (r : Nat → Option Nat → Option Nat → Int → Int → Int → Int → Int → zO → Option zO) (k168 : Nat → Option Nat → Option Nat → Int → Int → Int → Int → zO → Option zO) (v0 : Nat) (v1 : Option Nat) (v2 : Option Nat) (v4 : Int) (v5 : Int) (v6 : Int) (v7 : Int) (v8 : Int) (w : zO) : Option zO :=
  yFI C 0 4 v1 w fun t127 =>
  zLe t127 v8
  (k168 v0 v1 v2 v4 v5 v6 v7 w)
  (yFR C 0 2 v1 fun t136 =>
    yAR C 2 t136 <|
    yLd C 2 5 5 t136 v5 w fun t144 =>
    yO C 5 (some v0) fun a151 =>
    yC0 (zX5_writeCocycleRule F C a151 v1 t144 v6 v7 v8 w) fun q151 =>
    yAR C 5 (some v0) <|
    yO C 1 v2 fun a159 =>
    yC0 (zX1_add F C a159 (some v0) q151) fun q159 =>
    r v0 v1 v2 v4 v5 v6 v7 (v8 + (1 : Int)) q159)
def zX5_writeEquations_l124 (F : Nat) (C : yC) (k168 : Nat → Option Nat → Option Nat → Int → Int → Int → Int → zO → Option zO) : Nat → Nat → Option Nat → Option Nat → Int → Int → Int → Int → Int → zO → Option zO
  | 0, _, _, _, _, _, _, _, _, _ => none
  | n + 1, v0, v1, v2, v4, v5, v6, v7, v8, w => zX5_writeEquations_h124 F C (zX5_writeEquations_l124 F C k168 n) k168 v0 v1 v2 v4 v5 v6 v7 v8 w
def zX5_writeEquations_h109 (F : Nat) (C : yC) (r : Nat → Option Nat → Option Nat → Int → Int → Int → Int → zO → Option zO) (k174 : Nat → Option Nat → Option Nat → Int → Int → Int → zO → Option zO) (v0 : Nat) (v1 : Option Nat) (v2 : Option Nat) (v4 : Int) (v5 : Int) (v6 : Int) (v7 : Int) (w : zO) : Option zO :=
  yFR C 0 2 v1 fun t112 =>
  yFI C 2 7 t112 w fun t115 =>
  zLe t115 v7
  (k174 v0 v1 v2 v4 v5 v6 w)
  (zX5_writeEquations_l124 F C (fun (v0 : Nat) (v1 : Option Nat) (v2 : Option Nat) (v4 : Int) (v5 : Int) (v6 : Int) (v7 : Int) (w : zO) =>
      r v0 v1 v2 v4 v5 v6 (v7 + (1 : Int)) w) F v0 v1 v2 v4 v5 v6 v7 (0 : Int) w)
def zX5_writeEquations_l109 (F : Nat) (C : yC) (k174 : Nat → Option Nat → Option Nat → Int → Int → Int → zO → Option zO) : Nat → Nat → Option Nat → Option Nat → Int → Int → Int → Int → zO → Option zO
  | 0, _, _, _, _, _, _, _, _ => none
  | n + 1, v0, v1, v2, v4, v5, v6, v7, w => zX5_writeEquations_h109 F C (zX5_writeEquations_l109 F C k174 n) k174 v0 v1 v2 v4 v5 v6 v7 w
def zX5_writeEquations_h94 (F : Nat) (C : yC) (r : Nat → Option Nat → Option Nat → Int → Int → Int → zO → Option zO) (k180 : Nat → Option Nat → Option Nat → Int → Int → zO → Option zO) (v0 : Nat) (v1 : Option Nat) (v2 : Option Nat) (v4 : Int) (v5 : Int) (v6 : Int) (w : zO) : Option zO :=
  yFR C 0 2 v1 fun t97 =>
  yFI C 2 7 t97 w fun t100 =>
  zLe t100 v6
  (k180 v0 v1 v2 v4 v5 w)
  (zX5_writeEquations_l109 F C (fun (v0 : Nat) (v1 : Option Nat) (v2 : Option Nat) (v4 : Int) (v5 : Int) (v6 : Int) (w : zO) =>
      r v0 v1 v2 v4 v5 (v6 + (1 : Int)) w) F v0 v1 v2 v4 v5 v6 (1 : Int) w)
def zX5_writeEquations_l94 (F : Nat) (C : yC) (k180 : Nat → Option Nat → Option Nat → Int → Int → zO → Option zO) : Nat → Nat → Option Nat → Option Nat → Int → Int → Int → zO → Option zO
  | 0, _, _, _, _, _, _, _ => none
  | n + 1, v0, v1, v2, v4, v5, v6, w => zX5_writeEquations_h94 F C (zX5_writeEquations_l94 F C k180 n) k180 v0 v1 v2 v4 v5 v6 w
def zX5_writeEquations_h84 (F : Nat) (C : yC) (r : Nat → Option Nat → Option Nat → Int → Int → zO → Option zO) (v0 : Nat) (v1 : Option Nat) (v2 : Option Nat) (v4 : Int) (v5 : Int) (w : zO) : Option zO :=
  zLe v4 v5
  (some w)
  (zX5_writeEquations_l94 F C (fun (v0 : Nat) (v1 : Option Nat) (v2 : Option Nat) (v4 : Int) (v5 : Int) (w : zO) =>
      r v0 v1 v2 v4 (v5 + (1 : Int)) w) F v0 v1 v2 v4 v5 (1 : Int) w)
def zX5_writeEquations_l84 (F : Nat) (C : yC)  : Nat → Nat → Option Nat → Option Nat → Int → Int → zO → Option zO
  | 0, _, _, _, _, _, _ => none
  | n + 1, v0, v1, v2, v4, v5, w => zX5_writeEquations_h84 F C (zX5_writeEquations_l84 F C  n)  v0 v1 v2 v4 v5 w
