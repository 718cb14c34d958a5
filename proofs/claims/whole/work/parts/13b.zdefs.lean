/-! THE MODEL'S METHODS OVER A STATE OF WHOLE NUMBERS (laid by a program of mine) -/
def zX7_addTo (F : Nat) (v1 : Int) (v2 : Int) (w : zS) : Option zS :=
  zLd 98 (zA w 25) v1 fun t10 =>
  zRem (t10 + v2) (zI w 23) fun t17 =>
  zRem (t17 + (zI w 23)) (zI w 23) fun t27 =>
  zSt 25 98 v1 t27 w fun w28 =>
  some w28
def zX7_added (F : Nat) (v1 : Int) (w : zS) : Option (Int × zS) :=
  zSt 1 8 (zI w 0) v1 w fun w9 =>
  zSt 3 8 (zI w 0) (-4 : Int) w9 fun w20 =>
  zPI 0 ((zI w 0) + (1 : Int)) w20 fun w28 =>
  some ((((zI w 0) + (1 : Int)) - (1 : Int)), w28)
def zX7_clearLine_h2 (F : Nat) (r : Int → zS → Option zS) (v1 : Int) (w : zS) : Option zS :=
  zLe (98 : Int) v1
  (some w)
  (zSt 25 98 v1 (0 : Int) w fun w14 =>
    r (v1 + (1 : Int)) w14)
def zX7_clearLine_l2 (F : Nat)  : Nat → Int → zS → Option zS
  | 0, _, _ => none
  | n + 1, v1, w => zX7_clearLine_h2 F (zX7_clearLine_l2 F  n)  v1 w
def zX7_clearLine (F : Nat) (w : zS) : Option zS :=
  zX7_clearLine_l2 F F (0 : Int) w
def zX7_count (F : Nat) (v1 : Int) (w : zS) : Option (Int × zS) :=
  zEq v1 (0 : Int)
  (some ((zI w 0), w))
  (zEq v1 (1 : Int)
    (some ((zI w 7), w))
    (zEq v1 (2 : Int)
      (zLd 4 (zA w 4) (0 : Int) fun t33 =>
        zEq t33 (-4 : Int)
        (some ((-4 : Int), w))
        (zLd 4 (zA w 5) (0 : Int) fun t49 =>
          some (t49, w)))
      (some ((-1 : Int), w))))
def zX7_drop_h12 (F : Nat) (r : Int → zS → Option (Int × zS)) (k44 : zS → Option (Int × zS)) (v1 : Int) (w : zS) : Option (Int × zS) :=
  zLe (zI w 7) v1
  (k44 w)
  (zLd 6 (zA w 8) v1 fun t25 =>
    zEq t25 ((zI w 0) - (1 : Int))
    (some ((-2 : Int), w))
    (r (v1 + (1 : Int)) w))
def zX7_drop_l12 (F : Nat) (k44 : zS → Option (Int × zS)) : Nat → Int → zS → Option (Int × zS)
  | 0, _, _ => none
  | n + 1, v1, w => zX7_drop_h12 F (zX7_drop_l12 F k44 n) k44 v1 w
def zX7_drop (F : Nat) (w : zS) : Option (Int × zS) :=
  zEq (zI w 0) (0 : Int)
  (some ((-4 : Int), w))
  (zX7_drop_l12 F (fun (w : zS) =>
      zPI 0 ((zI w 0) - (1 : Int)) w fun w51 =>
      some (((zI w 0) - (1 : Int)), w51)) F (0 : Int) w)
def zX7_faultOf (F : Nat) (v1 : Int) (v2 : Int) (v3 : Int) (w : zS) : Option (Int × zS) :=
  zLd 4 (zA w 4) v1 fun t5 =>
  zEq t5 (-4 : Int)
  (some ((-11 : Int), w))
  (zLd 4 (zA w 4) v1 fun t21 =>
    zEq t21 v2
    (zLd 4 (zA w 5) v1 fun t36 =>
      zLe v3 t36
      (some ((0 : Int), w))
      (some ((-12 : Int), w)))
    (some ((-13 : Int), w)))
def zX7_in_b17 (F : Nat) (w : zS) : Option (Int × zS) :=
  some ((0 : Int), w)
def zX7_in (F : Nat) (v0 : Int64) (v2 : Int64) (v4 : Int64) (w : zS) : Option (Int × zS) :=
  if (lg_cmp v0 v2) < 0 then
  (zX7_in_b17 F w)
else
  (if 0 < (lg_cmp v0 v4) then
    (zX7_in_b17 F w)
else
    (some ((1 : Int), w)))
def zX7_isMade (F : Nat) (v1 : Int) (w : zS) : Option (Int × zS) :=
  zLe (64 : Int) v1
  (if (lg_cmp (((zJ w 16) >>> ((Int32.ofInt (v1 - (64 : Int))).toInt64 &&& (63 : Int64))) &&& (1 : Int64)) (1 : Int64)) = 0 then
    (some ((1 : Int), w))
else
    (some ((0 : Int), w)))
  (if (lg_cmp (((zJ w 15) >>> ((Int32.ofInt v1).toInt64 &&& (63 : Int64))) &&& (1 : Int64)) (1 : Int64)) = 0 then
    (some ((1 : Int), w))
else
    (some ((0 : Int), w)))
def zX7_leave (F : Nat) (w : zS) : Option (Int × zS) :=
  zEq (zI w 7) (0 : Int)
  (some ((-4 : Int), w))
  (zPI 7 ((zI w 7) - (1 : Int)) w fun w17 =>
    zPI 29 (-4 : Int) w17 fun w23 =>
    some (((zI w 7) - (1 : Int)), w23))
def zX7_lessBound_h26 (F : Nat) (r : Int → Int → Int → zS → Option zS) (k80 : Int → zS → Option zS) (v1 : Int) (v2 : Int) (v3 : Int) (w : zS) : Option zS :=
  zLe (zI w 24) v3
  (k80 v1 w)
  (zLe v2 (0 : Int)
    (k80 v1 w)
    (zLd 98 (zA w 25) v3 fun t48 =>
      zLd 1372 (zA w 31) (((98 : Int) * v1) + v3) fun t65 =>
      zRem (t48 + (((zI w 23) - v2) * t65)) (zI w 23) fun t72 =>
      zSt 25 98 v3 t72 w fun w73 =>
      r v1 v2 (v3 + (1 : Int)) w73))
def zX7_lessBound_l26 (F : Nat) (k80 : Int → zS → Option zS) : Nat → Int → Int → Int → zS → Option zS
  | 0, _, _, _, _ => none
  | n + 1, v1, v2, v3, w => zX7_lessBound_h26 F (zX7_lessBound_l26 F k80 n) k80 v1 v2 v3 w
def zX7_lessBound_b80 (F : Nat) (r : Int → zS → Option zS) (v1 : Int) (w : zS) : Option zS :=
  r (v1 + (1 : Int)) w
def zX7_lessBound_h2 (F : Nat) (r : Int → zS → Option zS) (v1 : Int) (w : zS) : Option zS :=
  zLd 5 (zA w 30) (4 : Int) fun t8 =>
  zLe t8 v1
  (some w)
  (zLd 14 (zA w 32) v1 fun t21 =>
    zLd 98 (zA w 25) t21 fun t22 =>
    zX7_lessBound_l26 F (fun (v1 : Int) (w : zS) =>
      zX7_lessBound_b80 F r v1 w) F v1 t22 (0 : Int) w)
def zX7_lessBound_l2 (F : Nat)  : Nat → Int → zS → Option zS
  | 0, _, _ => none
  | n + 1, v1, w => zX7_lessBound_h2 F (zX7_lessBound_l2 F  n)  v1 w
def zX7_lessBound (F : Nat) (w : zS) : Option zS :=
  zX7_lessBound_l2 F F (0 : Int) w
def zX7_matrix (F : Nat) (v1 : Int) (v2 : Int) (v3 : Int) (v4 : Int) (w : zS) : Option (Int × zS) :=
  zLd 192 (zA w 11) (((((32 : Int) * v1) + ((4 : Int) * v2)) + ((2 : Int) * v3)) + v4) fun t19 =>
  some (t19, w)
def zX7_placeOf (F : Nat) (v1 : Int) (v2 : Int) (v3 : Int) (w : zS) : Option (Int × zS) :=
  some ((((((v1 - (1 : Int)) * ((zI w 36) - (1 : Int))) * (zI w 37)) + ((v2 - (1 : Int)) * (zI w 37))) + v3), w)
def zX7_power_h4 (F : Nat) (r : Int → Int → Int → Int → zS → Option (Int × zS)) (v0 : Int) (v1 : Int) (v2 : Int) (v3 : Int) (w : zS) : Option (Int × zS) :=
  zLe v1 v3
  (some (v2, w))
  (r v0 v1 (v2 * v0) (v3 + (1 : Int)) w)
def zX7_power_l4 (F : Nat)  : Nat → Int → Int → Int → Int → zS → Option (Int × zS)
  | 0, _, _, _, _, _ => none
  | n + 1, v0, v1, v2, v3, w => zX7_power_h4 F (zX7_power_l4 F  n)  v0 v1 v2 v3 w
def zX7_power (F : Nat) (v0 : Int) (v1 : Int) (w : zS) : Option (Int × zS) :=
  zX7_power_l4 F F v0 v1 (1 : Int) (0 : Int) w
def zX7_prod (F : Nat) (v1 : Int) (v2 : Int) (v3 : Int) (w : zS) : Option (Int × zS) :=
  zLd 41472 (zA w 2) ((((5184 : Int) * v1) + ((72 : Int) * v2)) + v3) fun t16 =>
  some (t16, w)
def zX7_reduceLine_h24 (F : Nat) (r : Int → Int → Int → zS → Option zS) (k78 : Int → zS → Option zS) (v1 : Int) (v2 : Int) (v3 : Int) (w : zS) : Option zS :=
  zLe (zI w 24) v3
  (k78 v1 w)
  (zLe v2 (0 : Int)
    (k78 v1 w)
    (zLd 98 (zA w 25) v3 fun t46 =>
      zLd 9604 (zA w 26) (((98 : Int) * v1) + v3) fun t63 =>
      zRem (t46 + (((zI w 23) - v2) * t63)) (zI w 23) fun t70 =>
      zSt 25 98 v3 t70 w fun w71 =>
      r v1 v2 (v3 + (1 : Int)) w71))
def zX7_reduceLine_l24 (F : Nat) (k78 : Int → zS → Option zS) : Nat → Int → Int → Int → zS → Option zS
  | 0, _, _, _, _ => none
  | n + 1, v1, v2, v3, w => zX7_reduceLine_h24 F (zX7_reduceLine_l24 F k78 n) k78 v1 v2 v3 w
def zX7_reduceLine_b78 (F : Nat) (r : Int → zS → Option zS) (v1 : Int) (w : zS) : Option zS :=
  r (v1 + (1 : Int)) w
def zX7_reduceLine_h2 (F : Nat) (r : Int → zS → Option zS) (v1 : Int) (w : zS) : Option zS :=
  zLe (zI w 28) v1
  (some w)
  (zLd 98 (zA w 27) v1 fun t19 =>
    zLd 98 (zA w 25) t19 fun t20 =>
    zX7_reduceLine_l24 F (fun (v1 : Int) (w : zS) =>
      zX7_reduceLine_b78 F r v1 w) F v1 t20 (0 : Int) w)
def zX7_reduceLine_l2 (F : Nat)  : Nat → Int → zS → Option zS
  | 0, _, _ => none
  | n + 1, v1, w => zX7_reduceLine_h2 F (zX7_reduceLine_l2 F  n)  v1 w
def zX7_reduceLine (F : Nat) (w : zS) : Option zS :=
  zX7_reduceLine_l2 F F (0 : Int) w
def zX7_set (F : Nat) (v1 : Int) (v2 : Int) (v3 : Int) (w : zS) : Option zS :=
  zSt 2 41472 ((((5184 : Int) * (zI w 0)) + ((72 : Int) * v1)) + v2) v3 w fun w20 =>
  some w20
def zX7_start (F : Nat) (v1 : Int) (w : zS) : Option zS :=
  zPI 39 v1 w fun w2 =>
  zLd 6 (zA w 8) v1 fun t11 =>
  zPI 38 t11 w2 fun w12 =>
  zLd 8 (zA w 1) t11 fun t24 =>
  zPI 36 t24 w12 fun w25 =>
  zLd 6 (zA w 10) v1 fun t34 =>
  zPI 37 t34 w25 fun w35 =>
  zLd 6 (zA w 9) v1 fun t44 =>
  zPI 23 t44 w35 fun w45 =>
  some w45
def zX7_classOfLine_h19 (F : Nat) (r : Int → Int → Int → zS → Option (Int × zS)) (k39 : Int → Int → Int → zS → Option (Int × zS)) (v1 : Int) (v2 : Int) (v3 : Int) (w : zS) : Option (Int × zS) :=
  zLd 9604 (zA w 33) (((98 : Int) * v2) + v3) fun t29 =>
  zEq t29 (0 : Int)
  (r v1 v2 (v3 + (1 : Int)) w)
  (k39 v1 v2 v3 w)
def zX7_classOfLine_l19 (F : Nat) (k39 : Int → Int → Int → zS → Option (Int × zS)) : Nat → Int → Int → Int → zS → Option (Int × zS)
  | 0, _, _, _, _ => none
  | n + 1, v1, v2, v3, w => zX7_classOfLine_h19 F (zX7_classOfLine_l19 F k39 n) k39 v1 v2 v3 w
def zX7_classOfLine_h13 (F : Nat) (r : Int → Int → zS → Option (Int × zS)) (v1 : Int) (v2 : Int) (w : zS) : Option (Int × zS) :=
  zLt v2 (0 : Int)
  (some (v1, w))
  (zX7_classOfLine_l19 F (fun (v1 : Int) (v2 : Int) (v3 : Int) (w : zS) =>
      zLd 98 (zA w 25) v3 fun t50 =>
      r ((v1 * (zI w 23)) + t50) (v2 + (-1 : Int)) w) F v1 v2 (0 : Int) w)
def zX7_classOfLine_l13 (F : Nat)  : Nat → Int → Int → zS → Option (Int × zS)
  | 0, _, _, _ => none
  | n + 1, v1, v2, w => zX7_classOfLine_h13 F (zX7_classOfLine_l13 F  n)  v1 v2 w
def zX7_classOfLine (F : Nat) (w : zS) : Option (Int × zS) :=
  zC0 (zX7_lessBound F w) fun q1 =>
  zX7_classOfLine_l13 F F (0 : Int) ((zI q1 35) - (1 : Int)) q1
def zX7_cyclic_h35 (F : Nat) (r : Int → Int → Int → zS → Option (Int × zS)) (k57 : Int → Int → zS → Option (Int × zS)) (v1 : Int) (v2 : Int) (v3 : Int) (w : zS) : Option (Int × zS) :=
  zLe v1 v3
  (k57 v1 v2 w)
  (zRem (v2 + v3) v1 fun t47 =>
    zC0 (zX7_set F v2 v3 t47 w) fun q48 =>
    r v1 v2 (v3 + (1 : Int)) q48)
def zX7_cyclic_l35 (F : Nat) (k57 : Int → Int → zS → Option (Int × zS)) : Nat → Int → Int → Int → zS → Option (Int × zS)
  | 0, _, _, _, _ => none
  | n + 1, v1, v2, v3, w => zX7_cyclic_h35 F (zX7_cyclic_l35 F k57 n) k57 v1 v2 v3 w
def zX7_cyclic_h28 (F : Nat) (r : Int → Int → zS → Option (Int × zS)) (k63 : Int → zS → Option (Int × zS)) (v1 : Int) (v2 : Int) (w : zS) : Option (Int × zS) :=
  zLe v1 v2
  (k63 v1 w)
  (zX7_cyclic_l35 F (fun (v1 : Int) (v2 : Int) (w : zS) =>
      r v1 (v2 + (1 : Int)) w) F v1 v2 (0 : Int) w)
def zX7_cyclic_l28 (F : Nat) (k63 : Int → zS → Option (Int × zS)) : Nat → Int → Int → zS → Option (Int × zS)
  | 0, _, _, _ => none
  | n + 1, v1, v2, w => zX7_cyclic_h28 F (zX7_cyclic_l28 F k63 n) k63 v1 v2 w
def zX7_cyclic (F : Nat) (v1 : Int) (w : zS) : Option (Int × zS) :=
  zC1 (zX7_in F (Int32.ofInt v1).toInt64 (1 : Int64) (48 : Int64) w) fun q6_1 q6_2 =>
  zEq q6_1 (0 : Int)
  (some ((-1 : Int), q6_2))
  (zEq (zI q6_2 0) (8 : Int)
    (some ((-3 : Int), q6_2))
    (zX7_cyclic_l28 F (fun (v1 : Int) (w : zS) =>
        zC1 (zX7_added F v1 w) fun q65_1 q65_2 =>
        some (q65_1, q65_2)) F v1 (0 : Int) q6_2))
def zX7_dihedral_h35 (F : Nat) (r : Int → Int → Int → zS → Option (Int × zS)) (k106 : Int → Int → zS → Option (Int × zS)) (v1 : Int) (v2 : Int) (v3 : Int) (w : zS) : Option (Int × zS) :=
  zLe v1 v3
  (k106 v1 v2 w)
  (zRem (v2 + v3) v1 fun t47 =>
    zC0 (zX7_set F v2 v3 t47 w) fun q48 =>
    zRem (v2 + v3) v1 fun t61 =>
    zC0 (zX7_set F v2 (v1 + v3) (v1 + t61) q48) fun q63 =>
    zRem ((v2 - v3) + v1) v1 fun t78 =>
    zC0 (zX7_set F (v1 + v2) v3 (v1 + t78) q63) fun q80 =>
    zRem ((v2 - v3) + v1) v1 fun t96 =>
    zC0 (zX7_set F (v1 + v2) (v1 + v3) t96 q80) fun q97 =>
    r v1 v2 (v3 + (1 : Int)) q97)
def zX7_dihedral_l35 (F : Nat) (k106 : Int → Int → zS → Option (Int × zS)) : Nat → Int → Int → Int → zS → Option (Int × zS)
  | 0, _, _, _, _ => none
  | n + 1, v1, v2, v3, w => zX7_dihedral_h35 F (zX7_dihedral_l35 F k106 n) k106 v1 v2 v3 w
def zX7_dihedral_h28 (F : Nat) (r : Int → Int → zS → Option (Int × zS)) (k112 : Int → zS → Option (Int × zS)) (v1 : Int) (v2 : Int) (w : zS) : Option (Int × zS) :=
  zLe v1 v2
  (k112 v1 w)
  (zX7_dihedral_l35 F (fun (v1 : Int) (v2 : Int) (w : zS) =>
      r v1 (v2 + (1 : Int)) w) F v1 v2 (0 : Int) w)
def zX7_dihedral_l28 (F : Nat) (k112 : Int → zS → Option (Int × zS)) : Nat → Int → Int → zS → Option (Int × zS)
  | 0, _, _, _ => none
  | n + 1, v1, v2, w => zX7_dihedral_h28 F (zX7_dihedral_l28 F k112 n) k112 v1 v2 w
def zX7_dihedral (F : Nat) (v1 : Int) (w : zS) : Option (Int × zS) :=
  zC1 (zX7_in F (Int32.ofInt v1).toInt64 (1 : Int64) (24 : Int64) w) fun q6_1 q6_2 =>
  zEq q6_1 (0 : Int)
  (some ((-1 : Int), q6_2))
  (zEq (zI q6_2 0) (8 : Int)
    (some ((-3 : Int), q6_2))
    (zX7_dihedral_l28 F (fun (v1 : Int) (w : zS) =>
        zC1 (zX7_added F ((2 : Int) * v1) w) fun q116_1 q116_2 =>
        some (q116_1, q116_2)) F v1 (0 : Int) q6_2))
def zX7_equation_h7 (F : Nat) (r : Int → Int → Int → Int → Int → zS → Option zS) (k47 : Int → Int → Int → Int → zS → Option zS) (v1 : Int) (v2 : Int) (v3 : Int) (v4 : Int) (v5 : Int) (w : zS) : Option zS :=
  zLe (zI w 37) v5
  (k47 v1 v2 v3 v4 w)
  (zC1 (zX7_placeOf F v2 v3 v5 w) fun q22_1 q22_2 =>
    zC1 (zX7_matrix F (zI q22_2 39) v1 v4 v5 q22_2) fun q35_1 q35_2 =>
    zC0 (zX7_addTo F q22_1 q35_1 q35_2) fun q38 =>
    r v1 v2 v3 v4 (v5 + (1 : Int)) q38)
def zX7_equation_l7 (F : Nat) (k47 : Int → Int → Int → Int → zS → Option zS) : Nat → Int → Int → Int → Int → Int → zS → Option zS
  | 0, _, _, _, _, _, _ => none
  | n + 1, v1, v2, v3, v4, v5, w => zX7_equation_h7 F (zX7_equation_l7 F k47 n) k47 v1 v2 v3 v4 v5 w
def zX7_equation_b109 (F : Nat) (v1 : Int) (v2 : Int) (v4 : Int) (w : zS) : Option zS :=
  zC1 (zX7_placeOf F v1 v2 v4 w) fun q115_1 q115_2 =>
  zC0 (zX7_addTo F q115_1 (-1 : Int) q115_2) fun q119 =>
  some q119
def zX7_equation_b90 (F : Nat) (v1 : Int) (v2 : Int) (v3 : Int) (v4 : Int) (v6 : Int) (w : zS) : Option zS :=
  zLe v6 (0 : Int)
  (zX7_equation_b109 F v1 v2 v4 w)
  (zC1 (zX7_placeOf F v6 v3 v4 w) fun q102_1 q102_2 =>
    zC0 (zX7_addTo F q102_1 (-1 : Int) q102_2) fun q106 =>
    zX7_equation_b109 F v1 v2 v4 q106)
def zX7_equation (F : Nat) (v1 : Int) (v2 : Int) (v3 : Int) (v4 : Int) (w : zS) : Option zS :=
  zC0 (zX7_clearLine F w) fun q1 =>
  zX7_equation_l7 F (fun (v1 : Int) (v2 : Int) (v3 : Int) (v4 : Int) (w : zS) =>
    zC1 (zX7_prod F (zI w 38) v2 v3 w) fun q54_1 q54_2 =>
    zC1 (zX7_prod F (zI q54_2 38) v1 v2 q54_2) fun q66_1 q66_2 =>
    zLe q54_1 (0 : Int)
    (zX7_equation_b90 F v1 v2 v3 v4 q66_1 q66_2)
    (zC1 (zX7_placeOf F v1 q54_1 v4 q66_2) fun q83_1 q83_2 =>
      zC0 (zX7_addTo F q83_1 (1 : Int) q83_2) fun q87 =>
      zX7_equation_b90 F v1 v2 v3 v4 q66_1 q87)) F v1 v2 v3 v4 (0 : Int) q1
def zX7_friends_b41 (F : Nat) (r : Int → Int → Int → Int → zS → Option (Int × zS)) (v1 : Int) (v2 : Int) (v4 : Int) (s0 : Int) (s1 : Int) (w : zS) : Option (Int × zS) :=
  r v1 v2 (s0 + s1) (v4 + (1 : Int)) w
def zX7_friends_h5 (F : Nat) (r : Int → Int → Int → Int → zS → Option (Int × zS)) (v1 : Int) (v2 : Int) (v3 : Int) (v4 : Int) (w : zS) : Option (Int × zS) :=
  zLd 8 (zA w 1) v1 fun t12 =>
  zLe t12 v4
  (some (v3, w))
  (zC1 (zX7_prod F v1 v2 v4 w) fun q22_1 q22_2 =>
    zC1 (zX7_prod F v1 v4 v2 q22_2) fun q30_1 q30_2 =>
    zEq q22_1 q30_1
    (zX7_friends_b41 F r v1 v2 v4 v3 (1 : Int) q30_2)
    (zX7_friends_b41 F r v1 v2 v4 v3 (0 : Int) q30_2))
def zX7_friends_l5 (F : Nat)  : Nat → Int → Int → Int → Int → zS → Option (Int × zS)
  | 0, _, _, _, _, _ => none
  | n + 1, v1, v2, v3, v4, w => zX7_friends_h5 F (zX7_friends_l5 F  n)  v1 v2 v3 v4 w
def zX7_friends (F : Nat) (v1 : Int) (v2 : Int) (w : zS) : Option (Int × zS) :=
  zX7_friends_l5 F F v1 v2 (0 : Int) (0 : Int) w
def zX7_goes_h11 (F : Nat) (r : Int → Int → Int → Int → Int → zS → Option (Int × zS)) (k33 : Int → Int → Int → Int → zS → Option (Int × zS)) (v1 : Int) (v2 : Int) (v3 : Int) (v4 : Int) (v5 : Int) (w : zS) : Option (Int × zS) :=
  zLe v4 v5
  (k33 v1 v2 v3 v4 w)
  (zSt 22 72 v5 (-4 : Int) w fun w26 =>
    r v1 v2 v3 v4 (v5 + (1 : Int)) w26)
def zX7_goes_l11 (F : Nat) (k33 : Int → Int → Int → Int → zS → Option (Int × zS)) : Nat → Int → Int → Int → Int → Int → zS → Option (Int × zS)
  | 0, _, _, _, _, _, _ => none
  | n + 1, v1, v2, v3, v4, v5, w => zX7_goes_h11 F (zX7_goes_l11 F k33 n) k33 v1 v2 v3 v4 v5 w
def zX7_goes_b179 (F : Nat) (r : Int → Int → Int → Int → Int → Int → zS → Option (Int × zS)) (k185 : Int → Int → Int → Int → Int → zS → Option (Int × zS)) (v1 : Int) (v2 : Int) (v3 : Int) (v4 : Int) (v5 : Int) (v6 : Int) (w : zS) : Option (Int × zS) :=
  r v1 v2 v3 v4 v5 (v6 + (1 : Int)) w
def zX7_goes_h67 (F : Nat) (r : Int → Int → Int → Int → Int → Int → zS → Option (Int × zS)) (k185 : Int → Int → Int → Int → Int → zS → Option (Int × zS)) (v1 : Int) (v2 : Int) (v3 : Int) (v4 : Int) (v5 : Int) (v6 : Int) (w : zS) : Option (Int × zS) :=
  zLe v3 v6
  (k185 v1 v2 v3 v4 v5 w)
  (zLd 72 (zA w 13) v5 fun t81 =>
    zLd 8 (zA w 20) v6 fun t88 =>
    zC1 (zX7_prod F v1 t81 t88 w) fun q89_1 q89_2 =>
    zLd 72 (zA q89_2 13) v5 fun t106 =>
    zLd 72 (zA q89_2 22) t106 fun t107 =>
    zLd 8 (zA q89_2 21) v6 fun t114 =>
    zC1 (zX7_prod F v2 t107 t114 q89_2) fun q115_1 q115_2 =>
    zLd 72 (zA q115_2 22) q89_1 fun t126 =>
    zEq t126 (-4 : Int)
    (zSt 22 72 q89_1 q115_1 q115_2 fun w140 =>
      zSt 13 72 (zI q115_2 14) q89_1 w140 fun w151 =>
      zPI 14 ((zI q115_2 14) + (1 : Int)) w151 fun w159 =>
      zX7_goes_b179 F r k185 v1 v2 v3 v4 v5 v6 w159)
    (zLd 72 (zA q115_2 22) q89_1 fun t171 =>
      zEq t171 q115_1
      (zX7_goes_b179 F r k185 v1 v2 v3 v4 v5 v6 q115_2)
      (some ((0 : Int), q115_2))))
def zX7_goes_l67 (F : Nat) (k185 : Int → Int → Int → Int → Int → zS → Option (Int × zS)) : Nat → Int → Int → Int → Int → Int → Int → zS → Option (Int × zS)
  | 0, _, _, _, _, _, _, _ => none
  | n + 1, v1, v2, v3, v4, v5, v6, w => zX7_goes_h67 F (zX7_goes_l67 F k185 n) k185 v1 v2 v3 v4 v5 v6 w
def zX7_goes_h55 (F : Nat) (r : Int → Int → Int → Int → Int → zS → Option (Int × zS)) (k191 : Int → zS → Option (Int × zS)) (v1 : Int) (v2 : Int) (v3 : Int) (v4 : Int) (v5 : Int) (w : zS) : Option (Int × zS) :=
  zLe (zI w 14) v5
  (k191 v4 w)
  (zX7_goes_l67 F (fun (v1 : Int) (v2 : Int) (v3 : Int) (v4 : Int) (v5 : Int) (w : zS) =>
      r v1 v2 v3 v4 (v5 + (1 : Int)) w) F v1 v2 v3 v4 v5 (0 : Int) w)
def zX7_goes_l55 (F : Nat) (k191 : Int → zS → Option (Int × zS)) : Nat → Int → Int → Int → Int → Int → zS → Option (Int × zS)
  | 0, _, _, _, _, _, _ => none
  | n + 1, v1, v2, v3, v4, v5, w => zX7_goes_h55 F (zX7_goes_l55 F k191 n) k191 v1 v2 v3 v4 v5 w
def zX7_goes_b286 (F : Nat) (r : Int → Int64 → Int64 → Int → zS → Option (Int × zS)) (k235 : zS → Option (Int × zS)) (v4 : Int) (v5 : Int64) (v7 : Int64) (v9 : Int) (w : zS) : Option (Int × zS) :=
  r v4 v5 v7 (v9 + (1 : Int)) w
def zX7_goes_b255 (F : Nat) (r : Int → Int64 → Int64 → Int → zS → Option (Int × zS)) (k235 : zS → Option (Int × zS)) (v4 : Int) (v5 : Int64) (v7 : Int64) (v9 : Int) (v10 : Int) (w : zS) : Option (Int × zS) :=
  zLe (64 : Int) v10
  (zX7_goes_b286 F r k235 v4 v5 (v7 ||| ((1 : Int64) <<< ((Int32.ofInt (v10 - (64 : Int))).toInt64 &&& (63 : Int64)))) v9 w)
  (zX7_goes_b286 F r k235 v4 (v5 ||| ((1 : Int64) <<< ((Int32.ofInt v10).toInt64 &&& (63 : Int64)))) v7 v9 w)
def zX7_goes_h200 (F : Nat) (r : Int → Int64 → Int64 → Int → zS → Option (Int × zS)) (k235 : zS → Option (Int × zS)) (v4 : Int) (v5 : Int64) (v7 : Int64) (v9 : Int) (w : zS) : Option (Int × zS) :=
  zLe v4 v9
  (some ((1 : Int), w))
  (zLd 72 (zA w 22) v9 fun t213 =>
    zLe (64 : Int) t213
    (if (lg_cmp ((v7 >>> ((Int32.ofInt (t213 - (64 : Int))).toInt64 &&& (63 : Int64))) &&& (1 : Int64)) (1 : Int64)) = 0 then
      (some ((0 : Int), w))
else
      (zX7_goes_b255 F r k235 v4 v5 v7 v9 t213 w))
    (if (lg_cmp ((v5 >>> ((Int32.ofInt t213).toInt64 &&& (63 : Int64))) &&& (1 : Int64)) (1 : Int64)) = 0 then
      (k235 w)
else
      (zX7_goes_b255 F r k235 v4 v5 v7 v9 t213 w)))
def zX7_goes_l200 (F : Nat) (k235 : zS → Option (Int × zS)) : Nat → Int → Int64 → Int64 → Int → zS → Option (Int × zS)
  | 0, _, _, _, _, _ => none
  | n + 1, v4, v5, v7, v9, w => zX7_goes_h200 F (zX7_goes_l200 F k235 n) k235 v4 v5 v7 v9 w
def zX7_goes (F : Nat) (v1 : Int) (v2 : Int) (v3 : Int) (w : zS) : Option (Int × zS) :=
  zLd 8 (zA w 1) v1 fun t5 =>
  zX7_goes_l11 F (fun (v1 : Int) (v2 : Int) (v3 : Int) (v4 : Int) (w : zS) =>
    zSt 22 72 (0 : Int) (0 : Int) w fun w39 =>
    zSt 13 72 (0 : Int) (0 : Int) w39 fun w46 =>
    zPI 14 (1 : Int) w46 fun w49 =>
    zX7_goes_l55 F (fun (v4 : Int) (w : zS) =>
      zX7_goes_l200 F (fun (w : zS) =>
        some ((0 : Int), w)) F v4 (0 : Int64) (0 : Int64) (0 : Int) w) F v1 v2 v3 v4 (0 : Int) w49) F v1 v2 v3 t5 (0 : Int) w
def zX7_inverse_h2 (F : Nat) (r : Int → Int → Int → zS → Option (Int × zS)) (v1 : Int) (v2 : Int) (v3 : Int) (w : zS) : Option (Int × zS) :=
  zC1 (zX7_prod F v1 v2 v3 w) fun q6_1 q6_2 =>
  zEq q6_1 (0 : Int)
  (some (v3, q6_2))
  (r v1 v2 (v3 + (1 : Int)) q6_2)
def zX7_inverse_l2 (F : Nat)  : Nat → Int → Int → Int → zS → Option (Int × zS)
  | 0, _, _, _, _ => none
  | n + 1, v1, v2, v3, w => zX7_inverse_h2 F (zX7_inverse_l2 F  n)  v1 v2 v3 w
def zX7_inverse (F : Nat) (v1 : Int) (v2 : Int) (w : zS) : Option (Int × zS) :=
  zX7_inverse_l2 F F v1 v2 (0 : Int) w
def zX7_isGroup (F : Nat) (v1 : Int) (w : zS) : Option (Int × zS) :=
  zC1 (zX7_in F (Int32.ofInt v1).toInt64 (0 : Int64) (Int32.ofInt ((zI w 0) - (1 : Int))).toInt64 w) fun q10_1 q10_2 =>
  zBo q10_1 fun v =>
  some (v, q10_2)
def zX7_isModule (F : Nat) (v1 : Int) (w : zS) : Option (Int × zS) :=
  zC1 (zX7_in F (Int32.ofInt v1).toInt64 (0 : Int64) (Int32.ofInt ((zI w 7) - (1 : Int))).toInt64 w) fun q10_1 q10_2 =>
  zBo q10_1 fun v =>
  some (v, q10_2)
def zX7_lay_b80 (F : Nat) (s1 : Int) (s2 : Int) (w : zS) : Option (Int × zS) :=
  zSt 6 576 s1 s2 w fun w80 =>
  some ((1 : Int), w80)
def zX7_lay (F : Nat) (v1 : Int) (v2 : Int) (v3 : Int) (w : zS) : Option (Int × zS) :=
  zC1 (zX7_in F (Int32.ofInt v1).toInt64 (0 : Int64) (3 : Int64) w) fun q6_1 q6_2 =>
  zEq q6_1 (0 : Int)
  (some ((-1 : Int), q6_2))
  (zLd 4 (zA q6_2 4) v1 fun t19 =>
    zEq t19 (-4 : Int)
    (some ((-11 : Int), q6_2))
    (zLd 4 (zA q6_2 5) v1 fun t36 =>
      zC1 (zX7_in F (Int32.ofInt v2).toInt64 (0 : Int64) (Int32.ofInt (t36 - (1 : Int))).toInt64 q6_2) fun q40_1 q40_2 =>
      zEq q40_1 (0 : Int)
      (some ((-12 : Int), q40_2))
      (zLd 4 (zA q40_2 4) v1 fun t65 =>
        zEq t65 (0 : Int)
        (zX7_lay_b80 F (((144 : Int) * v1) + v2) (Int32.ofInt (Int32.ofInt v3 <<< Int32.ofInt (Int32.ofInt (24 : Int) &&& Int32.ofInt (31 : Int)).toInt).toInt >>> Int32.ofInt (Int32.ofInt (24 : Int) &&& Int32.ofInt (31 : Int)).toInt).toInt q40_2)
        (zX7_lay_b80 F (((144 : Int) * v1) + v2) v3 q40_2))))
def zX7_makes_b130 (F : Nat) (r : Int → Int → Int → Int → zS → Option zS) (k136 : Int → Int → Int → zS → Option zS) (v1 : Int) (v2 : Int) (v3 : Int) (v4 : Int) (w : zS) : Option zS :=
  r v1 v2 v3 (v4 + (1 : Int)) w
def zX7_makes_b109 (F : Nat) (r : Int → Int → Int → Int → zS → Option zS) (k136 : Int → Int → Int → zS → Option zS) (v1 : Int) (v2 : Int) (v3 : Int) (v4 : Int) (v5 : Int) (w : zS) : Option zS :=
  zSt 13 72 (zI w 14) v5 w fun w119 =>
  zPI 14 ((zI w 14) + (1 : Int)) w119 fun w127 =>
  zX7_makes_b130 F r k136 v1 v2 v3 v4 w127
def zX7_makes_h35 (F : Nat) (r : Int → Int → Int → Int → zS → Option zS) (k136 : Int → Int → Int → zS → Option zS) (v1 : Int) (v2 : Int) (v3 : Int) (v4 : Int) (w : zS) : Option zS :=
  zLe v2 v4
  (k136 v1 v2 v3 w)
  (zLd 72 (zA w 13) v3 fun t48 =>
    zLd 80 (zA w 12) v4 fun t55 =>
    zC1 (zX7_prod F v1 t48 t55 w) fun q56_1 q56_2 =>
    zC1 (zX7_isMade F q56_1 q56_2) fun q64_1 q64_2 =>
    zEq q64_1 (0 : Int)
    (zLe (64 : Int) q56_1
      (zPJ 16 ((zJ q64_2 16) ||| ((1 : Int64) <<< ((Int32.ofInt (q56_1 - (64 : Int))).toInt64 &&& (63 : Int64)))) q64_2 fun w106 =>
        zX7_makes_b109 F r k136 v1 v2 v3 v4 q56_1 w106)
      (zPJ 15 ((zJ q64_2 15) ||| ((1 : Int64) <<< ((Int32.ofInt q56_1).toInt64 &&& (63 : Int64)))) q64_2 fun w87 =>
        zX7_makes_b109 F r k136 v1 v2 v3 v4 q56_1 w87))
    (zX7_makes_b130 F r k136 v1 v2 v3 v4 q64_2))
def zX7_makes_l35 (F : Nat) (k136 : Int → Int → Int → zS → Option zS) : Nat → Int → Int → Int → Int → zS → Option zS
  | 0, _, _, _, _, _ => none
  | n + 1, v1, v2, v3, v4, w => zX7_makes_h35 F (zX7_makes_l35 F k136 n) k136 v1 v2 v3 v4 w
def zX7_makes_h24 (F : Nat) (r : Int → Int → Int → zS → Option zS) (v1 : Int) (v2 : Int) (v3 : Int) (w : zS) : Option zS :=
  zLe (zI w 14) v3
  (some w)
  (zX7_makes_l35 F (fun (v1 : Int) (v2 : Int) (v3 : Int) (w : zS) =>
      r v1 v2 (v3 + (1 : Int)) w) F v1 v2 v3 (0 : Int) w)
def zX7_makes_l24 (F : Nat)  : Nat → Int → Int → Int → zS → Option zS
  | 0, _, _, _, _ => none
  | n + 1, v1, v2, v3, w => zX7_makes_h24 F (zX7_makes_l24 F  n)  v1 v2 v3 w
def zX7_makes (F : Nat) (v1 : Int) (v2 : Int) (w : zS) : Option zS :=
  zPJ 15 (1 : Int64) w fun w2 =>
  zPJ 16 (0 : Int64) w2 fun w7 =>
  zSt 13 72 (0 : Int) (0 : Int) w7 fun w16 =>
  zPI 14 (1 : Int) w16 fun w19 =>
  zX7_makes_l24 F F v1 v2 (0 : Int) w19
def zX7_orderOf_h5 (F : Nat) (r : Int → Int → Int → Int → zS → Option (Int × zS)) (v1 : Int) (v2 : Int) (v3 : Int) (v4 : Int) (w : zS) : Option (Int × zS) :=
  zEq v4 (0 : Int)
  (some (v3, w))
  (zC1 (zX7_prod F v1 v4 v2 w) fun q15_1 q15_2 =>
    r v1 v2 (v3 + (1 : Int)) q15_1 q15_2)
def zX7_orderOf_l5 (F : Nat)  : Nat → Int → Int → Int → Int → zS → Option (Int × zS)
  | 0, _, _, _, _, _ => none
  | n + 1, v1, v2, v3, v4, w => zX7_orderOf_h5 F (zX7_orderOf_l5 F  n)  v1 v2 v3 v4 w
def zX7_orderOf (F : Nat) (v1 : Int) (v2 : Int) (w : zS) : Option (Int × zS) :=
  zX7_orderOf_l5 F F v1 v2 (1 : Int) v2 w
def zX7_quaternions_b134 (F : Nat) (r : Int → Int → zS → Option (Int × zS)) (k144 : Int → zS → Option (Int × zS)) (v1 : Int) (v2 : Int) (s1 : Int) (s2 : Int) (s3 : Int) (s4 : Int) (w : zS) : Option (Int × zS) :=
  zC0 (zX7_set F s1 s2 (s3 + s4) w) fun q135 =>
  r v1 (v2 + (1 : Int)) q135
def zX7_quaternions_b113 (F : Nat) (r : Int → Int → zS → Option (Int × zS)) (k144 : Int → zS → Option (Int × zS)) (v1 : Int) (v2 : Int) (v5 : Int) (v6 : Int) (s0 : Int) (w : zS) : Option (Int × zS) :=
  zEq s0 (0 : Int)
  (zX7_quaternions_b134 F r k144 v1 v2 v1 v2 v6 v5 w)
  (zX7_quaternions_b134 F r k144 v1 v2 v1 v2 v6 (Int32.ofInt v5 ^^^ Int32.ofInt (4 : Int)).toInt w)
def zX7_quaternions_b112 (F : Nat) (r : Int → Int → zS → Option (Int × zS)) (k144 : Int → zS → Option (Int × zS)) (v1 : Int) (v2 : Int) (v5 : Int) (v6 : Int) (w : zS) : Option (Int × zS) :=
  zX7_quaternions_b113 F r k144 v1 v2 v5 v6 (0 : Int) w
def zX7_quaternions_b108 (F : Nat) (r : Int → Int → zS → Option (Int × zS)) (k144 : Int → zS → Option (Int × zS)) (v1 : Int) (v2 : Int) (v5 : Int) (v6 : Int) (w : zS) : Option (Int × zS) :=
  zX7_quaternions_b113 F r k144 v1 v2 v5 v6 (1 : Int) w
def zX7_quaternions_b79 (F : Nat) (r : Int → Int → zS → Option (Int × zS)) (k144 : Int → zS → Option (Int × zS)) (v1 : Int) (v2 : Int) (v3 : Int) (v4 : Int) (v5 : Int) (s0 : Int) (w : zS) : Option (Int × zS) :=
  zLe v3 (0 : Int)
  (zX7_quaternions_b112 F r k144 v1 v2 v5 s0 w)
  (zLe v4 (0 : Int)
    (zX7_quaternions_b112 F r k144 v1 v2 v5 s0 w)
    (zEq v3 v4
      (zX7_quaternions_b108 F r k144 v1 v2 v5 s0 w)
      (zRem ((v4 - v3) + (3 : Int)) (3 : Int) fun t103 =>
        zEq t103 (2 : Int)
        (zX7_quaternions_b108 F r k144 v1 v2 v5 s0 w)
        (zX7_quaternions_b112 F r k144 v1 v2 v5 s0 w))))
def zX7_quaternions_h22 (F : Nat) (r : Int → Int → zS → Option (Int × zS)) (k144 : Int → zS → Option (Int × zS)) (v1 : Int) (v2 : Int) (w : zS) : Option (Int × zS) :=
  zLe (8 : Int) v2
  (k144 v1 w)
  (zEq (Int32.ofInt v1 &&& Int32.ofInt (3 : Int)).toInt (0 : Int)
    (zX7_quaternions_b79 F r k144 v1 v2 (Int32.ofInt v1 &&& Int32.ofInt (3 : Int)).toInt (Int32.ofInt v2 &&& Int32.ofInt (3 : Int)).toInt (Int32.ofInt (Int32.ofInt v1 ^^^ Int32.ofInt v2).toInt &&& Int32.ofInt (4 : Int)).toInt (Int32.ofInt v2 &&& Int32.ofInt (3 : Int)).toInt w)
    (zEq (Int32.ofInt v2 &&& Int32.ofInt (3 : Int)).toInt (0 : Int)
      (zX7_quaternions_b79 F r k144 v1 v2 (Int32.ofInt v1 &&& Int32.ofInt (3 : Int)).toInt (Int32.ofInt v2 &&& Int32.ofInt (3 : Int)).toInt (Int32.ofInt (Int32.ofInt v1 ^^^ Int32.ofInt v2).toInt &&& Int32.ofInt (4 : Int)).toInt (Int32.ofInt v1 &&& Int32.ofInt (3 : Int)).toInt w)
      (zEq (Int32.ofInt v1 &&& Int32.ofInt (3 : Int)).toInt (Int32.ofInt v2 &&& Int32.ofInt (3 : Int)).toInt
        (zX7_quaternions_b79 F r k144 v1 v2 (Int32.ofInt v1 &&& Int32.ofInt (3 : Int)).toInt (Int32.ofInt v2 &&& Int32.ofInt (3 : Int)).toInt (Int32.ofInt (Int32.ofInt v1 ^^^ Int32.ofInt v2).toInt &&& Int32.ofInt (4 : Int)).toInt (0 : Int) w)
        (zX7_quaternions_b79 F r k144 v1 v2 (Int32.ofInt v1 &&& Int32.ofInt (3 : Int)).toInt (Int32.ofInt v2 &&& Int32.ofInt (3 : Int)).toInt (Int32.ofInt (Int32.ofInt v1 ^^^ Int32.ofInt v2).toInt &&& Int32.ofInt (4 : Int)).toInt (((6 : Int) - (Int32.ofInt v1 &&& Int32.ofInt (3 : Int)).toInt) - (Int32.ofInt v2 &&& Int32.ofInt (3 : Int)).toInt) w))))
def zX7_quaternions_l22 (F : Nat) (k144 : Int → zS → Option (Int × zS)) : Nat → Int → Int → zS → Option (Int × zS)
  | 0, _, _, _ => none
  | n + 1, v1, v2, w => zX7_quaternions_h22 F (zX7_quaternions_l22 F k144 n) k144 v1 v2 w
def zX7_quaternions_h14 (F : Nat) (r : Int → zS → Option (Int × zS)) (k150 : zS → Option (Int × zS)) (v1 : Int) (w : zS) : Option (Int × zS) :=
  zLe (8 : Int) v1
  (k150 w)
  (zX7_quaternions_l22 F (fun (v1 : Int) (w : zS) =>
      r (v1 + (1 : Int)) w) F v1 (0 : Int) w)
def zX7_quaternions_l14 (F : Nat) (k150 : zS → Option (Int × zS)) : Nat → Int → zS → Option (Int × zS)
  | 0, _, _ => none
  | n + 1, v1, w => zX7_quaternions_h14 F (zX7_quaternions_l14 F k150 n) k150 v1 w
def zX7_quaternions (F : Nat) (w : zS) : Option (Int × zS) :=
  zEq (zI w 0) (8 : Int)
  (some ((-3 : Int), w))
  (zX7_quaternions_l14 F (fun (w : zS) =>
      zC1 (zX7_added F (8 : Int) w) fun q153_1 q153_2 =>
      some (q153_1, q153_2)) F (0 : Int) w)
def zX7_settles_h6 (F : Nat) (r : Int → zS → Option zS) (k29 : Int → zS → Option zS) (v1 : Int) (w : zS) : Option zS :=
  zLe (zI w 24) v1
  (k29 v1 w)
  (zLd 98 (zA w 25) v1 fun t19 =>
    zEq t19 (0 : Int)
    (r (v1 + (1 : Int)) w)
    (k29 v1 w))
def zX7_settles_l6 (F : Nat) (k29 : Int → zS → Option zS) : Nat → Int → zS → Option zS
  | 0, _, _ => none
  | n + 1, v1, w => zX7_settles_h6 F (zX7_settles_l6 F k29 n) k29 v1 w
def zX7_settles_h40 (F : Nat) (r : Int → Int → zS → Option zS) (k63 : Int → Int → zS → Option zS) (v1 : Int) (v2 : Int) (w : zS) : Option zS :=
  zLd 98 (zA w 25) v1 fun t46 =>
  zRem (v2 * t46) (zI w 23) fun t52 =>
  zEq t52 (1 : Int)
  (k63 v1 v2 w)
  (r v1 (v2 + (1 : Int)) w)
def zX7_settles_l40 (F : Nat) (k63 : Int → Int → zS → Option zS) : Nat → Int → Int → zS → Option zS
  | 0, _, _, _ => none
  | n + 1, v1, v2, w => zX7_settles_h40 F (zX7_settles_l40 F k63 n) k63 v1 v2 w
def zX7_settles_h65 (F : Nat) (r : Int → Int → Int → zS → Option zS) (k98 : Int → zS → Option zS) (v1 : Int) (v2 : Int) (v3 : Int) (w : zS) : Option zS :=
  zLe (zI w 24) v3
  (k98 v1 w)
  (zLd 98 (zA w 25) v3 fun t83 =>
    zRem (t83 * v2) (zI w 23) fun t90 =>
    zSt 25 98 v3 t90 w fun w91 =>
    r v1 v2 (v3 + (1 : Int)) w91)
def zX7_settles_l65 (F : Nat) (k98 : Int → zS → Option zS) : Nat → Int → Int → Int → zS → Option zS
  | 0, _, _, _, _ => none
  | n + 1, v1, v2, v3, w => zX7_settles_h65 F (zX7_settles_l65 F k98 n) k98 v1 v2 v3 w
def zX7_settles_h124 (F : Nat) (r : Int → Int → Int → Int → zS → Option zS) (k189 : Int → Int → zS → Option zS) (v1 : Int) (v3 : Int) (v4 : Int) (v5 : Int) (w : zS) : Option zS :=
  zLe (zI w 24) v5
  (k189 v1 v3 w)
  (zLe v4 (0 : Int)
    (k189 v1 v3 w)
    (zLd 9604 (zA w 26) (((98 : Int) * v3) + v5) fun t160 =>
      zLd 98 (zA w 25) v5 fun t174 =>
      zRem (t160 + (((zI w 23) - v4) * t174)) (zI w 23) fun t181 =>
      zSt 26 9604 (((98 : Int) * v3) + v5) t181 w fun w182 =>
      r v1 v3 v4 (v5 + (1 : Int)) w182))
def zX7_settles_l124 (F : Nat) (k189 : Int → Int → zS → Option zS) : Nat → Int → Int → Int → Int → zS → Option zS
  | 0, _, _, _, _, _ => none
  | n + 1, v1, v3, v4, v5, w => zX7_settles_h124 F (zX7_settles_l124 F k189 n) k189 v1 v3 v4 v5 w
def zX7_settles_b189 (F : Nat) (r : Int → Int → zS → Option zS) (k195 : Int → zS → Option zS) (v1 : Int) (v3 : Int) (w : zS) : Option zS :=
  r v1 (v3 + (1 : Int)) w
def zX7_settles_h100 (F : Nat) (r : Int → Int → zS → Option zS) (k195 : Int → zS → Option zS) (v1 : Int) (v3 : Int) (w : zS) : Option zS :=
  zLe (zI w 28) v3
  (k195 v1 w)
  (zLd 9604 (zA w 26) (((98 : Int) * v3) + v1) fun t118 =>
    zX7_settles_l124 F (fun (v1 : Int) (v3 : Int) (w : zS) =>
      zX7_settles_b189 F r k195 v1 v3 w) F v1 v3 t118 (0 : Int) w)
def zX7_settles_l100 (F : Nat) (k195 : Int → zS → Option zS) : Nat → Int → Int → zS → Option zS
  | 0, _, _, _ => none
  | n + 1, v1, v3, w => zX7_settles_h100 F (zX7_settles_l100 F k195 n) k195 v1 v3 w
def zX7_settles_h233 (F : Nat) (r : Int → Int → Int → zS → Option zS) (k274 : Int → Int → zS → Option zS) (v1 : Int) (v3 : Int) (v4 : Int) (w : zS) : Option zS :=
  zLe (zI w 24) v4
  (k274 v1 v3 w)
  (zLd 9604 (zA w 26) (((98 : Int) * (v3 - (1 : Int))) + v4) fun t266 =>
    zSt 26 9604 (((98 : Int) * v3) + v4) t266 w fun w267 =>
    r v1 v3 (v4 + (1 : Int)) w267)
def zX7_settles_l233 (F : Nat) (k274 : Int → Int → zS → Option zS) : Nat → Int → Int → Int → zS → Option zS
  | 0, _, _, _, _ => none
  | n + 1, v1, v3, v4, w => zX7_settles_h233 F (zX7_settles_l233 F k274 n) k274 v1 v3 v4 w
def zX7_settles_h200 (F : Nat) (r : Int → Int → zS → Option zS) (k280 : Int → Int → zS → Option zS) (v1 : Int) (v3 : Int) (w : zS) : Option zS :=
  zLe v3 (0 : Int)
  (k280 v1 v3 w)
  (zLd 98 (zA w 27) (v3 - (1 : Int)) fun t211 =>
    zLe t211 v1
    (k280 v1 v3 w)
    (zLd 98 (zA w 27) (v3 - (1 : Int)) fun t228 =>
      zSt 27 98 v3 t228 w fun w229 =>
      zX7_settles_l233 F (fun (v1 : Int) (v3 : Int) (w : zS) =>
        r v1 (v3 + (-1 : Int)) w) F v1 v3 (0 : Int) w229))
def zX7_settles_l200 (F : Nat) (k280 : Int → Int → zS → Option zS) : Nat → Int → Int → zS → Option zS
  | 0, _, _, _ => none
  | n + 1, v1, v3, w => zX7_settles_h200 F (zX7_settles_l200 F k280 n) k280 v1 v3 w
def zX7_settles_h290 (F : Nat) (r : Int → Int → zS → Option zS) (k324 : zS → Option zS) (v3 : Int) (v4 : Int) (w : zS) : Option zS :=
  zLe (zI w 24) v4
  (k324 w)
  (zLd 98 (zA w 25) v4 fun t316 =>
    zSt 26 9604 (((98 : Int) * v3) + v4) t316 w fun w317 =>
    r v3 (v4 + (1 : Int)) w317)
def zX7_settles_l290 (F : Nat) (k324 : zS → Option zS) : Nat → Int → Int → zS → Option zS
  | 0, _, _, _ => none
  | n + 1, v3, v4, w => zX7_settles_h290 F (zX7_settles_l290 F k324 n) k324 v3 v4 w
def zX7_settles_b280 (F : Nat) (v1 : Int) (v3 : Int) (w : zS) : Option zS :=
  zSt 27 98 v3 v1 w fun w286 =>
  zX7_settles_l290 F (fun (w : zS) =>
    zPI 28 ((zI w 28) + (1 : Int)) w fun w331 =>
    some w331) F v3 (0 : Int) w286
def zX7_settles_b29 (F : Nat) (v1 : Int) (w : zS) : Option zS :=
  zEq v1 (zI w 24)
  (some w)
  (zX7_settles_l40 F (fun (v1 : Int) (v2 : Int) (w : zS) =>
      zX7_settles_l65 F (fun (v1 : Int) (w : zS) =>
        zX7_settles_l100 F (fun (v1 : Int) (w : zS) =>
          zX7_settles_l200 F (fun (v1 : Int) (v3 : Int) (w : zS) =>
            zX7_settles_b280 F v1 v3 w) F v1 (zI w 28) w) F v1 (0 : Int) w) F v1 v2 (0 : Int) w) F v1 (1 : Int) w)
def zX7_settles (F : Nat) (w : zS) : Option zS :=
  zC0 (zX7_reduceLine F w) fun q1 =>
  zX7_settles_l6 F (fun (v1 : Int) (w : zS) =>
    zX7_settles_b29 F v1 w) F (0 : Int) q1
def zX7_sheet_h55 (F : Nat) (r : Int → Int → zS → Option (Int × zS)) (v1 : Int) (v4 : Int) (w : zS) : Option (Int × zS) :=
  zLe (144 : Int) v4
  (some ((1 : Int), w))
  (zSt 6 576 (((144 : Int) * v1) + v4) (0 : Int) w fun w76 =>
    r v1 (v4 + (1 : Int)) w76)
def zX7_sheet_l55 (F : Nat)  : Nat → Int → Int → zS → Option (Int × zS)
  | 0, _, _, _ => none
  | n + 1, v1, v4, w => zX7_sheet_h55 F (zX7_sheet_l55 F  n)  v1 v4 w
def zX7_sheet (F : Nat) (v1 : Int) (v2 : Int) (v3 : Int) (w : zS) : Option (Int × zS) :=
  zC1 (zX7_in F (Int32.ofInt v1).toInt64 (0 : Int64) (3 : Int64) w) fun q6_1 q6_2 =>
  zEq q6_1 (0 : Int)
  (some ((-1 : Int), q6_2))
  (zC1 (zX7_in F (Int32.ofInt v2).toInt64 (0 : Int64) (1 : Int64) q6_2) fun q16_1 q16_2 =>
    zEq q16_1 (0 : Int)
    (some ((-1 : Int), q16_2))
    (zLe v3 (144 : Int)
      (zLe (0 : Int) v3
        (zSt 4 4 v1 v2 q16_2 fun w44 =>
          zSt 5 4 v1 v3 w44 fun w51 =>
          zX7_sheet_l55 F F v1 (0 : Int) w51)
        (some ((-14 : Int), q16_2)))
      (some ((-1 : Int), q16_2))))
def zX7_sumOf_h19 (F : Nat) (r : Int → Int → Int → zS → Option zS) (k73 : Int → Int → zS → Option zS) (v2 : Int) (v3 : Int) (v4 : Int) (w : zS) : Option zS :=
  zLe (zI w 24) v4
  (k73 v2 v3 w)
  (zLd 98 (zA w 25) v4 fun t40 =>
    zRem v2 (zI w 23) fun t46 =>
    zLd 9604 (zA w 33) (((98 : Int) * v3) + v4) fun t58 =>
    zRem (t40 + (t46 * t58)) (zI w 23) fun t65 =>
    zSt 25 98 v4 t65 w fun w66 =>
    r v2 v3 (v4 + (1 : Int)) w66)
def zX7_sumOf_l19 (F : Nat) (k73 : Int → Int → zS → Option zS) : Nat → Int → Int → Int → zS → Option zS
  | 0, _, _, _, _ => none
  | n + 1, v2, v3, v4, w => zX7_sumOf_h19 F (zX7_sumOf_l19 F k73 n) k73 v2 v3 v4 w
def zX7_sumOf_h8 (F : Nat) (r : Int → Int → zS → Option zS) (v2 : Int) (v3 : Int) (w : zS) : Option zS :=
  zLe (zI w 35) v3
  (some w)
  (zX7_sumOf_l19 F (fun (v2 : Int) (v3 : Int) (w : zS) =>
      zDiv v2 (zI w 23) fun t78 =>
      r t78 (v3 + (1 : Int)) w) F v2 v3 (0 : Int) w)
def zX7_sumOf_l8 (F : Nat)  : Nat → Int → Int → zS → Option zS
  | 0, _, _, _ => none
  | n + 1, v2, v3, w => zX7_sumOf_h8 F (zX7_sumOf_l8 F  n)  v2 v3 w
def zX7_sumOf (F : Nat) (v1 : Int) (w : zS) : Option zS :=
  zC0 (zX7_clearLine F w) fun q1 =>
  zX7_sumOf_l8 F F v1 (0 : Int) q1
def zX7_table_b154 (F : Nat) (r : Int → Int → Int → Int → zS → Option (Int × zS)) (k170 : Int → Int → Int → zS → Option (Int × zS)) (k143 : Int → Int → Int → zS → Option (Int × zS)) (v1 : Int) (v3 : Int) (v5 : Int) (v6 : Int) (v7 : Int) (w : zS) : Option (Int × zS) :=
  zC0 (zX7_set F v5 v6 v7 w) fun q161 =>
  r v1 v3 v5 (v6 + (1 : Int)) q161
def zX7_table_b131 (F : Nat) (r : Int → Int → Int → Int → zS → Option (Int × zS)) (k170 : Int → Int → Int → zS → Option (Int × zS)) (k143 : Int → Int → Int → zS → Option (Int × zS)) (v1 : Int) (v3 : Int) (v5 : Int) (v6 : Int) (v7 : Int) (w : zS) : Option (Int × zS) :=
  zEq v6 (0 : Int)
  (zEq v7 v5
    (zX7_table_b154 F r k170 k143 v1 v3 v5 v6 v7 w)
    (k143 v3 v5 v6 w))
  (zX7_table_b154 F r k170 k143 v1 v3 v5 v6 v7 w)
def zX7_table_h79 (F : Nat) (r : Int → Int → Int → Int → zS → Option (Int × zS)) (k170 : Int → Int → Int → zS → Option (Int × zS)) (k143 : Int → Int → Int → zS → Option (Int × zS)) (v1 : Int) (v3 : Int) (v5 : Int) (v6 : Int) (w : zS) : Option (Int × zS) :=
  zLe v3 v6
  (k170 v1 v3 v5 w)
  (zLd 576 (zA w 6) ((((144 : Int) * v1) + (v3 * v5)) + v6) fun t102 =>
    zC1 (zX7_in F (Int32.ofInt t102).toInt64 (0 : Int64) (Int32.ofInt (v3 - (1 : Int))).toInt64 w) fun q113_1 q113_2 =>
    zEq q113_1 (0 : Int)
    (k143 v3 v5 v6 q113_2)
    (zEq v5 (0 : Int)
      (zEq t102 v6
        (zX7_table_b131 F r k170 k143 v1 v3 v5 v6 t102 q113_2)
        (k143 v3 v5 v6 q113_2))
      (zX7_table_b131 F r k170 k143 v1 v3 v5 v6 t102 q113_2)))
def zX7_table_l79 (F : Nat) (k170 : Int → Int → Int → zS → Option (Int × zS)) (k143 : Int → Int → Int → zS → Option (Int × zS)) : Nat → Int → Int → Int → Int → zS → Option (Int × zS)
  | 0, _, _, _, _, _ => none
  | n + 1, v1, v3, v5, v6, w => zX7_table_h79 F (zX7_table_l79 F k170 k143 n) k170 k143 v1 v3 v5 v6 w
def zX7_table_h70 (F : Nat) (r : Int → Int → Int → zS → Option (Int × zS)) (k176 : Int → zS → Option (Int × zS)) (k143 : Int → Int → Int → zS → Option (Int × zS)) (v1 : Int) (v3 : Int) (v5 : Int) (w : zS) : Option (Int × zS) :=
  zLe v3 v5
  (k176 v3 w)
  (zX7_table_l79 F (fun (v1 : Int) (v3 : Int) (v5 : Int) (w : zS) =>
      r v1 v3 (v5 + (1 : Int)) w) (fun (v3 : Int) (v5 : Int) (v6 : Int) (w : zS) =>
      k143 v3 v5 v6 w) F v1 v3 v5 (0 : Int) w)
def zX7_table_l70 (F : Nat) (k176 : Int → zS → Option (Int × zS)) (k143 : Int → Int → Int → zS → Option (Int × zS)) : Nat → Int → Int → Int → zS → Option (Int × zS)
  | 0, _, _, _, _ => none
  | n + 1, v1, v3, v5, w => zX7_table_h70 F (zX7_table_l70 F k176 k143 n) k176 k143 v1 v3 v5 w
def zX7_table_h185 (F : Nat) (r : Int → Int → Int → zS → Option (Int × zS)) (k269 : Int → Int → zS → Option (Int × zS)) (v3 : Int) (v5 : Int) (v6 : Int) (w : zS) : Option (Int × zS) :=
  zLe ((v3 * v3) * v3) v6
  (k269 v3 v5 w)
  (zDiv v6 (v3 * v3) fun t200 =>
    zDiv v6 v3 fun t206 =>
    zRem t206 v3 fun t208 =>
    zRem v6 v3 fun t214 =>
    zC1 (zX7_prod F v5 t200 t208 w) fun q227_1 q227_2 =>
    zC1 (zX7_prod F v5 q227_1 t214 q227_2) fun q232_1 q232_2 =>
    zC1 (zX7_prod F v5 t208 t214 q232_2) fun q247_1 q247_2 =>
    zC1 (zX7_prod F v5 t200 q247_1 q247_2) fun q250_1 q250_2 =>
    zEq q232_1 q250_1
    (r v3 v5 (v6 + (1 : Int)) q250_2)
    (some (((-1100 : Int) - v6), q250_2)))
def zX7_table_l185 (F : Nat) (k269 : Int → Int → zS → Option (Int × zS)) : Nat → Int → Int → Int → zS → Option (Int × zS)
  | 0, _, _, _, _ => none
  | n + 1, v3, v5, v6, w => zX7_table_h185 F (zX7_table_l185 F k269 n) k269 v3 v5 v6 w
def zX7_table_b313 (F : Nat) (r : Int → Int → Int → Int → Int → zS → Option (Int × zS)) (k321 : Int → Int → Int → Int → zS → Option (Int × zS)) (v3 : Int) (v5 : Int) (v6 : Int) (v8 : Int) (s0 : Int) (w : zS) : Option (Int × zS) :=
  r v3 v5 v6 s0 (v8 + (1 : Int)) w
def zX7_table_b308 (F : Nat) (r : Int → Int → Int → Int → Int → zS → Option (Int × zS)) (k321 : Int → Int → Int → Int → zS → Option (Int × zS)) (v3 : Int) (v5 : Int) (v6 : Int) (v8 : Int) (w : zS) : Option (Int × zS) :=
  zX7_table_b313 F r k321 v3 v5 v6 v8 (1 : Int) w
def zX7_table_h284 (F : Nat) (r : Int → Int → Int → Int → Int → zS → Option (Int × zS)) (k321 : Int → Int → Int → Int → zS → Option (Int × zS)) (v3 : Int) (v5 : Int) (v6 : Int) (v7 : Int) (v8 : Int) (w : zS) : Option (Int × zS) :=
  zLe v3 v8
  (k321 v3 v5 v6 v7 w)
  (zEq v7 (0 : Int)
    (zC1 (zX7_prod F v5 v6 v8 w) fun q302_1 q302_2 =>
      zEq q302_1 (0 : Int)
      (zX7_table_b308 F r k321 v3 v5 v6 v8 q302_2)
      (zX7_table_b313 F r k321 v3 v5 v6 v8 (0 : Int) q302_2))
    (zX7_table_b308 F r k321 v3 v5 v6 v8 w))
def zX7_table_l284 (F : Nat) (k321 : Int → Int → Int → Int → zS → Option (Int × zS)) : Nat → Int → Int → Int → Int → Int → zS → Option (Int × zS)
  | 0, _, _, _, _, _, _ => none
  | n + 1, v3, v5, v6, v7, v8, w => zX7_table_h284 F (zX7_table_l284 F k321 n) k321 v3 v5 v6 v7 v8 w
def zX7_table_h272 (F : Nat) (r : Int → Int → Int → zS → Option (Int × zS)) (k339 : Int → zS → Option (Int × zS)) (v3 : Int) (v5 : Int) (v6 : Int) (w : zS) : Option (Int × zS) :=
  zLe v3 v6
  (k339 v3 w)
  (zX7_table_l284 F (fun (v3 : Int) (v5 : Int) (v6 : Int) (v7 : Int) (w : zS) =>
      zEq v7 (0 : Int)
      (some (((-3100 : Int) - v6), w))
      (r v3 v5 (v6 + (1 : Int)) w)) F v3 v5 v6 (0 : Int) (0 : Int) w)
def zX7_table_l272 (F : Nat) (k339 : Int → zS → Option (Int × zS)) : Nat → Int → Int → Int → zS → Option (Int × zS)
  | 0, _, _, _, _ => none
  | n + 1, v3, v5, v6, w => zX7_table_h272 F (zX7_table_l272 F k339 n) k339 v3 v5 v6 w
def zX7_table_b143 (F : Nat) (v3 : Int) (v5 : Int) (v6 : Int) (w : zS) : Option (Int × zS) :=
  some (((-100 : Int) - ((v3 * v5) + v6)), w)
def zX7_table (F : Nat) (v1 : Int) (v2 : Int) (v3 : Int) (w : zS) : Option (Int × zS) :=
  zC1 (zX7_in F (Int32.ofInt v1).toInt64 (0 : Int64) (3 : Int64) w) fun q6_1 q6_2 =>
  zEq q6_1 (0 : Int)
  (some ((-1 : Int), q6_2))
  (zC1 (zX7_in F (Int32.ofInt v2).toInt64 (0 : Int64) (1 : Int64) q6_2) fun q16_1 q16_2 =>
    zEq q16_1 (0 : Int)
    (some ((-1 : Int), q16_2))
    (zC1 (zX7_in F (Int32.ofInt v3).toInt64 (1 : Int64) (12 : Int64) q16_2) fun q28_1 q28_2 =>
      zEq q28_1 (0 : Int)
      (some ((-1 : Int), q28_2))
      (zC1 (zX7_faultOf F v1 v2 (v3 * v3) q28_2) fun q42_1 q42_2 =>
        zLe (0 : Int) q42_1
        (zEq (zI q42_2 0) (8 : Int)
          (some ((-3 : Int), q42_2))
          (zX7_table_l70 F (fun (v3 : Int) (w : zS) =>
              zX7_table_l185 F (fun (v3 : Int) (v5 : Int) (w : zS) =>
                zX7_table_l272 F (fun (v3 : Int) (w : zS) =>
                  zC1 (zX7_added F v3 w) fun q341_1 q341_2 =>
                  some (q341_1, q341_2)) F v3 v5 (0 : Int) w) F v3 (zI w 0) (0 : Int) w) (fun (v3 : Int) (v5 : Int) (v6 : Int) (w : zS) =>
              zX7_table_b143 F v3 v5 v6 w) F v1 v3 (0 : Int) q42_2))
        (some (q42_1, q42_2)))))
def zX7_twisted_b8 (F : Nat) (w : zS) : Option (Int × zS) :=
  some ((0 : Int), w)
def zX7_twisted (F : Nat) (v1 : Int) (v2 : Int) (v3 : Int) (w : zS) : Option (Int × zS) :=
  zEq v1 (0 : Int)
  (zX7_twisted_b8 F w)
  (zEq v2 (0 : Int)
    (zX7_twisted_b8 F w)
    (zC1 (zX7_placeOf F v1 v2 v3 w) fun q20_1 q20_2 =>
      zLd 98 (zA q20_2 25) q20_1 fun t23 =>
      some (t23, q20_2)))
def zX7_bounds_b153 (F : Nat) (r : Int → Int → Int → Int → Int → zS → Option zS) (k162 : Int → Int → Int → Int → zS → Option zS) (v1 : Int) (v2 : Int) (v3 : Int) (v4 : Int) (v5 : Int) (s1 : Int) (s2 : Int) (w : zS) : Option zS :=
  zC0 (zX7_addTo F s1 s2 w) fun q153 =>
  r v1 v2 v3 v4 (v5 + (1 : Int)) q153
def zX7_bounds_b152 (F : Nat) (r : Int → Int → Int → Int → Int → zS → Option zS) (k162 : Int → Int → Int → Int → zS → Option zS) (v1 : Int) (v2 : Int) (v3 : Int) (v4 : Int) (v5 : Int) (s1 : Int) (w : zS) : Option zS :=
  zX7_bounds_b153 F r k162 v1 v2 v3 v4 v5 s1 (0 : Int) w
def zX7_bounds_b121 (F : Nat) (r : Int → Int → Int → Int → Int → zS → Option zS) (k162 : Int → Int → Int → Int → zS → Option zS) (v1 : Int) (v2 : Int) (v3 : Int) (v4 : Int) (v5 : Int) (v6 : Int) (s1 : Int) (s2 : Int) (w : zS) : Option zS :=
  zC0 (zX7_addTo F s1 s2 w) fun q121 =>
  zC1 (zX7_prod F (zI q121 38) v3 v4 q121) fun q135_1 q135_2 =>
  zEq q135_1 v1
  (zEq v5 v2
    (zX7_bounds_b153 F r k162 v1 v2 v3 v4 v5 v6 (-1 : Int) q135_2)
    (zX7_bounds_b152 F r k162 v1 v2 v3 v4 v5 v6 q135_2))
  (zX7_bounds_b152 F r k162 v1 v2 v3 v4 v5 v6 q135_2)
def zX7_bounds_b93 (F : Nat) (r : Int → Int → Int → Int → Int → zS → Option zS) (k162 : Int → Int → Int → Int → zS → Option zS) (v1 : Int) (v2 : Int) (v3 : Int) (v4 : Int) (v5 : Int) (v6 : Int) (s1 : Int) (s2 : Int) (w : zS) : Option zS :=
  zC0 (zX7_addTo F s1 s2 w) fun q93 =>
  zEq v4 v1
  (zC1 (zX7_matrix F (zI q93 39) v3 v5 v2 q93) fun q114_1 q114_2 =>
    zX7_bounds_b121 F r k162 v1 v2 v3 v4 v5 v6 v6 q114_1 q114_2)
  (zX7_bounds_b121 F r k162 v1 v2 v3 v4 v5 v6 v6 (0 : Int) q93)
def zX7_bounds_b92 (F : Nat) (r : Int → Int → Int → Int → Int → zS → Option zS) (k162 : Int → Int → Int → Int → zS → Option zS) (v1 : Int) (v2 : Int) (v3 : Int) (v4 : Int) (v5 : Int) (v6 : Int) (s1 : Int) (w : zS) : Option zS :=
  zX7_bounds_b93 F r k162 v1 v2 v3 v4 v5 v6 s1 (0 : Int) w
def zX7_bounds_h54 (F : Nat) (r : Int → Int → Int → Int → Int → zS → Option zS) (k162 : Int → Int → Int → Int → zS → Option zS) (v1 : Int) (v2 : Int) (v3 : Int) (v4 : Int) (v5 : Int) (w : zS) : Option zS :=
  zLe (zI w 37) v5
  (k162 v1 v2 v3 v4 w)
  (zC1 (zX7_placeOf F v3 v4 v5 w) fun q69_1 q69_2 =>
    zEq v3 v1
    (zEq v5 v2
      (zX7_bounds_b93 F r k162 v1 v2 v3 v4 v5 q69_1 q69_1 (1 : Int) q69_2)
      (zX7_bounds_b92 F r k162 v1 v2 v3 v4 v5 q69_1 q69_1 q69_2))
    (zX7_bounds_b92 F r k162 v1 v2 v3 v4 v5 q69_1 q69_1 q69_2))
def zX7_bounds_l54 (F : Nat) (k162 : Int → Int → Int → Int → zS → Option zS) : Nat → Int → Int → Int → Int → Int → zS → Option zS
  | 0, _, _, _, _, _, _ => none
  | n + 1, v1, v2, v3, v4, v5, w => zX7_bounds_h54 F (zX7_bounds_l54 F k162 n) k162 v1 v2 v3 v4 v5 w
def zX7_bounds_h42 (F : Nat) (r : Int → Int → Int → Int → zS → Option zS) (k168 : Int → Int → Int → zS → Option zS) (v1 : Int) (v2 : Int) (v3 : Int) (v4 : Int) (w : zS) : Option zS :=
  zLe (zI w 36) v4
  (k168 v1 v2 v3 w)
  (zX7_bounds_l54 F (fun (v1 : Int) (v2 : Int) (v3 : Int) (v4 : Int) (w : zS) =>
      r v1 v2 v3 (v4 + (1 : Int)) w) F v1 v2 v3 v4 (0 : Int) w)
def zX7_bounds_l42 (F : Nat) (k168 : Int → Int → Int → zS → Option zS) : Nat → Int → Int → Int → Int → zS → Option zS
  | 0, _, _, _, _, _ => none
  | n + 1, v1, v2, v3, v4, w => zX7_bounds_h42 F (zX7_bounds_l42 F k168 n) k168 v1 v2 v3 v4 w
def zX7_bounds_h31 (F : Nat) (r : Int → Int → Int → zS → Option zS) (k174 : Int → Int → zS → Option zS) (v1 : Int) (v2 : Int) (v3 : Int) (w : zS) : Option zS :=
  zLe (zI w 36) v3
  (k174 v1 v2 w)
  (zX7_bounds_l42 F (fun (v1 : Int) (v2 : Int) (v3 : Int) (w : zS) =>
      r v1 v2 (v3 + (1 : Int)) w) F v1 v2 v3 (1 : Int) w)
def zX7_bounds_l31 (F : Nat) (k174 : Int → Int → zS → Option zS) : Nat → Int → Int → Int → zS → Option zS
  | 0, _, _, _, _ => none
  | n + 1, v1, v2, v3, w => zX7_bounds_h31 F (zX7_bounds_l31 F k174 n) k174 v1 v2 v3 w
def zX7_bounds_h17 (F : Nat) (r : Int → Int → zS → Option zS) (k184 : Int → zS → Option zS) (v1 : Int) (v2 : Int) (w : zS) : Option zS :=
  zLe (zI w 37) v2
  (k184 v1 w)
  (zC0 (zX7_clearLine F w) fun q26 =>
    zX7_bounds_l31 F (fun (v1 : Int) (v2 : Int) (w : zS) =>
      zC0 (zX7_settles F w) fun q175 =>
      r v1 (v2 + (1 : Int)) q175) F v1 v2 (1 : Int) q26)
def zX7_bounds_l17 (F : Nat) (k184 : Int → zS → Option zS) : Nat → Int → Int → zS → Option zS
  | 0, _, _, _ => none
  | n + 1, v1, v2, w => zX7_bounds_h17 F (zX7_bounds_l17 F k184 n) k184 v1 v2 w
def zX7_bounds_h7 (F : Nat) (r : Int → zS → Option zS) (k190 : zS → Option zS) (v1 : Int) (w : zS) : Option zS :=
  zLe (zI w 36) v1
  (k190 w)
  (zX7_bounds_l17 F (fun (v1 : Int) (w : zS) =>
      r (v1 + (1 : Int)) w) F v1 (0 : Int) w)
def zX7_bounds_l7 (F : Nat) (k190 : zS → Option zS) : Nat → Int → zS → Option zS
  | 0, _, _ => none
  | n + 1, v1, w => zX7_bounds_h7 F (zX7_bounds_l7 F k190 n) k190 v1 w
def zX7_bounds_h224 (F : Nat) (r : Int → Int → zS → Option zS) (k260 : Int → zS → Option zS) (v1 : Int) (v2 : Int) (w : zS) : Option zS :=
  zLe (zI w 24) v2
  (k260 v1 w)
  (zLd 9604 (zA w 26) (((98 : Int) * v1) + v2) fun t252 =>
    zSt 31 1372 (((98 : Int) * v1) + v2) t252 w fun w253 =>
    r v1 (v2 + (1 : Int)) w253)
def zX7_bounds_l224 (F : Nat) (k260 : Int → zS → Option zS) : Nat → Int → Int → zS → Option zS
  | 0, _, _, _ => none
  | n + 1, v1, v2, w => zX7_bounds_h224 F (zX7_bounds_l224 F k260 n) k260 v1 v2 w
def zX7_bounds_h202 (F : Nat) (r : Int → zS → Option zS) (v1 : Int) (w : zS) : Option zS :=
  zLe (zI w 28) v1
  (some w)
  (zLd 98 (zA w 27) v1 fun t220 =>
    zSt 32 14 v1 t220 w fun w221 =>
    zX7_bounds_l224 F (fun (v1 : Int) (w : zS) =>
      r (v1 + (1 : Int)) w) F v1 (0 : Int) w221)
def zX7_bounds_l202 (F : Nat)  : Nat → Int → zS → Option zS
  | 0, _, _ => none
  | n + 1, v1, w => zX7_bounds_h202 F (zX7_bounds_l202 F  n)  v1 w
def zX7_bounds (F : Nat) (w : zS) : Option zS :=
  zPI 28 (0 : Int) w fun w2 =>
  zX7_bounds_l7 F (fun (w : zS) =>
    zSt 30 5 (4 : Int) (zI w 28) w fun w199 =>
    zX7_bounds_l202 F F (0 : Int) w199) F (1 : Int) w2
def zX7_dimensionNone_b70 (F : Nat) (r : Int → Int → Int → zS → Option zS) (k80 : Int → Int → zS → Option zS) (v1 : Int) (v2 : Int) (v3 : Int) (s1 : Int) (s2 : Int) (s3 : Int) (w : zS) : Option zS :=
  zC0 (zX7_addTo F s1 (s2 - s3) w) fun q71 =>
  r v1 v2 (v3 + (1 : Int)) q71
def zX7_dimensionNone_h39 (F : Nat) (r : Int → Int → Int → zS → Option zS) (k80 : Int → Int → zS → Option zS) (v1 : Int) (v2 : Int) (v3 : Int) (w : zS) : Option zS :=
  zLe (zI w 37) v3
  (k80 v1 v2 w)
  (zC1 (zX7_matrix F (zI w 39) v1 v2 v3 w) fun q57_1 q57_2 =>
    zEq v2 v3
    (zX7_dimensionNone_b70 F r k80 v1 v2 v3 v3 q57_1 (1 : Int) q57_2)
    (zX7_dimensionNone_b70 F r k80 v1 v2 v3 v3 q57_1 (0 : Int) q57_2))
def zX7_dimensionNone_l39 (F : Nat) (k80 : Int → Int → zS → Option zS) : Nat → Int → Int → Int → zS → Option zS
  | 0, _, _, _, _ => none
  | n + 1, v1, v2, v3, w => zX7_dimensionNone_h39 F (zX7_dimensionNone_l39 F k80 n) k80 v1 v2 v3 w
def zX7_dimensionNone_h25 (F : Nat) (r : Int → Int → zS → Option zS) (k90 : Int → zS → Option zS) (v1 : Int) (v2 : Int) (w : zS) : Option zS :=
  zLe (zI w 37) v2
  (k90 v1 w)
  (zC0 (zX7_clearLine F w) fun q34 =>
    zX7_dimensionNone_l39 F (fun (v1 : Int) (v2 : Int) (w : zS) =>
      zC0 (zX7_settles F w) fun q81 =>
      r v1 (v2 + (1 : Int)) q81) F v1 v2 (0 : Int) q34)
def zX7_dimensionNone_l25 (F : Nat) (k90 : Int → zS → Option zS) : Nat → Int → Int → zS → Option zS
  | 0, _, _, _ => none
  | n + 1, v1, v2, w => zX7_dimensionNone_h25 F (zX7_dimensionNone_l25 F k90 n) k90 v1 v2 w
def zX7_dimensionNone_h15 (F : Nat) (r : Int → zS → Option zS) (k96 : zS → Option zS) (v1 : Int) (w : zS) : Option zS :=
  zLe (zI w 36) v1
  (k96 w)
  (zX7_dimensionNone_l25 F (fun (v1 : Int) (w : zS) =>
      r (v1 + (1 : Int)) w) F v1 (0 : Int) w)
def zX7_dimensionNone_l15 (F : Nat) (k96 : zS → Option zS) : Nat → Int → zS → Option zS
  | 0, _, _ => none
  | n + 1, v1, w => zX7_dimensionNone_h15 F (zX7_dimensionNone_l15 F k96 n) k96 v1 w
def zX7_dimensionNone (F : Nat) (w : zS) : Option zS :=
  zPI 28 (0 : Int) w fun w2 =>
  zPI 24 (zI w 37) w2 fun w10 =>
  zX7_dimensionNone_l15 F (fun (w : zS) =>
    zSt 30 5 (0 : Int) ((zI w 37) - (zI w 28)) w fun w110 =>
    zSt 30 5 (2 : Int) (zI w 28) w110 fun w120 =>
    some w120) F (0 : Int) w10
def zX7_dimensionOne_h105 (F : Nat) (r : Int → Int → Int → Int → zS → Option zS) (k148 : Int → Int → Int → zS → Option zS) (v1 : Int) (v2 : Int) (v3 : Int) (v5 : Int) (w : zS) : Option zS :=
  zLe (zI w 37) v5
  (k148 v1 v2 v3 w)
  (zC1 (zX7_matrix F (zI w 39) v1 v3 v5 w) fun q135_1 q135_2 =>
    zC0 (zX7_addTo F (((v2 - (1 : Int)) * (zI w 37)) + v5) (-q135_1) q135_2) fun q139 =>
    r v1 v2 v3 (v5 + (1 : Int)) q139)
def zX7_dimensionOne_l105 (F : Nat) (k148 : Int → Int → Int → zS → Option zS) : Nat → Int → Int → Int → Int → zS → Option zS
  | 0, _, _, _, _, _ => none
  | n + 1, v1, v2, v3, v5, w => zX7_dimensionOne_h105 F (zX7_dimensionOne_l105 F k148 n) k148 v1 v2 v3 v5 w
def zX7_dimensionOne_b87 (F : Nat) (r : Int → Int → Int → zS → Option zS) (k158 : Int → Int → zS → Option zS) (v1 : Int) (v2 : Int) (v3 : Int) (w : zS) : Option zS :=
  zC0 (zX7_addTo F (((v1 - (1 : Int)) * (zI w 37)) + v3) (-1 : Int) w) fun q99 =>
  zX7_dimensionOne_l105 F (fun (v1 : Int) (v2 : Int) (v3 : Int) (w : zS) =>
    zC0 (zX7_settles F w) fun q149 =>
    r v1 v2 (v3 + (1 : Int)) q149) F v1 v2 v3 (0 : Int) q99
def zX7_dimensionOne_h42 (F : Nat) (r : Int → Int → Int → zS → Option zS) (k158 : Int → Int → zS → Option zS) (v1 : Int) (v2 : Int) (v3 : Int) (w : zS) : Option zS :=
  zLe (zI w 37) v3
  (k158 v1 v2 w)
  (zC0 (zX7_clearLine F w) fun q51 =>
    zC1 (zX7_prod F (zI q51 38) v1 v2 q51) fun q61_1 q61_2 =>
    zLe q61_1 (0 : Int)
    (zX7_dimensionOne_b87 F r k158 v1 v2 v3 q61_2)
    (zC0 (zX7_addTo F (((q61_1 - (1 : Int)) * (zI q61_2 37)) + v3) (1 : Int) q61_2) fun q84 =>
      zX7_dimensionOne_b87 F r k158 v1 v2 v3 q84))
def zX7_dimensionOne_l42 (F : Nat) (k158 : Int → Int → zS → Option zS) : Nat → Int → Int → Int → zS → Option zS
  | 0, _, _, _, _ => none
  | n + 1, v1, v2, v3, w => zX7_dimensionOne_h42 F (zX7_dimensionOne_l42 F k158 n) k158 v1 v2 v3 w
def zX7_dimensionOne_h32 (F : Nat) (r : Int → Int → zS → Option zS) (k164 : Int → zS → Option zS) (v1 : Int) (v2 : Int) (w : zS) : Option zS :=
  zLe (zI w 36) v2
  (k164 v1 w)
  (zX7_dimensionOne_l42 F (fun (v1 : Int) (v2 : Int) (w : zS) =>
      r v1 (v2 + (1 : Int)) w) F v1 v2 (0 : Int) w)
def zX7_dimensionOne_l32 (F : Nat) (k164 : Int → zS → Option zS) : Nat → Int → Int → zS → Option zS
  | 0, _, _, _ => none
  | n + 1, v1, v2, w => zX7_dimensionOne_h32 F (zX7_dimensionOne_l32 F k164 n) k164 v1 v2 w
def zX7_dimensionOne_h22 (F : Nat) (r : Int → zS → Option zS) (k170 : zS → Option zS) (v1 : Int) (w : zS) : Option zS :=
  zLe (zI w 36) v1
  (k170 w)
  (zX7_dimensionOne_l32 F (fun (v1 : Int) (w : zS) =>
      r (v1 + (1 : Int)) w) F v1 (1 : Int) w)
def zX7_dimensionOne_l22 (F : Nat) (k170 : zS → Option zS) : Nat → Int → zS → Option zS
  | 0, _, _ => none
  | n + 1, v1, w => zX7_dimensionOne_h22 F (zX7_dimensionOne_l22 F k170 n) k170 v1 w
def zX7_dimensionOne (F : Nat) (w : zS) : Option zS :=
  zPI 28 (0 : Int) w fun w2 =>
  zPI 24 (((zI w 36) - (1 : Int)) * (zI w 37)) w2 fun w17 =>
  zX7_dimensionOne_l22 F (fun (w : zS) =>
    zSt 30 5 (1 : Int) ((zI w 24) - (zI w 28)) w fun w184 =>
    some w184) F (1 : Int) w17
def zX7_isCocycle_h97 (F : Nat) (r : Int → Int → Int → Int → Int → Int → Int → zS → Option (Int × zS)) (k140 : Int → Int → Int → Int → Int → Int → zS → Option (Int × zS)) (v1 : Int) (v2 : Int) (v3 : Int) (v4 : Int) (v5 : Int) (v6 : Int) (v7 : Int) (w : zS) : Option (Int × zS) :=
  zLe (zI w 37) v7
  (k140 v1 v2 v3 v4 v5 v6 w)
  (zC1 (zX7_matrix F (zI w 39) v2 v5 v7 w) fun q118_1 q118_2 =>
    zC1 (zX7_twisted F v3 v4 v7 q118_2) fun q127_1 q127_2 =>
    r v1 v2 v3 v4 v5 (v6 + (q118_1 * q127_1)) (v7 + (1 : Int)) q127_2)
def zX7_isCocycle_l97 (F : Nat) (k140 : Int → Int → Int → Int → Int → Int → zS → Option (Int × zS)) : Nat → Int → Int → Int → Int → Int → Int → Int → zS → Option (Int × zS)
  | 0, _, _, _, _, _, _, _, _ => none
  | n + 1, v1, v2, v3, v4, v5, v6, v7, w => zX7_isCocycle_h97 F (zX7_isCocycle_l97 F k140 n) k140 v1 v2 v3 v4 v5 v6 v7 w
def zX7_isCocycle_b159 (F : Nat) (r : Int → Int → Int → Int → Int → zS → Option (Int × zS)) (k166 : Int → Int → Int → Int → zS → Option (Int × zS)) (v2 : Int) (v3 : Int) (v4 : Int) (v5 : Int) (s0 : Int) (w : zS) : Option (Int × zS) :=
  r s0 v2 v3 v4 (v5 + (1 : Int)) w
def zX7_isCocycle_b158 (F : Nat) (r : Int → Int → Int → Int → Int → zS → Option (Int × zS)) (k166 : Int → Int → Int → Int → zS → Option (Int × zS)) (v2 : Int) (v3 : Int) (v4 : Int) (v5 : Int) (w : zS) : Option (Int × zS) :=
  zX7_isCocycle_b159 F r k166 v2 v3 v4 v5 (0 : Int) w
def zX7_isCocycle_h37 (F : Nat) (r : Int → Int → Int → Int → Int → zS → Option (Int × zS)) (k166 : Int → Int → Int → Int → zS → Option (Int × zS)) (v1 : Int) (v2 : Int) (v3 : Int) (v4 : Int) (v5 : Int) (w : zS) : Option (Int × zS) :=
  zLe (zI w 37) v5
  (k166 v1 v2 v3 v4 w)
  (zC1 (zX7_prod F (zI w 38) v3 v4 w) fun q56_1 q56_2 =>
    zC1 (zX7_twisted F v2 q56_1 v5 q56_2) fun q61_1 q61_2 =>
    zC1 (zX7_prod F (zI q61_2 38) v2 v3 q61_2) fun q72_1 q72_2 =>
    zC1 (zX7_twisted F q72_1 v4 v5 q72_2) fun q79_1 q79_2 =>
    zC1 (zX7_twisted F v2 v3 v5 q79_2) fun q88_1 q88_2 =>
    zX7_isCocycle_l97 F (fun (v1 : Int) (v2 : Int) (v3 : Int) (v4 : Int) (v5 : Int) (v6 : Int) (w : zS) =>
      zEq v1 (0 : Int)
      (zX7_isCocycle_b158 F r k166 v2 v3 v4 v5 w)
      (zRem v6 (zI w 23) fun t150 =>
        zEq t150 (0 : Int)
        (zX7_isCocycle_b159 F r k166 v2 v3 v4 v5 (1 : Int) w)
        (zX7_isCocycle_b158 F r k166 v2 v3 v4 v5 w))) F v1 v2 v3 v4 v5 ((q61_1 - q79_1) - q88_1) (0 : Int) q88_2)
def zX7_isCocycle_l37 (F : Nat) (k166 : Int → Int → Int → Int → zS → Option (Int × zS)) : Nat → Int → Int → Int → Int → Int → zS → Option (Int × zS)
  | 0, _, _, _, _, _, _ => none
  | n + 1, v1, v2, v3, v4, v5, w => zX7_isCocycle_h37 F (zX7_isCocycle_l37 F k166 n) k166 v1 v2 v3 v4 v5 w
def zX7_isCocycle_h25 (F : Nat) (r : Int → Int → Int → Int → zS → Option (Int × zS)) (k172 : Int → Int → Int → zS → Option (Int × zS)) (v1 : Int) (v2 : Int) (v3 : Int) (v4 : Int) (w : zS) : Option (Int × zS) :=
  zLe (zI w 36) v4
  (k172 v1 v2 v3 w)
  (zX7_isCocycle_l37 F (fun (v1 : Int) (v2 : Int) (v3 : Int) (v4 : Int) (w : zS) =>
      r v1 v2 v3 (v4 + (1 : Int)) w) F v1 v2 v3 v4 (0 : Int) w)
def zX7_isCocycle_l25 (F : Nat) (k172 : Int → Int → Int → zS → Option (Int × zS)) : Nat → Int → Int → Int → Int → zS → Option (Int × zS)
  | 0, _, _, _, _, _ => none
  | n + 1, v1, v2, v3, v4, w => zX7_isCocycle_h25 F (zX7_isCocycle_l25 F k172 n) k172 v1 v2 v3 v4 w
def zX7_isCocycle_h14 (F : Nat) (r : Int → Int → Int → zS → Option (Int × zS)) (k178 : Int → Int → zS → Option (Int × zS)) (v1 : Int) (v2 : Int) (v3 : Int) (w : zS) : Option (Int × zS) :=
  zLe (zI w 36) v3
  (k178 v1 v2 w)
  (zX7_isCocycle_l25 F (fun (v1 : Int) (v2 : Int) (v3 : Int) (w : zS) =>
      r v1 v2 (v3 + (1 : Int)) w) F v1 v2 v3 (1 : Int) w)
def zX7_isCocycle_l14 (F : Nat) (k178 : Int → Int → zS → Option (Int × zS)) : Nat → Int → Int → Int → zS → Option (Int × zS)
  | 0, _, _, _, _ => none
  | n + 1, v1, v2, v3, w => zX7_isCocycle_h14 F (zX7_isCocycle_l14 F k178 n) k178 v1 v2 v3 w
def zX7_isCocycle_h4 (F : Nat) (r : Int → Int → zS → Option (Int × zS)) (v1 : Int) (v2 : Int) (w : zS) : Option (Int × zS) :=
  zLe (zI w 36) v2
  (zBo v1 fun v =>
    some (v, w))
  (zX7_isCocycle_l14 F (fun (v1 : Int) (v2 : Int) (w : zS) =>
      r v1 (v2 + (1 : Int)) w) F v1 v2 (1 : Int) w)
def zX7_isCocycle_l4 (F : Nat)  : Nat → Int → Int → zS → Option (Int × zS)
  | 0, _, _, _ => none
  | n + 1, v1, v2, w => zX7_isCocycle_h4 F (zX7_isCocycle_l4 F  n)  v1 v2 w
def zX7_isCocycle (F : Nat) (w : zS) : Option (Int × zS) :=
  zX7_isCocycle_l4 F F (1 : Int) (1 : Int) w
def zX7_isElement_b30 (F : Nat) (w : zS) : Option (Int × zS) :=
  some ((0 : Int), w)
def zX7_isElement (F : Nat) (v1 : Int) (v2 : Int) (w : zS) : Option (Int × zS) :=
  zC1 (zX7_isGroup F v1 w) fun q2_1 q2_2 =>
  zEq q2_1 (0 : Int)
  (zX7_isElement_b30 F q2_2)
  (zLd 8 (zA q2_2 1) v1 fun t16 =>
    zC1 (zX7_in F (Int32.ofInt v2).toInt64 (0 : Int64) (Int32.ofInt (t16 - (1 : Int))).toInt64 q2_2) fun q20_1 q20_2 =>
    zEq q20_1 (0 : Int)
    (zX7_isElement_b30 F q20_2)
    (some ((1 : Int), q20_2)))
def zX7_leastMakers_b388 (F : Nat) (r : Int → Int → Int → Int → Int → Int → Int64 → Int64 → Int → zS → Option (Int × zS)) (k394 : Int → Int → Int → Int → Int → Int → zS → Option (Int × zS)) (v1 : Int) (v3 : Int) (v4 : Int) (v5 : Int) (v6 : Int) (v7 : Int) (v8 : Int64) (v10 : Int64) (v12 : Int) (w : zS) : Option (Int × zS) :=
  r v1 v3 v4 v5 v6 v7 v8 v10 (v12 + (1 : Int)) w
def zX7_leastMakers_h172 (F : Nat) (r : Int → Int → Int → Int → Int → Int64 → Int64 → Int → Int → zS → Option (Int × zS)) (k205 : Int → Int → Int → Int → Int → Int64 → Int64 → Int → zS → Option (Int × zS)) (v1 : Int) (v3 : Int) (v4 : Int) (v6 : Int) (v7 : Int) (v8 : Int64) (v10 : Int64) (v12 : Int) (v14 : Int) (w : zS) : Option (Int × zS) :=
  zLe v4 v14
  (k205 v1 v3 v4 v6 v7 v8 v10 v12 w)
  (zLd 48000 (zA w 19) (((8 : Int) * v7) + v14) fun t197 =>
    zSt 12 80 v14 t197 w fun w198 =>
    r v1 v3 v4 v6 v7 v8 v10 v12 (v14 + (1 : Int)) w198)
def zX7_leastMakers_l172 (F : Nat) (k205 : Int → Int → Int → Int → Int → Int64 → Int64 → Int → zS → Option (Int × zS)) : Nat → Int → Int → Int → Int → Int → Int64 → Int64 → Int → Int → zS → Option (Int × zS)
  | 0, _, _, _, _, _, _, _, _, _, _ => none
  | n + 1, v1, v3, v4, v6, v7, v8, v10, v12, v14, w => zX7_leastMakers_h172 F (zX7_leastMakers_l172 F k205 n) k205 v1 v3 v4 v6 v7 v8 v10 v12 v14 w
def zX7_leastMakers_b314 (F : Nat) (r : Int → Int → Int → Int → Int → Int → Int64 → Int64 → Int → Int → Int → zS → Option (Int × zS)) (k322 : Int → Int → Int → Int → Int → Int → Int64 → Int64 → Int → Int → zS → Option (Int × zS)) (v1 : Int) (v3 : Int) (v4 : Int) (v5 : Int) (v6 : Int) (v7 : Int) (v8 : Int64) (v10 : Int64) (v12 : Int) (v15 : Int) (s0 : Int) (w : zS) : Option (Int × zS) :=
  r v1 v3 v4 v5 v6 v7 v8 v10 v12 s0 (v15 + (1 : Int)) w
def zX7_leastMakers_b309 (F : Nat) (r : Int → Int → Int → Int → Int → Int → Int64 → Int64 → Int → Int → Int → zS → Option (Int × zS)) (k322 : Int → Int → Int → Int → Int → Int → Int64 → Int64 → Int → Int → zS → Option (Int × zS)) (v1 : Int) (v3 : Int) (v4 : Int) (v5 : Int) (v6 : Int) (v7 : Int) (v8 : Int64) (v10 : Int64) (v12 : Int) (v15 : Int) (w : zS) : Option (Int × zS) :=
  zX7_leastMakers_b314 F r k322 v1 v3 v4 v5 v6 v7 v8 v10 v12 v15 (1 : Int) w
def zX7_leastMakers_b313 (F : Nat) (r : Int → Int → Int → Int → Int → Int → Int64 → Int64 → Int → Int → Int → zS → Option (Int × zS)) (k322 : Int → Int → Int → Int → Int → Int → Int64 → Int64 → Int → Int → zS → Option (Int × zS)) (v1 : Int) (v3 : Int) (v4 : Int) (v5 : Int) (v6 : Int) (v7 : Int) (v8 : Int64) (v10 : Int64) (v12 : Int) (v15 : Int) (w : zS) : Option (Int × zS) :=
  zX7_leastMakers_b314 F r k322 v1 v3 v4 v5 v6 v7 v8 v10 v12 v15 (0 : Int) w
def zX7_leastMakers_h267 (F : Nat) (r : Int → Int → Int → Int → Int → Int → Int64 → Int64 → Int → Int → Int → zS → Option (Int × zS)) (k322 : Int → Int → Int → Int → Int → Int → Int64 → Int64 → Int → Int → zS → Option (Int × zS)) (v1 : Int) (v3 : Int) (v4 : Int) (v5 : Int) (v6 : Int) (v7 : Int) (v8 : Int64) (v10 : Int64) (v12 : Int) (v14 : Int) (v15 : Int) (w : zS) : Option (Int × zS) :=
  zLe v6 v15
  (k322 v1 v3 v4 v5 v6 v7 v8 v10 v12 v14 w)
  (zEq v14 (0 : Int)
    (zLJ 6000 (zB w 17) v15 fun t285 =>
      if (lg_cmp t285 (zJ w 15)) = 0 then
      (zLJ 6000 (zB w 18) v15 fun t300 =>
        if (lg_cmp t300 (zJ w 16)) = 0 then
        (zX7_leastMakers_b309 F r k322 v1 v3 v4 v5 v6 v7 v8 v10 v12 v15 w)
else
        (zX7_leastMakers_b313 F r k322 v1 v3 v4 v5 v6 v7 v8 v10 v12 v15 w))
else
      (zX7_leastMakers_b313 F r k322 v1 v3 v4 v5 v6 v7 v8 v10 v12 v15 w))
    (zX7_leastMakers_b309 F r k322 v1 v3 v4 v5 v6 v7 v8 v10 v12 v15 w))
def zX7_leastMakers_l267 (F : Nat) (k322 : Int → Int → Int → Int → Int → Int → Int64 → Int64 → Int → Int → zS → Option (Int × zS)) : Nat → Int → Int → Int → Int → Int → Int → Int64 → Int64 → Int → Int → Int → zS → Option (Int × zS)
  | 0, _, _, _, _, _, _, _, _, _, _, _, _ => none
  | n + 1, v1, v3, v4, v5, v6, v7, v8, v10, v12, v14, v15, w => zX7_leastMakers_h267 F (zX7_leastMakers_l267 F k322 n) k322 v1 v3 v4 v5 v6 v7 v8 v10 v12 v14 v15 w
def zX7_leastMakers_h352 (F : Nat) (r : Int → Int → Int → Int → Int → Int → Int64 → Int64 → Int → Int → zS → Option (Int × zS)) (k385 : Int → Int → Int → Int → Int → Int → Int64 → Int64 → Int → zS → Option (Int × zS)) (v1 : Int) (v3 : Int) (v4 : Int) (v5 : Int) (v6 : Int) (v7 : Int) (v8 : Int64) (v10 : Int64) (v12 : Int) (v15 : Int) (w : zS) : Option (Int × zS) :=
  zLt v4 v15
  (k385 v1 v3 v4 v5 v6 v7 v8 v10 v12 w)
  (zLd 80 (zA w 12) v15 fun t377 =>
    zSt 19 48000 (((8 : Int) * v6) + v15) t377 w fun w378 =>
    r v1 v3 v4 v5 v6 v7 v8 v10 v12 (v15 + (1 : Int)) w378)
def zX7_leastMakers_l352 (F : Nat) (k385 : Int → Int → Int → Int → Int → Int → Int64 → Int64 → Int → zS → Option (Int × zS)) : Nat → Int → Int → Int → Int → Int → Int → Int64 → Int64 → Int → Int → zS → Option (Int × zS)
  | 0, _, _, _, _, _, _, _, _, _, _, _ => none
  | n + 1, v1, v3, v4, v5, v6, v7, v8, v10, v12, v15, w => zX7_leastMakers_h352 F (zX7_leastMakers_l352 F k385 n) k385 v1 v3 v4 v5 v6 v7 v8 v10 v12 v15 w
def zX7_leastMakers_b259 (F : Nat) (r : Int → Int → Int → Int → Int → Int → Int64 → Int64 → Int → zS → Option (Int × zS)) (k394 : Int → Int → Int → Int → Int → Int → zS → Option (Int × zS)) (v1 : Int) (v3 : Int) (v4 : Int) (v6 : Int) (v7 : Int) (v8 : Int64) (v10 : Int64) (v12 : Int) (s0 : Int) (w : zS) : Option (Int × zS) :=
  zX7_leastMakers_l267 F (fun (v1 : Int) (v3 : Int) (v4 : Int) (v5 : Int) (v6 : Int) (v7 : Int) (v8 : Int64) (v10 : Int64) (v12 : Int) (v14 : Int) (w : zS) =>
    zEq v14 (0 : Int)
    (zSJ 17 6000 v6 (zJ w 15) w fun w337 =>
      zSJ 18 6000 v6 (zJ w 16) w337 fun w348 =>
      zX7_leastMakers_l352 F (fun (v1 : Int) (v3 : Int) (v4 : Int) (v5 : Int) (v6 : Int) (v7 : Int) (v8 : Int64) (v10 : Int64) (v12 : Int) (w : zS) =>
        zX7_leastMakers_b388 F r k394 v1 v3 v4 v5 (v6 + (1 : Int)) v7 v8 v10 v12 w) F v1 v3 v4 v5 v6 v7 v8 v10 v12 (0 : Int) w348)
    (zX7_leastMakers_b388 F r k394 v1 v3 v4 v5 v6 v7 v8 v10 v12 w)) F v1 v3 v4 s0 v6 v7 v8 v10 v12 (0 : Int) v3 w
def zX7_leastMakers_b162 (F : Nat) (r : Int → Int → Int → Int → Int → Int → Int64 → Int64 → Int → zS → Option (Int × zS)) (k394 : Int → Int → Int → Int → Int → Int → zS → Option (Int × zS)) (v1 : Int) (v3 : Int) (v4 : Int) (v5 : Int) (v6 : Int) (v7 : Int) (v8 : Int64) (v10 : Int64) (v12 : Int) (s0 : Int) (w : zS) : Option (Int × zS) :=
  zEq s0 (0 : Int)
  (zX7_leastMakers_l172 F (fun (v1 : Int) (v3 : Int) (v4 : Int) (v6 : Int) (v7 : Int) (v8 : Int64) (v10 : Int64) (v12 : Int) (w : zS) =>
      zSt 12 80 v4 v12 w fun w213 =>
      zC0 (zX7_makes F v1 (v4 + (1 : Int)) w213) fun q220 =>
      zLd 8 (zA q220 1) v1 fun t250 =>
      zEq (zI q220 14) t250
      (zX7_leastMakers_b259 F r k394 v1 v3 v4 v6 v7 (v8 ||| (zJ q220 15)) (v10 ||| (zJ q220 16)) v12 (1 : Int) q220)
      (zX7_leastMakers_b259 F r k394 v1 v3 v4 v6 v7 (v8 ||| (zJ q220 15)) (v10 ||| (zJ q220 16)) v12 (0 : Int) q220)) F v1 v3 v4 v6 v7 v8 v10 v12 (0 : Int) w)
  (zX7_leastMakers_b388 F r k394 v1 v3 v4 v5 v6 v7 v8 v10 v12 w)
def zX7_leastMakers_h99 (F : Nat) (r : Int → Int → Int → Int → Int → Int → Int64 → Int64 → Int → zS → Option (Int × zS)) (k394 : Int → Int → Int → Int → Int → Int → zS → Option (Int × zS)) (v1 : Int) (v3 : Int) (v4 : Int) (v5 : Int) (v6 : Int) (v7 : Int) (v8 : Int64) (v10 : Int64) (v12 : Int) (w : zS) : Option (Int × zS) :=
  zLd 8 (zA w 1) v1 fun t106 =>
  zLe t106 v12
  (k394 v1 v3 v4 v5 v6 v7 w)
  (zEq v5 (0 : Int)
    (zLe (64 : Int) v12
      (if (lg_cmp ((v10 >>> ((Int32.ofInt (v12 - (64 : Int))).toInt64 &&& (63 : Int64))) &&& (1 : Int64)) (1 : Int64)) = 0 then
        (zX7_leastMakers_b162 F r k394 v1 v3 v4 v5 v6 v7 v8 v10 v12 (1 : Int) w)
else
        (zX7_leastMakers_b162 F r k394 v1 v3 v4 v5 v6 v7 v8 v10 v12 (0 : Int) w))
      (if (lg_cmp ((v8 >>> ((Int32.ofInt v12).toInt64 &&& (63 : Int64))) &&& (1 : Int64)) (1 : Int64)) = 0 then
        (zX7_leastMakers_b162 F r k394 v1 v3 v4 v5 v6 v7 v8 v10 v12 (1 : Int) w)
else
        (zX7_leastMakers_b162 F r k394 v1 v3 v4 v5 v6 v7 v8 v10 v12 (0 : Int) w)))
    (k394 v1 v3 v4 v5 v6 v7 w))
def zX7_leastMakers_l99 (F : Nat) (k394 : Int → Int → Int → Int → Int → Int → zS → Option (Int × zS)) : Nat → Int → Int → Int → Int → Int → Int → Int64 → Int64 → Int → zS → Option (Int × zS)
  | 0, _, _, _, _, _, _, _, _, _, _ => none
  | n + 1, v1, v3, v4, v5, v6, v7, v8, v10, v12, w => zX7_leastMakers_h99 F (zX7_leastMakers_l99 F k394 n) k394 v1 v3 v4 v5 v6 v7 v8 v10 v12 w
def zX7_leastMakers_b394 (F : Nat) (r : Int → Int → Int → Int → Int → Int → zS → Option (Int × zS)) (k400 : Int → Int → Int → Int → Int → zS → Option (Int × zS)) (v1 : Int) (v3 : Int) (v4 : Int) (v5 : Int) (v6 : Int) (v7 : Int) (w : zS) : Option (Int × zS) :=
  r v1 v3 v4 v5 v6 (v7 + (1 : Int)) w
def zX7_leastMakers_h67 (F : Nat) (r : Int → Int → Int → Int → Int → Int → zS → Option (Int × zS)) (k400 : Int → Int → Int → Int → Int → zS → Option (Int × zS)) (v1 : Int) (v3 : Int) (v4 : Int) (v5 : Int) (v6 : Int) (v7 : Int) (w : zS) : Option (Int × zS) :=
  zLe v3 v7
  (k400 v1 v3 v4 v5 v6 w)
  (zEq v5 (0 : Int)
    (zLJ 6000 (zB w 17) v7 fun t84 =>
      zLJ 6000 (zB w 18) v7 fun t93 =>
      zX7_leastMakers_l99 F (fun (v1 : Int) (v3 : Int) (v4 : Int) (v5 : Int) (v6 : Int) (v7 : Int) (w : zS) =>
        zX7_leastMakers_b394 F r k400 v1 v3 v4 v5 v6 v7 w) F v1 v3 v4 v5 v6 v7 t84 t93 (0 : Int) w)
    (k400 v1 v3 v4 v5 v6 w))
def zX7_leastMakers_l67 (F : Nat) (k400 : Int → Int → Int → Int → Int → zS → Option (Int × zS)) : Nat → Int → Int → Int → Int → Int → Int → zS → Option (Int × zS)
  | 0, _, _, _, _, _, _, _ => none
  | n + 1, v1, v3, v4, v5, v6, v7, w => zX7_leastMakers_h67 F (zX7_leastMakers_l67 F k400 n) k400 v1 v3 v4 v5 v6 v7 w
def zX7_leastMakers_h445 (F : Nat) (r : Int → Int → Int → Int → Int → Int → Int → zS → Option (Int × zS)) (k486 : Int → Int → Int → Int → Int → Int → zS → Option (Int × zS)) (v1 : Int) (v3 : Int) (v4 : Int) (v5 : Int) (v6 : Int) (v7 : Int) (v8 : Int) (w : zS) : Option (Int × zS) :=
  zLe (8 : Int) v8
  (k486 v1 v3 v4 v5 v6 v7 w)
  (zLd 48000 (zA w 19) (((8 : Int) * v7) + v8) fun t478 =>
    zSt 19 48000 (((8 : Int) * (v7 - v3)) + v8) t478 w fun w479 =>
    r v1 v3 v4 v5 v6 v7 (v8 + (1 : Int)) w479)
def zX7_leastMakers_l445 (F : Nat) (k486 : Int → Int → Int → Int → Int → Int → zS → Option (Int × zS)) : Nat → Int → Int → Int → Int → Int → Int → Int → zS → Option (Int × zS)
  | 0, _, _, _, _, _, _, _, _ => none
  | n + 1, v1, v3, v4, v5, v6, v7, v8, w => zX7_leastMakers_h445 F (zX7_leastMakers_l445 F k486 n) k486 v1 v3 v4 v5 v6 v7 v8 w
def zX7_leastMakers_h403 (F : Nat) (r : Int → Int → Int → Int → Int → Int → zS → Option (Int × zS)) (k492 : Int → Int → Int → Int → Int → zS → Option (Int × zS)) (v1 : Int) (v3 : Int) (v4 : Int) (v5 : Int) (v6 : Int) (v7 : Int) (w : zS) : Option (Int × zS) :=
  zLe v6 v7
  (k492 v1 v3 v4 v5 v6 w)
  (zLJ 6000 (zB w 17) v7 fun t424 =>
    zSJ 17 6000 (v7 - v3) t424 w fun w425 =>
    zLJ 6000 (zB w 18) v7 fun t440 =>
    zSJ 18 6000 (v7 - v3) t440 w425 fun w441 =>
    zX7_leastMakers_l445 F (fun (v1 : Int) (v3 : Int) (v4 : Int) (v5 : Int) (v6 : Int) (v7 : Int) (w : zS) =>
      r v1 v3 v4 v5 v6 (v7 + (1 : Int)) w) F v1 v3 v4 v5 v6 v7 (0 : Int) w441)
def zX7_leastMakers_l403 (F : Nat) (k492 : Int → Int → Int → Int → Int → zS → Option (Int × zS)) : Nat → Int → Int → Int → Int → Int → Int → zS → Option (Int × zS)
  | 0, _, _, _, _, _, _, _ => none
  | n + 1, v1, v3, v4, v5, v6, v7, w => zX7_leastMakers_h403 F (zX7_leastMakers_l403 F k492 n) k492 v1 v3 v4 v5 v6 v7 w
def zX7_leastMakers_b400 (F : Nat) (r : Int → Int → Int → Int → Int → zS → Option (Int × zS)) (k505 : Int → Int → zS → Option (Int × zS)) (v1 : Int) (v3 : Int) (v4 : Int) (v5 : Int) (v6 : Int) (w : zS) : Option (Int × zS) :=
  zX7_leastMakers_l403 F (fun (v1 : Int) (v3 : Int) (v4 : Int) (v5 : Int) (v6 : Int) (w : zS) =>
    r v1 (0 : Int) (v6 - v3) (v4 + (1 : Int)) v5 w) F v1 v3 v4 v5 v6 v3 w
def zX7_leastMakers_h56 (F : Nat) (r : Int → Int → Int → Int → Int → zS → Option (Int × zS)) (k505 : Int → Int → zS → Option (Int × zS)) (v1 : Int) (v2 : Int) (v3 : Int) (v4 : Int) (v5 : Int) (w : zS) : Option (Int × zS) :=
  zEq v5 (0 : Int)
  (zX7_leastMakers_l67 F (fun (v1 : Int) (v3 : Int) (v4 : Int) (v5 : Int) (v6 : Int) (w : zS) =>
      zX7_leastMakers_b400 F r k505 v1 v3 v4 v5 v6 w) F v1 v3 v4 v5 v3 v2 w)
  (k505 v1 v4 w)
def zX7_leastMakers_l56 (F : Nat) (k505 : Int → Int → zS → Option (Int × zS)) : Nat → Int → Int → Int → Int → Int → zS → Option (Int × zS)
  | 0, _, _, _, _, _, _ => none
  | n + 1, v1, v2, v3, v4, v5, w => zX7_leastMakers_h56 F (zX7_leastMakers_l56 F k505 n) k505 v1 v2 v3 v4 v5 w
def zX7_leastMakers_b54 (F : Nat) (v1 : Int) (v2 : Int) (v3 : Int) (v4 : Int) (s0 : Int) (w : zS) : Option (Int × zS) :=
  zX7_leastMakers_l56 F (fun (v1 : Int) (v4 : Int) (w : zS) =>
    zSt 3 8 v1 v4 w fun w512 =>
    some (v4, w512)) F v1 v2 v3 v4 s0 w
def zX7_leastMakers (F : Nat) (v1 : Int) (w : zS) : Option (Int × zS) :=
  zLd 8 (zA w 3) v1 fun t5 =>
  zEq t5 (-4 : Int)
  (zSJ 17 6000 (0 : Int) (1 : Int64) w fun w28 =>
    zSJ 18 6000 (0 : Int) (0 : Int64) w28 fun w35 =>
    zLd 8 (zA w 1) v1 fun t44 =>
    zEq t44 (1 : Int)
    (zX7_leastMakers_b54 F v1 (0 : Int) (1 : Int) (0 : Int) (1 : Int) w35)
    (zX7_leastMakers_b54 F v1 (0 : Int) (1 : Int) (0 : Int) (0 : Int) w35))
  (zLd 8 (zA w 3) v1 fun t16 =>
    some (t16, w))
def zX7_leastRow_h28 (F : Nat) (r : Int → Int → Int → Int → Int → zS → Option zS) (k54 : Int → Int → Int → Int → zS → Option zS) (v1 : Int) (v2 : Int) (v3 : Int) (v4 : Int) (v5 : Int) (w : zS) : Option zS :=
  zLe v3 v5
  (k54 v1 v2 v3 v4 w)
  (zLd 8 (zA w 20) v5 fun t46 =>
    zSt 12 80 v5 t46 w fun w47 =>
    r v1 v2 v3 v4 (v5 + (1 : Int)) w47)
def zX7_leastRow_l28 (F : Nat) (k54 : Int → Int → Int → Int → zS → Option zS) : Nat → Int → Int → Int → Int → Int → zS → Option zS
  | 0, _, _, _, _, _, _ => none
  | n + 1, v1, v2, v3, v4, v5, w => zX7_leastRow_h28 F (zX7_leastRow_l28 F k54 n) k54 v1 v2 v3 v4 v5 w
def zX7_leastRow_h68 (F : Nat) (r : Int → Int → Int → Int → Int → zS → Option zS) (k94 : Int → Int → Int → Int → Int → zS → Option zS) (v1 : Int) (v2 : Int) (v3 : Int) (v4 : Int) (v5 : Int) (w : zS) : Option zS :=
  zLd 8 (zA w 1) v1 fun t75 =>
  zLe t75 v5
  (k94 v1 v2 v3 v4 v5 w)
  (zC1 (zX7_isMade F v5 w) fun q82_1 q82_2 =>
    zEq q82_1 (0 : Int)
    (k94 v1 v2 v3 v4 v5 q82_2)
    (r v1 v2 v3 v4 (v5 + (1 : Int)) q82_2))
def zX7_leastRow_l68 (F : Nat) (k94 : Int → Int → Int → Int → Int → zS → Option zS) : Nat → Int → Int → Int → Int → Int → zS → Option zS
  | 0, _, _, _, _, _, _ => none
  | n + 1, v1, v2, v3, v4, v5, w => zX7_leastRow_h68 F (zX7_leastRow_l68 F k94 n) k94 v1 v2 v3 v4 v5 w
def zX7_leastRow_b221 (F : Nat) (r : Int → Int → Int → Int → zS → Option zS) (v1 : Int) (v2 : Int) (v3 : Int) (v4 : Int) (w : zS) : Option zS :=
  r v1 v2 v3 v4 w
def zX7_leastRow_b206 (F : Nat) (r : Int → Int → Int → Int → zS → Option zS) (v1 : Int) (v2 : Int) (v3 : Int) (v4 : Int) (w : zS) : Option zS :=
  zEq v4 (0 : Int)
  (zLd 8 (zA w 20) v3 fun t217 =>
    zSt 20 8 v3 (t217 + (1 : Int)) w fun w220 =>
    zX7_leastRow_b221 F r v1 v2 v3 v4 w220)
  (zX7_leastRow_b221 F r v1 v2 v3 v4 w)
def zX7_leastRow_b172 (F : Nat) (r : Int → Int → Int → Int → zS → Option zS) (v1 : Int) (v2 : Int) (v3 : Int) (v4 : Int) (w : zS) : Option zS :=
  zEq v4 (0 : Int)
  (zLe v2 (v3 + (1 : Int))
    (zX7_leastRow_b206 F r v1 v2 v3 v4 w)
    (zLd 8 (zA w 20) ((v3 + (1 : Int)) - (1 : Int)) fun t199 =>
      zSt 20 8 (v3 + (1 : Int)) (t199 + (1 : Int)) w fun w202 =>
      zX7_leastRow_b221 F r v1 v2 (v3 + (1 : Int)) v4 w202))
  (zX7_leastRow_b206 F r v1 v2 v3 v4 w)
def zX7_leastRow_b170 (F : Nat) (r : Int → Int → Int → Int → zS → Option zS) (v1 : Int) (v2 : Int) (v3 : Int) (s0 : Int) (w : zS) : Option zS :=
  zX7_leastRow_b172 F r v1 v2 v3 s0 w
def zX7_leastRow_b94 (F : Nat) (r : Int → Int → Int → Int → zS → Option zS) (v1 : Int) (v2 : Int) (v3 : Int) (v4 : Int) (v5 : Int) (w : zS) : Option zS :=
  zLd 8 (zA w 1) v1 fun t101 =>
  zEq v5 t101
  (zLd 8 (zA w 20) (v3 + (-1 : Int)) fun t114 =>
    zSt 20 8 (v3 + (-1 : Int)) (t114 + (1 : Int)) w fun w117 =>
    zX7_leastRow_b221 F r v1 v2 (v3 + (-1 : Int)) v4 w117)
  (zSt 20 8 v3 v5 w fun w128 =>
    zSt 12 80 v3 v5 w128 fun w136 =>
    zC0 (zX7_makes F v1 (v3 + (1 : Int)) w136) fun q142 =>
    zLd 8 (zA q142 1) v1 fun t154 =>
    zEq (zI q142 14) t154
    (zEq (v3 + (1 : Int)) v2
      (zX7_leastRow_b170 F r v1 v2 v3 (1 : Int) q142)
      (zX7_leastRow_b170 F r v1 v2 v3 (0 : Int) q142))
    (zX7_leastRow_b172 F r v1 v2 v3 v4 q142))
def zX7_leastRow_h20 (F : Nat) (r : Int → Int → Int → Int → zS → Option zS) (v1 : Int) (v2 : Int) (v3 : Int) (v4 : Int) (w : zS) : Option zS :=
  zEq v4 (0 : Int)
  (zX7_leastRow_l28 F (fun (v1 : Int) (v2 : Int) (v3 : Int) (v4 : Int) (w : zS) =>
      zC0 (zX7_makes F v1 v3 w) fun q57 =>
      zLd 8 (zA q57 20) v3 fun t65 =>
      zX7_leastRow_l68 F (fun (v1 : Int) (v2 : Int) (v3 : Int) (v4 : Int) (v5 : Int) (w : zS) =>
        zX7_leastRow_b94 F r v1 v2 v3 v4 v5 w) F v1 v2 v3 v4 t65 q57) F v1 v2 v3 v4 (0 : Int) w)
  (some w)
def zX7_leastRow_l20 (F : Nat)  : Nat → Int → Int → Int → Int → zS → Option zS
  | 0, _, _, _, _, _ => none
  | n + 1, v1, v2, v3, v4, w => zX7_leastRow_h20 F (zX7_leastRow_l20 F  n)  v1 v2 v3 v4 w
def zX7_leastRow_b18 (F : Nat) (v1 : Int) (v2 : Int) (v3 : Int) (s0 : Int) (w : zS) : Option zS :=
  zX7_leastRow_l20 F F v1 v2 v3 s0 w
def zX7_leastRow (F : Nat) (v1 : Int) (v2 : Int) (w : zS) : Option zS :=
  zSt 20 8 (0 : Int) (0 : Int) w fun w8 =>
  zEq v2 (0 : Int)
  (zX7_leastRow_b18 F v1 v2 (0 : Int) (1 : Int) w8)
  (zX7_leastRow_b18 F v1 v2 (0 : Int) (0 : Int) w8)
def zX7_leastTurned_b50 (F : Nat) (r : Int → Int → Int → Int → zS → Option (Int × zS)) (v1 : Int) (v2 : Int) (v4 : Int) (s0 : Int) (w : zS) : Option (Int × zS) :=
  r v1 v2 s0 (v4 + (1 : Int)) w
def zX7_leastTurned_h5 (F : Nat) (r : Int → Int → Int → Int → zS → Option (Int × zS)) (v1 : Int) (v2 : Int) (v3 : Int) (v4 : Int) (w : zS) : Option (Int × zS) :=
  zLd 8 (zA w 1) v1 fun t12 =>
  zLe t12 v4
  (some (v3, w))
  (zC1 (zX7_prod F v1 v4 v2 w) fun q23_1 q23_2 =>
    zC1 (zX7_inverse F v1 v4 q23_2) fun q30_1 q30_2 =>
    zC1 (zX7_prod F v1 q23_1 q30_1 q30_2) fun q33_1 q33_2 =>
    zLe v3 q33_1
    (zX7_leastTurned_b50 F r v1 v2 v4 v3 q33_2)
    (zX7_leastTurned_b50 F r v1 v2 v4 q33_1 q33_2))
def zX7_leastTurned_l5 (F : Nat)  : Nat → Int → Int → Int → Int → zS → Option (Int × zS)
  | 0, _, _, _, _, _ => none
  | n + 1, v1, v2, v3, v4, w => zX7_leastTurned_h5 F (zX7_leastTurned_l5 F  n)  v1 v2 v3 v4 w
def zX7_leastTurned (F : Nat) (v1 : Int) (v2 : Int) (w : zS) : Option (Int × zS) :=
  zX7_leastTurned_l5 F F v1 v2 v2 (0 : Int) w
def zX7_module_b137 (F : Nat) (r : Int → Int → Int → zS → Option (Int × zS)) (k144 : Int → zS → Option (Int × zS)) (v3 : Int) (v4 : Int) (v5 : Int) (s1 : Int) (s2 : Int) (w : zS) : Option (Int × zS) :=
  zSt 11 192 s1 s2 w fun w137 =>
  r v3 v4 (v5 + (1 : Int)) w137
def zX7_module_b132 (F : Nat) (r : Int → Int → Int → zS → Option (Int × zS)) (k144 : Int → zS → Option (Int × zS)) (v3 : Int) (v4 : Int) (v5 : Int) (s1 : Int) (w : zS) : Option (Int × zS) :=
  zX7_module_b137 F r k144 v3 v4 v5 s1 (1 : Int) w
def zX7_module_b136 (F : Nat) (r : Int → Int → Int → zS → Option (Int × zS)) (k144 : Int → zS → Option (Int × zS)) (v3 : Int) (v4 : Int) (v5 : Int) (s1 : Int) (w : zS) : Option (Int × zS) :=
  zX7_module_b137 F r k144 v3 v4 v5 s1 (0 : Int) w
def zX7_module_h93 (F : Nat) (r : Int → Int → Int → zS → Option (Int × zS)) (k144 : Int → zS → Option (Int × zS)) (v3 : Int) (v4 : Int) (v5 : Int) (w : zS) : Option (Int × zS) :=
  zLe (32 : Int) v5
  (k144 v4 w)
  (zRem v5 (4 : Int) fun t115 =>
    zEq t115 (0 : Int)
    (zX7_module_b132 F r k144 v3 v4 v5 (((32 : Int) * v4) + v5) w)
    (zRem v5 (4 : Int) fun t122 =>
      zEq t122 (3 : Int)
      (zEq v3 (2 : Int)
        (zX7_module_b132 F r k144 v3 v4 v5 (((32 : Int) * v4) + v5) w)
        (zX7_module_b136 F r k144 v3 v4 v5 (((32 : Int) * v4) + v5) w))
      (zX7_module_b136 F r k144 v3 v4 v5 (((32 : Int) * v4) + v5) w)))
def zX7_module_l93 (F : Nat) (k144 : Int → zS → Option (Int × zS)) : Nat → Int → Int → Int → zS → Option (Int × zS)
  | 0, _, _, _, _ => none
  | n + 1, v3, v4, v5, w => zX7_module_h93 F (zX7_module_l93 F k144 n) k144 v3 v4 v5 w
def zX7_module_b34 (F : Nat) (v1 : Int) (v2 : Int) (v3 : Int) (w : zS) : Option (Int × zS) :=
  zC1 (zX7_in F (Int32.ofInt v3).toInt64 (1 : Int64) (2 : Int64) w) fun q40_1 q40_2 =>
  zEq q40_1 (0 : Int)
  (some ((-1 : Int), q40_2))
  (zEq (zI q40_2 7) (6 : Int)
    (some ((-3 : Int), q40_2))
    (zSt 8 6 (zI q40_2 7) v1 q40_2 fun w73 =>
      zSt 9 6 (zI q40_2 7) v2 w73 fun w81 =>
      zSt 10 6 (zI q40_2 7) v3 w81 fun w89 =>
      zX7_module_l93 F (fun (v4 : Int) (w : zS) =>
        zPI 29 (-4 : Int) w fun w147 =>
        zPI 7 ((zI w 7) + (1 : Int)) w147 fun w157 =>
        some (v4, w157)) F v3 (zI q40_2 7) (0 : Int) w89))
def zX7_module (F : Nat) (v1 : Int) (v2 : Int) (v3 : Int) (w : zS) : Option (Int × zS) :=
  zC1 (zX7_isGroup F v1 w) fun q2_1 q2_2 =>
  zEq q2_1 (0 : Int)
  (some ((-1 : Int), q2_2))
  (zLd 8 (zA q2_2 1) v1 fun t13 =>
    zLt (8 : Int) t13
    (some ((-1 : Int), q2_2))
    (zEq v2 (2 : Int)
      (zX7_module_b34 F v1 v2 v3 q2_2)
      (zEq v2 (3 : Int)
        (zX7_module_b34 F v1 v2 v3 q2_2)
        (zEq v2 (5 : Int)
          (zX7_module_b34 F v1 v2 v3 q2_2)
          (some ((-1 : Int), q2_2))))))
def zX7_nextLike_h17 (F : Nat) (r : Int → Int → Int → zS → Option (Int × zS)) (v2 : Int) (v5 : Int) (v6 : Int) (w : zS) : Option (Int × zS) :=
  zLd 8 (zA w 1) v2 fun t24 =>
  zLe t24 v5
  (some (v5, w))
  (zC1 (zX7_orderOf F v2 v5 w) fun q32_1 q32_2 =>
    zEq q32_1 v6
    (some (v5, q32_2))
    (r v2 (v5 + (1 : Int)) v6 q32_2))
def zX7_nextLike_l17 (F : Nat)  : Nat → Int → Int → Int → zS → Option (Int × zS)
  | 0, _, _, _, _ => none
  | n + 1, v2, v5, v6, w => zX7_nextLike_h17 F (zX7_nextLike_l17 F  n)  v2 v5 v6 w
def zX7_nextLike (F : Nat) (v1 : Int) (v2 : Int) (v3 : Int) (v4 : Int) (w : zS) : Option (Int × zS) :=
  zLd 8 (zA w 20) v3 fun t11 =>
  zC1 (zX7_orderOf F v1 t11 w) fun q12_1 q12_2 =>
  zX7_nextLike_l17 F F v2 v4 q12_1 q12_2
def zX7_ofOrder_b33 (F : Nat) (r : Int → Int → Int → Int → zS → Option (Int × zS)) (v1 : Int) (v2 : Int) (v4 : Int) (s0 : Int) (s1 : Int) (w : zS) : Option (Int × zS) :=
  r v1 v2 (s0 + s1) (v4 + (1 : Int)) w
def zX7_ofOrder_h5 (F : Nat) (r : Int → Int → Int → Int → zS → Option (Int × zS)) (v1 : Int) (v2 : Int) (v3 : Int) (v4 : Int) (w : zS) : Option (Int × zS) :=
  zLd 8 (zA w 1) v1 fun t12 =>
  zLe t12 v4
  (some (v3, w))
  (zC1 (zX7_orderOf F v1 v4 w) fun q21_1 q21_2 =>
    zEq q21_1 v2
    (zX7_ofOrder_b33 F r v1 v2 v4 v3 (1 : Int) q21_2)
    (zX7_ofOrder_b33 F r v1 v2 v4 v3 (0 : Int) q21_2))
def zX7_ofOrder_l5 (F : Nat)  : Nat → Int → Int → Int → Int → zS → Option (Int × zS)
  | 0, _, _, _, _, _ => none
  | n + 1, v1, v2, v3, v4, w => zX7_ofOrder_h5 F (zX7_ofOrder_l5 F  n)  v1 v2 v3 v4 w
def zX7_ofOrder (F : Nat) (v1 : Int) (v2 : Int) (w : zS) : Option (Int × zS) :=
  zX7_ofOrder_l5 F F v1 v2 (0 : Int) (0 : Int) w
def zX7_order (F : Nat) (v1 : Int) (w : zS) : Option (Int × zS) :=
  zC1 (zX7_isGroup F v1 w) fun q2_1 q2_2 =>
  zEq q2_1 (0 : Int)
  (some ((-1 : Int), q2_2))
  (zLd 8 (zA q2_2 1) v1 fun t13 =>
    some (t13, q2_2))
def zX7_pair_h69 (F : Nat) (r : Int → Int → Int → Int → Int → Int → zS → Option (Int × zS)) (k126 : Int → Int → Int → Int → Int → zS → Option (Int × zS)) (v1 : Int) (v2 : Int) (v3 : Int) (v4 : Int) (v5 : Int) (v6 : Int) (w : zS) : Option (Int × zS) :=
  zLe (v3 * v4) v6
  (k126 v1 v2 v3 v4 v5 w)
  (zDiv v5 v4 fun t91 =>
    zDiv v6 v4 fun t96 =>
    zC1 (zX7_prod F v1 t91 t96 w) fun q97_1 q97_2 =>
    zRem v5 v4 fun t107 =>
    zRem v6 v4 fun t112 =>
    zC1 (zX7_prod F v2 t107 t112 q97_2) fun q113_1 q113_2 =>
    zC0 (zX7_set F v5 v6 ((v4 * q97_1) + q113_1) q113_2) fun q117 =>
    r v1 v2 v3 v4 v5 (v6 + (1 : Int)) q117)
def zX7_pair_l69 (F : Nat) (k126 : Int → Int → Int → Int → Int → zS → Option (Int × zS)) : Nat → Int → Int → Int → Int → Int → Int → zS → Option (Int × zS)
  | 0, _, _, _, _, _, _, _ => none
  | n + 1, v1, v2, v3, v4, v5, v6, w => zX7_pair_h69 F (zX7_pair_l69 F k126 n) k126 v1 v2 v3 v4 v5 v6 w
def zX7_pair_h57 (F : Nat) (r : Int → Int → Int → Int → Int → zS → Option (Int × zS)) (k132 : Int → Int → zS → Option (Int × zS)) (v1 : Int) (v2 : Int) (v3 : Int) (v4 : Int) (v5 : Int) (w : zS) : Option (Int × zS) :=
  zLe (v3 * v4) v5
  (k132 v3 v4 w)
  (zX7_pair_l69 F (fun (v1 : Int) (v2 : Int) (v3 : Int) (v4 : Int) (v5 : Int) (w : zS) =>
      r v1 v2 v3 v4 (v5 + (1 : Int)) w) F v1 v2 v3 v4 v5 (0 : Int) w)
def zX7_pair_l57 (F : Nat) (k132 : Int → Int → zS → Option (Int × zS)) : Nat → Int → Int → Int → Int → Int → zS → Option (Int × zS)
  | 0, _, _, _, _, _, _ => none
  | n + 1, v1, v2, v3, v4, v5, w => zX7_pair_h57 F (zX7_pair_l57 F k132 n) k132 v1 v2 v3 v4 v5 w
def zX7_pair (F : Nat) (v1 : Int) (v2 : Int) (w : zS) : Option (Int × zS) :=
  zC1 (zX7_isGroup F v1 w) fun q2_1 q2_2 =>
  zEq q2_1 (0 : Int)
  (some ((-1 : Int), q2_2))
  (zC1 (zX7_isGroup F v2 q2_2) fun q10_1 q10_2 =>
    zEq q10_1 (0 : Int)
    (some ((-1 : Int), q10_2))
    (zLd 8 (zA q10_2 1) v1 fun t23 =>
      zLd 8 (zA q10_2 1) v2 fun t30 =>
      zEq (zI q10_2 0) (8 : Int)
      (some ((-3 : Int), q10_2))
      (zLe (t23 * t30) (48 : Int)
        (zX7_pair_l57 F (fun (v3 : Int) (v4 : Int) (w : zS) =>
            zC1 (zX7_added F (v3 * v4) w) fun q137_1 q137_2 =>
            some (q137_1, q137_2)) F v1 v2 t23 t30 (0 : Int) q10_2)
        (some ((-3 : Int), q10_2)))))
def zX7_pairs_h60 (F : Nat) (r : Int → Int → Int → Int → zS → Option zS) (k88 : Int → Int → Int → zS → Option zS) (v1 : Int) (v2 : Int) (v3 : Int) (v4 : Int) (w : zS) : Option zS :=
  zLe (zI w 37) v4
  (k88 v1 v2 v3 w)
  (zC0 (zX7_equation F v1 v2 v3 v4 w) fun q75 =>
    zC0 (zX7_settles F q75) fun q79 =>
    r v1 v2 v3 (v4 + (1 : Int)) q79)
def zX7_pairs_l60 (F : Nat) (k88 : Int → Int → Int → zS → Option zS) : Nat → Int → Int → Int → Int → zS → Option zS
  | 0, _, _, _, _, _ => none
  | n + 1, v1, v2, v3, v4, w => zX7_pairs_h60 F (zX7_pairs_l60 F k88 n) k88 v1 v2 v3 v4 w
def zX7_pairs_h49 (F : Nat) (r : Int → Int → Int → zS → Option zS) (k94 : Int → Int → zS → Option zS) (v1 : Int) (v2 : Int) (v3 : Int) (w : zS) : Option zS :=
  zLe (zI w 36) v3
  (k94 v1 v2 w)
  (zX7_pairs_l60 F (fun (v1 : Int) (v2 : Int) (v3 : Int) (w : zS) =>
      r v1 v2 (v3 + (1 : Int)) w) F v1 v2 v3 (0 : Int) w)
def zX7_pairs_l49 (F : Nat) (k94 : Int → Int → zS → Option zS) : Nat → Int → Int → Int → zS → Option zS
  | 0, _, _, _, _ => none
  | n + 1, v1, v2, v3, w => zX7_pairs_h49 F (zX7_pairs_l49 F k94 n) k94 v1 v2 v3 w
def zX7_pairs_h39 (F : Nat) (r : Int → Int → zS → Option zS) (k100 : Int → zS → Option zS) (v1 : Int) (v2 : Int) (w : zS) : Option zS :=
  zLe (zI w 36) v2
  (k100 v1 w)
  (zX7_pairs_l49 F (fun (v1 : Int) (v2 : Int) (w : zS) =>
      r v1 (v2 + (1 : Int)) w) F v1 v2 (1 : Int) w)
def zX7_pairs_l39 (F : Nat) (k100 : Int → zS → Option zS) : Nat → Int → Int → zS → Option zS
  | 0, _, _, _ => none
  | n + 1, v1, v2, w => zX7_pairs_h39 F (zX7_pairs_l39 F k100 n) k100 v1 v2 w
def zX7_pairs_h29 (F : Nat) (r : Int → zS → Option zS) (k106 : zS → Option zS) (v1 : Int) (w : zS) : Option zS :=
  zLe (zI w 36) v1
  (k106 w)
  (zX7_pairs_l39 F (fun (v1 : Int) (w : zS) =>
      r (v1 + (1 : Int)) w) F v1 (1 : Int) w)
def zX7_pairs_l29 (F : Nat) (k106 : zS → Option zS) : Nat → Int → zS → Option zS
  | 0, _, _ => none
  | n + 1, v1, w => zX7_pairs_h29 F (zX7_pairs_l29 F k106 n) k106 v1 w
def zX7_pairs_b178 (F : Nat) (r : Int → Int → Int → Int → zS → Option zS) (k185 : Int → Int → Int → zS → Option zS) (v1 : Int) (v2 : Int) (v3 : Int) (v4 : Int) (s1 : Int) (s2 : Int) (w : zS) : Option zS :=
  zSt 34 9604 s1 s2 w fun w178 =>
  r v1 v2 v3 (v4 + (1 : Int)) w178
def zX7_pairs_h147 (F : Nat) (r : Int → Int → Int → Int → zS → Option zS) (k185 : Int → Int → Int → zS → Option zS) (v1 : Int) (v2 : Int) (v3 : Int) (v4 : Int) (w : zS) : Option zS :=
  zLe (zI w 24) v4
  (k185 v1 v2 v3 w)
  (zEq v4 v3
    (zX7_pairs_b178 F r k185 v1 v2 v3 v4 (((98 : Int) * v1) + v4) (1 : Int) w)
    (zX7_pairs_b178 F r k185 v1 v2 v3 v4 (((98 : Int) * v1) + v4) (0 : Int) w))
def zX7_pairs_l147 (F : Nat) (k185 : Int → Int → Int → zS → Option zS) : Nat → Int → Int → Int → Int → zS → Option zS
  | 0, _, _, _, _, _ => none
  | n + 1, v1, v2, v3, v4, w => zX7_pairs_h147 F (zX7_pairs_l147 F k185 n) k185 v1 v2 v3 v4 w
def zX7_pairs_h188 (F : Nat) (r : Int → Int → Int → Int → zS → Option zS) (k242 : Int → Int → Int → zS → Option zS) (v1 : Int) (v2 : Int) (v3 : Int) (v4 : Int) (w : zS) : Option zS :=
  zLe (zI w 28) v4
  (k242 v1 v2 v3 w)
  (zLd 98 (zA w 27) v4 fun t211 =>
    zLd 9604 (zA w 26) (((98 : Int) * v4) + v3) fun t228 =>
    zRem ((zI w 23) - t228) (zI w 23) fun t234 =>
    zSt 34 9604 (((98 : Int) * v1) + t211) t234 w fun w235 =>
    r v1 v2 v3 (v4 + (1 : Int)) w235)
def zX7_pairs_l188 (F : Nat) (k242 : Int → Int → Int → zS → Option zS) : Nat → Int → Int → Int → Int → zS → Option zS
  | 0, _, _, _, _, _ => none
  | n + 1, v1, v2, v3, v4, w => zX7_pairs_h188 F (zX7_pairs_l188 F k242 n) k242 v1 v2 v3 v4 w
def zX7_pairs_b245 (F : Nat) (r : Int → Int → Int → zS → Option zS) (k251 : Int → zS → Option zS) (v1 : Int) (v2 : Int) (v3 : Int) (w : zS) : Option zS :=
  r v1 v2 (v3 + (1 : Int)) w
def zX7_pairs_b144 (F : Nat) (r : Int → Int → Int → zS → Option zS) (k251 : Int → zS → Option zS) (v1 : Int) (v2 : Int) (v3 : Int) (w : zS) : Option zS :=
  zX7_pairs_l147 F (fun (v1 : Int) (v2 : Int) (v3 : Int) (w : zS) =>
    zX7_pairs_l188 F (fun (v1 : Int) (v2 : Int) (v3 : Int) (w : zS) =>
      zX7_pairs_b245 F r k251 (v1 + (1 : Int)) v2 v3 w) F v1 v2 v3 (0 : Int) w) F v1 v2 v3 (0 : Int) w
def zX7_pairs_h112 (F : Nat) (r : Int → Int → Int → zS → Option zS) (k251 : Int → zS → Option zS) (v1 : Int) (v2 : Int) (v3 : Int) (w : zS) : Option zS :=
  zLe (zI w 24) v3
  (k251 v1 w)
  (zLe (zI w 28) v2
    (zX7_pairs_b144 F r k251 v1 v2 v3 w)
    (zLd 98 (zA w 27) v2 fun t133 =>
      zEq t133 v3
      (zX7_pairs_b245 F r k251 v1 (v2 + (1 : Int)) v3 w)
      (zX7_pairs_b144 F r k251 v1 v2 v3 w)))
def zX7_pairs_l112 (F : Nat) (k251 : Int → zS → Option zS) : Nat → Int → Int → Int → zS → Option zS
  | 0, _, _, _, _ => none
  | n + 1, v1, v2, v3, w => zX7_pairs_h112 F (zX7_pairs_l112 F k251 n) k251 v1 v2 v3 w
def zX7_pairs (F : Nat) (w : zS) : Option zS :=
  zPI 28 (0 : Int) w fun w2 =>
  zPI 24 ((((zI w 36) - (1 : Int)) * ((zI w 36) - (1 : Int))) * (zI w 37)) w2 fun w24 =>
  zX7_pairs_l29 F (fun (w : zS) =>
    zX7_pairs_l112 F (fun (v1 : Int) (w : zS) =>
      zSt 30 5 (3 : Int) v1 w fun w257 =>
      some w257) F (0 : Int) (0 : Int) (0 : Int) w) F (1 : Int) w24
def zX7_sound_b64 (F : Nat) (r : Int → Int → Int → Int → Int → zS → Option (Int × zS)) (k77 : Int → Int → Int → Int → zS → Option (Int × zS)) (v1 : Int) (v2 : Int) (v3 : Int) (v4 : Int) (v5 : Int) (s0 : Int) (s1 : Int) (w : zS) : Option (Int × zS) :=
  zEq s0 s1
  (r v1 v2 v3 v4 (v5 + (1 : Int)) w)
  (some ((1000 : Int), w))
def zX7_sound_h36 (F : Nat) (r : Int → Int → Int → Int → Int → zS → Option (Int × zS)) (k77 : Int → Int → Int → Int → zS → Option (Int × zS)) (v1 : Int) (v2 : Int) (v3 : Int) (v4 : Int) (v5 : Int) (w : zS) : Option (Int × zS) :=
  zLe v3 v5
  (k77 v1 v2 v3 v4 w)
  (zC1 (zX7_matrix F v1 (0 : Int) v4 v5 w) fun q49_1 q49_2 =>
    zEq v4 v5
    (zX7_sound_b64 F r k77 v1 v2 v3 v4 v5 q49_1 (1 : Int) q49_2)
    (zX7_sound_b64 F r k77 v1 v2 v3 v4 v5 q49_1 (0 : Int) q49_2))
def zX7_sound_l36 (F : Nat) (k77 : Int → Int → Int → Int → zS → Option (Int × zS)) : Nat → Int → Int → Int → Int → Int → zS → Option (Int × zS)
  | 0, _, _, _, _, _, _ => none
  | n + 1, v1, v2, v3, v4, v5, w => zX7_sound_h36 F (zX7_sound_l36 F k77 n) k77 v1 v2 v3 v4 v5 w
def zX7_sound_h27 (F : Nat) (r : Int → Int → Int → Int → zS → Option (Int × zS)) (k83 : Int → Int → Int → zS → Option (Int × zS)) (v1 : Int) (v2 : Int) (v3 : Int) (v4 : Int) (w : zS) : Option (Int × zS) :=
  zLe v3 v4
  (k83 v1 v2 v3 w)
  (zX7_sound_l36 F (fun (v1 : Int) (v2 : Int) (v3 : Int) (v4 : Int) (w : zS) =>
      r v1 v2 v3 (v4 + (1 : Int)) w) F v1 v2 v3 v4 (0 : Int) w)
def zX7_sound_l27 (F : Nat) (k83 : Int → Int → Int → zS → Option (Int × zS)) : Nat → Int → Int → Int → Int → zS → Option (Int × zS)
  | 0, _, _, _, _, _ => none
  | n + 1, v1, v2, v3, v4, w => zX7_sound_h27 F (zX7_sound_l27 F k83 n) k83 v1 v2 v3 v4 w
def zX7_sound_b180 (F : Nat) (r : Int → Int → Int → Int → Int → Int → Int → zS → Option (Int × zS)) (k234 : Int → Int → Int → Int → Int → Int → zS → Option (Int × zS)) (k213 : Int → Int → Int → zS → Option (Int × zS)) (v1 : Int) (v2 : Int) (v3 : Int) (v4 : Int) (v5 : Int) (v6 : Int) (v7 : Int) (s0 : Int) (s1 : Int) (w : zS) : Option (Int × zS) :=
  zLd 6 (zA w 9) v1 fun t190 =>
  zRem (s0 + s1) t190 fun t191 =>
  zC1 (zX7_prod F v2 v4 v5 w) fun q200_1 q200_2 =>
  zC1 (zX7_matrix F v1 q200_1 v6 v7 q200_2) fun q207_1 q207_2 =>
  zEq t191 q207_1
  (r v1 v2 v3 v4 v5 v6 (v7 + (1 : Int)) q207_2)
  (k213 v2 v4 v5 q207_2)
def zX7_sound_h123 (F : Nat) (r : Int → Int → Int → Int → Int → Int → Int → zS → Option (Int × zS)) (k234 : Int → Int → Int → Int → Int → Int → zS → Option (Int × zS)) (k213 : Int → Int → Int → zS → Option (Int × zS)) (v1 : Int) (v2 : Int) (v3 : Int) (v4 : Int) (v5 : Int) (v6 : Int) (v7 : Int) (w : zS) : Option (Int × zS) :=
  zLe v3 v7
  (k234 v1 v2 v3 v4 v5 v6 w)
  (zC1 (zX7_matrix F v1 v4 v6 (0 : Int) w) fun q136_1 q136_2 =>
    zC1 (zX7_matrix F v1 v5 (0 : Int) v7 q136_2) fun q146_1 q146_2 =>
    zEq v3 (2 : Int)
    (zC1 (zX7_matrix F v1 v4 v6 (1 : Int) q146_2) fun q162_1 q162_2 =>
      zC1 (zX7_matrix F v1 v5 (1 : Int) v7 q162_2) fun q172_1 q172_2 =>
      zX7_sound_b180 F r k234 k213 v1 v2 v3 v4 v5 v6 v7 (q136_1 * q146_1) (q162_1 * q172_1) q172_2)
    (zX7_sound_b180 F r k234 k213 v1 v2 v3 v4 v5 v6 v7 (q136_1 * q146_1) (0 : Int) q146_2))
def zX7_sound_l123 (F : Nat) (k234 : Int → Int → Int → Int → Int → Int → zS → Option (Int × zS)) (k213 : Int → Int → Int → zS → Option (Int × zS)) : Nat → Int → Int → Int → Int → Int → Int → Int → zS → Option (Int × zS)
  | 0, _, _, _, _, _, _, _, _ => none
  | n + 1, v1, v2, v3, v4, v5, v6, v7, w => zX7_sound_h123 F (zX7_sound_l123 F k234 k213 n) k234 k213 v1 v2 v3 v4 v5 v6 v7 w
def zX7_sound_h114 (F : Nat) (r : Int → Int → Int → Int → Int → Int → zS → Option (Int × zS)) (k240 : Int → Int → Int → Int → Int → zS → Option (Int × zS)) (k213 : Int → Int → Int → zS → Option (Int × zS)) (v1 : Int) (v2 : Int) (v3 : Int) (v4 : Int) (v5 : Int) (v6 : Int) (w : zS) : Option (Int × zS) :=
  zLe v3 v6
  (k240 v1 v2 v3 v4 v5 w)
  (zX7_sound_l123 F (fun (v1 : Int) (v2 : Int) (v3 : Int) (v4 : Int) (v5 : Int) (v6 : Int) (w : zS) =>
      r v1 v2 v3 v4 v5 (v6 + (1 : Int)) w) (fun (v2 : Int) (v4 : Int) (v5 : Int) (w : zS) =>
      k213 v2 v4 v5 w) F v1 v2 v3 v4 v5 v6 (0 : Int) w)
def zX7_sound_l114 (F : Nat) (k240 : Int → Int → Int → Int → Int → zS → Option (Int × zS)) (k213 : Int → Int → Int → zS → Option (Int × zS)) : Nat → Int → Int → Int → Int → Int → Int → zS → Option (Int × zS)
  | 0, _, _, _, _, _, _, _ => none
  | n + 1, v1, v2, v3, v4, v5, v6, w => zX7_sound_h114 F (zX7_sound_l114 F k240 k213 n) k240 k213 v1 v2 v3 v4 v5 v6 w
def zX7_sound_h100 (F : Nat) (r : Int → Int → Int → Int → Int → zS → Option (Int × zS)) (k246 : Int → Int → Int → Int → zS → Option (Int × zS)) (k213 : Int → Int → Int → zS → Option (Int × zS)) (v1 : Int) (v2 : Int) (v3 : Int) (v4 : Int) (v5 : Int) (w : zS) : Option (Int × zS) :=
  zLd 8 (zA w 1) v2 fun t107 =>
  zLe t107 v5
  (k246 v1 v2 v3 v4 w)
  (zX7_sound_l114 F (fun (v1 : Int) (v2 : Int) (v3 : Int) (v4 : Int) (v5 : Int) (w : zS) =>
      r v1 v2 v3 v4 (v5 + (1 : Int)) w) (fun (v2 : Int) (v4 : Int) (v5 : Int) (w : zS) =>
      k213 v2 v4 v5 w) F v1 v2 v3 v4 v5 (0 : Int) w)
def zX7_sound_l100 (F : Nat) (k246 : Int → Int → Int → Int → zS → Option (Int × zS)) (k213 : Int → Int → Int → zS → Option (Int × zS)) : Nat → Int → Int → Int → Int → Int → zS → Option (Int × zS)
  | 0, _, _, _, _, _, _ => none
  | n + 1, v1, v2, v3, v4, v5, w => zX7_sound_h100 F (zX7_sound_l100 F k246 k213 n) k246 k213 v1 v2 v3 v4 v5 w
def zX7_sound_h86 (F : Nat) (r : Int → Int → Int → Int → zS → Option (Int × zS)) (k213 : Int → Int → Int → zS → Option (Int × zS)) (v1 : Int) (v2 : Int) (v3 : Int) (v4 : Int) (w : zS) : Option (Int × zS) :=
  zLd 8 (zA w 1) v2 fun t93 =>
  zLe t93 v4
  (some ((0 : Int), w))
  (zX7_sound_l100 F (fun (v1 : Int) (v2 : Int) (v3 : Int) (v4 : Int) (w : zS) =>
      r v1 v2 v3 (v4 + (1 : Int)) w) (fun (v2 : Int) (v4 : Int) (v5 : Int) (w : zS) =>
      k213 v2 v4 v5 w) F v1 v2 v3 v4 (0 : Int) w)
def zX7_sound_l86 (F : Nat) (k213 : Int → Int → Int → zS → Option (Int × zS)) : Nat → Int → Int → Int → Int → zS → Option (Int × zS)
  | 0, _, _, _, _, _ => none
  | n + 1, v1, v2, v3, v4, w => zX7_sound_h86 F (zX7_sound_l86 F k213 n) k213 v1 v2 v3 v4 w
def zX7_sound (F : Nat) (v1 : Int) (w : zS) : Option (Int × zS) :=
  zC1 (zX7_isModule F v1 w) fun q2_1 q2_2 =>
  zEq q2_1 (0 : Int)
  (some ((-1 : Int), q2_2))
  (zLd 6 (zA q2_2 8) v1 fun t15 =>
    zLd 6 (zA q2_2 10) v1 fun t22 =>
    zX7_sound_l27 F (fun (v1 : Int) (v2 : Int) (v3 : Int) (w : zS) =>
      zX7_sound_l86 F (fun (v2 : Int) (v4 : Int) (v5 : Int) (w : zS) =>
        zLd 8 (zA w 1) v2 fun t219 =>
        some ((((1 : Int) + (t219 * v4)) + v5), w)) F v1 v2 v3 (0 : Int) w) F v1 t15 t22 (0 : Int) q2_2)
def zX7_turnsMade_b102 (F : Nat) (r : Int → Int → Int → Int → zS → Option (Int × zS)) (k108 : Int → Int → Int → zS → Option (Int × zS)) (v1 : Int) (v2 : Int) (v3 : Int) (v4 : Int) (w : zS) : Option (Int × zS) :=
  r v1 v2 v3 (v4 + (1 : Int)) w
def zX7_turnsMade_h32 (F : Nat) (r : Int → Int → Int → Int → zS → Option (Int × zS)) (k108 : Int → Int → Int → zS → Option (Int × zS)) (v1 : Int) (v2 : Int) (v3 : Int) (v4 : Int) (w : zS) : Option (Int × zS) :=
  zLd 8 (zA w 1) v1 fun t39 =>
  zLe t39 v4
  (k108 v1 v2 v3 w)
  (zC1 (zX7_prod F v1 v3 v4 w) fun q52_1 q52_2 =>
    zC1 (zX7_inverse F v1 v3 q52_2) fun q58_1 q58_2 =>
    zC1 (zX7_prod F v1 q52_1 q58_1 q58_2) fun q61_1 q61_2 =>
    zC1 (zX7_inverse F v1 v4 q61_2) fun q68_1 q68_2 =>
    zC1 (zX7_prod F v1 q61_1 q68_1 q68_2) fun q71_1 q71_2 =>
    zC1 (zX7_isMade F q71_1 q71_2) fun q79_1 q79_2 =>
    zEq q79_1 (0 : Int)
    (zSt 12 80 v2 q71_1 q79_2 fun w92 =>
      zC0 (zX7_makes F v1 (v2 + (1 : Int)) w92) fun q99 =>
      zX7_turnsMade_b102 F r k108 v1 (v2 + (1 : Int)) v3 v4 q99)
    (zX7_turnsMade_b102 F r k108 v1 v2 v3 v4 q79_2))
def zX7_turnsMade_l32 (F : Nat) (k108 : Int → Int → Int → zS → Option (Int × zS)) : Nat → Int → Int → Int → Int → zS → Option (Int × zS)
  | 0, _, _, _, _, _ => none
  | n + 1, v1, v2, v3, v4, w => zX7_turnsMade_h32 F (zX7_turnsMade_l32 F k108 n) k108 v1 v2 v3 v4 w
def zX7_turnsMade_h19 (F : Nat) (r : Int → Int → Int → zS → Option (Int × zS)) (k114 : zS → Option (Int × zS)) (v1 : Int) (v2 : Int) (v3 : Int) (w : zS) : Option (Int × zS) :=
  zLd 8 (zA w 1) v1 fun t25 =>
  zLe t25 v3
  (k114 w)
  (zX7_turnsMade_l32 F (fun (v1 : Int) (v2 : Int) (v3 : Int) (w : zS) =>
      r v1 v2 (v3 + (1 : Int)) w) F v1 v2 v3 (0 : Int) w)
def zX7_turnsMade_l19 (F : Nat) (k114 : zS → Option (Int × zS)) : Nat → Int → Int → Int → zS → Option (Int × zS)
  | 0, _, _, _, _ => none
  | n + 1, v1, v2, v3, w => zX7_turnsMade_h19 F (zX7_turnsMade_l19 F k114 n) k114 v1 v2 v3 w
def zX7_turnsMade (F : Nat) (v1 : Int) (w : zS) : Option (Int × zS) :=
  zPJ 15 (1 : Int64) w fun w4 =>
  zPJ 16 (0 : Int64) w4 fun w9 =>
  zPI 14 (1 : Int) w9 fun w14 =>
  zX7_turnsMade_l19 F (fun (w : zS) =>
    some ((zI w 14), w)) F v1 (0 : Int) (0 : Int) w14
def zX7_about_b87 (F : Nat) (r : Int → Int → Int → Int → Int → zS → Option (Int × zS)) (k96 : Int → Int → Int → zS → Option (Int × zS)) (v1 : Int) (v2 : Int) (v3 : Int) (v5 : Int) (s0 : Int) (s1 : Int) (w : zS) : Option (Int × zS) :=
  r v1 v2 v3 (s0 + s1) (v5 + (1 : Int)) w
def zX7_about_h63 (F : Nat) (r : Int → Int → Int → Int → Int → zS → Option (Int × zS)) (k96 : Int → Int → Int → zS → Option (Int × zS)) (v1 : Int) (v2 : Int) (v3 : Int) (v4 : Int) (v5 : Int) (w : zS) : Option (Int × zS) :=
  zLe v3 v5
  (k96 v2 v3 v4 w)
  (zC1 (zX7_friends F v1 v5 w) fun q75_1 q75_2 =>
    zEq q75_1 v3
    (zX7_about_b87 F r k96 v1 v2 v3 v5 v4 (1 : Int) q75_2)
    (zX7_about_b87 F r k96 v1 v2 v3 v5 v4 (0 : Int) q75_2))
def zX7_about_l63 (F : Nat) (k96 : Int → Int → Int → zS → Option (Int × zS)) : Nat → Int → Int → Int → Int → Int → zS → Option (Int × zS)
  | 0, _, _, _, _, _, _ => none
  | n + 1, v1, v2, v3, v4, v5, w => zX7_about_h63 F (zX7_about_l63 F k96 n) k96 v1 v2 v3 v4 v5 w
def zX7_about_h148 (F : Nat) (r : Int → Int → Int → Int → Int → Int → zS → Option (Int × zS)) (k166 : Int → Int → Int → Int → zS → Option (Int × zS)) (v1 : Int) (v3 : Int) (v4 : Int) (v5 : Int) (v6 : Int) (v7 : Int) (w : zS) : Option (Int × zS) :=
  zRem v7 v6 fun t152 =>
  zEq t152 (0 : Int)
  (k166 v1 v3 v5 v7 w)
  (r v1 v3 v4 v5 v6 (v7 + v4) w)
def zX7_about_l148 (F : Nat) (k166 : Int → Int → Int → Int → zS → Option (Int × zS)) : Nat → Int → Int → Int → Int → Int → Int → zS → Option (Int × zS)
  | 0, _, _, _, _, _, _, _ => none
  | n + 1, v1, v3, v4, v5, v6, v7, w => zX7_about_h148 F (zX7_about_l148 F k166 n) k166 v1 v3 v4 v5 v6 v7 w
def zX7_about_h129 (F : Nat) (r : Int → Int → Int → Int → zS → Option (Int × zS)) (v1 : Int) (v3 : Int) (v4 : Int) (v5 : Int) (w : zS) : Option (Int × zS) :=
  zLe v3 v5
  (some (v4, w))
  (zC1 (zX7_orderOf F v1 v5 w) fun q139_1 q139_2 =>
    zX7_about_l148 F (fun (v1 : Int) (v3 : Int) (v5 : Int) (v7 : Int) (w : zS) =>
      r v1 v3 v7 (v5 + (1 : Int)) w) F v1 v3 v4 v5 q139_1 v4 q139_2)
def zX7_about_l129 (F : Nat)  : Nat → Int → Int → Int → Int → zS → Option (Int × zS)
  | 0, _, _, _, _, _ => none
  | n + 1, v1, v3, v4, v5, w => zX7_about_h129 F (zX7_about_l129 F  n)  v1 v3 v4 v5 w
def zX7_about_b207 (F : Nat) (r : Int → Int → Int → Int → zS → Option (Int × zS)) (v1 : Int) (v3 : Int) (v5 : Int) (s0 : Int) (s1 : Int) (w : zS) : Option (Int × zS) :=
  r v1 v3 (s0 + s1) (v5 + (1 : Int)) w
def zX7_about_h182 (F : Nat) (r : Int → Int → Int → Int → zS → Option (Int × zS)) (v1 : Int) (v3 : Int) (v4 : Int) (v5 : Int) (w : zS) : Option (Int × zS) :=
  zLe v3 v5
  (some (v4, w))
  (zC1 (zX7_leastTurned F v1 v5 w) fun q194_1 q194_2 =>
    zEq q194_1 v5
    (zX7_about_b207 F r v1 v3 v5 v4 (1 : Int) q194_2)
    (zX7_about_b207 F r v1 v3 v5 v4 (0 : Int) q194_2))
def zX7_about_l182 (F : Nat)  : Nat → Int → Int → Int → Int → zS → Option (Int × zS)
  | 0, _, _, _, _, _ => none
  | n + 1, v1, v3, v4, v5, w => zX7_about_h182 F (zX7_about_l182 F  n)  v1 v3 v4 v5 w
def zX7_about (F : Nat) (v1 : Int) (v2 : Int) (w : zS) : Option (Int × zS) :=
  zC1 (zX7_isGroup F v1 w) fun q2_1 q2_2 =>
  zEq q2_1 (0 : Int)
  (some ((-1 : Int), q2_2))
  (zLd 8 (zA q2_2 1) v1 fun t15 =>
    zEq v2 (0 : Int)
    (zX7_about_l63 F (fun (v2 : Int) (v3 : Int) (v4 : Int) (w : zS) =>
        zEq v2 (0 : Int)
        (some (v4, w))
        (zEq v4 v3
          (some ((1 : Int), w))
          (some ((0 : Int), w)))) F v1 v2 t15 (0 : Int) (0 : Int) q2_2)
    (zEq v2 (1 : Int)
      (zC1 (zX7_turnsMade F v1 q2_2) fun q119_1 q119_2 =>
        some (q119_1, q119_2))
      (zEq v2 (2 : Int)
        (zX7_about_l129 F F v1 t15 (1 : Int) (0 : Int) q2_2)
        (zEq v2 (3 : Int)
          (zX7_about_l182 F F v1 t15 (0 : Int) (0 : Int) q2_2)
          (zEq v2 (4 : Int)
            (zX7_about_l63 F (fun (v2 : Int) (v3 : Int) (v4 : Int) (w : zS) =>
                zEq v2 (0 : Int)
                (some (v4, w))
                (zEq v4 v3
                  (some ((1 : Int), w))
                  (some ((0 : Int), w)))) F v1 v2 t15 (0 : Int) (0 : Int) q2_2)
            (zEq v2 (5 : Int)
              (zC1 (zX7_leastMakers F v1 q2_2) fun q221_1 q221_2 =>
                some (q221_1, q221_2))
              (some ((-1 : Int), q2_2))))))))
def zX7_acts_b50 (F : Nat) (v1 : Int) (v2 : Int) (v3 : Int) (v4 : Int) (v5 : Int) (v6 : Int) (v7 : Int) (s0 : Int) (w : zS) : Option (Int × zS) :=
  zC1 (zX7_in F (Int32.ofInt v3).toInt64 (0 : Int64) (Int32.ofInt v7).toInt64 w) fun q58_1 q58_2 =>
  zEq q58_1 (0 : Int)
  (some ((-1 : Int), q58_2))
  (zC1 (zX7_in F (Int32.ofInt v4).toInt64 (0 : Int64) (Int32.ofInt s0).toInt64 q58_2) fun q71_1 q71_2 =>
    zEq q71_1 (0 : Int)
    (some ((-1 : Int), q71_2))
    (zC1 (zX7_in F (Int32.ofInt v5).toInt64 (0 : Int64) (Int32.ofInt s0).toInt64 q71_2) fun q84_1 q84_2 =>
      zEq q84_1 (0 : Int)
      (some ((-1 : Int), q84_2))
      (zC1 (zX7_in F (Int32.ofInt v6).toInt64 (0 : Int64) (Int32.ofInt s0).toInt64 q84_2) fun q97_1 q97_2 =>
        zEq q97_1 (0 : Int)
        (some ((-1 : Int), q97_2))
        (zSt 11 192 (((32 : Int) * v1) + ((4 : Int) * v2)) v3 q97_2 fun w122 =>
          zSt 11 192 ((((32 : Int) * v1) + ((4 : Int) * v2)) + (1 : Int)) v4 w122 fun w133 =>
          zSt 11 192 ((((32 : Int) * v1) + ((4 : Int) * v2)) + (2 : Int)) v5 w133 fun w144 =>
          zSt 11 192 ((((32 : Int) * v1) + ((4 : Int) * v2)) + (3 : Int)) v6 w144 fun w155 =>
          zPI 29 (-4 : Int) w155 fun w159 =>
          some ((1 : Int), w159)))))
def zX7_acts (F : Nat) (v1 : Int) (v2 : Int) (v3 : Int) (v4 : Int) (v5 : Int) (v6 : Int) (w : zS) : Option (Int × zS) :=
  zC1 (zX7_isModule F v1 w) fun q2_1 q2_2 =>
  zEq q2_1 (0 : Int)
  (some ((-1 : Int), q2_2))
  (zLd 6 (zA q2_2 8) v1 fun t14 =>
    zC1 (zX7_isElement F t14 v2 q2_2) fun q16_1 q16_2 =>
    zEq q16_1 (0 : Int)
    (some ((-1 : Int), q16_2))
    (zLd 6 (zA q16_2 9) v1 fun t29 =>
      zLd 6 (zA q16_2 10) v1 fun t39 =>
      zEq t39 (1 : Int)
      (zX7_acts_b50 F v1 v2 v3 v4 v5 v6 (t29 - (1 : Int)) (0 : Int) q16_2)
      (zX7_acts_b50 F v1 v2 v3 v4 v5 v6 (t29 - (1 : Int)) (t29 - (1 : Int)) q16_2)))
def zX7_element (F : Nat) (v1 : Int) (v2 : Int) (v3 : Int) (w : zS) : Option (Int × zS) :=
  zC1 (zX7_isElement F v1 v2 w) fun q3_1 q3_2 =>
  zEq q3_1 (0 : Int)
  (some ((-1 : Int), q3_2))
  (zEq v3 (0 : Int)
    (zC1 (zX7_inverse F v1 v2 q3_2) fun q47_1 q47_2 =>
      some (q47_1, q47_2))
    (zEq v3 (1 : Int)
      (zC1 (zX7_orderOf F v1 v2 q3_2) fun q54_1 q54_2 =>
        some (q54_1, q54_2))
      (zEq v3 (2 : Int)
        (zC1 (zX7_friends F v1 v2 q3_2) fun q61_1 q61_2 =>
          some (q61_1, q61_2))
        (zEq v3 (3 : Int)
          (zC1 (zX7_leastTurned F v1 v2 q3_2) fun q68_1 q68_2 =>
            some (q68_1, q68_2))
          (some ((-1 : Int), q3_2))))))
def zX7_know_h76 (F : Nat) (r : Int → Int → zS → Option zS) (k107 : Int → zS → Option zS) (v2 : Int) (v3 : Int) (w : zS) : Option zS :=
  zLe (zI w 24) v3
  (k107 v2 w)
  (zLd 9604 (zA w 34) (((98 : Int) * v2) + v3) fun t99 =>
    zSt 25 98 v3 t99 w fun w100 =>
    r v2 (v3 + (1 : Int)) w100)
def zX7_know_l76 (F : Nat) (k107 : Int → zS → Option zS) : Nat → Int → Int → zS → Option zS
  | 0, _, _, _ => none
  | n + 1, v2, v3, w => zX7_know_h76 F (zX7_know_l76 F k107 n) k107 v2 v3 w
def zX7_know_h64 (F : Nat) (r : Int → zS → Option zS) (k121 : zS → Option zS) (v2 : Int) (w : zS) : Option zS :=
  zLd 5 (zA w 30) (3 : Int) fun t70 =>
  zLe t70 v2
  (k121 w)
  (zX7_know_l76 F (fun (v2 : Int) (w : zS) =>
      zC0 (zX7_lessBound F w) fun q108 =>
      zC0 (zX7_settles F q108) fun q112 =>
      r (v2 + (1 : Int)) q112) F v2 (0 : Int) w)
def zX7_know_l64 (F : Nat) (k121 : zS → Option zS) : Nat → Int → zS → Option zS
  | 0, _, _ => none
  | n + 1, v2, w => zX7_know_h64 F (zX7_know_l64 F k121 n) k121 v2 w
def zX7_know_h131 (F : Nat) (r : Int → zS → Option zS) (v2 : Int) (w : zS) : Option zS :=
  zLe ((98 : Int) * (zI w 28)) v2
  (some w)
  (zLd 9604 (zA w 26) v2 fun t152 =>
    zSt 33 9604 v2 t152 w fun w153 =>
    r (v2 + (1 : Int)) w153)
def zX7_know_l131 (F : Nat)  : Nat → Int → zS → Option zS
  | 0, _, _ => none
  | n + 1, v2, w => zX7_know_h131 F (zX7_know_l131 F  n)  v2 w
def zX7_know (F : Nat) (v1 : Int) (w : zS) : Option zS :=
  zC0 (zX7_start F v1 w) fun q2 =>
  zEq (zI q2 29) v1
  (zPI 24 ((((zI q2 36) - (1 : Int)) * ((zI q2 36) - (1 : Int))) * (zI q2 37)) q2 fun w32 =>
    some w32)
  (zPI 29 v1 q2 fun w38 =>
    zC0 (zX7_dimensionNone F w38) fun q42 =>
    zC0 (zX7_dimensionOne F q42) fun q46 =>
    zC0 (zX7_pairs F q46) fun q50 =>
    zC0 (zX7_bounds F q50) fun q54 =>
    zPI 28 (0 : Int) q54 fun w59 =>
    zX7_know_l64 F (fun (w : zS) =>
      zPI 35 (zI w 28) w fun w126 =>
      zX7_know_l131 F F (0 : Int) w126) F (0 : Int) w59)
def zX7_made (F : Nat) (v1 : Int) (v2 : Int) (v3 : Int) (w : zS) : Option (Int × zS) :=
  zC1 (zX7_isElement F v1 v2 w) fun q3_1 q3_2 =>
  zEq q3_1 (0 : Int)
  (some ((-1 : Int), q3_2))
  (zC1 (zX7_isElement F v1 v3 q3_2) fun q12_1 q12_2 =>
    zEq q12_1 (0 : Int)
    (some ((-1 : Int), q12_2))
    (zSt 12 80 (0 : Int) v2 q12_2 fun w26 =>
      zSt 12 80 (1 : Int) v3 w26 fun w33 =>
      zC0 (zX7_makes F v1 (2 : Int) w33) fun q37 =>
      some ((zI q37 14), q37)))
def zX7_product_b28 (F : Nat) (w : zS) : Option (Int × zS) :=
  some ((-1 : Int), w)
def zX7_product (F : Nat) (v1 : Int) (v2 : Int) (v3 : Int) (w : zS) : Option (Int × zS) :=
  zC1 (zX7_isElement F v1 v2 w) fun q3_1 q3_2 =>
  zEq q3_1 (0 : Int)
  (zX7_product_b28 F q3_2)
  (zC1 (zX7_isElement F v1 v3 q3_2) fun q12_1 q12_2 =>
    zEq q12_1 (0 : Int)
    (zX7_product_b28 F q12_2)
    (zC1 (zX7_prod F v1 v2 v3 q12_2) fun q22_1 q22_2 =>
      some (q22_1, q22_2)))
def zX7_same_h50 (F : Nat) (r : Int → Int → Int → Int → zS → Option (Int × zS)) (k86 : Int → Int → Int → zS → Option (Int × zS)) (v1 : Int) (v2 : Int) (v3 : Int) (v4 : Int) (w : zS) : Option (Int × zS) :=
  zLd 8 (zA w 1) v1 fun t57 =>
  zLt t57 v4
  (k86 v1 v2 v3 w)
  (zC1 (zX7_ofOrder F v1 v4 w) fun q65_1 q65_2 =>
    zC1 (zX7_ofOrder F v2 v4 q65_2) fun q72_1 q72_2 =>
    zEq q65_1 q72_1
    (r v1 v2 v3 (v4 + (1 : Int)) q72_2)
    (some ((0 : Int), q72_2)))
def zX7_same_l50 (F : Nat) (k86 : Int → Int → Int → zS → Option (Int × zS)) : Nat → Int → Int → Int → Int → zS → Option (Int × zS)
  | 0, _, _, _, _, _ => none
  | n + 1, v1, v2, v3, v4, w => zX7_same_h50 F (zX7_same_l50 F k86 n) k86 v1 v2 v3 v4 w
def zX7_same_h103 (F : Nat) (r : Int → Int → Int → Int → Int → zS → Option (Int × zS)) (k132 : Int → Int → Int → Int → zS → Option (Int × zS)) (v1 : Int) (v2 : Int) (v3 : Int) (v4 : Int) (v5 : Int) (w : zS) : Option (Int × zS) :=
  zLe v4 v5
  (k132 v1 v2 v3 v4 w)
  (zC1 (zX7_nextLike F v1 v2 v5 (0 : Int) w) fun q122_1 q122_2 =>
    zSt 21 8 v5 q122_1 q122_2 fun w125 =>
    r v1 v2 v3 v4 (v5 + (1 : Int)) w125)
def zX7_same_l103 (F : Nat) (k132 : Int → Int → Int → Int → zS → Option (Int × zS)) : Nat → Int → Int → Int → Int → Int → zS → Option (Int × zS)
  | 0, _, _, _, _, _, _ => none
  | n + 1, v1, v2, v3, v4, v5, w => zX7_same_h103 F (zX7_same_l103 F k132 n) k132 v1 v2 v3 v4 v5 w
def zX7_same_b232 (F : Nat) (r : Int → Int → Int → Int → Int → Int → Int → zS → Option (Int × zS)) (k261 : Int → Int → Int → Int → Int → Int → zS → Option (Int × zS)) (v1 : Int) (v2 : Int) (v3 : Int) (v4 : Int) (v5 : Int) (v7 : Int) (s0 : Int) (w : zS) : Option (Int × zS) :=
  zEq s0 (0 : Int)
  (r v1 v2 v3 v4 v5 v7 s0 w)
  (zC1 (zX7_nextLike F v1 v2 v7 (0 : Int) w) fun q251_1 q251_2 =>
    zSt 21 8 v7 q251_1 q251_2 fun w254 =>
    r v1 v2 v3 v4 v5 (v7 + (-1 : Int)) s0 w254)
def zX7_same_h177 (F : Nat) (r : Int → Int → Int → Int → Int → Int → Int → zS → Option (Int × zS)) (k261 : Int → Int → Int → Int → Int → Int → zS → Option (Int × zS)) (v1 : Int) (v2 : Int) (v3 : Int) (v4 : Int) (v5 : Int) (v7 : Int) (v8 : Int) (w : zS) : Option (Int × zS) :=
  zLt v7 (0 : Int)
  (k261 v1 v2 v3 v4 v5 v8 w)
  (zEq v8 (0 : Int)
    (k261 v1 v2 v3 v4 v5 v8 w)
    (zLd 8 (zA w 21) v7 fun t204 =>
      zC1 (zX7_nextLike F v1 v2 v7 (t204 + (1 : Int)) w) fun q207_1 q207_2 =>
      zSt 21 8 v7 q207_1 q207_2 fun w210 =>
      zLd 8 (zA w210 21) v7 fun t217 =>
      zLd 8 (zA q207_2 1) v2 fun t223 =>
      zEq t217 t223
      (zX7_same_b232 F r k261 v1 v2 v3 v4 v5 v7 (1 : Int) w210)
      (zX7_same_b232 F r k261 v1 v2 v3 v4 v5 v7 (0 : Int) w210)))
def zX7_same_l177 (F : Nat) (k261 : Int → Int → Int → Int → Int → Int → zS → Option (Int × zS)) : Nat → Int → Int → Int → Int → Int → Int → Int → zS → Option (Int × zS)
  | 0, _, _, _, _, _, _, _, _ => none
  | n + 1, v1, v2, v3, v4, v5, v7, v8, w => zX7_same_h177 F (zX7_same_l177 F k261 n) k261 v1 v2 v3 v4 v5 v7 v8 w
def zX7_same_b271 (F : Nat) (r : Int → Int → Int → Int → Int → Int → zS → Option (Int × zS)) (v1 : Int) (v2 : Int) (v3 : Int) (v4 : Int) (v5 : Int) (s0 : Int) (w : zS) : Option (Int × zS) :=
  r v1 v2 v3 v4 v5 s0 w
def zX7_same_b261 (F : Nat) (r : Int → Int → Int → Int → Int → Int → zS → Option (Int × zS)) (v1 : Int) (v2 : Int) (v3 : Int) (v4 : Int) (v5 : Int) (v8 : Int) (w : zS) : Option (Int × zS) :=
  zEq v8 (0 : Int)
  (zX7_same_b271 F r v1 v2 v3 v4 v5 (1 : Int) w)
  (zX7_same_b271 F r v1 v2 v3 v4 v5 (0 : Int) w)
def zX7_same_h138 (F : Nat) (r : Int → Int → Int → Int → Int → Int → zS → Option (Int × zS)) (v1 : Int) (v2 : Int) (v3 : Int) (v4 : Int) (v5 : Int) (v6 : Int) (w : zS) : Option (Int × zS) :=
  zEq v6 (0 : Int)
  (some ((0 : Int), w))
  (zEq v5 v3
    (some ((-5 : Int), w))
    (zC1 (zX7_goes F v1 v2 v4 w) fun q160_1 q160_2 =>
      zEq q160_1 (0 : Int)
      (zX7_same_l177 F (fun (v1 : Int) (v2 : Int) (v3 : Int) (v4 : Int) (v5 : Int) (v8 : Int) (w : zS) =>
          zX7_same_b261 F r v1 v2 v3 v4 v5 v8 w) F v1 v2 v3 v4 (v5 + (1 : Int)) (v4 - (1 : Int)) (1 : Int) q160_2)
      (some ((1 : Int), q160_2))))
def zX7_same_l138 (F : Nat)  : Nat → Int → Int → Int → Int → Int → Int → zS → Option (Int × zS)
  | 0, _, _, _, _, _, _, _ => none
  | n + 1, v1, v2, v3, v4, v5, v6, w => zX7_same_h138 F (zX7_same_l138 F  n)  v1 v2 v3 v4 v5 v6 w
def zX7_same (F : Nat) (v1 : Int) (v2 : Int) (v3 : Int) (w : zS) : Option (Int × zS) :=
  zC1 (zX7_isGroup F v1 w) fun q2_1 q2_2 =>
  zEq q2_1 (0 : Int)
  (some ((-1 : Int), q2_2))
  (zC1 (zX7_isGroup F v2 q2_2) fun q10_1 q10_2 =>
    zEq q10_1 (0 : Int)
    (some ((-1 : Int), q10_2))
    (zC1 (zX7_in F (Int32.ofInt v3).toInt64 (0 : Int64) (20000 : Int64) q10_2) fun q22_1 q22_2 =>
      zEq q22_1 (0 : Int)
      (some ((-1 : Int), q22_2))
      (zLd 8 (zA q22_2 1) v1 fun t35 =>
        zLd 8 (zA q22_2 1) v2 fun t41 =>
        zEq t35 t41
        (zX7_same_l50 F (fun (v1 : Int) (v2 : Int) (v3 : Int) (w : zS) =>
            zC1 (zX7_leastMakers F v1 w) fun q88_1 q88_2 =>
            zC0 (zX7_leastRow F v1 q88_1 q88_2) fun q97 =>
            zX7_same_l103 F (fun (v1 : Int) (v2 : Int) (v3 : Int) (v4 : Int) (w : zS) =>
              zX7_same_l138 F F v1 v2 v3 v4 (0 : Int) (1 : Int) w) F v1 v2 v3 q88_1 (0 : Int) q97) F v1 v2 v3 (1 : Int) q22_2)
        (some ((0 : Int), q22_2)))))
def zX7_classOf_b211 (F : Nat) (r : Int → Int → Int → Int → zS → Option (Int × zS)) (k217 : Int → Int → Int → zS → Option (Int × zS)) (v2 : Int) (v5 : Int) (v6 : Int) (v7 : Int) (w : zS) : Option (Int × zS) :=
  r v2 v5 v6 (v7 + (1 : Int)) w
def zX7_classOf_b203 (F : Nat) (r : Int → Int → Int → Int → zS → Option (Int × zS)) (k217 : Int → Int → Int → zS → Option (Int × zS)) (v2 : Int) (v5 : Int) (v6 : Int) (v7 : Int) (v8 : Int) (w : zS) : Option (Int × zS) :=
  zEq v8 (0 : Int)
  (zX7_classOf_b211 F r k217 v2 v5 v6 v7 w)
  (some ((-4 : Int), w))
def zX7_classOf_b171 (F : Nat) (r : Int → Int → Int → Int → zS → Option (Int × zS)) (k217 : Int → Int → Int → zS → Option (Int × zS)) (v2 : Int) (v5 : Int) (v6 : Int) (v7 : Int) (s0 : Int) (w : zS) : Option (Int × zS) :=
  zLe v5 (0 : Int)
  (zX7_classOf_b203 F r k217 v2 v5 v6 v7 s0 w)
  (zLe v6 (0 : Int)
    (zX7_classOf_b203 F r k217 v2 v5 v6 v7 s0 w)
    (zC1 (zX7_placeOf F v5 v6 v7 w) fun q194_1 q194_2 =>
      zSt 25 98 q194_1 s0 q194_2 fun w199 =>
      zX7_classOf_b211 F r k217 v2 v5 v6 v7 w199))
def zX7_classOf_h109 (F : Nat) (r : Int → Int → Int → Int → zS → Option (Int × zS)) (k217 : Int → Int → Int → zS → Option (Int × zS)) (v2 : Int) (v5 : Int) (v6 : Int) (v7 : Int) (w : zS) : Option (Int × zS) :=
  zLe (zI w 37) v7
  (k217 v2 v5 v6 w)
  (zLd 576 (zA w 6) ((((144 : Int) * v2) + ((zI w 37) * (((zI w 36) * v5) + v6))) + v7) fun t146 =>
    zRem t146 (zI w 23) fun t151 =>
    zLe (0 : Int) t151
    (zX7_classOf_b171 F r k217 v2 v5 v6 v7 t151 w)
    (zX7_classOf_b171 F r k217 v2 v5 v6 v7 (t151 + (zI w 23)) w))
def zX7_classOf_l109 (F : Nat) (k217 : Int → Int → Int → zS → Option (Int × zS)) : Nat → Int → Int → Int → Int → zS → Option (Int × zS)
  | 0, _, _, _, _, _ => none
  | n + 1, v2, v5, v6, v7, w => zX7_classOf_h109 F (zX7_classOf_l109 F k217 n) k217 v2 v5 v6 v7 w
def zX7_classOf_h97 (F : Nat) (r : Int → Int → Int → zS → Option (Int × zS)) (k223 : Int → Int → zS → Option (Int × zS)) (v2 : Int) (v5 : Int) (v6 : Int) (w : zS) : Option (Int × zS) :=
  zLe (zI w 36) v6
  (k223 v2 v5 w)
  (zX7_classOf_l109 F (fun (v2 : Int) (v5 : Int) (v6 : Int) (w : zS) =>
      r v2 v5 (v6 + (1 : Int)) w) F v2 v5 v6 (0 : Int) w)
def zX7_classOf_l97 (F : Nat) (k223 : Int → Int → zS → Option (Int × zS)) : Nat → Int → Int → Int → zS → Option (Int × zS)
  | 0, _, _, _, _ => none
  | n + 1, v2, v5, v6, w => zX7_classOf_h97 F (zX7_classOf_l97 F k223 n) k223 v2 v5 v6 w
def zX7_classOf_h85 (F : Nat) (r : Int → Int → zS → Option (Int × zS)) (k229 : zS → Option (Int × zS)) (v2 : Int) (v5 : Int) (w : zS) : Option (Int × zS) :=
  zLe (zI w 36) v5
  (k229 w)
  (zX7_classOf_l97 F (fun (v2 : Int) (v5 : Int) (w : zS) =>
      r v2 (v5 + (1 : Int)) w) F v2 v5 (0 : Int) w)
def zX7_classOf_l85 (F : Nat) (k229 : zS → Option (Int × zS)) : Nat → Int → Int → zS → Option (Int × zS)
  | 0, _, _, _ => none
  | n + 1, v2, v5, w => zX7_classOf_h85 F (zX7_classOf_l85 F k229 n) k229 v2 v5 w
def zX7_classOf (F : Nat) (v1 : Int) (v2 : Int) (v3 : Int) (w : zS) : Option (Int × zS) :=
  zC1 (zX7_isModule F v1 w) fun q2_1 q2_2 =>
  zEq q2_1 (0 : Int)
  (some ((-1 : Int), q2_2))
  (zC1 (zX7_in F (Int32.ofInt v2).toInt64 (0 : Int64) (3 : Int64) q2_2) fun q14_1 q14_2 =>
    zEq q14_1 (0 : Int)
    (some ((-1 : Int), q14_2))
    (zC1 (zX7_in F (Int32.ofInt v3).toInt64 (0 : Int64) (1 : Int64) q14_2) fun q24_1 q24_2 =>
      zEq q24_1 (0 : Int)
      (some ((-1 : Int), q24_2))
      (zC1 (zX7_sound F v1 q24_2) fun q34_1 q34_2 =>
        zEq q34_1 (0 : Int)
        (zC0 (zX7_know F v1 q34_2) fun q45 =>
          zC1 (zX7_faultOf F v2 v3 (((zI q45 37) * (zI q45 36)) * (zI q45 36)) q45) fun q65_1 q65_2 =>
          zLe (0 : Int) q65_1
          (zC0 (zX7_clearLine F q65_2) fun q79 =>
            zX7_classOf_l85 F (fun (w : zS) =>
              zC1 (zX7_isCocycle F w) fun q230_1 q230_2 =>
              zEq q230_1 (0 : Int)
              (some ((-4 : Int), q230_2))
              (zC1 (zX7_classOfLine F q230_2) fun q237_1 q237_2 =>
                some (q237_1, q237_2))) F v2 (0 : Int) q79)
          (some (q65_1, q65_2)))
        (some ((-2 : Int), q34_2)))))
def zX7_dimension (F : Nat) (v1 : Int) (v2 : Int) (w : zS) : Option (Int × zS) :=
  zC1 (zX7_isModule F v1 w) fun q2_1 q2_2 =>
  zEq q2_1 (0 : Int)
  (some ((-1 : Int), q2_2))
  (zC1 (zX7_in F (Int32.ofInt v2).toInt64 (0 : Int64) (6 : Int64) q2_2) fun q14_1 q14_2 =>
    zEq q14_1 (0 : Int)
    (some ((-1 : Int), q14_2))
    (zC1 (zX7_sound F v1 q14_2) fun q24_1 q24_2 =>
      zEq q24_1 (0 : Int)
      (zC0 (zX7_know F v1 q24_2) fun q35 =>
        zLe (5 : Int) v2
        (zEq v2 (5 : Int)
          (some ((zI q35 35), q35))
          (zLd 5 (zA q35 30) (1 : Int) fun t69 =>
            zLd 5 (zA q35 30) (2 : Int) fun t75 =>
            some ((t69 - t75), q35)))
        (zLd 5 (zA q35 30) v2 fun t48 =>
          some (t48, q35)))
      (some ((-2 : Int), q24_2))))
def zX7_lacks (F : Nat) (v1 : Int) (v2 : Int) (w : zS) : Option (Int × zS) :=
  zC1 (zX7_isModule F v1 w) fun q2_1 q2_2 =>
  zEq q2_1 (0 : Int)
  (some ((-1 : Int), q2_2))
  (zLe (0 : Int) v2
    (zC1 (zX7_sound F v1 q2_2) fun q16_1 q16_2 =>
      zEq q16_1 (0 : Int)
      (zC0 (zX7_know F v1 q16_2) fun q27 =>
        zC1 (zX7_power F (zI q27 23) (zI q27 35) q27) fun q41_1 q41_2 =>
        zC1 (zX7_in F (Int32.ofInt v2).toInt64 (0 : Int64) (Int32.ofInt (q41_1 - (1 : Int))).toInt64 q41_2) fun q47_1 q47_2 =>
        zEq q47_1 (0 : Int)
        (some ((-1 : Int), q47_2))
        (some ((0 : Int), q47_2)))
      (some ((-2 : Int), q16_2)))
    (some ((-1 : Int), q2_2)))
def zX7_over_b225 (F : Nat) (r : Int → Int → Int → Int → Int → Int → Int → Int → zS → Option (Int × zS)) (k258 : Int → Int → Int → Int → Int → Int → zS → Option (Int × zS)) (v4 : Int) (v5 : Int) (v6 : Int) (v7 : Int) (v8 : Int) (v9 : Int) (v10 : Int) (v11 : Int) (s0 : Int) (s1 : Int) (w : zS) : Option (Int × zS) :=
  zRem (s0 + s1) (zI w 23) fun t238 =>
  r v4 v5 v6 v7 v8 (v9 + (v10 * t238)) (v10 * (zI w 23)) (v11 + (1 : Int)) w
def zX7_over_b145 (F : Nat) (r : Int → Int → Int → Int → Int → Int → Int → Int → zS → Option (Int × zS)) (k258 : Int → Int → Int → Int → Int → Int → zS → Option (Int × zS)) (v4 : Int) (v5 : Int) (v6 : Int) (v7 : Int) (v8 : Int) (v9 : Int) (v10 : Int) (v11 : Int) (s0 : Int) (w : zS) : Option (Int × zS) :=
  zC1 (zX7_twisted F v7 v8 v11 w) fun q152_1 q152_2 =>
  zC1 (zX7_matrix F (zI q152_2 39) v7 v11 (0 : Int) q152_2) fun q170_1 q170_2 =>
  zRem v6 v4 fun t177 =>
  zRem t177 (zI q170_2 23) fun t182 =>
  zEq (zI q170_2 37) (2 : Int)
  (zC1 (zX7_matrix F (zI q170_2 39) v7 v11 (1 : Int) q170_2) fun q207_1 q207_2 =>
    zRem v6 v4 fun t214 =>
    zDiv t214 (zI q207_2 23) fun t219 =>
    zX7_over_b225 F r k258 v4 v5 v6 v7 v8 v9 v10 v11 ((s0 + q152_1) + (q170_1 * t182)) (q207_1 * t219) q207_2)
  (zX7_over_b225 F r k258 v4 v5 v6 v7 v8 v9 v10 v11 ((s0 + q152_1) + (q170_1 * t182)) (0 : Int) q170_2)
def zX7_over_h108 (F : Nat) (r : Int → Int → Int → Int → Int → Int → Int → Int → zS → Option (Int × zS)) (k258 : Int → Int → Int → Int → Int → Int → zS → Option (Int × zS)) (v4 : Int) (v5 : Int) (v6 : Int) (v7 : Int) (v8 : Int) (v9 : Int) (v10 : Int) (v11 : Int) (w : zS) : Option (Int × zS) :=
  zLe (zI w 37) v11
  (k258 v4 v5 v6 v7 v8 v9 w)
  (zEq v11 (0 : Int)
    (zRem v5 v4 fun t126 =>
      zRem t126 (zI w 23) fun t131 =>
      zX7_over_b145 F r k258 v4 v5 v6 v7 v8 v9 v10 v11 t131 w)
    (zRem v5 v4 fun t139 =>
      zDiv t139 (zI w 23) fun t144 =>
      zX7_over_b145 F r k258 v4 v5 v6 v7 v8 v9 v10 v11 t144 w))
def zX7_over_l108 (F : Nat) (k258 : Int → Int → Int → Int → Int → Int → zS → Option (Int × zS)) : Nat → Int → Int → Int → Int → Int → Int → Int → Int → zS → Option (Int × zS)
  | 0, _, _, _, _, _, _, _, _, _ => none
  | n + 1, v4, v5, v6, v7, v8, v9, v10, v11, w => zX7_over_h108 F (zX7_over_l108 F k258 n) k258 v4 v5 v6 v7 v8 v9 v10 v11 w
def zX7_over_h73 (F : Nat) (r : Int → Int → Int → zS → Option (Int × zS)) (k290 : Int → Int → zS → Option (Int × zS)) (v4 : Int) (v5 : Int) (v6 : Int) (w : zS) : Option (Int × zS) :=
  zLe (v4 * (zI w 36)) v6
  (k290 v4 v5 w)
  (zDiv v5 v4 fun t89 =>
    zDiv v6 v4 fun t96 =>
    zX7_over_l108 F (fun (v4 : Int) (v5 : Int) (v6 : Int) (v7 : Int) (v8 : Int) (v9 : Int) (w : zS) =>
      zC1 (zX7_prod F (zI w 38) v7 v8 w) fun q274_1 q274_2 =>
      zC0 (zX7_set F v5 v6 ((v4 * q274_1) + v9) q274_2) fun q281 =>
      r v4 v5 (v6 + (1 : Int)) q281) F v4 v5 v6 t89 t96 (0 : Int) (1 : Int) (0 : Int) w)
def zX7_over_l73 (F : Nat) (k290 : Int → Int → zS → Option (Int × zS)) : Nat → Int → Int → Int → zS → Option (Int × zS)
  | 0, _, _, _, _ => none
  | n + 1, v4, v5, v6, w => zX7_over_h73 F (zX7_over_l73 F k290 n) k290 v4 v5 v6 w
def zX7_over_h58 (F : Nat) (r : Int → Int → zS → Option (Int × zS)) (k296 : Int → zS → Option (Int × zS)) (v4 : Int) (v5 : Int) (w : zS) : Option (Int × zS) :=
  zLe (v4 * (zI w 36)) v5
  (k296 v4 w)
  (zX7_over_l73 F (fun (v4 : Int) (v5 : Int) (w : zS) =>
      r v4 (v5 + (1 : Int)) w) F v4 v5 (0 : Int) w)
def zX7_over_l58 (F : Nat) (k296 : Int → zS → Option (Int × zS)) : Nat → Int → Int → zS → Option (Int × zS)
  | 0, _, _, _ => none
  | n + 1, v4, v5, w => zX7_over_h58 F (zX7_over_l58 F k296 n) k296 v4 v5 w
def zX7_over (F : Nat) (v1 : Int) (v2 : Int) (w : zS) : Option (Int × zS) :=
  zC1 (zX7_lacks F v1 v2 w) fun q3_1 q3_2 =>
  zLe (0 : Int) q3_1
  (zC1 (zX7_power F (zI q3_2 23) (zI q3_2 37) q3_2) fun q21_1 q21_2 =>
    zEq (zI q21_2 0) (8 : Int)
    (some ((-3 : Int), q21_2))
    (zLe (q21_1 * (zI q21_2 36)) (48 : Int)
      (zC0 (zX7_sumOf F v2 q21_2) fun q52 =>
        zX7_over_l58 F (fun (v4 : Int) (w : zS) =>
          zC1 (zX7_added F (v4 * (zI w 36)) w) fun q304_1 q304_2 =>
          some (q304_1, q304_2)) F q21_1 (0 : Int) q52)
      (some ((-3 : Int), q21_2))))
  (some (q3_1, q3_2))
def zX7_parts (F : Nat) (v1 : Int) (v2 : Int) (w : zS) : Option (Int × zS) :=
  zC1 (zX7_lacks F v1 v2 w) fun q3_1 q3_2 =>
  zLe (0 : Int) q3_1
  (zEq v2 (0 : Int)
    (zLd 5 (zA q3_2 30) (1 : Int) fun t28 =>
      zC1 (zX7_power F (zI q3_2 23) t28 q3_2) fun q29_1 q29_2 =>
      some (q29_1, q29_2))
    (some ((0 : Int), q3_2)))
  (some (q3_1, q3_2))
def zX7_sum_h43 (F : Nat) (r : Int → Int → Int → Int → Int → zS → Option (Int × zS)) (v2 : Int) (v3 : Int) (v5 : Int) (v6 : Int) (v7 : Int) (w : zS) : Option (Int × zS) :=
  zLe (zI w 35) v7
  (some (v5, w))
  (zDiv v2 v6 fun t57 =>
    zRem t57 (zI w 23) fun t62 =>
    zDiv v3 v6 fun t66 =>
    zRem t66 (zI w 23) fun t71 =>
    zRem (t62 + t71) (zI w 23) fun t77 =>
    r v2 v3 (v5 + (t77 * v6)) (v6 * (zI w 23)) (v7 + (1 : Int)) w)
def zX7_sum_l43 (F : Nat)  : Nat → Int → Int → Int → Int → Int → zS → Option (Int × zS)
  | 0, _, _, _, _, _, _ => none
  | n + 1, v2, v3, v5, v6, v7, w => zX7_sum_h43 F (zX7_sum_l43 F  n)  v2 v3 v5 v6 v7 w
def zX7_sum_b24 (F : Nat) (v2 : Int) (v3 : Int) (s0 : Int) (w : zS) : Option (Int × zS) :=
  zLe (0 : Int) s0
  (zX7_sum_l43 F F v2 v3 (0 : Int) (1 : Int) (0 : Int) w)
  (some (s0, w))
def zX7_sum (F : Nat) (v1 : Int) (v2 : Int) (v3 : Int) (w : zS) : Option (Int × zS) :=
  zC1 (zX7_lacks F v1 v2 w) fun q3_1 q3_2 =>
  zLe (0 : Int) q3_1
  (zC1 (zX7_lacks F v1 v3 q3_2) fun q21_1 q21_2 =>
    zX7_sum_b24 F v2 v3 q21_1 q21_2)
  (zX7_sum_b24 F v2 v3 q3_1 q3_2)
def zX7_times_h53 (F : Nat) (r : Int → Int → Int → Int → Int → zS → Option (Int × zS)) (v2 : Int) (v3 : Int) (v5 : Int) (v6 : Int) (v7 : Int) (w : zS) : Option (Int × zS) :=
  zLe (zI w 35) v7
  (some (v5, w))
  (zDiv v2 v6 fun t67 =>
    zRem t67 (zI w 23) fun t72 =>
    zRem (t72 * v3) (zI w 23) fun t79 =>
    r v2 v3 (v5 + (t79 * v6)) (v6 * (zI w 23)) (v7 + (1 : Int)) w)
def zX7_times_l53 (F : Nat)  : Nat → Int → Int → Int → Int → Int → zS → Option (Int × zS)
  | 0, _, _, _, _, _, _ => none
  | n + 1, v2, v3, v5, v6, v7, w => zX7_times_h53 F (zX7_times_l53 F  n)  v2 v3 v5 v6 v7 w
def zX7_times (F : Nat) (v1 : Int) (v2 : Int) (v3 : Int) (w : zS) : Option (Int × zS) :=
  zC1 (zX7_isModule F v1 w) fun q2_1 q2_2 =>
  zEq q2_1 (0 : Int)
  (some ((-1 : Int), q2_2))
  (zLd 6 (zA q2_2 9) v1 fun t16 =>
    zC1 (zX7_in F (Int32.ofInt v3).toInt64 (1 : Int64) (Int32.ofInt (t16 - (1 : Int))).toInt64 q2_2) fun q20_1 q20_2 =>
    zEq q20_1 (0 : Int)
    (some ((-1 : Int), q20_2))
    (zC1 (zX7_lacks F v1 v2 q20_2) fun q31_1 q31_2 =>
      zLe (0 : Int) q31_1
      (zX7_times_l53 F F v2 v3 (0 : Int) (1 : Int) (0 : Int) q31_2)
      (some (q31_1, q31_2))))
def zX7_twist (F : Nat) (v1 : Int) (v2 : Int) (v3 : Int) (v4 : Int) (v5 : Int) (w : zS) : Option (Int × zS) :=
  zC1 (zX7_isModule F v1 w) fun q2_1 q2_2 =>
  zEq q2_1 (0 : Int)
  (some ((-1 : Int), q2_2))
  (zLd 6 (zA q2_2 8) v1 fun t14 =>
    zC1 (zX7_isElement F t14 v3 q2_2) fun q16_1 q16_2 =>
    zEq q16_1 (0 : Int)
    (some ((-1 : Int), q16_2))
    (zLd 6 (zA q16_2 8) v1 fun t28 =>
      zC1 (zX7_isElement F t28 v4 q16_2) fun q31_1 q31_2 =>
      zEq q31_1 (0 : Int)
      (some ((-1 : Int), q31_2))
      (zLd 6 (zA q31_2 10) v1 fun t46 =>
        zC1 (zX7_in F (Int32.ofInt v5).toInt64 (0 : Int64) (Int32.ofInt (t46 - (1 : Int))).toInt64 q31_2) fun q50_1 q50_2 =>
        zEq q50_1 (0 : Int)
        (some ((-1 : Int), q50_2))
        (zC1 (zX7_lacks F v1 v2 q50_2) fun q61_1 q61_2 =>
          zLe (0 : Int) q61_1
          (zC0 (zX7_sumOf F v2 q61_2) fun q76 =>
            zC1 (zX7_twisted F v3 v4 v5 q76) fun q85_1 q85_2 =>
            some (q85_1, q85_2))
          (some (q61_1, q61_2))))))
