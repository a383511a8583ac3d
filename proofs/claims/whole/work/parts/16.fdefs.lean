/-! OF EACH METHOD THE FUNCTION, by program out of its bytecode (wip/whole/emit.py) -/
noncomputable def F_X0_forgetWhites (D : mD) : RI :=
  some (0, (fillD D 25 403 (-1)))
noncomputable def F_X0_widthOf (x1 : Int) (D : mD) : RI :=
  ck (0 ≤ x1 ∧ x1 < 14) <|
  ck (0 ≤ (D 8 x1) ∧ (D 8 x1) < 12) <|
  some (((D 5 (D 8 x1)) - (D 19 x1)), D)
noncomputable def F_X0_beginOf_L10 (x1 : Int) : Nat → Int → Int → mD → RI
  | 0, _, _, _ => none
  | n + 1, x2, x3, D =>
    ck (nR x3) <|
    ck (nR x1) <|
    if x1 ≤ x3 then
      some (x2, D)
    else
      bI (F_X0_widthOf x3 D) fun v1 D1 =>
      ck (0 ≤ x3 ∧ x3 < 13) <|
      F_X0_beginOf_L10 x1 n (x2 + (v1 + (D1 18 x3))) (x3 + 1) D1
noncomputable def F_X0_beginOf (x1 : Int) (D : mD) : RI :=
  F_X0_beginOf_L10 x1 fuelN (D 3 8) 0 D
noncomputable def F_X0_endOfWord (D : mD) : RI :=
  ck (nR ((D 3 5) - 1)) <|
  if 0 ≤ ((D 3 5) - 1) then
    bI (F_X0_beginOf ((D 3 5) - 1) D) fun v1 D1 =>
    bI (F_X0_widthOf ((D 3 5) - 1) D1) fun v2 D2 =>
    some ((v1 + v2), D2)
  else
    some ((D 3 8), D)
noncomputable def F_X0_fitsWith (x1 : Int) (D : mD) : RI :=
  bI (F_X0_endOfWord D) fun v1 D1 =>
  ck (nR (v1 + x1)) <|
  ck (nR ((D1 3 7) - (D1 3 8))) <|
  ck (((if ((D1 3 7) - (D1 3 8)) < (v1 + x1) then (0 : Int) else (1 : Int)) = 0 ∨ (if ((D1 3 7) - (D1 3 8)) < (v1 + x1) then (0 : Int) else (1 : Int)) = 1)) <|
  some ((if ((D1 3 7) - (D1 3 8)) < (v1 + x1) then (0 : Int) else (1 : Int)), D1)
noncomputable def F_X0_freeHairs_L30 : Nat → Int → Int → mD → RI
  | 0, _, _, _ => none
  | n + 1, x2, x3, D =>
    ck (nR x3) <|
    ck (nR (D 3 5)) <|
    if (D 3 5) ≤ x3 then
      some (x2, D)
    else
      bI (F_X0_widthOf x3 D) fun v1 D1 =>
      F_X0_freeHairs_L30 n (x2 - v1) (x3 + 1) D1
noncomputable def F_X0_freeHairs (x1 : Int) (D : mD) : RI :=
  F_X0_freeHairs_L30 fuelN ((((D 3 7) + x1) - (2 * (D 3 8))) - (D 17 5)) 0 D
noncomputable def F_X6_leftOf (t0 : Nat) (x1 x2 : Int) (D : mD) : RI :=
  ck (0 ≤ ((x1 * 5) + x2) ∧ ((x1 * 5) + x2) < 60) <|
  some ((D (t0 + 3) ((x1 * 5) + x2)), D)
noncomputable def F_X6_rightOf (t0 : Nat) (x1 x2 : Int) (D : mD) : RI :=
  ck (0 ≤ ((x1 * 5) + x2) ∧ ((x1 * 5) + x2) < 60) <|
  some ((D (t0 + 4) ((x1 * 5) + x2)), D)
noncomputable def F_X0_spaceOf (x1 x2 x3 x4 : Int) (D : mD) : RI :=
  ck (nR (x3 - x4)) <|
  ck (0 ≤ x1 ∧ x1 < 14) <|
  bI (F_X6_rightOf 3 (D 8 x1) x2 D) fun v1 D1 =>
  ck (0 ≤ (x1 + 1) ∧ (x1 + 1) < 14) <|
  bI (F_X6_leftOf 3 (D1 8 (x1 + 1)) x2 D1) fun v2 D2 =>
  ck (nR (D2 3 9)) <|
  ck (nR (((max 0 (x3 - x4)) + v1) + v2)) <|
  some ((min (D2 3 9) (((max 0 (x3 - x4)) + v1) + v2)), D2)
noncomputable def F_X0_leastSpace_L12 (x1 x2 x3 : Int) : Nat → Int → Int → mD → RI
  | 0, _, _, _ => none
  | n + 1, x4, x5, D =>
    ck (nR x5) <|
    if 5 ≤ x5 then
      some (x4, D)
    else
      bI (F_X0_spaceOf x1 x5 x2 x3 D) fun v1 D1 =>
      ck (nR x4) <|
      ck (nR v1) <|
      F_X0_leastSpace_L12 x1 x2 x3 n (min x4 v1) (x5 + 1) D1
noncomputable def F_X0_leastSpace (x1 x2 x3 : Int) (D : mD) : RI :=
  F_X0_leastSpace_L12 x1 x2 x3 fuelN (D 3 9) 0 D
noncomputable def F_X0_noteSort (x1 : Int) (D : mD) : RI :=
  ck (nR x1) <|
  if x1 ≤ 0 then
    some (0, D)
  else
    ck (0 ≤ ((6 + x1) - 1) ∧ ((6 + x1) - 1) < 9) <|
    some (0, (pD D 23 ((6 + x1) - 1) 1))
noncomputable def F_X0_joinOnStack (x1 x2 : Int) (D : mD) : RI :=
  ck (0 ≤ x2 ∧ x2 < 40) <|
  ck (0 ≤ (x2 + 1) ∧ (x2 + 1) < 40) <|
  ck (nR x1) <|
  if x1 = 1009 then
    some (0, (pD D 24 x2 ((D 24 x2) + (D 24 (x2 + 1)))))
  else
  if x1 = 1010 then
    ck (nR (D 24 x2)) <|
    ck (nR (D 24 (x2 + 1))) <|
    some (0, (pD D 24 x2 (if (D 24 (x2 + 1)) ≤ (D 24 x2) then (0 : Int) else (1 : Int))))
  else
  if x1 = 1011 then
    ck (nR (D 24 x2)) <|
    ck (nR (D 24 (x2 + 1))) <|
    some (0, (pD D 24 x2 (if (D 24 x2) ≤ (D 24 (x2 + 1)) then (0 : Int) else (1 : Int))))
  else
  if x1 = 1012 then
    some (0, (pD D 24 x2 (bAnd (D 24 x2) (D 24 (x2 + 1)))))
  else
  some (0, (pD D 24 x2 (bOr (D 24 x2) (D 24 (x2 + 1)))))
noncomputable def F_X0_holds_L5 (x1 x2 : Int) : Nat → Int → Int → mD → RI
  | 0, _, _, _ => none
  | n + 1, x3, x4, D =>
    ck (nR x4) <|
    ck (nR x2) <|
    if x2 ≤ x4 then
      ck (nR x1) <|
      ck ((¬ (x2 ≤ x1)) → nR (D 24 0)) <|
      ck (((if x2 ≤ x1 then (1 : Int) else (if (D 24 0) = 0 then (0 : Int) else (1 : Int))) = 0 ∨ (if x2 ≤ x1 then (1 : Int) else (if (D 24 0) = 0 then (0 : Int) else (1 : Int))) = 1)) <|
      some ((if x2 ≤ x1 then (1 : Int) else (if (D 24 0) = 0 then (0 : Int) else (1 : Int))), D)
    else
      ck (0 ≤ x4 ∧ x4 < 400) <|
      ck (nR (D 16 x4)) <|
      if 1009 ≤ (D 16 x4) then
        if (D 16 x4) = 1014 then
          ck (nR x3) <|
          if x3 ≤ 0 then
            F_X0_holds_L5 x1 x2 n x3 (x4 + 1) D
          else
            ck (0 ≤ (x3 - 1) ∧ (x3 - 1) < 40) <|
            F_X0_holds_L5 x1 x2 n x3 (x4 + 1) (pD D 24 (x3 - 1) (1 - (D 24 (x3 - 1))))
        else
          ck (nR x3) <|
          if x3 ≤ 1 then
            F_X0_holds_L5 x1 x2 n x3 (x4 + 1) D
          else
            bI (F_X0_joinOnStack (D 16 x4) ((x3 - 1) - 1) D) fun _ D1 =>
            F_X0_holds_L5 x1 x2 n (x3 - 1) (x4 + 1) D1
      else
        ck (nR x3) <|
        if 40 ≤ x3 then
          F_X0_holds_L5 x1 x2 n x3 (x4 + 1) D
        else
          ck ((1000 ≤ (D 16 x4)) → 0 ≤ ((D 16 x4) - 1000) ∧ ((D 16 x4) - 1000) < 9) <|
          ck (0 ≤ x3 ∧ x3 < 40) <|
          F_X0_holds_L5 x1 x2 n (x3 + 1) (x4 + 1) (pD D 24 x3 (if 1000 ≤ (D 16 x4) then (D 23 ((D 16 x4) - 1000)) else (D 16 x4)))
noncomputable def F_X0_holds (x1 x2 : Int) (D : mD) : RI :=
  F_X0_holds_L5 x1 x2 fuelN 0 x1 D
noncomputable def F_X2_codeBegin (t0 : Nat) (x1 : Int) (D : mD) : RI :=
  ck (nR x1) <|
  ck ((¬ (x1 ≤ 0)) → 0 ≤ (x1 - 1) ∧ (x1 - 1) < 12) <|
  some ((if x1 ≤ 0 then (0 : Int) else (D (t0 + 3) (x1 - 1))), D)
noncomputable def F_X0_sumOfLines_L4 (x1 : Int) : Nat → Int → Int → mD → RI
  | 0, _, _, _ => none
  | n + 1, x2, x3, D =>
    ck (nR x3) <|
    ck (nR (D 12 0)) <|
    if (D 12 0) ≤ x3 then
      some (x2, D)
    else
      ck (0 ≤ x3 ∧ x3 < 12) <|
      ck (nR (D 13 x3)) <|
      ck (nR x1) <|
      if (D 13 x3) = x1 then
        bI (F_X2_codeBegin 12 x3 D) fun v1 D1 =>
        bI (F_X0_holds v1 (D1 15 x3) D1) fun v2 D2 =>
        ck (nR v2) <|
        F_X0_sumOfLines_L4 x1 n (if v2 = 0 then x2 else (x2 + (D2 14 x3))) (x3 + 1) D2
      else
        F_X0_sumOfLines_L4 x1 n x2 (x3 + 1) D
noncomputable def F_X0_sumOfLines (x1 : Int) (D : mD) : RI :=
  F_X0_sumOfLines_L4 x1 fuelN 0 0 D
noncomputable def F_X0_weightOf (x1 x2 x3 : Int) (D : mD) : RI :=
  ck (nR (D 12 0)) <|
  if (D 12 0) = (-1) then
    some (1, D)
  else
    ck (0 ≤ x1 ∧ x1 < 14) <|
    ck (0 ≤ (x1 + 1) ∧ (x1 + 1) < 14) <|
    bI (F_X6_rightOf 3 (D 8 x1) x2 (pD (pD (fillD D 23 9 0) 23 0 x2) 23 1 x3)) fun v1 D1 =>
    bI (F_X6_leftOf 3 (D 8 (x1 + 1)) x2 (pD D1 23 2 v1)) fun v2 D2 =>
    ck (0 ≤ (D 8 x1) ∧ (D 8 x1) < 12) <|
    bI (F_X0_noteSort ((pD D2 23 3 v2) 4 (D 8 x1)) (pD D2 23 3 v2)) fun _ D3 =>
    ck (0 ≤ (D 8 (x1 + 1)) ∧ (D 8 (x1 + 1)) < 12) <|
    bI (F_X0_noteSort (D3 4 (D 8 (x1 + 1))) D3) fun _ D4 =>
    bI (F_X0_sumOfLines 0 D4) fun v5 D5 =>
    some (v5, D5)
noncomputable def F_X0_whiteOf_L23 (x1 x2 x3 : Int) : Nat → Int → Int → mD → RI
  | 0, _, _, _ => none
  | n + 1, x4, x5, D =>
    ck (nR x5) <|
    if 5 ≤ x5 then
      ck (0 ≤ x3 ∧ x3 < 403) <|
      some (((pD D 25 x3 x4) 25 x3), (pD D 25 x3 x4))
    else
      bI (F_X0_spaceOf x1 x5 x2 (D 17 5) D) fun v1 D1 =>
      bI (F_X0_weightOf x1 x5 x2 D1) fun v2 D2 =>
      F_X0_whiteOf_L23 x1 x2 x3 n (x4 + (v1 * v2)) (x5 + 1) D2
noncomputable def F_X0_whiteOf (x1 x2 : Int) (D : mD) : RI :=
  ck (0 ≤ ((x1 * 31) + x2) ∧ ((x1 * 31) + x2) < 403) <|
  ck (nR (D 25 ((x1 * 31) + x2))) <|
  if (D 25 ((x1 * 31) + x2)) = (-1) then
    F_X0_whiteOf_L23 x1 x2 ((x1 * 31) + x2) fuelN 0 0 D
  else
    some ((D 25 ((x1 * 31) + x2)), D)
noncomputable def F_X0_fadingAt (x1 x2 : Int) (D : mD) : RI :=
  bI (F_X0_sumOfLines 1 (pD (pD (fillD D 23 9 0) 23 4 x2) 23 5 x1)) fun v1 D1 =>
  some (v1, D1)
noncomputable def F_X6_gapCount (t0 : Nat) (D : mD) : RI :=
  ck (nR (D t0 5)) <|
  some ((if (D t0 5) ≤ 1 then (0 : Int) else ((D t0 5) - 1)), D)
noncomputable def F_X0_unevenBy_j67 (a1 : Nat) (K8 : Int → Int → Int → mD → RI) (x2 x4 x5 x7 s0 : Int) (D : mD) : RI :=
  ck (nR x5) <|
  ck ((¬ (x5 = 0)) → nR x4) <|
  ck ((¬ (x5 = 0)) → nR x7) <|
  K8 s0 (if x5 = 0 then x7 else (max x4 x7)) (x5 + 1) D
noncomputable def F_X0_unevenBy_L8 (a1 : Nat) (x2 : Int) : Nat → Int → Int → Int → mD → RI
  | 0, _, _, _, _ => none
  | n + 1, x3, x4, x5, D =>
    bI (F_X6_gapCount 3 D) fun v1 D1 =>
    ck (nR x5) <|
    ck (nR v1) <|
    if v1 ≤ x5 then
      some ((x4 - x3), D1)
    else
      ck (0 ≤ x5 ∧ x5 < 13) <|
      ck (nR (100 - (x2 * x5))) <|
      ck (nR ((D1 a1 x5) * (max 0 (100 - (x2 * x5))))) <|
      ck (0 ≤ ((D1 a1 x5) * (max 0 (100 - (x2 * x5))))) <|
      bI (F_X0_whiteOf x5 (((D1 a1 x5) * (max 0 (100 - (x2 * x5)))) / 100) D1) fun v2 D2 =>
      ck ((¬ (x5 = 0)) → nR x3) <|
      ck ((¬ (x5 = 0)) → nR v2) <|
      F_X0_unevenBy_j67 a1 (F_X0_unevenBy_L8 a1 x2 n) x2 x4 x5 v2 (if x5 = 0 then v2 else (min x3 v2)) D2
noncomputable def F_X0_unevenBy (a1 : Nat) (x2 : Int) (D : mD) : RI :=
  F_X0_unevenBy_L8 a1 x2 fuelN 0 0 0 D
noncomputable def F_X0_distanceFor_L2 (x1 x2 : Int) : Nat → Int → mD → RI
  | 0, _, _ => none
  | n + 1, x3, D =>
    ck (nR x3) <|
    if 30 ≤ x3 then
      some (x3, D)
    else
      bI (F_X0_whiteOf x1 x3 D) fun v1 D1 =>
      ck (nR v1) <|
      ck (nR x2) <|
      if x2 ≤ v1 then
        some (x3, D1)
      else
        F_X0_distanceFor_L2 x1 x2 n (x3 + 1) D1
noncomputable def F_X0_distanceFor (x1 x2 : Int) (D : mD) : RI :=
  F_X0_distanceFor_L2 x1 x2 fuelN 0 D
noncomputable def F_X0_lackingBy_L29 (x1 x2 : Int) : Nat → Int → Int → mD → RI
  | 0, _, _, _ => none
  | n + 1, x3, x4, D =>
    ck (nR x4) <|
    ck (nR x2) <|
    if x2 ≤ x4 then
      some (x3, D)
    else
      bI (F_X0_widthOf x4 D) fun v1 D1 =>
      if x4 ≤ 0 then
        F_X0_lackingBy_L29 x1 x2 n (x3 + v1) (x4 + 1) D1
      else
        bI (F_X0_distanceFor (x4 - 1) x1 D1) fun v2 D2 =>
        F_X0_lackingBy_L29 x1 x2 n ((x3 + v1) + v2) (x4 + 1) D2
noncomputable def F_X0_lackingBy (x1 x2 : Int) (D : mD) : RI :=
  F_X0_lackingBy_L29 x1 x2 fuelN (((2 * (D 3 8)) + (D 17 5)) - (D 3 7)) 0 D
noncomputable def F_X0_inkAhead_L48 (K13 : Int → Int → Int → mD → RI) (x1 x3 x4 x5 x6 : Int) : Nat → Int → Int → mD → RI
  | 0, _, _, _ => none
  | n + 1, x2, x7, D =>
    ck (nR x7) <|
    if 5 ≤ x7 then
      ck (nR x4) <|
      ck ((¬ (13 ≤ x4)) → 0 ≤ x4 ∧ x4 < 13) <|
      K13 x2 (x3 + (x6 + (if 13 ≤ x4 then (0 : Int) else (D 18 x4)))) (x4 + 1) D
    else
      bI (F_X6_leftOf 3 x5 x7 D) fun v1 D1 =>
      bI (F_X6_rightOf 3 x5 x7 D1) fun v2 D2 =>
      ck (nR x1) <|
      ck (nR ((x3 + x6) - v2)) <|
      ck (nR ((min x1 ((x3 + x6) - v2)) - (x3 + v1))) <|
      F_X0_inkAhead_L48 K13 x1 x3 x4 x5 x6 n (x2 + (max 0 ((min x1 ((x3 + x6) - v2)) - (x3 + v1)))) (x7 + 1) D2
noncomputable def F_X0_inkAhead_L13 (x1 : Int) : Nat → Int → Int → Int → mD → RI
  | 0, _, _, _, _ => none
  | n + 1, x2, x3, x4, D =>
    ck (nR x4) <|
    ck (nR (D 3 5)) <|
    if (D 3 5) ≤ x4 then
      some (x2, D)
    else
      ck (0 ≤ x4 ∧ x4 < 14) <|
      bI (F_X0_widthOf x4 D) fun v1 D1 =>
      F_X0_inkAhead_L48 (F_X0_inkAhead_L13 x1 n) x1 x3 x4 (D 8 x4) v1 fuelN x2 0 D1
noncomputable def F_X0_inkAhead (x1 : Int) (D : mD) : RI :=
  F_X0_inkAhead_L13 x1 fuelN 0 (D 3 8) 0 D
noncomputable def F_X0_middleHair_L19 (x2 : Int) : Nat → Int → Int → Int → mD → RI
  | 0, _, _, _, _ => none
  | n + 1, x3, x4, x5, D =>
    ck (nR x5) <|
    if 10 < x5 then
      some (x4, D)
    else
      ck (nR (x4 - x3)) <|
      if (x4 - x3) ≤ 1 then
        some (x4, D)
      else
        ck (nR (x3 + x4)) <|
        ck (0 ≤ (x3 + x4)) <|
        bI (F_X0_inkAhead ((x3 + x4) / 2) D) fun v1 D1 =>
        ck (nR (2 * v1)) <|
        ck (nR x2) <|
        F_X0_middleHair_L19 x2 n (if (2 * v1) < x2 then ((x3 + x4) / 2) else x3) (if (2 * v1) < x2 then x4 else ((x3 + x4) / 2)) (x5 + 1) D1
noncomputable def F_X0_middleHair (D : mD) : RI :=
  bI (F_X0_endOfWord D) fun v1 D1 =>
  bI (F_X0_inkAhead v1 D1) fun v2 D2 =>
  F_X0_middleHair_L19 v2 fuelN (-1) v1 0 D2
noncomputable def F_X0_clearness (x1 x2 : Int) (D : mD) : RI :=
  bI (F_X0_fadingAt x1 x2 D) fun v1 D1 =>
  ck (nR ((D 3 10) - v1)) <|
  some ((max 0 ((D 3 10) - v1)), D1)
noncomputable def F_X0_tightestSpace_L5 (x1 : Int) : Nat → Int → Int → mD → RI
  | 0, _, _, _ => none
  | n + 1, x2, x3, D =>
    bI (F_X6_gapCount 3 D) fun v1 D1 =>
    ck (nR x3) <|
    ck (nR v1) <|
    if v1 ≤ x3 then
      some (x2, D1)
    else
      ck (0 ≤ x3 ∧ x3 < 13) <|
      bI (F_X0_leastSpace x3 (D1 18 x3) x1 D1) fun v2 D2 =>
      ck (nR x2) <|
      ck (nR v2) <|
      F_X0_tightestSpace_L5 x1 n (min x2 v2) (x3 + 1) D2
noncomputable def F_X0_tightestSpace (x1 : Int) (D : mD) : RI :=
  F_X0_tightestSpace_L5 x1 fuelN 60 0 D
noncomputable def F_X0_isRead (x1 x2 x3 : Int) (D : mD) : RI :=
  bI (F_X0_clearness x1 x2 D) fun v1 D1 =>
  ck (nR (v1 * x3)) <|
  ck (nR x1) <|
  ck (((if (v1 * x3) < x1 then (0 : Int) else (1 : Int)) = 0 ∨ (if (v1 * x3) < x1 then (0 : Int) else (1 : Int)) = 1)) <|
  some ((if (v1 * x3) < x1 then (0 : Int) else (1 : Int)), D1)
noncomputable def F_X0_farthestBy_L14 (x1 x2 : Int) : Nat → Int → mD → RI
  | 0, _, _ => none
  | n + 1, x3, D =>
    ck (nR x3) <|
    if 60 ≤ x3 then
      some (x3, D)
    else
      bI (F_X0_isRead (x3 + 1) x1 x2 D) fun v1 D1 =>
      ck (nR v1) <|
      if v1 = 0 then
        some (x3, D1)
      else
        F_X0_farthestBy_L14 x1 x2 n (x3 + 1) D1
noncomputable def F_X0_farthestBy (x1 : Int) (D : mD) : RI :=
  bI (F_X0_tightestSpace (D 17 5) D) fun v1 D1 =>
  F_X0_farthestBy_L14 x1 v1 fuelN 0 D1
noncomputable def F_X1_clear (D : mD) : RI :=
  some (0, (pD D 31 1 0))
noncomputable def F_X10_copyFrom (t0 : Nat) (t1 : Nat) (D : mD) : RI :=
  some (0, (pD (pD (cpD (pD (pD (pD (pD (pD (cpD (cpD (cpD D (t1 + 1) (t0 + 1) 13) (t1 + 2) (t0 + 2) 14) (t1 + 3) (t0 + 3) 14) t0 3 ((cpD (cpD (cpD D (t1 + 1) (t0 + 1) 13) (t1 + 2) (t0 + 2) 14) (t1 + 3) (t0 + 3) 14) t1 3)) t0 4 ((pD (cpD (cpD (cpD D (t1 + 1) (t0 + 1) 13) (t1 + 2) (t0 + 2) 14) (t1 + 3) (t0 + 3) 14) t0 3 ((cpD (cpD (cpD D (t1 + 1) (t0 + 1) 13) (t1 + 2) (t0 + 2) 14) (t1 + 3) (t0 + 3) 14) t1 3)) t1 4)) t0 5 ((pD (pD (cpD (cpD (cpD D (t1 + 1) (t0 + 1) 13) (t1 + 2) (t0 + 2) 14) (t1 + 3) (t0 + 3) 14) t0 3 ((cpD (cpD (cpD D (t1 + 1) (t0 + 1) 13) (t1 + 2) (t0 + 2) 14) (t1 + 3) (t0 + 3) 14) t1 3)) t0 4 ((pD (cpD (cpD (cpD D (t1 + 1) (t0 + 1) 13) (t1 + 2) (t0 + 2) 14) (t1 + 3) (t0 + 3) 14) t0 3 ((cpD (cpD (cpD D (t1 + 1) (t0 + 1) 13) (t1 + 2) (t0 + 2) 14) (t1 + 3) (t0 + 3) 14) t1 3)) t1 4)) t1 5)) t0 6 ((pD (pD (pD (cpD (cpD (cpD D (t1 + 1) (t0 + 1) 13) (t1 + 2) (t0 + 2) 14) (t1 + 3) (t0 + 3) 14) t0 3 ((cpD (cpD (cpD D (t1 + 1) (t0 + 1) 13) (t1 + 2) (t0 + 2) 14) (t1 + 3) (t0 + 3) 14) t1 3)) t0 4 ((pD (cpD (cpD (cpD D (t1 + 1) (t0 + 1) 13) (t1 + 2) (t0 + 2) 14) (t1 + 3) (t0 + 3) 14) t0 3 ((cpD (cpD (cpD D (t1 + 1) (t0 + 1) 13) (t1 + 2) (t0 + 2) 14) (t1 + 3) (t0 + 3) 14) t1 3)) t1 4)) t0 5 ((pD (pD (cpD (cpD (cpD D (t1 + 1) (t0 + 1) 13) (t1 + 2) (t0 + 2) 14) (t1 + 3) (t0 + 3) 14) t0 3 ((cpD (cpD (cpD D (t1 + 1) (t0 + 1) 13) (t1 + 2) (t0 + 2) 14) (t1 + 3) (t0 + 3) 14) t1 3)) t0 4 ((pD (cpD (cpD (cpD D (t1 + 1) (t0 + 1) 13) (t1 + 2) (t0 + 2) 14) (t1 + 3) (t0 + 3) 14) t0 3 ((cpD (cpD (cpD D (t1 + 1) (t0 + 1) 13) (t1 + 2) (t0 + 2) 14) (t1 + 3) (t0 + 3) 14) t1 3)) t1 4)) t1 5)) t1 6)) t0 7 ((pD (pD (pD (pD (cpD (cpD (cpD D (t1 + 1) (t0 + 1) 13) (t1 + 2) (t0 + 2) 14) (t1 + 3) (t0 + 3) 14) t0 3 ((cpD (cpD (cpD D (t1 + 1) (t0 + 1) 13) (t1 + 2) (t0 + 2) 14) (t1 + 3) (t0 + 3) 14) t1 3)) t0 4 ((pD (cpD (cpD (cpD D (t1 + 1) (t0 + 1) 13) (t1 + 2) (t0 + 2) 14) (t1 + 3) (t0 + 3) 14) t0 3 ((cpD (cpD (cpD D (t1 + 1) (t0 + 1) 13) (t1 + 2) (t0 + 2) 14) (t1 + 3) (t0 + 3) 14) t1 3)) t1 4)) t0 5 ((pD (pD (cpD (cpD (cpD D (t1 + 1) (t0 + 1) 13) (t1 + 2) (t0 + 2) 14) (t1 + 3) (t0 + 3) 14) t0 3 ((cpD (cpD (cpD D (t1 + 1) (t0 + 1) 13) (t1 + 2) (t0 + 2) 14) (t1 + 3) (t0 + 3) 14) t1 3)) t0 4 ((pD (cpD (cpD (cpD D (t1 + 1) (t0 + 1) 13) (t1 + 2) (t0 + 2) 14) (t1 + 3) (t0 + 3) 14) t0 3 ((cpD (cpD (cpD D (t1 + 1) (t0 + 1) 13) (t1 + 2) (t0 + 2) 14) (t1 + 3) (t0 + 3) 14) t1 3)) t1 4)) t1 5)) t0 6 ((pD (pD (pD (cpD (cpD (cpD D (t1 + 1) (t0 + 1) 13) (t1 + 2) (t0 + 2) 14) (t1 + 3) (t0 + 3) 14) t0 3 ((cpD (cpD (cpD D (t1 + 1) (t0 + 1) 13) (t1 + 2) (t0 + 2) 14) (t1 + 3) (t0 + 3) 14) t1 3)) t0 4 ((pD (cpD (cpD (cpD D (t1 + 1) (t0 + 1) 13) (t1 + 2) (t0 + 2) 14) (t1 + 3) (t0 + 3) 14) t0 3 ((cpD (cpD (cpD D (t1 + 1) (t0 + 1) 13) (t1 + 2) (t0 + 2) 14) (t1 + 3) (t0 + 3) 14) t1 3)) t1 4)) t0 5 ((pD (pD (cpD (cpD (cpD D (t1 + 1) (t0 + 1) 13) (t1 + 2) (t0 + 2) 14) (t1 + 3) (t0 + 3) 14) t0 3 ((cpD (cpD (cpD D (t1 + 1) (t0 + 1) 13) (t1 + 2) (t0 + 2) 14) (t1 + 3) (t0 + 3) 14) t1 3)) t0 4 ((pD (cpD (cpD (cpD D (t1 + 1) (t0 + 1) 13) (t1 + 2) (t0 + 2) 14) (t1 + 3) (t0 + 3) 14) t0 3 ((cpD (cpD (cpD D (t1 + 1) (t0 + 1) 13) (t1 + 2) (t0 + 2) 14) (t1 + 3) (t0 + 3) 14) t1 3)) t1 4)) t1 5)) t1 6)) t1 7)) (t1 + 4) (t0 + 4) 240) t0 9 ((cpD (pD (pD (pD (pD (pD (cpD (cpD (cpD D (t1 + 1) (t0 + 1) 13) (t1 + 2) (t0 + 2) 14) (t1 + 3) (t0 + 3) 14) t0 3 ((cpD (cpD (cpD D (t1 + 1) (t0 + 1) 13) (t1 + 2) (t0 + 2) 14) (t1 + 3) (t0 + 3) 14) t1 3)) t0 4 ((pD (cpD (cpD (cpD D (t1 + 1) (t0 + 1) 13) (t1 + 2) (t0 + 2) 14) (t1 + 3) (t0 + 3) 14) t0 3 ((cpD (cpD (cpD D (t1 + 1) (t0 + 1) 13) (t1 + 2) (t0 + 2) 14) (t1 + 3) (t0 + 3) 14) t1 3)) t1 4)) t0 5 ((pD (pD (cpD (cpD (cpD D (t1 + 1) (t0 + 1) 13) (t1 + 2) (t0 + 2) 14) (t1 + 3) (t0 + 3) 14) t0 3 ((cpD (cpD (cpD D (t1 + 1) (t0 + 1) 13) (t1 + 2) (t0 + 2) 14) (t1 + 3) (t0 + 3) 14) t1 3)) t0 4 ((pD (cpD (cpD (cpD D (t1 + 1) (t0 + 1) 13) (t1 + 2) (t0 + 2) 14) (t1 + 3) (t0 + 3) 14) t0 3 ((cpD (cpD (cpD D (t1 + 1) (t0 + 1) 13) (t1 + 2) (t0 + 2) 14) (t1 + 3) (t0 + 3) 14) t1 3)) t1 4)) t1 5)) t0 6 ((pD (pD (pD (cpD (cpD (cpD D (t1 + 1) (t0 + 1) 13) (t1 + 2) (t0 + 2) 14) (t1 + 3) (t0 + 3) 14) t0 3 ((cpD (cpD (cpD D (t1 + 1) (t0 + 1) 13) (t1 + 2) (t0 + 2) 14) (t1 + 3) (t0 + 3) 14) t1 3)) t0 4 ((pD (cpD (cpD (cpD D (t1 + 1) (t0 + 1) 13) (t1 + 2) (t0 + 2) 14) (t1 + 3) (t0 + 3) 14) t0 3 ((cpD (cpD (cpD D (t1 + 1) (t0 + 1) 13) (t1 + 2) (t0 + 2) 14) (t1 + 3) (t0 + 3) 14) t1 3)) t1 4)) t0 5 ((pD (pD (cpD (cpD (cpD D (t1 + 1) (t0 + 1) 13) (t1 + 2) (t0 + 2) 14) (t1 + 3) (t0 + 3) 14) t0 3 ((cpD (cpD (cpD D (t1 + 1) (t0 + 1) 13) (t1 + 2) (t0 + 2) 14) (t1 + 3) (t0 + 3) 14) t1 3)) t0 4 ((pD (cpD (cpD (cpD D (t1 + 1) (t0 + 1) 13) (t1 + 2) (t0 + 2) 14) (t1 + 3) (t0 + 3) 14) t0 3 ((cpD (cpD (cpD D (t1 + 1) (t0 + 1) 13) (t1 + 2) (t0 + 2) 14) (t1 + 3) (t0 + 3) 14) t1 3)) t1 4)) t1 5)) t1 6)) t0 7 ((pD (pD (pD (pD (cpD (cpD (cpD D (t1 + 1) (t0 + 1) 13) (t1 + 2) (t0 + 2) 14) (t1 + 3) (t0 + 3) 14) t0 3 ((cpD (cpD (cpD D (t1 + 1) (t0 + 1) 13) (t1 + 2) (t0 + 2) 14) (t1 + 3) (t0 + 3) 14) t1 3)) t0 4 ((pD (cpD (cpD (cpD D (t1 + 1) (t0 + 1) 13) (t1 + 2) (t0 + 2) 14) (t1 + 3) (t0 + 3) 14) t0 3 ((cpD (cpD (cpD D (t1 + 1) (t0 + 1) 13) (t1 + 2) (t0 + 2) 14) (t1 + 3) (t0 + 3) 14) t1 3)) t1 4)) t0 5 ((pD (pD (cpD (cpD (cpD D (t1 + 1) (t0 + 1) 13) (t1 + 2) (t0 + 2) 14) (t1 + 3) (t0 + 3) 14) t0 3 ((cpD (cpD (cpD D (t1 + 1) (t0 + 1) 13) (t1 + 2) (t0 + 2) 14) (t1 + 3) (t0 + 3) 14) t1 3)) t0 4 ((pD (cpD (cpD (cpD D (t1 + 1) (t0 + 1) 13) (t1 + 2) (t0 + 2) 14) (t1 + 3) (t0 + 3) 14) t0 3 ((cpD (cpD (cpD D (t1 + 1) (t0 + 1) 13) (t1 + 2) (t0 + 2) 14) (t1 + 3) (t0 + 3) 14) t1 3)) t1 4)) t1 5)) t0 6 ((pD (pD (pD (cpD (cpD (cpD D (t1 + 1) (t0 + 1) 13) (t1 + 2) (t0 + 2) 14) (t1 + 3) (t0 + 3) 14) t0 3 ((cpD (cpD (cpD D (t1 + 1) (t0 + 1) 13) (t1 + 2) (t0 + 2) 14) (t1 + 3) (t0 + 3) 14) t1 3)) t0 4 ((pD (cpD (cpD (cpD D (t1 + 1) (t0 + 1) 13) (t1 + 2) (t0 + 2) 14) (t1 + 3) (t0 + 3) 14) t0 3 ((cpD (cpD (cpD D (t1 + 1) (t0 + 1) 13) (t1 + 2) (t0 + 2) 14) (t1 + 3) (t0 + 3) 14) t1 3)) t1 4)) t0 5 ((pD (pD (cpD (cpD (cpD D (t1 + 1) (t0 + 1) 13) (t1 + 2) (t0 + 2) 14) (t1 + 3) (t0 + 3) 14) t0 3 ((cpD (cpD (cpD D (t1 + 1) (t0 + 1) 13) (t1 + 2) (t0 + 2) 14) (t1 + 3) (t0 + 3) 14) t1 3)) t0 4 ((pD (cpD (cpD (cpD D (t1 + 1) (t0 + 1) 13) (t1 + 2) (t0 + 2) 14) (t1 + 3) (t0 + 3) 14) t0 3 ((cpD (cpD (cpD D (t1 + 1) (t0 + 1) 13) (t1 + 2) (t0 + 2) 14) (t1 + 3) (t0 + 3) 14) t1 3)) t1 4)) t1 5)) t1 6)) t1 7)) (t1 + 4) (t0 + 4) 240) t1 9)) t0 10 ((pD (cpD (pD (pD (pD (pD (pD (cpD (cpD (cpD D (t1 + 1) (t0 + 1) 13) (t1 + 2) (t0 + 2) 14) (t1 + 3) (t0 + 3) 14) t0 3 ((cpD (cpD (cpD D (t1 + 1) (t0 + 1) 13) (t1 + 2) (t0 + 2) 14) (t1 + 3) (t0 + 3) 14) t1 3)) t0 4 ((pD (cpD (cpD (cpD D (t1 + 1) (t0 + 1) 13) (t1 + 2) (t0 + 2) 14) (t1 + 3) (t0 + 3) 14) t0 3 ((cpD (cpD (cpD D (t1 + 1) (t0 + 1) 13) (t1 + 2) (t0 + 2) 14) (t1 + 3) (t0 + 3) 14) t1 3)) t1 4)) t0 5 ((pD (pD (cpD (cpD (cpD D (t1 + 1) (t0 + 1) 13) (t1 + 2) (t0 + 2) 14) (t1 + 3) (t0 + 3) 14) t0 3 ((cpD (cpD (cpD D (t1 + 1) (t0 + 1) 13) (t1 + 2) (t0 + 2) 14) (t1 + 3) (t0 + 3) 14) t1 3)) t0 4 ((pD (cpD (cpD (cpD D (t1 + 1) (t0 + 1) 13) (t1 + 2) (t0 + 2) 14) (t1 + 3) (t0 + 3) 14) t0 3 ((cpD (cpD (cpD D (t1 + 1) (t0 + 1) 13) (t1 + 2) (t0 + 2) 14) (t1 + 3) (t0 + 3) 14) t1 3)) t1 4)) t1 5)) t0 6 ((pD (pD (pD (cpD (cpD (cpD D (t1 + 1) (t0 + 1) 13) (t1 + 2) (t0 + 2) 14) (t1 + 3) (t0 + 3) 14) t0 3 ((cpD (cpD (cpD D (t1 + 1) (t0 + 1) 13) (t1 + 2) (t0 + 2) 14) (t1 + 3) (t0 + 3) 14) t1 3)) t0 4 ((pD (cpD (cpD (cpD D (t1 + 1) (t0 + 1) 13) (t1 + 2) (t0 + 2) 14) (t1 + 3) (t0 + 3) 14) t0 3 ((cpD (cpD (cpD D (t1 + 1) (t0 + 1) 13) (t1 + 2) (t0 + 2) 14) (t1 + 3) (t0 + 3) 14) t1 3)) t1 4)) t0 5 ((pD (pD (cpD (cpD (cpD D (t1 + 1) (t0 + 1) 13) (t1 + 2) (t0 + 2) 14) (t1 + 3) (t0 + 3) 14) t0 3 ((cpD (cpD (cpD D (t1 + 1) (t0 + 1) 13) (t1 + 2) (t0 + 2) 14) (t1 + 3) (t0 + 3) 14) t1 3)) t0 4 ((pD (cpD (cpD (cpD D (t1 + 1) (t0 + 1) 13) (t1 + 2) (t0 + 2) 14) (t1 + 3) (t0 + 3) 14) t0 3 ((cpD (cpD (cpD D (t1 + 1) (t0 + 1) 13) (t1 + 2) (t0 + 2) 14) (t1 + 3) (t0 + 3) 14) t1 3)) t1 4)) t1 5)) t1 6)) t0 7 ((pD (pD (pD (pD (cpD (cpD (cpD D (t1 + 1) (t0 + 1) 13) (t1 + 2) (t0 + 2) 14) (t1 + 3) (t0 + 3) 14) t0 3 ((cpD (cpD (cpD D (t1 + 1) (t0 + 1) 13) (t1 + 2) (t0 + 2) 14) (t1 + 3) (t0 + 3) 14) t1 3)) t0 4 ((pD (cpD (cpD (cpD D (t1 + 1) (t0 + 1) 13) (t1 + 2) (t0 + 2) 14) (t1 + 3) (t0 + 3) 14) t0 3 ((cpD (cpD (cpD D (t1 + 1) (t0 + 1) 13) (t1 + 2) (t0 + 2) 14) (t1 + 3) (t0 + 3) 14) t1 3)) t1 4)) t0 5 ((pD (pD (cpD (cpD (cpD D (t1 + 1) (t0 + 1) 13) (t1 + 2) (t0 + 2) 14) (t1 + 3) (t0 + 3) 14) t0 3 ((cpD (cpD (cpD D (t1 + 1) (t0 + 1) 13) (t1 + 2) (t0 + 2) 14) (t1 + 3) (t0 + 3) 14) t1 3)) t0 4 ((pD (cpD (cpD (cpD D (t1 + 1) (t0 + 1) 13) (t1 + 2) (t0 + 2) 14) (t1 + 3) (t0 + 3) 14) t0 3 ((cpD (cpD (cpD D (t1 + 1) (t0 + 1) 13) (t1 + 2) (t0 + 2) 14) (t1 + 3) (t0 + 3) 14) t1 3)) t1 4)) t1 5)) t0 6 ((pD (pD (pD (cpD (cpD (cpD D (t1 + 1) (t0 + 1) 13) (t1 + 2) (t0 + 2) 14) (t1 + 3) (t0 + 3) 14) t0 3 ((cpD (cpD (cpD D (t1 + 1) (t0 + 1) 13) (t1 + 2) (t0 + 2) 14) (t1 + 3) (t0 + 3) 14) t1 3)) t0 4 ((pD (cpD (cpD (cpD D (t1 + 1) (t0 + 1) 13) (t1 + 2) (t0 + 2) 14) (t1 + 3) (t0 + 3) 14) t0 3 ((cpD (cpD (cpD D (t1 + 1) (t0 + 1) 13) (t1 + 2) (t0 + 2) 14) (t1 + 3) (t0 + 3) 14) t1 3)) t1 4)) t0 5 ((pD (pD (cpD (cpD (cpD D (t1 + 1) (t0 + 1) 13) (t1 + 2) (t0 + 2) 14) (t1 + 3) (t0 + 3) 14) t0 3 ((cpD (cpD (cpD D (t1 + 1) (t0 + 1) 13) (t1 + 2) (t0 + 2) 14) (t1 + 3) (t0 + 3) 14) t1 3)) t0 4 ((pD (cpD (cpD (cpD D (t1 + 1) (t0 + 1) 13) (t1 + 2) (t0 + 2) 14) (t1 + 3) (t0 + 3) 14) t0 3 ((cpD (cpD (cpD D (t1 + 1) (t0 + 1) 13) (t1 + 2) (t0 + 2) 14) (t1 + 3) (t0 + 3) 14) t1 3)) t1 4)) t1 5)) t1 6)) t1 7)) (t1 + 4) (t0 + 4) 240) t0 9 ((cpD (pD (pD (pD (pD (pD (cpD (cpD (cpD D (t1 + 1) (t0 + 1) 13) (t1 + 2) (t0 + 2) 14) (t1 + 3) (t0 + 3) 14) t0 3 ((cpD (cpD (cpD D (t1 + 1) (t0 + 1) 13) (t1 + 2) (t0 + 2) 14) (t1 + 3) (t0 + 3) 14) t1 3)) t0 4 ((pD (cpD (cpD (cpD D (t1 + 1) (t0 + 1) 13) (t1 + 2) (t0 + 2) 14) (t1 + 3) (t0 + 3) 14) t0 3 ((cpD (cpD (cpD D (t1 + 1) (t0 + 1) 13) (t1 + 2) (t0 + 2) 14) (t1 + 3) (t0 + 3) 14) t1 3)) t1 4)) t0 5 ((pD (pD (cpD (cpD (cpD D (t1 + 1) (t0 + 1) 13) (t1 + 2) (t0 + 2) 14) (t1 + 3) (t0 + 3) 14) t0 3 ((cpD (cpD (cpD D (t1 + 1) (t0 + 1) 13) (t1 + 2) (t0 + 2) 14) (t1 + 3) (t0 + 3) 14) t1 3)) t0 4 ((pD (cpD (cpD (cpD D (t1 + 1) (t0 + 1) 13) (t1 + 2) (t0 + 2) 14) (t1 + 3) (t0 + 3) 14) t0 3 ((cpD (cpD (cpD D (t1 + 1) (t0 + 1) 13) (t1 + 2) (t0 + 2) 14) (t1 + 3) (t0 + 3) 14) t1 3)) t1 4)) t1 5)) t0 6 ((pD (pD (pD (cpD (cpD (cpD D (t1 + 1) (t0 + 1) 13) (t1 + 2) (t0 + 2) 14) (t1 + 3) (t0 + 3) 14) t0 3 ((cpD (cpD (cpD D (t1 + 1) (t0 + 1) 13) (t1 + 2) (t0 + 2) 14) (t1 + 3) (t0 + 3) 14) t1 3)) t0 4 ((pD (cpD (cpD (cpD D (t1 + 1) (t0 + 1) 13) (t1 + 2) (t0 + 2) 14) (t1 + 3) (t0 + 3) 14) t0 3 ((cpD (cpD (cpD D (t1 + 1) (t0 + 1) 13) (t1 + 2) (t0 + 2) 14) (t1 + 3) (t0 + 3) 14) t1 3)) t1 4)) t0 5 ((pD (pD (cpD (cpD (cpD D (t1 + 1) (t0 + 1) 13) (t1 + 2) (t0 + 2) 14) (t1 + 3) (t0 + 3) 14) t0 3 ((cpD (cpD (cpD D (t1 + 1) (t0 + 1) 13) (t1 + 2) (t0 + 2) 14) (t1 + 3) (t0 + 3) 14) t1 3)) t0 4 ((pD (cpD (cpD (cpD D (t1 + 1) (t0 + 1) 13) (t1 + 2) (t0 + 2) 14) (t1 + 3) (t0 + 3) 14) t0 3 ((cpD (cpD (cpD D (t1 + 1) (t0 + 1) 13) (t1 + 2) (t0 + 2) 14) (t1 + 3) (t0 + 3) 14) t1 3)) t1 4)) t1 5)) t1 6)) t0 7 ((pD (pD (pD (pD (cpD (cpD (cpD D (t1 + 1) (t0 + 1) 13) (t1 + 2) (t0 + 2) 14) (t1 + 3) (t0 + 3) 14) t0 3 ((cpD (cpD (cpD D (t1 + 1) (t0 + 1) 13) (t1 + 2) (t0 + 2) 14) (t1 + 3) (t0 + 3) 14) t1 3)) t0 4 ((pD (cpD (cpD (cpD D (t1 + 1) (t0 + 1) 13) (t1 + 2) (t0 + 2) 14) (t1 + 3) (t0 + 3) 14) t0 3 ((cpD (cpD (cpD D (t1 + 1) (t0 + 1) 13) (t1 + 2) (t0 + 2) 14) (t1 + 3) (t0 + 3) 14) t1 3)) t1 4)) t0 5 ((pD (pD (cpD (cpD (cpD D (t1 + 1) (t0 + 1) 13) (t1 + 2) (t0 + 2) 14) (t1 + 3) (t0 + 3) 14) t0 3 ((cpD (cpD (cpD D (t1 + 1) (t0 + 1) 13) (t1 + 2) (t0 + 2) 14) (t1 + 3) (t0 + 3) 14) t1 3)) t0 4 ((pD (cpD (cpD (cpD D (t1 + 1) (t0 + 1) 13) (t1 + 2) (t0 + 2) 14) (t1 + 3) (t0 + 3) 14) t0 3 ((cpD (cpD (cpD D (t1 + 1) (t0 + 1) 13) (t1 + 2) (t0 + 2) 14) (t1 + 3) (t0 + 3) 14) t1 3)) t1 4)) t1 5)) t0 6 ((pD (pD (pD (cpD (cpD (cpD D (t1 + 1) (t0 + 1) 13) (t1 + 2) (t0 + 2) 14) (t1 + 3) (t0 + 3) 14) t0 3 ((cpD (cpD (cpD D (t1 + 1) (t0 + 1) 13) (t1 + 2) (t0 + 2) 14) (t1 + 3) (t0 + 3) 14) t1 3)) t0 4 ((pD (cpD (cpD (cpD D (t1 + 1) (t0 + 1) 13) (t1 + 2) (t0 + 2) 14) (t1 + 3) (t0 + 3) 14) t0 3 ((cpD (cpD (cpD D (t1 + 1) (t0 + 1) 13) (t1 + 2) (t0 + 2) 14) (t1 + 3) (t0 + 3) 14) t1 3)) t1 4)) t0 5 ((pD (pD (cpD (cpD (cpD D (t1 + 1) (t0 + 1) 13) (t1 + 2) (t0 + 2) 14) (t1 + 3) (t0 + 3) 14) t0 3 ((cpD (cpD (cpD D (t1 + 1) (t0 + 1) 13) (t1 + 2) (t0 + 2) 14) (t1 + 3) (t0 + 3) 14) t1 3)) t0 4 ((pD (cpD (cpD (cpD D (t1 + 1) (t0 + 1) 13) (t1 + 2) (t0 + 2) 14) (t1 + 3) (t0 + 3) 14) t0 3 ((cpD (cpD (cpD D (t1 + 1) (t0 + 1) 13) (t1 + 2) (t0 + 2) 14) (t1 + 3) (t0 + 3) 14) t1 3)) t1 4)) t1 5)) t1 6)) t1 7)) (t1 + 4) (t0 + 4) 240) t1 9)) t1 10)))
noncomputable def F_X1_remember (t1 : Nat) (D : mD) : RI :=
  ck (0 ≤ (D 31 2) ∧ (D 31 2) < 12) <|
  bI (F_X10_copyFrom (33 + 5 * ((D 31 2)).toNat) t1 D) fun _ D1 =>
  ck (nR ((D1 31 2) + 1)) <|
  ck (0 ≤ ((D1 31 2) + 1)) <|
  ck (nR (((pD D1 31 2 (((D1 31 2) + 1) % 12)) 31 1) + 1)) <|
  some (0, (pD (pD D1 31 2 (((D1 31 2) + 1) % 12)) 31 1 (min 12 (((pD D1 31 2 (((D1 31 2) + 1) % 12)) 31 1) + 1))))
noncomputable def F_X1_recall (t1 : Nat) (D : mD) : RI :=
  ck (nR (D 31 1)) <|
  if (D 31 1) = 0 then
    some (0, D)
  else
    ck (nR (((D 31 2) + 12) - 1)) <|
    ck (0 ≤ (((D 31 2) + 12) - 1)) <|
    ck (0 ≤ ((pD (pD D 31 2 ((((D 31 2) + 12) - 1) % 12)) 31 1 (((pD D 31 2 ((((D 31 2) + 12) - 1) % 12)) 31 1) - 1)) 31 2) ∧ ((pD (pD D 31 2 ((((D 31 2) + 12) - 1) % 12)) 31 1 (((pD D 31 2 ((((D 31 2) + 12) - 1) % 12)) 31 1) - 1)) 31 2) < 12) <|
    bI (F_X10_copyFrom t1 (33 + 5 * (((pD (pD D 31 2 ((((D 31 2) + 12) - 1) % 12)) 31 1 (((pD D 31 2 ((((D 31 2) + 12) - 1) % 12)) 31 1) - 1)) 31 2)).toNat) (pD (pD D 31 2 ((((D 31 2) + 12) - 1) % 12)) 31 1 (((pD D 31 2 ((((D 31 2) + 12) - 1) % 12)) 31 1) - 1))) fun _ D1 =>
    some (1, D1)
noncomputable def F_X2_copyFrom (t0 : Nat) (t1 : Nat) (D : mD) : RI :=
  some (0, (pD (cpD (cpD (cpD (cpD (pD D t0 0 (D t1 0)) (t1 + 1) (t0 + 1) 12) (t1 + 2) (t0 + 2) 12) (t1 + 3) (t0 + 3) 12) (t1 + 4) (t0 + 4) 400) t0 5 ((cpD (cpD (cpD (cpD (pD D t0 0 (D t1 0)) (t1 + 1) (t0 + 1) 12) (t1 + 2) (t0 + 2) 12) (t1 + 3) (t0 + 3) 12) (t1 + 4) (t0 + 4) 400) t1 5)))
noncomputable def F_X2_begin (t0 : Nat) (D : mD) : RI :=
  some (0, (pD (pD D t0 0 0) t0 5 0))
noncomputable def F_X2_put (t0 : Nat) (x1 : Int) (D : mD) : RI :=
  ck (nR (D t0 5)) <|
  if 400 ≤ (D t0 5) then
    some (0, D)
  else
    ck (0 ≤ (D t0 5) ∧ (D t0 5) < 400) <|
    some (0, (pD (pD D (t0 + 4) (D t0 5) x1) t0 5 (((pD D (t0 + 4) (D t0 5) x1) t0 5) + 1)))
noncomputable def F_X2_endLine (t0 : Nat) (x1 x2 : Int) (D : mD) : RI :=
  ck (nR (D t0 0)) <|
  if 12 ≤ (D t0 0) then
    some (0, D)
  else
    ck (0 ≤ (D t0 0) ∧ (D t0 0) < 12) <|
    ck (0 ≤ ((pD D (t0 + 1) (D t0 0) x1) t0 0) ∧ ((pD D (t0 + 1) (D t0 0) x1) t0 0) < 12) <|
    ck (0 ≤ ((pD (pD D (t0 + 1) (D t0 0) x1) (t0 + 2) ((pD D (t0 + 1) (D t0 0) x1) t0 0) x2) t0 0) ∧ ((pD (pD D (t0 + 1) (D t0 0) x1) (t0 + 2) ((pD D (t0 + 1) (D t0 0) x1) t0 0) x2) t0 0) < 12) <|
    some (0, (pD (pD (pD (pD D (t0 + 1) (D t0 0) x1) (t0 + 2) ((pD D (t0 + 1) (D t0 0) x1) t0 0) x2) (t0 + 3) ((pD (pD D (t0 + 1) (D t0 0) x1) (t0 + 2) ((pD D (t0 + 1) (D t0 0) x1) t0 0) x2) t0 0) ((pD (pD D (t0 + 1) (D t0 0) x1) (t0 + 2) ((pD D (t0 + 1) (D t0 0) x1) t0 0) x2) t0 5)) t0 0 (((pD (pD (pD D (t0 + 1) (D t0 0) x1) (t0 + 2) ((pD D (t0 + 1) (D t0 0) x1) t0 0) x2) (t0 + 3) ((pD (pD D (t0 + 1) (D t0 0) x1) (t0 + 2) ((pD D (t0 + 1) (D t0 0) x1) t0 0) x2) t0 0) ((pD (pD D (t0 + 1) (D t0 0) x1) (t0 + 2) ((pD D (t0 + 1) (D t0 0) x1) t0 0) x2) t0 5)) t0 0) + 1)))
noncomputable def F_X8_isWord_L28 (s1_ : Nat) : Nat → Int → mD → RI
  | 0, _, _ => none
  | n + 1, x2, D =>
    ck (nR x2) <|
    ck (nR (sLen s1_)) <|
    if (sLen s1_) ≤ x2 then
      some (1, D)
    else
      ck (0 ≤ ((D 1 3) + x2) ∧ ((D 1 3) + x2) < 400) <|
      ck (0 ≤ x2 ∧ x2 < sLen s1_) <|
      ck (nR (D 2 ((D 1 3) + x2))) <|
      ck (nR (sAt s1_ x2)) <|
      if (D 2 ((D 1 3) + x2)) = (sAt s1_ x2) then
        F_X8_isWord_L28 s1_ n (x2 + 1) D
      else
        some (0, D)
noncomputable def F_X8_isWord (s1_ : Nat) (D : mD) : RI :=
  ck (nR (D 1 2)) <|
  if (D 1 2) = 1 then
    ck (nR ((D 1 4) - (D 1 3))) <|
    ck (nR (sLen s1_)) <|
    if ((D 1 4) - (D 1 3)) = (sLen s1_) then
      F_X8_isWord_L28 s1_ fuelN 0 D
    else
      some (0, D)
  else
    some (0, D)
noncomputable def F_X8_kindOf_j14 (x0 : Int) (D : mD) : RI :=
  ck (nR x0) <|
  some ((if x0 < 48 then (3 : Int) else (if 57 < x0 then (3 : Int) else (2 : Int))), D)
noncomputable def F_X8_kindOf (x0 : Int) (D : mD) : RI :=
  ck (nR x0) <|
  if x0 < 97 then
    F_X8_kindOf_j14 x0 D
  else
    if 122 < x0 then
      F_X8_kindOf_j14 x0 D
    else
      some (1, D)
noncomputable def F_X8_step_L74 : Nat → Int → mD → RI
  | 0, _, _ => none
  | n + 1, x1, D =>
    ck (nR x1) <|
    ck (nR (D 1 1)) <|
    if (D 1 1) ≤ x1 then
      some (0, (pD D 1 4 x1))
    else
      ck (0 ≤ x1 ∧ x1 < 400) <|
      bI (F_X8_kindOf (D 2 x1) D) fun v1 D1 =>
      ck (nR v1) <|
      ck (nR (D1 1 2)) <|
      if v1 = (D1 1 2) then
        F_X8_step_L74 n (x1 + 1) D1
      else
        some (0, (pD D1 1 4 x1))
noncomputable def F_X8_step_j57 (x1 s1 : Int) (D : mD) : RI :=
  ck (nR ((pD D 1 2 s1) 1 2)) <|
  if ((pD D 1 2 s1) 1 2) = 3 then
    some (0, (pD (pD D 1 2 s1) 1 4 (x1 + 1)))
  else
    F_X8_step_L74 fuelN x1 (pD D 1 2 s1)
noncomputable def F_X8_step_j30 (x1 : Int) (D : mD) : RI :=
  ck (nR x1) <|
  ck (nR ((pD D 1 3 x1) 1 1)) <|
  if ((pD D 1 3 x1) 1 1) ≤ x1 then
    F_X8_step_j57 x1 0 (pD D 1 3 x1)
  else
    ck (0 ≤ x1 ∧ x1 < 400) <|
    bI (F_X8_kindOf ((pD D 1 3 x1) 2 x1) (pD D 1 3 x1)) fun v1 D1 =>
    F_X8_step_j57 x1 v1 D1
noncomputable def F_X8_step_L5 : Nat → Int → mD → RI
  | 0, _, _ => none
  | n + 1, x1, D =>
    ck (nR x1) <|
    ck (nR (D 1 1)) <|
    if (D 1 1) ≤ x1 then
      F_X8_step_j30 x1 D
    else
      ck (0 ≤ x1 ∧ x1 < 400) <|
      ck (nR (D 2 x1)) <|
      if (D 2 x1) = 32 then
        F_X8_step_L5 n (x1 + 1) D
      else
        F_X8_step_j30 x1 D
noncomputable def F_X8_step (D : mD) : RI :=
  F_X8_step_L5 fuelN (D 1 4) D
noncomputable def F_X8_takesWord (s1_ : Nat) (D : mD) : RI :=
  bI (F_X8_isWord s1_ D) fun v1 D1 =>
  ck (nR v1) <|
  if v1 = 0 then
    some (0, D1)
  else
    bI (F_X8_step D1) fun _ D2 =>
    some (1, D2)
noncomputable def F_X3_readsCondition_j67 (f_readsAtom : Int → mD → RI) (K7 : Int → Int → Int → mD → RI) (x1 x2 x4 : Int) (D : mD) : RI :=
  bI (F_X8_takesWord 14 D) fun v1 D1 =>
  ck (nR v1) <|
  if v1 = 0 then
    some (1, D1)
  else
    K7 x2 v1 (x4 + 1) D1
noncomputable def F_X3_readsCondition_j39 (f_readsAtom : Int → mD → RI) (K7 : Int → Int → Int → mD → RI) (x1 x3 x4 : Int) (D : mD) : RI :=
  bI (F_X8_takesWord 13 D) fun v1 D1 =>
  ck (nR v1) <|
  if v1 = 0 then
    ck (nR x3) <|
    if x3 = 0 then
      F_X3_readsCondition_j67 f_readsAtom (K7) x1 v1 x4 D1
    else
      bI (F_X2_put 104 1013 D1) fun _ D2 =>
      F_X3_readsCondition_j67 f_readsAtom (K7) x1 v1 x4 D2
  else
    K7 v1 x3 (x4 + 1) D1
noncomputable def F_X3_readsCondition_L7 (f_readsAtom : Int → mD → RI) (x1 : Int) : Nat → Int → Int → Int → mD → RI
  | 0, _, _, _, _ => none
  | n + 1, x2, x3, x4, D =>
    ck (nR x4) <|
    if 400 ≤ x4 then
      some (0, D)
    else
      bI (f_readsAtom x1 D) fun v1 D1 =>
      ck (nR v1) <|
      if v1 = 0 then
        some (0, D1)
      else
        ck (nR x2) <|
        if x2 = 0 then
          F_X3_readsCondition_j39 f_readsAtom (F_X3_readsCondition_L7 f_readsAtom x1 n) x1 x3 x4 D1
        else
          bI (F_X2_put 104 1012 D1) fun _ D2 =>
          F_X3_readsCondition_j39 f_readsAtom (F_X3_readsCondition_L7 f_readsAtom x1 n) x1 x3 x4 D2
noncomputable def F_X3_readsCondition (f_readsAtom : Int → mD → RI) (x1 : Int) (D : mD) : RI :=
  F_X3_readsCondition_L7 f_readsAtom x1 fuelN 0 0 0 D
noncomputable def F_X8_numberWithin_L31 (x1 x2 : Int) : Nat → Int → Int → mD → RI
  | 0, _, _, _ => none
  | n + 1, x3, x4, D =>
    ck (nR x4) <|
    ck (nR (D 1 4)) <|
    if (D 1 4) ≤ x4 then
      ck (nR x3) <|
      ck (nR x1) <|
      ck ((¬ (x3 < x1)) → nR x2) <|
      some ((if x3 < x1 then (-1 : Int) else (if x3 ≤ x2 then x3 else (-1 : Int))), D)
    else
      ck (0 ≤ x4 ∧ x4 < 400) <|
      F_X8_numberWithin_L31 x1 x2 n (((x3 * 10) + (D 2 x4)) - 48) (x4 + 1) D
noncomputable def F_X8_numberWithin (x1 x2 : Int) (D : mD) : RI :=
  ck (nR (D 1 2)) <|
  if (D 1 2) = 2 then
    ck (nR ((D 1 4) - (D 1 3))) <|
    if ((D 1 4) - (D 1 3)) ≤ 3 then
      F_X8_numberWithin_L31 x1 x2 fuelN 0 (D 1 3) D
    else
      some ((-1), D)
  else
    some ((-1), D)
noncomputable def F_X3_partHere (D : mD) : RI :=
  bI (F_X8_isWord 7 D) fun v1 D1 =>
  ck (nR v1) <|
  if v1 = 0 then
    bI (F_X8_isWord 8 D1) fun v2 D2 =>
    ck (nR v2) <|
    if v2 = 0 then
      bI (F_X8_isWord 9 D2) fun v3 D3 =>
      ck (nR v3) <|
      if v3 = 0 then
        bI (F_X8_isWord 10 D3) fun v4 D4 =>
        ck (nR v4) <|
        if v4 = 0 then
          bI (F_X8_isWord 11 D4) fun v5 D5 =>
          ck (nR v5) <|
          if v5 = 0 then
            bI (F_X8_isWord 12 D5) fun v6 D6 =>
            ck (nR v6) <|
            if v6 = 0 then
              bI (F_X8_numberWithin 0 999 D6) fun v7 D7 =>
              some (v7, D7)
            else
              some (1005, D6)
          else
            some (1004, D5)
        else
          some (1003, D4)
      else
        some (1002, D3)
    else
      some (1001, D2)
  else
    some (1000, D1)
noncomputable def F_X8_isMark (x1 : Int) (D : mD) : RI :=
  ck (nR (D 1 2)) <|
  ck (((D 1 2) = 3) → 0 ≤ (D 1 3) ∧ (D 1 3) < 400) <|
  ck (((D 1 2) = 3) → nR (D 2 (D 1 3))) <|
  ck (((D 1 2) = 3) → nR x1) <|
  ck (((if (D 1 2) = 3 then (if (D 2 (D 1 3)) = x1 then (1 : Int) else (0 : Int)) else (0 : Int)) = 0 ∨ (if (D 1 2) = 3 then (if (D 2 (D 1 3)) = x1 then (1 : Int) else (0 : Int)) else (0 : Int)) = 1)) <|
  some ((if (D 1 2) = 3 then (if (D 2 (D 1 3)) = x1 then (1 : Int) else (0 : Int)) else (0 : Int)), D)
noncomputable def F_X3_readsSum_j43 (K2 : Int → mD → RI) (x1 : Int) (D : mD) : RI :=
  bI (F_X8_step D) fun _ D1 =>
  bI (F_X8_isMark 43 D1) fun v2 D2 =>
  ck (nR v2) <|
  if v2 = 0 then
    some (1, D2)
  else
    bI (F_X8_step D2) fun _ D3 =>
    K2 (x1 + 1) D3
noncomputable def F_X3_readsSum_L2 : Nat → Int → mD → RI
  | 0, _, _ => none
  | n + 1, x1, D =>
    ck (nR x1) <|
    if 400 ≤ x1 then
      some (0, D)
    else
      bI (F_X3_partHere D) fun v1 D1 =>
      ck (nR v1) <|
      if v1 = (-1) then
        some (0, D1)
      else
        bI (F_X2_put 104 v1 D1) fun _ D2 =>
        if x1 ≤ 0 then
          F_X3_readsSum_j43 (F_X3_readsSum_L2 n) x1 D2
        else
          bI (F_X2_put 104 1009 D2) fun _ D3 =>
          F_X3_readsSum_j43 (F_X3_readsSum_L2 n) x1 D3
noncomputable def F_X3_readsSum (D : mD) : RI :=
  F_X3_readsSum_L2 fuelN 0 D
noncomputable def F_X3_sortHere (D : mD) : RI :=
  bI (F_X8_isWord 4 D) fun v1 D1 =>
  ck (nR v1) <|
  if v1 = 0 then
    bI (F_X8_isWord 5 D1) fun v2 D2 =>
    ck (nR v2) <|
    if v2 = 0 then
      bI (F_X8_isWord 6 D2) fun v3 D3 =>
      ck (nR v3) <|
      some ((if v3 = 0 then (-1 : Int) else (8 : Int)), D3)
    else
      some (7, D2)
  else
    some (6, D1)
noncomputable def F_X3_readsAtom_j26 (f_readsDeeper : Int → Int → mD → RI) (x1 x2 : Int) (D : mD) : RI :=
  ck (nR x1) <|
  if 6 ≤ x1 then
    some (0, D)
  else
    bI (f_readsDeeper x2 (x1 + 1) D) fun v1 D1 =>
    ck (nR v1) <|
    ck (((if v1 = 0 then (0 : Int) else (1 : Int)) = 0 ∨ (if v1 = 0 then (0 : Int) else (1 : Int)) = 1)) <|
    some ((if v1 = 0 then (0 : Int) else (1 : Int)), D1)
noncomputable def F_X3_readsAtom_j153 (f_readsDeeper : Int → Int → mD → RI) (s1 : Int) (D : mD) : RI :=
  bI (F_X2_put 104 s1 D) fun _ D1 =>
  some (1, D1)
noncomputable def F_X3_readsAtom_j119 (f_readsDeeper : Int → Int → mD → RI) (x4 : Int) (D : mD) : RI :=
  bI (F_X8_step D) fun _ D1 =>
  bI (F_X3_readsSum D1) fun v2 D2 =>
  ck (nR v2) <|
  if v2 = 0 then
    some (0, D2)
  else
    ck (nR x4) <|
    F_X3_readsAtom_j153 f_readsDeeper (if x4 = 0 then (1011 : Int) else (1010 : Int)) D2
noncomputable def F_X3_readsAtom (f_readsDeeper : Int → Int → mD → RI) (x1 : Int) (D : mD) : RI :=
  bI (F_X8_isWord 3 D) fun v1 D1 =>
  ck (nR v1) <|
  if v1 = 0 then
    bI (F_X8_isMark 40 D1) fun v2 D2 =>
    ck (nR v2) <|
    if v2 = 0 then
      bI (F_X3_sortHere D2) fun v3 D3 =>
      ck (nR v3) <|
      if v3 = (-1) then
        bI (F_X3_readsSum D3) fun v4 D4 =>
        ck (nR v4) <|
        if v4 = 0 then
          some (0, D4)
        else
          bI (F_X8_isMark 60 D4) fun v5 D5 =>
          ck (nR v5) <|
          if v5 = 0 then
            bI (F_X8_isMark 62 D5) fun v6 D6 =>
            ck (nR v6) <|
            if v6 = 0 then
              some (0, D6)
            else
              F_X3_readsAtom_j119 f_readsDeeper v5 D6
          else
            F_X3_readsAtom_j119 f_readsDeeper v5 D5
      else
        bI (F_X2_put 104 (1000 + v3) D3) fun _ D7 =>
        bI (F_X8_step D7) fun _ D8 =>
        some (1, D8)
    else
      F_X3_readsAtom_j26 f_readsDeeper x1 v1 D2
  else
    F_X3_readsAtom_j26 f_readsDeeper x1 v1 D1
noncomputable def F_X3_readsDeeper (f_readsAtom : Int → mD → RI) (f_readsCondition : Int → mD → RI) (x1 x2 : Int) (D : mD) : RI :=
  bI (F_X8_step D) fun _ D1 =>
  ck (nR x1) <|
  if x1 = 0 then
    bI (f_readsCondition x2 D1) fun v2 D2 =>
    ck (nR v2) <|
    if v2 = 0 then
      some (0, D2)
    else
      bI (F_X8_isMark 41 D2) fun v3 D3 =>
      ck (nR v3) <|
      if v3 = 0 then
        some (0, D3)
      else
        bI (F_X8_step D3) fun _ D4 =>
        some (1, D4)
  else
    bI (f_readsAtom x2 D1) fun v5 D5 =>
    bI (F_X2_put 104 1014 D5) fun _ D6 =>
    ck ((v5 = 0 ∨ v5 = 1)) <|
    some (v5, D6)
noncomputable def F_X9_readNumber_L (x1 x2 : Int) (D : mD) : RI :=
  bI (F_X8_numberWithin x1 x2 D) fun v1 D1 =>
  ck (nR v1) <|
  if v1 = (-1) then
    some (v1, D1)
  else
    bI (F_X8_step D1) fun _ D2 =>
    some (v1, D2)
noncomputable def GA3 : Nat → Int → mD → RI
  | 0 => fun _ _ => none
  | n + 1 => F_X3_readsAtom (F_X3_readsDeeper (GA3 n) (F_X3_readsCondition (GA3 n)))
noncomputable def G_X3_readsCondition : Int → mD → RI := F_X3_readsCondition (GA3 8)
noncomputable def F_X3_readsLine_j94 (x2 s1 : Int) (D : mD) : RI :=
  bI (F_X2_endLine 104 s1 x2 D) fun _ D1 =>
  some (1, D1)
noncomputable def F_X3_readsLine_j81 (x1 x2 : Int) (D : mD) : RI :=
  ck (nR x1) <|
  F_X3_readsLine_j94 x2 (if x1 = 0 then (0 : Int) else (1 : Int)) D
noncomputable def F_X3_readsLine_j48 (x1 s1 s2 : Int) (D : mD) : RI :=
  bI (F_X9_readNumber_L s1 s2 D) fun v1 D1 =>
  ck (nR v1) <|
  if v1 = (-1) then
    some (0, D1)
  else
    bI (F_X8_takesWord 2 D1) fun v2 D2 =>
    ck (nR v2) <|
    if v2 = 0 then
      F_X3_readsLine_j81 x1 v1 D2
    else
      bI (G_X3_readsCondition 0 D2) fun v3 D3 =>
      ck (nR v3) <|
      if v3 = 0 then
        some (0, D3)
      else
        F_X3_readsLine_j81 x1 v1 D3
noncomputable def F_X3_readsLine_j28 (x1 : Int) (D : mD) : RI :=
  bI (F_X8_step D) fun _ D1 =>
  ck (nR x1) <|
  F_X3_readsLine_j48 x1 0 (if x1 = 0 then (9 : Int) else (99 : Int)) D1
noncomputable def F_X3_readsLine (D : mD) : RI :=
  bI (F_X8_isWord 0 D) fun v1 D1 =>
  ck (nR v1) <|
  if v1 = 0 then
    bI (F_X8_isWord 1 D1) fun v2 D2 =>
    ck (nR v2) <|
    if v2 = 0 then
      some (0, D2)
    else
      F_X3_readsLine_j28 v1 D2
  else
    F_X3_readsLine_j28 v1 D1
noncomputable def F_X4_fillFrom_L109 (K67 : Int → mD → RI) (x1 x2 x4 x5 x6 x7 : Int) : Nat → Int → Int → mD → RI
  | 0, _, _, _ => none
  | n + 1, x8, x9, D =>
    ck (nR x9) <|
    ck (nR x7) <|
    if x7 < x9 then
      ck (0 ≤ ((x1 * 133) + x5) ∧ ((x1 * 133) + x5) < 1862) <|
      K67 (x5 + 1) (pD D 27 ((x1 * 133) + x5) x8)
    else
      ck (0 ≤ (x6 - x9) ∧ (x6 - x9) < 1862) <|
      ck (0 ≤ x9 ∧ x9 < 31) <|
      ck (nR ((D 27 (x6 - x9)) + (D 28 x9))) <|
      ck (nR x8) <|
      F_X4_fillFrom_L109 K67 x1 x2 x4 x5 x6 x7 n (if x8 ≤ ((D 27 (x6 - x9)) + (D 28 x9)) then x8 else ((D 27 (x6 - x9)) + (D 28 x9))) (x9 + 1) D
noncomputable def F_X4_fillFrom_L67 (x1 x2 x4 : Int) : Nat → Int → mD → RI
  | 0, _, _ => none
  | n + 1, x5, D =>
    ck (nR x5) <|
    ck (nR x4) <|
    if x4 < x5 then
      some (0, D)
    else
      ck (nR (x5 - x2)) <|
      F_X4_fillFrom_L109 (F_X4_fillFrom_L67 x1 x2 x4 n) x1 x2 x4 x5 (((x1 + 1) * 133) + x5) (min 30 x5) fuelN 1000000000 (max 0 (x5 - x2)) D
noncomputable def F_X4_fillFrom_L2 (x1 x2 : Int) : Nat → Int → mD → RI
  | 0, _, _ => none
  | n + 1, x3, D =>
    ck (nR x3) <|
    if 30 < x3 then
      ck (nR ((D 26 5) - (30 * x1))) <|
      ck (nR (D 26 5)) <|
      ck (nR (x2 + 30)) <|
      F_X4_fillFrom_L67 x1 x2 (min (D 26 5) (x2 + 30)) fuelN (max 0 ((D 26 5) - (30 * x1))) D
    else
      bI (F_X0_whiteOf x1 x3 D) fun v1 D1 =>
      ck (nR (v1 - (D1 26 4))) <|
      ck (0 ≤ x3 ∧ x3 < 31) <|
      F_X4_fillFrom_L2 x1 x2 n (x3 + 1) (pD D1 28 x3 (Int.natAbs (v1 - (D1 26 4)) : Int))
noncomputable def F_X4_fillFrom (x1 x2 : Int) (D : mD) : RI :=
  F_X4_fillFrom_L2 x1 x2 fuelN 0 D
noncomputable def F_X4_leastOff_L81 (x3 : Int) : Nat → Int → mD → RI
  | 0, _, _ => none
  | n + 1, x4, D =>
    ck (nR x4) <|
    if x4 < 0 then
      ck (0 ≤ (D 26 5) ∧ (D 26 5) < 1862) <|
      some ((D 27 (D 26 5)), D)
    else
      bI (F_X4_fillFrom x4 (30 * ((x3 - x4) - 1)) D) fun _ D1 =>
      F_X4_leastOff_L81 x3 n (x4 - 1) D1
noncomputable def F_X4_leastOff (x1 x2 : Int) (D : mD) : RI :=
  bI (F_X6_gapCount 3 D) fun v1 D1 =>
  bI (F_X0_freeHairs x2 (pD D1 26 4 x1)) fun v2 D2 =>
  ck (nR ((pD D2 26 5 v2) 3 5)) <|
  if ((pD D2 26 5 v2) 3 5) = 0 then
    some ((-1), (pD D2 26 5 v2))
  else
    ck (nR ((pD D2 26 5 v2) 26 5)) <|
    if ((pD D2 26 5 v2) 26 5) < 0 then
      some ((-1), (pD D2 26 5 v2))
    else
      ck (nR (30 * v1)) <|
      if (30 * v1) < ((pD D2 26 5 v2) 26 5) then
        some ((-1), (pD D2 26 5 v2))
      else
        if ((pD D2 26 5 v2) 26 5) < 133 then
          ck (0 ≤ (v1 * 133) ∧ (v1 * 133) < 1862) <|
          F_X4_leastOff_L81 v1 fuelN (v1 - 1) (pD (pD D2 26 5 v2) 27 (v1 * 133) 0)
        else
          some ((-1), (pD D2 26 5 v2))
noncomputable def F_X4_firstDistance_L46 (x1 x2 x4 x5 : Int) : Nat → Int → mD → RI
  | 0, _, _ => none
  | n + 1, x6, D =>
    ck (nR x6) <|
    ck (nR x4) <|
    if x4 ≤ x6 then
      some (x4, D)
    else
      ck (0 ≤ ((((x1 + 1) * 133) + x2) - x6) ∧ ((((x1 + 1) * 133) + x2) - x6) < 1862) <|
      bI (F_X0_whiteOf x1 x6 D) fun v1 D1 =>
      ck (nR (v1 - (D1 26 4))) <|
      ck (nR ((D 27 ((((x1 + 1) * 133) + x2) - x6)) + (Int.natAbs (v1 - (D1 26 4)) : Int))) <|
      ck (nR x5) <|
      if ((D 27 ((((x1 + 1) * 133) + x2) - x6)) + (Int.natAbs (v1 - (D1 26 4)) : Int)) = x5 then
        some (x6, D1)
      else
        F_X4_firstDistance_L46 x1 x2 x4 x5 n (x6 + 1) D1
noncomputable def F_X4_firstDistance (x1 x2 : Int) (D : mD) : RI :=
  bI (F_X6_gapCount 3 D) fun v1 D1 =>
  ck (nR x2) <|
  ck (0 ≤ ((x1 * 133) + x2) ∧ ((x1 * 133) + x2) < 1862) <|
  ck (nR (x2 - (30 * ((v1 - x1) - 1)))) <|
  F_X4_firstDistance_L46 x1 x2 (min 30 x2) (D1 27 ((x1 * 133) + x2)) fuelN (max 0 (x2 - (30 * ((v1 - x1) - 1)))) D1
noncomputable def F_X4_putDistances_L7 (a1 : Nat) : Nat → Int → Int → mD → RI
  | 0, _, _, _ => none
  | n + 1, x2, x3, D =>
    bI (F_X6_gapCount 3 D) fun v1 D1 =>
    ck (nR x3) <|
    ck (nR v1) <|
    if v1 ≤ x3 then
      some (0, D1)
    else
      bI (F_X4_firstDistance x3 x2 D1) fun v2 D2 =>
      ck (0 ≤ x3 ∧ x3 < 13) <|
      F_X4_putDistances_L7 a1 n (x2 - ((pD D2 a1 x3 v2) a1 x3)) (x3 + 1) (pD D2 a1 x3 v2)
noncomputable def F_X4_putDistances (a1 : Nat) (D : mD) : RI :=
  F_X4_putDistances_L7 a1 fuelN (D 26 5) 0 D
noncomputable def F_X4_distanceOf_L10 (x1 : Int) : Nat → Int → Int → Int → mD → RI
  | 0, _, _, _, _ => none
  | n + 1, x2, x3, x4, D =>
    ck (nR x4) <|
    ck (nR x1) <|
    if x1 < x4 then
      some (x3, D)
    else
      bI (F_X4_firstDistance x4 x2 D) fun v1 D1 =>
      F_X4_distanceOf_L10 x1 n (x2 - v1) v1 (x4 + 1) D1
noncomputable def F_X4_distanceOf (x1 : Int) (D : mD) : RI :=
  F_X4_distanceOf_L10 x1 fuelN (D 26 5) 0 0 D
noncomputable def F_X6_inkOf_L4 (t0 : Nat) (x1 : Int) : Nat → Int → Int → mD → RI
  | 0, _, _, _ => none
  | n + 1, x2, x3, D =>
    ck (nR x3) <|
    if 5 ≤ x3 then
      some (x2, D)
    else
      ck (0 ≤ x1 ∧ x1 < 12) <|
      bI (F_X6_leftOf t0 x1 x3 D) fun v1 D1 =>
      bI (F_X6_rightOf t0 x1 x3 D1) fun v2 D2 =>
      F_X6_inkOf_L4 t0 x1 n (x2 + (((D (t0 + 2) x1) - v1) - v2)) (x3 + 1) D2
noncomputable def F_X6_inkOf (t0 : Nat) (x1 : Int) (D : mD) : RI :=
  F_X6_inkOf_L4 t0 x1 fuelN 0 0 D
noncomputable def F_X5_harmWith (x1 x2 x3 : Int) (D : mD) : RI :=
  ck (nR (x2 - x3)) <|
  ck (0 ≤ x1 ∧ x1 < 14) <|
  bI (F_X6_inkOf 3 (D 8 x1) D) fun v1 D1 =>
  ck (0 ≤ (((x1 + 1) * 43) + (max 0 (x2 - x3))) ∧ (((x1 + 1) * 43) + (max 0 (x2 - x3))) < 645) <|
  some ((((x3 * x3) * v1) + (D1 30 (((x1 + 1) * 43) + (max 0 (x2 - x3))))), D1)
noncomputable def F_X5_mostOf (x1 : Int) (D : mD) : RI :=
  ck (0 ≤ x1 ∧ x1 < 14) <|
  ck (nR (D 19 x1)) <|
  if (D 19 x1) ≤ 0 then
    bI (F_X0_widthOf x1 D) fun v1 D1 =>
    ck (nR (v1 - 1)) <|
    some ((min 3 (v1 - 1)), D1)
  else
    some (0, D)
noncomputable def F_X5_leastFrom_L6 (x1 x2 : Int) : Nat → Int → Int → mD → RI
  | 0, _, _, _ => none
  | n + 1, x3, x4, D =>
    bI (F_X5_mostOf x1 D) fun v1 D1 =>
    ck (nR x4) <|
    ck (nR v1) <|
    if v1 < x4 then
      some (x3, D1)
    else
      bI (F_X5_harmWith x1 x2 x4 D1) fun v2 D2 =>
      ck (nR x3) <|
      ck (nR v2) <|
      F_X5_leastFrom_L6 x1 x2 n (min x3 v2) (x4 + 1) D2
noncomputable def F_X5_leastFrom (x1 x2 : Int) (D : mD) : RI :=
  F_X5_leastFrom_L6 x1 x2 fuelN 1000000 0 D
noncomputable def F_X5_leastHarm_L81 (K74 : Int → mD → RI) (x3 : Int) : Nat → Int → mD → RI
  | 0, _, _ => none
  | n + 1, x4, D =>
    ck (nR x4) <|
    ck (nR (D 29 4)) <|
    if (D 29 4) < x4 then
      K74 (x3 - 1) D
    else
      bI (F_X5_leastFrom x3 x4 D) fun v1 D1 =>
      ck (0 ≤ ((x3 * 43) + x4) ∧ ((x3 * 43) + x4) < 645) <|
      F_X5_leastHarm_L81 K74 x3 n (x4 + 1) (pD D1 30 ((x3 * 43) + x4) v1)
noncomputable def F_X5_leastHarm_L74 : Nat → Int → mD → RI
  | 0, _, _ => none
  | n + 1, x3, D =>
    ck (nR x3) <|
    if x3 < 0 then
      ck (0 ≤ (D 29 4) ∧ (D 29 4) < 645) <|
      ck (nR (D 30 (D 29 4))) <|
      some ((if (D 30 (D 29 4)) < 1000000 then (D 30 (D 29 4)) else (-1 : Int)), D)
    else
      F_X5_leastHarm_L81 (F_X5_leastHarm_L74 n) x3 fuelN 0 D
noncomputable def F_X5_leastHarm_L40 (x2 : Int) : Nat → Int → mD → RI
  | 0, _, _ => none
  | n + 1, x3, D =>
    ck (nR x3) <|
    ck (nR (D 29 4)) <|
    if (D 29 4) < x3 then
      F_X5_leastHarm_L74 fuelN ((D 3 5) - 1) D
    else
      ck (0 ≤ (x2 + x3) ∧ (x2 + x3) < 645) <|
      F_X5_leastHarm_L40 x2 n (x3 + 1) (pD D 30 (x2 + x3) 1000000)
noncomputable def F_X5_leastHarm (x1 : Int) (D : mD) : RI :=
  ck (nR x1) <|
  ck (nR ((pD D 29 4 (max 0 x1)) 29 4)) <|
  if ((pD D 29 4 (max 0 x1)) 29 4) < 43 then
    ck (0 ≤ (((pD D 29 4 (max 0 x1)) 3 5) * 43) ∧ (((pD D 29 4 (max 0 x1)) 3 5) * 43) < 645) <|
    F_X5_leastHarm_L40 (((pD D 29 4 (max 0 x1)) 3 5) * 43) fuelN 1 (pD (pD D 29 4 (max 0 x1)) 30 (((pD D 29 4 (max 0 x1)) 3 5) * 43) 0)
  else
    some ((-1), (pD D 29 4 (max 0 x1)))
noncomputable def F_X5_squeezedBits_j72 (K9 : Int → Int → Int → mD → RI) (x1 x2 x3 x4 : Int) (D : mD) : RI :=
  ck (nR (x2 - x4)) <|
  K9 x1 (max 0 (x2 - x4)) (x3 + 1) D
noncomputable def F_X5_squeezedBits_j61 (K9 : Int → Int → Int → mD → RI) (x1 x2 x3 x4 : Int) (D : mD) : RI :=
  ck (nR x4) <|
  F_X5_squeezedBits_j72 (K9) (if x4 ≤ 0 then x1 else (bOr x1 (bShl 1 x3))) x2 x3 x4 D
noncomputable def F_X5_squeezedBits_L23 (K9 : Int → Int → Int → mD → RI) (x1 x2 x3 : Int) : Nat → Int → mD → RI
  | 0, _, _ => none
  | n + 1, x4, D =>
    bI (F_X5_mostOf x3 D) fun v1 D1 =>
    ck (nR x4) <|
    ck (nR v1) <|
    if v1 ≤ x4 then
      F_X5_squeezedBits_j61 (K9) x1 x2 x3 x4 D1
    else
      bI (F_X5_harmWith x3 x2 x4 D1) fun v2 D2 =>
      ck (0 ≤ ((x3 * 43) + x2) ∧ ((x3 * 43) + x2) < 645) <|
      ck (nR v2) <|
      ck (nR (D2 30 ((x3 * 43) + x2))) <|
      if v2 = (D2 30 ((x3 * 43) + x2)) then
        F_X5_squeezedBits_j61 (K9) x1 x2 x3 x4 D2
      else
        F_X5_squeezedBits_L23 K9 x1 x2 x3 n (x4 + 1) D2
noncomputable def F_X5_squeezedBits_L9 : Nat → Int → Int → Int → mD → RI
  | 0, _, _, _, _ => none
  | n + 1, x1, x2, x3, D =>
    ck (nR x3) <|
    ck (nR (D 3 5)) <|
    if (D 3 5) ≤ x3 then
      some (x1, D)
    else
      F_X5_squeezedBits_L23 (F_X5_squeezedBits_L9 n) x1 x2 x3 fuelN 0 D
noncomputable def F_X5_squeezedBits (D : mD) : RI :=
  F_X5_squeezedBits_L9 fuelN 0 (D 29 4) 0 D
noncomputable def F_X6_copyFrom (t0 : Nat) (t1 : Nat) (D : mD) : RI :=
  some (0, (pD (cpD (pD (cpD (cpD (pD (pD (pD (pD (pD (cpD (pD (cpD (cpD (cpD (cpD (pD D t0 0 (D t1 0)) (t1 + 1) (t0 + 1) 12) (t1 + 2) (t0 + 2) 12) (t1 + 3) (t0 + 3) 60) (t1 + 4) (t0 + 4) 60) t0 5 ((cpD (cpD (cpD (cpD (pD D t0 0 (D t1 0)) (t1 + 1) (t0 + 1) 12) (t1 + 2) (t0 + 2) 12) (t1 + 3) (t0 + 3) 60) (t1 + 4) (t0 + 4) 60) t1 5)) (t1 + 5) (t0 + 5) 14) t0 7 ((cpD (pD (cpD (cpD (cpD (cpD (pD D t0 0 (D t1 0)) (t1 + 1) (t0 + 1) 12) (t1 + 2) (t0 + 2) 12) (t1 + 3) (t0 + 3) 60) (t1 + 4) (t0 + 4) 60) t0 5 ((cpD (cpD (cpD (cpD (pD D t0 0 (D t1 0)) (t1 + 1) (t0 + 1) 12) (t1 + 2) (t0 + 2) 12) (t1 + 3) (t0 + 3) 60) (t1 + 4) (t0 + 4) 60) t1 5)) (t1 + 5) (t0 + 5) 14) t1 7)) t0 8 ((pD (cpD (pD (cpD (cpD (cpD (cpD (pD D t0 0 (D t1 0)) (t1 + 1) (t0 + 1) 12) (t1 + 2) (t0 + 2) 12) (t1 + 3) (t0 + 3) 60) (t1 + 4) (t0 + 4) 60) t0 5 ((cpD (cpD (cpD (cpD (pD D t0 0 (D t1 0)) (t1 + 1) (t0 + 1) 12) (t1 + 2) (t0 + 2) 12) (t1 + 3) (t0 + 3) 60) (t1 + 4) (t0 + 4) 60) t1 5)) (t1 + 5) (t0 + 5) 14) t0 7 ((cpD (pD (cpD (cpD (cpD (cpD (pD D t0 0 (D t1 0)) (t1 + 1) (t0 + 1) 12) (t1 + 2) (t0 + 2) 12) (t1 + 3) (t0 + 3) 60) (t1 + 4) (t0 + 4) 60) t0 5 ((cpD (cpD (cpD (cpD (pD D t0 0 (D t1 0)) (t1 + 1) (t0 + 1) 12) (t1 + 2) (t0 + 2) 12) (t1 + 3) (t0 + 3) 60) (t1 + 4) (t0 + 4) 60) t1 5)) (t1 + 5) (t0 + 5) 14) t1 7)) t1 8)) t0 9 ((pD (pD (cpD (pD (cpD (cpD (cpD (cpD (pD D t0 0 (D t1 0)) (t1 + 1) (t0 + 1) 12) (t1 + 2) (t0 + 2) 12) (t1 + 3) (t0 + 3) 60) (t1 + 4) (t0 + 4) 60) t0 5 ((cpD (cpD (cpD (cpD (pD D t0 0 (D t1 0)) (t1 + 1) (t0 + 1) 12) (t1 + 2) (t0 + 2) 12) (t1 + 3) (t0 + 3) 60) (t1 + 4) (t0 + 4) 60) t1 5)) (t1 + 5) (t0 + 5) 14) t0 7 ((cpD (pD (cpD (cpD (cpD (cpD (pD D t0 0 (D t1 0)) (t1 + 1) (t0 + 1) 12) (t1 + 2) (t0 + 2) 12) (t1 + 3) (t0 + 3) 60) (t1 + 4) (t0 + 4) 60) t0 5 ((cpD (cpD (cpD (cpD (pD D t0 0 (D t1 0)) (t1 + 1) (t0 + 1) 12) (t1 + 2) (t0 + 2) 12) (t1 + 3) (t0 + 3) 60) (t1 + 4) (t0 + 4) 60) t1 5)) (t1 + 5) (t0 + 5) 14) t1 7)) t0 8 ((pD (cpD (pD (cpD (cpD (cpD (cpD (pD D t0 0 (D t1 0)) (t1 + 1) (t0 + 1) 12) (t1 + 2) (t0 + 2) 12) (t1 + 3) (t0 + 3) 60) (t1 + 4) (t0 + 4) 60) t0 5 ((cpD (cpD (cpD (cpD (pD D t0 0 (D t1 0)) (t1 + 1) (t0 + 1) 12) (t1 + 2) (t0 + 2) 12) (t1 + 3) (t0 + 3) 60) (t1 + 4) (t0 + 4) 60) t1 5)) (t1 + 5) (t0 + 5) 14) t0 7 ((cpD (pD (cpD (cpD (cpD (cpD (pD D t0 0 (D t1 0)) (t1 + 1) (t0 + 1) 12) (t1 + 2) (t0 + 2) 12) (t1 + 3) (t0 + 3) 60) (t1 + 4) (t0 + 4) 60) t0 5 ((cpD (cpD (cpD (cpD (pD D t0 0 (D t1 0)) (t1 + 1) (t0 + 1) 12) (t1 + 2) (t0 + 2) 12) (t1 + 3) (t0 + 3) 60) (t1 + 4) (t0 + 4) 60) t1 5)) (t1 + 5) (t0 + 5) 14) t1 7)) t1 8)) t1 9)) t0 10 ((pD (pD (pD (cpD (pD (cpD (cpD (cpD (cpD (pD D t0 0 (D t1 0)) (t1 + 1) (t0 + 1) 12) (t1 + 2) (t0 + 2) 12) (t1 + 3) (t0 + 3) 60) (t1 + 4) (t0 + 4) 60) t0 5 ((cpD (cpD (cpD (cpD (pD D t0 0 (D t1 0)) (t1 + 1) (t0 + 1) 12) (t1 + 2) (t0 + 2) 12) (t1 + 3) (t0 + 3) 60) (t1 + 4) (t0 + 4) 60) t1 5)) (t1 + 5) (t0 + 5) 14) t0 7 ((cpD (pD (cpD (cpD (cpD (cpD (pD D t0 0 (D t1 0)) (t1 + 1) (t0 + 1) 12) (t1 + 2) (t0 + 2) 12) (t1 + 3) (t0 + 3) 60) (t1 + 4) (t0 + 4) 60) t0 5 ((cpD (cpD (cpD (cpD (pD D t0 0 (D t1 0)) (t1 + 1) (t0 + 1) 12) (t1 + 2) (t0 + 2) 12) (t1 + 3) (t0 + 3) 60) (t1 + 4) (t0 + 4) 60) t1 5)) (t1 + 5) (t0 + 5) 14) t1 7)) t0 8 ((pD (cpD (pD (cpD (cpD (cpD (cpD (pD D t0 0 (D t1 0)) (t1 + 1) (t0 + 1) 12) (t1 + 2) (t0 + 2) 12) (t1 + 3) (t0 + 3) 60) (t1 + 4) (t0 + 4) 60) t0 5 ((cpD (cpD (cpD (cpD (pD D t0 0 (D t1 0)) (t1 + 1) (t0 + 1) 12) (t1 + 2) (t0 + 2) 12) (t1 + 3) (t0 + 3) 60) (t1 + 4) (t0 + 4) 60) t1 5)) (t1 + 5) (t0 + 5) 14) t0 7 ((cpD (pD (cpD (cpD (cpD (cpD (pD D t0 0 (D t1 0)) (t1 + 1) (t0 + 1) 12) (t1 + 2) (t0 + 2) 12) (t1 + 3) (t0 + 3) 60) (t1 + 4) (t0 + 4) 60) t0 5 ((cpD (cpD (cpD (cpD (pD D t0 0 (D t1 0)) (t1 + 1) (t0 + 1) 12) (t1 + 2) (t0 + 2) 12) (t1 + 3) (t0 + 3) 60) (t1 + 4) (t0 + 4) 60) t1 5)) (t1 + 5) (t0 + 5) 14) t1 7)) t1 8)) t0 9 ((pD (pD (cpD (pD (cpD (cpD (cpD (cpD (pD D t0 0 (D t1 0)) (t1 + 1) (t0 + 1) 12) (t1 + 2) (t0 + 2) 12) (t1 + 3) (t0 + 3) 60) (t1 + 4) (t0 + 4) 60) t0 5 ((cpD (cpD (cpD (cpD (pD D t0 0 (D t1 0)) (t1 + 1) (t0 + 1) 12) (t1 + 2) (t0 + 2) 12) (t1 + 3) (t0 + 3) 60) (t1 + 4) (t0 + 4) 60) t1 5)) (t1 + 5) (t0 + 5) 14) t0 7 ((cpD (pD (cpD (cpD (cpD (cpD (pD D t0 0 (D t1 0)) (t1 + 1) (t0 + 1) 12) (t1 + 2) (t0 + 2) 12) (t1 + 3) (t0 + 3) 60) (t1 + 4) (t0 + 4) 60) t0 5 ((cpD (cpD (cpD (cpD (pD D t0 0 (D t1 0)) (t1 + 1) (t0 + 1) 12) (t1 + 2) (t0 + 2) 12) (t1 + 3) (t0 + 3) 60) (t1 + 4) (t0 + 4) 60) t1 5)) (t1 + 5) (t0 + 5) 14) t1 7)) t0 8 ((pD (cpD (pD (cpD (cpD (cpD (cpD (pD D t0 0 (D t1 0)) (t1 + 1) (t0 + 1) 12) (t1 + 2) (t0 + 2) 12) (t1 + 3) (t0 + 3) 60) (t1 + 4) (t0 + 4) 60) t0 5 ((cpD (cpD (cpD (cpD (pD D t0 0 (D t1 0)) (t1 + 1) (t0 + 1) 12) (t1 + 2) (t0 + 2) 12) (t1 + 3) (t0 + 3) 60) (t1 + 4) (t0 + 4) 60) t1 5)) (t1 + 5) (t0 + 5) 14) t0 7 ((cpD (pD (cpD (cpD (cpD (cpD (pD D t0 0 (D t1 0)) (t1 + 1) (t0 + 1) 12) (t1 + 2) (t0 + 2) 12) (t1 + 3) (t0 + 3) 60) (t1 + 4) (t0 + 4) 60) t0 5 ((cpD (cpD (cpD (cpD (pD D t0 0 (D t1 0)) (t1 + 1) (t0 + 1) 12) (t1 + 2) (t0 + 2) 12) (t1 + 3) (t0 + 3) 60) (t1 + 4) (t0 + 4) 60) t1 5)) (t1 + 5) (t0 + 5) 14) t1 7)) t1 8)) t1 9)) t1 10)) t0 11 ((pD (pD (pD (pD (cpD (pD (cpD (cpD (cpD (cpD (pD D t0 0 (D t1 0)) (t1 + 1) (t0 + 1) 12) (t1 + 2) (t0 + 2) 12) (t1 + 3) (t0 + 3) 60) (t1 + 4) (t0 + 4) 60) t0 5 ((cpD (cpD (cpD (cpD (pD D t0 0 (D t1 0)) (t1 + 1) (t0 + 1) 12) (t1 + 2) (t0 + 2) 12) (t1 + 3) (t0 + 3) 60) (t1 + 4) (t0 + 4) 60) t1 5)) (t1 + 5) (t0 + 5) 14) t0 7 ((cpD (pD (cpD (cpD (cpD (cpD (pD D t0 0 (D t1 0)) (t1 + 1) (t0 + 1) 12) (t1 + 2) (t0 + 2) 12) (t1 + 3) (t0 + 3) 60) (t1 + 4) (t0 + 4) 60) t0 5 ((cpD (cpD (cpD (cpD (pD D t0 0 (D t1 0)) (t1 + 1) (t0 + 1) 12) (t1 + 2) (t0 + 2) 12) (t1 + 3) (t0 + 3) 60) (t1 + 4) (t0 + 4) 60) t1 5)) (t1 + 5) (t0 + 5) 14) t1 7)) t0 8 ((pD (cpD (pD (cpD (cpD (cpD (cpD (pD D t0 0 (D t1 0)) (t1 + 1) (t0 + 1) 12) (t1 + 2) (t0 + 2) 12) (t1 + 3) (t0 + 3) 60) (t1 + 4) (t0 + 4) 60) t0 5 ((cpD (cpD (cpD (cpD (pD D t0 0 (D t1 0)) (t1 + 1) (t0 + 1) 12) (t1 + 2) (t0 + 2) 12) (t1 + 3) (t0 + 3) 60) (t1 + 4) (t0 + 4) 60) t1 5)) (t1 + 5) (t0 + 5) 14) t0 7 ((cpD (pD (cpD (cpD (cpD (cpD (pD D t0 0 (D t1 0)) (t1 + 1) (t0 + 1) 12) (t1 + 2) (t0 + 2) 12) (t1 + 3) (t0 + 3) 60) (t1 + 4) (t0 + 4) 60) t0 5 ((cpD (cpD (cpD (cpD (pD D t0 0 (D t1 0)) (t1 + 1) (t0 + 1) 12) (t1 + 2) (t0 + 2) 12) (t1 + 3) (t0 + 3) 60) (t1 + 4) (t0 + 4) 60) t1 5)) (t1 + 5) (t0 + 5) 14) t1 7)) t1 8)) t0 9 ((pD (pD (cpD (pD (cpD (cpD (cpD (cpD (pD D t0 0 (D t1 0)) (t1 + 1) (t0 + 1) 12) (t1 + 2) (t0 + 2) 12) (t1 + 3) (t0 + 3) 60) (t1 + 4) (t0 + 4) 60) t0 5 ((cpD (cpD (cpD (cpD (pD D t0 0 (D t1 0)) (t1 + 1) (t0 + 1) 12) (t1 + 2) (t0 + 2) 12) (t1 + 3) (t0 + 3) 60) (t1 + 4) (t0 + 4) 60) t1 5)) (t1 + 5) (t0 + 5) 14) t0 7 ((cpD (pD (cpD (cpD (cpD (cpD (pD D t0 0 (D t1 0)) (t1 + 1) (t0 + 1) 12) (t1 + 2) (t0 + 2) 12) (t1 + 3) (t0 + 3) 60) (t1 + 4) (t0 + 4) 60) t0 5 ((cpD (cpD (cpD (cpD (pD D t0 0 (D t1 0)) (t1 + 1) (t0 + 1) 12) (t1 + 2) (t0 + 2) 12) (t1 + 3) (t0 + 3) 60) (t1 + 4) (t0 + 4) 60) t1 5)) (t1 + 5) (t0 + 5) 14) t1 7)) t0 8 ((pD (cpD (pD (cpD (cpD (cpD (cpD (pD D t0 0 (D t1 0)) (t1 + 1) (t0 + 1) 12) (t1 + 2) (t0 + 2) 12) (t1 + 3) (t0 + 3) 60) (t1 + 4) (t0 + 4) 60) t0 5 ((cpD (cpD (cpD (cpD (pD D t0 0 (D t1 0)) (t1 + 1) (t0 + 1) 12) (t1 + 2) (t0 + 2) 12) (t1 + 3) (t0 + 3) 60) (t1 + 4) (t0 + 4) 60) t1 5)) (t1 + 5) (t0 + 5) 14) t0 7 ((cpD (pD (cpD (cpD (cpD (cpD (pD D t0 0 (D t1 0)) (t1 + 1) (t0 + 1) 12) (t1 + 2) (t0 + 2) 12) (t1 + 3) (t0 + 3) 60) (t1 + 4) (t0 + 4) 60) t0 5 ((cpD (cpD (cpD (cpD (pD D t0 0 (D t1 0)) (t1 + 1) (t0 + 1) 12) (t1 + 2) (t0 + 2) 12) (t1 + 3) (t0 + 3) 60) (t1 + 4) (t0 + 4) 60) t1 5)) (t1 + 5) (t0 + 5) 14) t1 7)) t1 8)) t1 9)) t0 10 ((pD (pD (pD (cpD (pD (cpD (cpD (cpD (cpD (pD D t0 0 (D t1 0)) (t1 + 1) (t0 + 1) 12) (t1 + 2) (t0 + 2) 12) (t1 + 3) (t0 + 3) 60) (t1 + 4) (t0 + 4) 60) t0 5 ((cpD (cpD (cpD (cpD (pD D t0 0 (D t1 0)) (t1 + 1) (t0 + 1) 12) (t1 + 2) (t0 + 2) 12) (t1 + 3) (t0 + 3) 60) (t1 + 4) (t0 + 4) 60) t1 5)) (t1 + 5) (t0 + 5) 14) t0 7 ((cpD (pD (cpD (cpD (cpD (cpD (pD D t0 0 (D t1 0)) (t1 + 1) (t0 + 1) 12) (t1 + 2) (t0 + 2) 12) (t1 + 3) (t0 + 3) 60) (t1 + 4) (t0 + 4) 60) t0 5 ((cpD (cpD (cpD (cpD (pD D t0 0 (D t1 0)) (t1 + 1) (t0 + 1) 12) (t1 + 2) (t0 + 2) 12) (t1 + 3) (t0 + 3) 60) (t1 + 4) (t0 + 4) 60) t1 5)) (t1 + 5) (t0 + 5) 14) t1 7)) t0 8 ((pD (cpD (pD (cpD (cpD (cpD (cpD (pD D t0 0 (D t1 0)) (t1 + 1) (t0 + 1) 12) (t1 + 2) (t0 + 2) 12) (t1 + 3) (t0 + 3) 60) (t1 + 4) (t0 + 4) 60) t0 5 ((cpD (cpD (cpD (cpD (pD D t0 0 (D t1 0)) (t1 + 1) (t0 + 1) 12) (t1 + 2) (t0 + 2) 12) (t1 + 3) (t0 + 3) 60) (t1 + 4) (t0 + 4) 60) t1 5)) (t1 + 5) (t0 + 5) 14) t0 7 ((cpD (pD (cpD (cpD (cpD (cpD (pD D t0 0 (D t1 0)) (t1 + 1) (t0 + 1) 12) (t1 + 2) (t0 + 2) 12) (t1 + 3) (t0 + 3) 60) (t1 + 4) (t0 + 4) 60) t0 5 ((cpD (cpD (cpD (cpD (pD D t0 0 (D t1 0)) (t1 + 1) (t0 + 1) 12) (t1 + 2) (t0 + 2) 12) (t1 + 3) (t0 + 3) 60) (t1 + 4) (t0 + 4) 60) t1 5)) (t1 + 5) (t0 + 5) 14) t1 7)) t1 8)) t0 9 ((pD (pD (cpD (pD (cpD (cpD (cpD (cpD (pD D t0 0 (D t1 0)) (t1 + 1) (t0 + 1) 12) (t1 + 2) (t0 + 2) 12) (t1 + 3) (t0 + 3) 60) (t1 + 4) (t0 + 4) 60) t0 5 ((cpD (cpD (cpD (cpD (pD D t0 0 (D t1 0)) (t1 + 1) (t0 + 1) 12) (t1 + 2) (t0 + 2) 12) (t1 + 3) (t0 + 3) 60) (t1 + 4) (t0 + 4) 60) t1 5)) (t1 + 5) (t0 + 5) 14) t0 7 ((cpD (pD (cpD (cpD (cpD (cpD (pD D t0 0 (D t1 0)) (t1 + 1) (t0 + 1) 12) (t1 + 2) (t0 + 2) 12) (t1 + 3) (t0 + 3) 60) (t1 + 4) (t0 + 4) 60) t0 5 ((cpD (cpD (cpD (cpD (pD D t0 0 (D t1 0)) (t1 + 1) (t0 + 1) 12) (t1 + 2) (t0 + 2) 12) (t1 + 3) (t0 + 3) 60) (t1 + 4) (t0 + 4) 60) t1 5)) (t1 + 5) (t0 + 5) 14) t1 7)) t0 8 ((pD (cpD (pD (cpD (cpD (cpD (cpD (pD D t0 0 (D t1 0)) (t1 + 1) (t0 + 1) 12) (t1 + 2) (t0 + 2) 12) (t1 + 3) (t0 + 3) 60) (t1 + 4) (t0 + 4) 60) t0 5 ((cpD (cpD (cpD (cpD (pD D t0 0 (D t1 0)) (t1 + 1) (t0 + 1) 12) (t1 + 2) (t0 + 2) 12) (t1 + 3) (t0 + 3) 60) (t1 + 4) (t0 + 4) 60) t1 5)) (t1 + 5) (t0 + 5) 14) t0 7 ((cpD (pD (cpD (cpD (cpD (cpD (pD D t0 0 (D t1 0)) (t1 + 1) (t0 + 1) 12) (t1 + 2) (t0 + 2) 12) (t1 + 3) (t0 + 3) 60) (t1 + 4) (t0 + 4) 60) t0 5 ((cpD (cpD (cpD (cpD (pD D t0 0 (D t1 0)) (t1 + 1) (t0 + 1) 12) (t1 + 2) (t0 + 2) 12) (t1 + 3) (t0 + 3) 60) (t1 + 4) (t0 + 4) 60) t1 5)) (t1 + 5) (t0 + 5) 14) t1 7)) t1 8)) t1 9)) t1 10)) t1 11)) (t1 + 6) (t0 + 6) 6) (t1 + 7) (t0 + 7) 6) t0 14 ((cpD (cpD (pD (pD (pD (pD (pD (cpD (pD (cpD (cpD (cpD (cpD (pD D t0 0 (D t1 0)) (t1 + 1) (t0 + 1) 12) (t1 + 2) (t0 + 2) 12) (t1 + 3) (t0 + 3) 60) (t1 + 4) (t0 + 4) 60) t0 5 ((cpD (cpD (cpD (cpD (pD D t0 0 (D t1 0)) (t1 + 1) (t0 + 1) 12) (t1 + 2) (t0 + 2) 12) (t1 + 3) (t0 + 3) 60) (t1 + 4) (t0 + 4) 60) t1 5)) (t1 + 5) (t0 + 5) 14) t0 7 ((cpD (pD (cpD (cpD (cpD (cpD (pD D t0 0 (D t1 0)) (t1 + 1) (t0 + 1) 12) (t1 + 2) (t0 + 2) 12) (t1 + 3) (t0 + 3) 60) (t1 + 4) (t0 + 4) 60) t0 5 ((cpD (cpD (cpD (cpD (pD D t0 0 (D t1 0)) (t1 + 1) (t0 + 1) 12) (t1 + 2) (t0 + 2) 12) (t1 + 3) (t0 + 3) 60) (t1 + 4) (t0 + 4) 60) t1 5)) (t1 + 5) (t0 + 5) 14) t1 7)) t0 8 ((pD (cpD (pD (cpD (cpD (cpD (cpD (pD D t0 0 (D t1 0)) (t1 + 1) (t0 + 1) 12) (t1 + 2) (t0 + 2) 12) (t1 + 3) (t0 + 3) 60) (t1 + 4) (t0 + 4) 60) t0 5 ((cpD (cpD (cpD (cpD (pD D t0 0 (D t1 0)) (t1 + 1) (t0 + 1) 12) (t1 + 2) (t0 + 2) 12) (t1 + 3) (t0 + 3) 60) (t1 + 4) (t0 + 4) 60) t1 5)) (t1 + 5) (t0 + 5) 14) t0 7 ((cpD (pD (cpD (cpD (cpD (cpD (pD D t0 0 (D t1 0)) (t1 + 1) (t0 + 1) 12) (t1 + 2) (t0 + 2) 12) (t1 + 3) (t0 + 3) 60) (t1 + 4) (t0 + 4) 60) t0 5 ((cpD (cpD (cpD (cpD (pD D t0 0 (D t1 0)) (t1 + 1) (t0 + 1) 12) (t1 + 2) (t0 + 2) 12) (t1 + 3) (t0 + 3) 60) (t1 + 4) (t0 + 4) 60) t1 5)) (t1 + 5) (t0 + 5) 14) t1 7)) t1 8)) t0 9 ((pD (pD (cpD (pD (cpD (cpD (cpD (cpD (pD D t0 0 (D t1 0)) (t1 + 1) (t0 + 1) 12) (t1 + 2) (t0 + 2) 12) (t1 + 3) (t0 + 3) 60) (t1 + 4) (t0 + 4) 60) t0 5 ((cpD (cpD (cpD (cpD (pD D t0 0 (D t1 0)) (t1 + 1) (t0 + 1) 12) (t1 + 2) (t0 + 2) 12) (t1 + 3) (t0 + 3) 60) (t1 + 4) (t0 + 4) 60) t1 5)) (t1 + 5) (t0 + 5) 14) t0 7 ((cpD (pD (cpD (cpD (cpD (cpD (pD D t0 0 (D t1 0)) (t1 + 1) (t0 + 1) 12) (t1 + 2) (t0 + 2) 12) (t1 + 3) (t0 + 3) 60) (t1 + 4) (t0 + 4) 60) t0 5 ((cpD (cpD (cpD (cpD (pD D t0 0 (D t1 0)) (t1 + 1) (t0 + 1) 12) (t1 + 2) (t0 + 2) 12) (t1 + 3) (t0 + 3) 60) (t1 + 4) (t0 + 4) 60) t1 5)) (t1 + 5) (t0 + 5) 14) t1 7)) t0 8 ((pD (cpD (pD (cpD (cpD (cpD (cpD (pD D t0 0 (D t1 0)) (t1 + 1) (t0 + 1) 12) (t1 + 2) (t0 + 2) 12) (t1 + 3) (t0 + 3) 60) (t1 + 4) (t0 + 4) 60) t0 5 ((cpD (cpD (cpD (cpD (pD D t0 0 (D t1 0)) (t1 + 1) (t0 + 1) 12) (t1 + 2) (t0 + 2) 12) (t1 + 3) (t0 + 3) 60) (t1 + 4) (t0 + 4) 60) t1 5)) (t1 + 5) (t0 + 5) 14) t0 7 ((cpD (pD (cpD (cpD (cpD (cpD (pD D t0 0 (D t1 0)) (t1 + 1) (t0 + 1) 12) (t1 + 2) (t0 + 2) 12) (t1 + 3) (t0 + 3) 60) (t1 + 4) (t0 + 4) 60) t0 5 ((cpD (cpD (cpD (cpD (pD D t0 0 (D t1 0)) (t1 + 1) (t0 + 1) 12) (t1 + 2) (t0 + 2) 12) (t1 + 3) (t0 + 3) 60) (t1 + 4) (t0 + 4) 60) t1 5)) (t1 + 5) (t0 + 5) 14) t1 7)) t1 8)) t1 9)) t0 10 ((pD (pD (pD (cpD (pD (cpD (cpD (cpD (cpD (pD D t0 0 (D t1 0)) (t1 + 1) (t0 + 1) 12) (t1 + 2) (t0 + 2) 12) (t1 + 3) (t0 + 3) 60) (t1 + 4) (t0 + 4) 60) t0 5 ((cpD (cpD (cpD (cpD (pD D t0 0 (D t1 0)) (t1 + 1) (t0 + 1) 12) (t1 + 2) (t0 + 2) 12) (t1 + 3) (t0 + 3) 60) (t1 + 4) (t0 + 4) 60) t1 5)) (t1 + 5) (t0 + 5) 14) t0 7 ((cpD (pD (cpD (cpD (cpD (cpD (pD D t0 0 (D t1 0)) (t1 + 1) (t0 + 1) 12) (t1 + 2) (t0 + 2) 12) (t1 + 3) (t0 + 3) 60) (t1 + 4) (t0 + 4) 60) t0 5 ((cpD (cpD (cpD (cpD (pD D t0 0 (D t1 0)) (t1 + 1) (t0 + 1) 12) (t1 + 2) (t0 + 2) 12) (t1 + 3) (t0 + 3) 60) (t1 + 4) (t0 + 4) 60) t1 5)) (t1 + 5) (t0 + 5) 14) t1 7)) t0 8 ((pD (cpD (pD (cpD (cpD (cpD (cpD (pD D t0 0 (D t1 0)) (t1 + 1) (t0 + 1) 12) (t1 + 2) (t0 + 2) 12) (t1 + 3) (t0 + 3) 60) (t1 + 4) (t0 + 4) 60) t0 5 ((cpD (cpD (cpD (cpD (pD D t0 0 (D t1 0)) (t1 + 1) (t0 + 1) 12) (t1 + 2) (t0 + 2) 12) (t1 + 3) (t0 + 3) 60) (t1 + 4) (t0 + 4) 60) t1 5)) (t1 + 5) (t0 + 5) 14) t0 7 ((cpD (pD (cpD (cpD (cpD (cpD (pD D t0 0 (D t1 0)) (t1 + 1) (t0 + 1) 12) (t1 + 2) (t0 + 2) 12) (t1 + 3) (t0 + 3) 60) (t1 + 4) (t0 + 4) 60) t0 5 ((cpD (cpD (cpD (cpD (pD D t0 0 (D t1 0)) (t1 + 1) (t0 + 1) 12) (t1 + 2) (t0 + 2) 12) (t1 + 3) (t0 + 3) 60) (t1 + 4) (t0 + 4) 60) t1 5)) (t1 + 5) (t0 + 5) 14) t1 7)) t1 8)) t0 9 ((pD (pD (cpD (pD (cpD (cpD (cpD (cpD (pD D t0 0 (D t1 0)) (t1 + 1) (t0 + 1) 12) (t1 + 2) (t0 + 2) 12) (t1 + 3) (t0 + 3) 60) (t1 + 4) (t0 + 4) 60) t0 5 ((cpD (cpD (cpD (cpD (pD D t0 0 (D t1 0)) (t1 + 1) (t0 + 1) 12) (t1 + 2) (t0 + 2) 12) (t1 + 3) (t0 + 3) 60) (t1 + 4) (t0 + 4) 60) t1 5)) (t1 + 5) (t0 + 5) 14) t0 7 ((cpD (pD (cpD (cpD (cpD (cpD (pD D t0 0 (D t1 0)) (t1 + 1) (t0 + 1) 12) (t1 + 2) (t0 + 2) 12) (t1 + 3) (t0 + 3) 60) (t1 + 4) (t0 + 4) 60) t0 5 ((cpD (cpD (cpD (cpD (pD D t0 0 (D t1 0)) (t1 + 1) (t0 + 1) 12) (t1 + 2) (t0 + 2) 12) (t1 + 3) (t0 + 3) 60) (t1 + 4) (t0 + 4) 60) t1 5)) (t1 + 5) (t0 + 5) 14) t1 7)) t0 8 ((pD (cpD (pD (cpD (cpD (cpD (cpD (pD D t0 0 (D t1 0)) (t1 + 1) (t0 + 1) 12) (t1 + 2) (t0 + 2) 12) (t1 + 3) (t0 + 3) 60) (t1 + 4) (t0 + 4) 60) t0 5 ((cpD (cpD (cpD (cpD (pD D t0 0 (D t1 0)) (t1 + 1) (t0 + 1) 12) (t1 + 2) (t0 + 2) 12) (t1 + 3) (t0 + 3) 60) (t1 + 4) (t0 + 4) 60) t1 5)) (t1 + 5) (t0 + 5) 14) t0 7 ((cpD (pD (cpD (cpD (cpD (cpD (pD D t0 0 (D t1 0)) (t1 + 1) (t0 + 1) 12) (t1 + 2) (t0 + 2) 12) (t1 + 3) (t0 + 3) 60) (t1 + 4) (t0 + 4) 60) t0 5 ((cpD (cpD (cpD (cpD (pD D t0 0 (D t1 0)) (t1 + 1) (t0 + 1) 12) (t1 + 2) (t0 + 2) 12) (t1 + 3) (t0 + 3) 60) (t1 + 4) (t0 + 4) 60) t1 5)) (t1 + 5) (t0 + 5) 14) t1 7)) t1 8)) t1 9)) t1 10)) t0 11 ((pD (pD (pD (pD (cpD (pD (cpD (cpD (cpD (cpD (pD D t0 0 (D t1 0)) (t1 + 1) (t0 + 1) 12) (t1 + 2) (t0 + 2) 12) (t1 + 3) (t0 + 3) 60) (t1 + 4) (t0 + 4) 60) t0 5 ((cpD (cpD (cpD (cpD (pD D t0 0 (D t1 0)) (t1 + 1) (t0 + 1) 12) (t1 + 2) (t0 + 2) 12) (t1 + 3) (t0 + 3) 60) (t1 + 4) (t0 + 4) 60) t1 5)) (t1 + 5) (t0 + 5) 14) t0 7 ((cpD (pD (cpD (cpD (cpD (cpD (pD D t0 0 (D t1 0)) (t1 + 1) (t0 + 1) 12) (t1 + 2) (t0 + 2) 12) (t1 + 3) (t0 + 3) 60) (t1 + 4) (t0 + 4) 60) t0 5 ((cpD (cpD (cpD (cpD (pD D t0 0 (D t1 0)) (t1 + 1) (t0 + 1) 12) (t1 + 2) (t0 + 2) 12) (t1 + 3) (t0 + 3) 60) (t1 + 4) (t0 + 4) 60) t1 5)) (t1 + 5) (t0 + 5) 14) t1 7)) t0 8 ((pD (cpD (pD (cpD (cpD (cpD (cpD (pD D t0 0 (D t1 0)) (t1 + 1) (t0 + 1) 12) (t1 + 2) (t0 + 2) 12) (t1 + 3) (t0 + 3) 60) (t1 + 4) (t0 + 4) 60) t0 5 ((cpD (cpD (cpD (cpD (pD D t0 0 (D t1 0)) (t1 + 1) (t0 + 1) 12) (t1 + 2) (t0 + 2) 12) (t1 + 3) (t0 + 3) 60) (t1 + 4) (t0 + 4) 60) t1 5)) (t1 + 5) (t0 + 5) 14) t0 7 ((cpD (pD (cpD (cpD (cpD (cpD (pD D t0 0 (D t1 0)) (t1 + 1) (t0 + 1) 12) (t1 + 2) (t0 + 2) 12) (t1 + 3) (t0 + 3) 60) (t1 + 4) (t0 + 4) 60) t0 5 ((cpD (cpD (cpD (cpD (pD D t0 0 (D t1 0)) (t1 + 1) (t0 + 1) 12) (t1 + 2) (t0 + 2) 12) (t1 + 3) (t0 + 3) 60) (t1 + 4) (t0 + 4) 60) t1 5)) (t1 + 5) (t0 + 5) 14) t1 7)) t1 8)) t0 9 ((pD (pD (cpD (pD (cpD (cpD (cpD (cpD (pD D t0 0 (D t1 0)) (t1 + 1) (t0 + 1) 12) (t1 + 2) (t0 + 2) 12) (t1 + 3) (t0 + 3) 60) (t1 + 4) (t0 + 4) 60) t0 5 ((cpD (cpD (cpD (cpD (pD D t0 0 (D t1 0)) (t1 + 1) (t0 + 1) 12) (t1 + 2) (t0 + 2) 12) (t1 + 3) (t0 + 3) 60) (t1 + 4) (t0 + 4) 60) t1 5)) (t1 + 5) (t0 + 5) 14) t0 7 ((cpD (pD (cpD (cpD (cpD (cpD (pD D t0 0 (D t1 0)) (t1 + 1) (t0 + 1) 12) (t1 + 2) (t0 + 2) 12) (t1 + 3) (t0 + 3) 60) (t1 + 4) (t0 + 4) 60) t0 5 ((cpD (cpD (cpD (cpD (pD D t0 0 (D t1 0)) (t1 + 1) (t0 + 1) 12) (t1 + 2) (t0 + 2) 12) (t1 + 3) (t0 + 3) 60) (t1 + 4) (t0 + 4) 60) t1 5)) (t1 + 5) (t0 + 5) 14) t1 7)) t0 8 ((pD (cpD (pD (cpD (cpD (cpD (cpD (pD D t0 0 (D t1 0)) (t1 + 1) (t0 + 1) 12) (t1 + 2) (t0 + 2) 12) (t1 + 3) (t0 + 3) 60) (t1 + 4) (t0 + 4) 60) t0 5 ((cpD (cpD (cpD (cpD (pD D t0 0 (D t1 0)) (t1 + 1) (t0 + 1) 12) (t1 + 2) (t0 + 2) 12) (t1 + 3) (t0 + 3) 60) (t1 + 4) (t0 + 4) 60) t1 5)) (t1 + 5) (t0 + 5) 14) t0 7 ((cpD (pD (cpD (cpD (cpD (cpD (pD D t0 0 (D t1 0)) (t1 + 1) (t0 + 1) 12) (t1 + 2) (t0 + 2) 12) (t1 + 3) (t0 + 3) 60) (t1 + 4) (t0 + 4) 60) t0 5 ((cpD (cpD (cpD (cpD (pD D t0 0 (D t1 0)) (t1 + 1) (t0 + 1) 12) (t1 + 2) (t0 + 2) 12) (t1 + 3) (t0 + 3) 60) (t1 + 4) (t0 + 4) 60) t1 5)) (t1 + 5) (t0 + 5) 14) t1 7)) t1 8)) t1 9)) t0 10 ((pD (pD (pD (cpD (pD (cpD (cpD (cpD (cpD (pD D t0 0 (D t1 0)) (t1 + 1) (t0 + 1) 12) (t1 + 2) (t0 + 2) 12) (t1 + 3) (t0 + 3) 60) (t1 + 4) (t0 + 4) 60) t0 5 ((cpD (cpD (cpD (cpD (pD D t0 0 (D t1 0)) (t1 + 1) (t0 + 1) 12) (t1 + 2) (t0 + 2) 12) (t1 + 3) (t0 + 3) 60) (t1 + 4) (t0 + 4) 60) t1 5)) (t1 + 5) (t0 + 5) 14) t0 7 ((cpD (pD (cpD (cpD (cpD (cpD (pD D t0 0 (D t1 0)) (t1 + 1) (t0 + 1) 12) (t1 + 2) (t0 + 2) 12) (t1 + 3) (t0 + 3) 60) (t1 + 4) (t0 + 4) 60) t0 5 ((cpD (cpD (cpD (cpD (pD D t0 0 (D t1 0)) (t1 + 1) (t0 + 1) 12) (t1 + 2) (t0 + 2) 12) (t1 + 3) (t0 + 3) 60) (t1 + 4) (t0 + 4) 60) t1 5)) (t1 + 5) (t0 + 5) 14) t1 7)) t0 8 ((pD (cpD (pD (cpD (cpD (cpD (cpD (pD D t0 0 (D t1 0)) (t1 + 1) (t0 + 1) 12) (t1 + 2) (t0 + 2) 12) (t1 + 3) (t0 + 3) 60) (t1 + 4) (t0 + 4) 60) t0 5 ((cpD (cpD (cpD (cpD (pD D t0 0 (D t1 0)) (t1 + 1) (t0 + 1) 12) (t1 + 2) (t0 + 2) 12) (t1 + 3) (t0 + 3) 60) (t1 + 4) (t0 + 4) 60) t1 5)) (t1 + 5) (t0 + 5) 14) t0 7 ((cpD (pD (cpD (cpD (cpD (cpD (pD D t0 0 (D t1 0)) (t1 + 1) (t0 + 1) 12) (t1 + 2) (t0 + 2) 12) (t1 + 3) (t0 + 3) 60) (t1 + 4) (t0 + 4) 60) t0 5 ((cpD (cpD (cpD (cpD (pD D t0 0 (D t1 0)) (t1 + 1) (t0 + 1) 12) (t1 + 2) (t0 + 2) 12) (t1 + 3) (t0 + 3) 60) (t1 + 4) (t0 + 4) 60) t1 5)) (t1 + 5) (t0 + 5) 14) t1 7)) t1 8)) t0 9 ((pD (pD (cpD (pD (cpD (cpD (cpD (cpD (pD D t0 0 (D t1 0)) (t1 + 1) (t0 + 1) 12) (t1 + 2) (t0 + 2) 12) (t1 + 3) (t0 + 3) 60) (t1 + 4) (t0 + 4) 60) t0 5 ((cpD (cpD (cpD (cpD (pD D t0 0 (D t1 0)) (t1 + 1) (t0 + 1) 12) (t1 + 2) (t0 + 2) 12) (t1 + 3) (t0 + 3) 60) (t1 + 4) (t0 + 4) 60) t1 5)) (t1 + 5) (t0 + 5) 14) t0 7 ((cpD (pD (cpD (cpD (cpD (cpD (pD D t0 0 (D t1 0)) (t1 + 1) (t0 + 1) 12) (t1 + 2) (t0 + 2) 12) (t1 + 3) (t0 + 3) 60) (t1 + 4) (t0 + 4) 60) t0 5 ((cpD (cpD (cpD (cpD (pD D t0 0 (D t1 0)) (t1 + 1) (t0 + 1) 12) (t1 + 2) (t0 + 2) 12) (t1 + 3) (t0 + 3) 60) (t1 + 4) (t0 + 4) 60) t1 5)) (t1 + 5) (t0 + 5) 14) t1 7)) t0 8 ((pD (cpD (pD (cpD (cpD (cpD (cpD (pD D t0 0 (D t1 0)) (t1 + 1) (t0 + 1) 12) (t1 + 2) (t0 + 2) 12) (t1 + 3) (t0 + 3) 60) (t1 + 4) (t0 + 4) 60) t0 5 ((cpD (cpD (cpD (cpD (pD D t0 0 (D t1 0)) (t1 + 1) (t0 + 1) 12) (t1 + 2) (t0 + 2) 12) (t1 + 3) (t0 + 3) 60) (t1 + 4) (t0 + 4) 60) t1 5)) (t1 + 5) (t0 + 5) 14) t0 7 ((cpD (pD (cpD (cpD (cpD (cpD (pD D t0 0 (D t1 0)) (t1 + 1) (t0 + 1) 12) (t1 + 2) (t0 + 2) 12) (t1 + 3) (t0 + 3) 60) (t1 + 4) (t0 + 4) 60) t0 5 ((cpD (cpD (cpD (cpD (pD D t0 0 (D t1 0)) (t1 + 1) (t0 + 1) 12) (t1 + 2) (t0 + 2) 12) (t1 + 3) (t0 + 3) 60) (t1 + 4) (t0 + 4) 60) t1 5)) (t1 + 5) (t0 + 5) 14) t1 7)) t1 8)) t1 9)) t1 10)) t1 11)) (t1 + 6) (t0 + 6) 6) (t1 + 7) (t0 + 7) 6) t1 14)) (t1 + 8) (t0 + 8) 8) t0 16 ((cpD (pD (cpD (cpD (pD (pD (pD (pD (pD (cpD (pD (cpD (cpD (cpD (cpD (pD D t0 0 (D t1 0)) (t1 + 1) (t0 + 1) 12) (t1 + 2) (t0 + 2) 12) (t1 + 3) (t0 + 3) 60) (t1 + 4) (t0 + 4) 60) t0 5 ((cpD (cpD (cpD (cpD (pD D t0 0 (D t1 0)) (t1 + 1) (t0 + 1) 12) (t1 + 2) (t0 + 2) 12) (t1 + 3) (t0 + 3) 60) (t1 + 4) (t0 + 4) 60) t1 5)) (t1 + 5) (t0 + 5) 14) t0 7 ((cpD (pD (cpD (cpD (cpD (cpD (pD D t0 0 (D t1 0)) (t1 + 1) (t0 + 1) 12) (t1 + 2) (t0 + 2) 12) (t1 + 3) (t0 + 3) 60) (t1 + 4) (t0 + 4) 60) t0 5 ((cpD (cpD (cpD (cpD (pD D t0 0 (D t1 0)) (t1 + 1) (t0 + 1) 12) (t1 + 2) (t0 + 2) 12) (t1 + 3) (t0 + 3) 60) (t1 + 4) (t0 + 4) 60) t1 5)) (t1 + 5) (t0 + 5) 14) t1 7)) t0 8 ((pD (cpD (pD (cpD (cpD (cpD (cpD (pD D t0 0 (D t1 0)) (t1 + 1) (t0 + 1) 12) (t1 + 2) (t0 + 2) 12) (t1 + 3) (t0 + 3) 60) (t1 + 4) (t0 + 4) 60) t0 5 ((cpD (cpD (cpD (cpD (pD D t0 0 (D t1 0)) (t1 + 1) (t0 + 1) 12) (t1 + 2) (t0 + 2) 12) (t1 + 3) (t0 + 3) 60) (t1 + 4) (t0 + 4) 60) t1 5)) (t1 + 5) (t0 + 5) 14) t0 7 ((cpD (pD (cpD (cpD (cpD (cpD (pD D t0 0 (D t1 0)) (t1 + 1) (t0 + 1) 12) (t1 + 2) (t0 + 2) 12) (t1 + 3) (t0 + 3) 60) (t1 + 4) (t0 + 4) 60) t0 5 ((cpD (cpD (cpD (cpD (pD D t0 0 (D t1 0)) (t1 + 1) (t0 + 1) 12) (t1 + 2) (t0 + 2) 12) (t1 + 3) (t0 + 3) 60) (t1 + 4) (t0 + 4) 60) t1 5)) (t1 + 5) (t0 + 5) 14) t1 7)) t1 8)) t0 9 ((pD (pD (cpD (pD (cpD (cpD (cpD (cpD (pD D t0 0 (D t1 0)) (t1 + 1) (t0 + 1) 12) (t1 + 2) (t0 + 2) 12) (t1 + 3) (t0 + 3) 60) (t1 + 4) (t0 + 4) 60) t0 5 ((cpD (cpD (cpD (cpD (pD D t0 0 (D t1 0)) (t1 + 1) (t0 + 1) 12) (t1 + 2) (t0 + 2) 12) (t1 + 3) (t0 + 3) 60) (t1 + 4) (t0 + 4) 60) t1 5)) (t1 + 5) (t0 + 5) 14) t0 7 ((cpD (pD (cpD (cpD (cpD (cpD (pD D t0 0 (D t1 0)) (t1 + 1) (t0 + 1) 12) (t1 + 2) (t0 + 2) 12) (t1 + 3) (t0 + 3) 60) (t1 + 4) (t0 + 4) 60) t0 5 ((cpD (cpD (cpD (cpD (pD D t0 0 (D t1 0)) (t1 + 1) (t0 + 1) 12) (t1 + 2) (t0 + 2) 12) (t1 + 3) (t0 + 3) 60) (t1 + 4) (t0 + 4) 60) t1 5)) (t1 + 5) (t0 + 5) 14) t1 7)) t0 8 ((pD (cpD (pD (cpD (cpD (cpD (cpD (pD D t0 0 (D t1 0)) (t1 + 1) (t0 + 1) 12) (t1 + 2) (t0 + 2) 12) (t1 + 3) (t0 + 3) 60) (t1 + 4) (t0 + 4) 60) t0 5 ((cpD (cpD (cpD (cpD (pD D t0 0 (D t1 0)) (t1 + 1) (t0 + 1) 12) (t1 + 2) (t0 + 2) 12) (t1 + 3) (t0 + 3) 60) (t1 + 4) (t0 + 4) 60) t1 5)) (t1 + 5) (t0 + 5) 14) t0 7 ((cpD (pD (cpD (cpD (cpD (cpD (pD D t0 0 (D t1 0)) (t1 + 1) (t0 + 1) 12) (t1 + 2) (t0 + 2) 12) (t1 + 3) (t0 + 3) 60) (t1 + 4) (t0 + 4) 60) t0 5 ((cpD (cpD (cpD (cpD (pD D t0 0 (D t1 0)) (t1 + 1) (t0 + 1) 12) (t1 + 2) (t0 + 2) 12) (t1 + 3) (t0 + 3) 60) (t1 + 4) (t0 + 4) 60) t1 5)) (t1 + 5) (t0 + 5) 14) t1 7)) t1 8)) t1 9)) t0 10 ((pD (pD (pD (cpD (pD (cpD (cpD (cpD (cpD (pD D t0 0 (D t1 0)) (t1 + 1) (t0 + 1) 12) (t1 + 2) (t0 + 2) 12) (t1 + 3) (t0 + 3) 60) (t1 + 4) (t0 + 4) 60) t0 5 ((cpD (cpD (cpD (cpD (pD D t0 0 (D t1 0)) (t1 + 1) (t0 + 1) 12) (t1 + 2) (t0 + 2) 12) (t1 + 3) (t0 + 3) 60) (t1 + 4) (t0 + 4) 60) t1 5)) (t1 + 5) (t0 + 5) 14) t0 7 ((cpD (pD (cpD (cpD (cpD (cpD (pD D t0 0 (D t1 0)) (t1 + 1) (t0 + 1) 12) (t1 + 2) (t0 + 2) 12) (t1 + 3) (t0 + 3) 60) (t1 + 4) (t0 + 4) 60) t0 5 ((cpD (cpD (cpD (cpD (pD D t0 0 (D t1 0)) (t1 + 1) (t0 + 1) 12) (t1 + 2) (t0 + 2) 12) (t1 + 3) (t0 + 3) 60) (t1 + 4) (t0 + 4) 60) t1 5)) (t1 + 5) (t0 + 5) 14) t1 7)) t0 8 ((pD (cpD (pD (cpD (cpD (cpD (cpD (pD D t0 0 (D t1 0)) (t1 + 1) (t0 + 1) 12) (t1 + 2) (t0 + 2) 12) (t1 + 3) (t0 + 3) 60) (t1 + 4) (t0 + 4) 60) t0 5 ((cpD (cpD (cpD (cpD (pD D t0 0 (D t1 0)) (t1 + 1) (t0 + 1) 12) (t1 + 2) (t0 + 2) 12) (t1 + 3) (t0 + 3) 60) (t1 + 4) (t0 + 4) 60) t1 5)) (t1 + 5) (t0 + 5) 14) t0 7 ((cpD (pD (cpD (cpD (cpD (cpD (pD D t0 0 (D t1 0)) (t1 + 1) (t0 + 1) 12) (t1 + 2) (t0 + 2) 12) (t1 + 3) (t0 + 3) 60) (t1 + 4) (t0 + 4) 60) t0 5 ((cpD (cpD (cpD (cpD (pD D t0 0 (D t1 0)) (t1 + 1) (t0 + 1) 12) (t1 + 2) (t0 + 2) 12) (t1 + 3) (t0 + 3) 60) (t1 + 4) (t0 + 4) 60) t1 5)) (t1 + 5) (t0 + 5) 14) t1 7)) t1 8)) t0 9 ((pD (pD (cpD (pD (cpD (cpD (cpD (cpD (pD D t0 0 (D t1 0)) (t1 + 1) (t0 + 1) 12) (t1 + 2) (t0 + 2) 12) (t1 + 3) (t0 + 3) 60) (t1 + 4) (t0 + 4) 60) t0 5 ((cpD (cpD (cpD (cpD (pD D t0 0 (D t1 0)) (t1 + 1) (t0 + 1) 12) (t1 + 2) (t0 + 2) 12) (t1 + 3) (t0 + 3) 60) (t1 + 4) (t0 + 4) 60) t1 5)) (t1 + 5) (t0 + 5) 14) t0 7 ((cpD (pD (cpD (cpD (cpD (cpD (pD D t0 0 (D t1 0)) (t1 + 1) (t0 + 1) 12) (t1 + 2) (t0 + 2) 12) (t1 + 3) (t0 + 3) 60) (t1 + 4) (t0 + 4) 60) t0 5 ((cpD (cpD (cpD (cpD (pD D t0 0 (D t1 0)) (t1 + 1) (t0 + 1) 12) (t1 + 2) (t0 + 2) 12) (t1 + 3) (t0 + 3) 60) (t1 + 4) (t0 + 4) 60) t1 5)) (t1 + 5) (t0 + 5) 14) t1 7)) t0 8 ((pD (cpD (pD (cpD (cpD (cpD (cpD (pD D t0 0 (D t1 0)) (t1 + 1) (t0 + 1) 12) (t1 + 2) (t0 + 2) 12) (t1 + 3) (t0 + 3) 60) (t1 + 4) (t0 + 4) 60) t0 5 ((cpD (cpD (cpD (cpD (pD D t0 0 (D t1 0)) (t1 + 1) (t0 + 1) 12) (t1 + 2) (t0 + 2) 12) (t1 + 3) (t0 + 3) 60) (t1 + 4) (t0 + 4) 60) t1 5)) (t1 + 5) (t0 + 5) 14) t0 7 ((cpD (pD (cpD (cpD (cpD (cpD (pD D t0 0 (D t1 0)) (t1 + 1) (t0 + 1) 12) (t1 + 2) (t0 + 2) 12) (t1 + 3) (t0 + 3) 60) (t1 + 4) (t0 + 4) 60) t0 5 ((cpD (cpD (cpD (cpD (pD D t0 0 (D t1 0)) (t1 + 1) (t0 + 1) 12) (t1 + 2) (t0 + 2) 12) (t1 + 3) (t0 + 3) 60) (t1 + 4) (t0 + 4) 60) t1 5)) (t1 + 5) (t0 + 5) 14) t1 7)) t1 8)) t1 9)) t1 10)) t0 11 ((pD (pD (pD (pD (cpD (pD (cpD (cpD (cpD (cpD (pD D t0 0 (D t1 0)) (t1 + 1) (t0 + 1) 12) (t1 + 2) (t0 + 2) 12) (t1 + 3) (t0 + 3) 60) (t1 + 4) (t0 + 4) 60) t0 5 ((cpD (cpD (cpD (cpD (pD D t0 0 (D t1 0)) (t1 + 1) (t0 + 1) 12) (t1 + 2) (t0 + 2) 12) (t1 + 3) (t0 + 3) 60) (t1 + 4) (t0 + 4) 60) t1 5)) (t1 + 5) (t0 + 5) 14) t0 7 ((cpD (pD (cpD (cpD (cpD (cpD (pD D t0 0 (D t1 0)) (t1 + 1) (t0 + 1) 12) (t1 + 2) (t0 + 2) 12) (t1 + 3) (t0 + 3) 60) (t1 + 4) (t0 + 4) 60) t0 5 ((cpD (cpD (cpD (cpD (pD D t0 0 (D t1 0)) (t1 + 1) (t0 + 1) 12) (t1 + 2) (t0 + 2) 12) (t1 + 3) (t0 + 3) 60) (t1 + 4) (t0 + 4) 60) t1 5)) (t1 + 5) (t0 + 5) 14) t1 7)) t0 8 ((pD (cpD (pD (cpD (cpD (cpD (cpD (pD D t0 0 (D t1 0)) (t1 + 1) (t0 + 1) 12) (t1 + 2) (t0 + 2) 12) (t1 + 3) (t0 + 3) 60) (t1 + 4) (t0 + 4) 60) t0 5 ((cpD (cpD (cpD (cpD (pD D t0 0 (D t1 0)) (t1 + 1) (t0 + 1) 12) (t1 + 2) (t0 + 2) 12) (t1 + 3) (t0 + 3) 60) (t1 + 4) (t0 + 4) 60) t1 5)) (t1 + 5) (t0 + 5) 14) t0 7 ((cpD (pD (cpD (cpD (cpD (cpD (pD D t0 0 (D t1 0)) (t1 + 1) (t0 + 1) 12) (t1 + 2) (t0 + 2) 12) (t1 + 3) (t0 + 3) 60) (t1 + 4) (t0 + 4) 60) t0 5 ((cpD (cpD (cpD (cpD (pD D t0 0 (D t1 0)) (t1 + 1) (t0 + 1) 12) (t1 + 2) (t0 + 2) 12) (t1 + 3) (t0 + 3) 60) (t1 + 4) (t0 + 4) 60) t1 5)) (t1 + 5) (t0 + 5) 14) t1 7)) t1 8)) t0 9 ((pD (pD (cpD (pD (cpD (cpD (cpD (cpD (pD D t0 0 (D t1 0)) (t1 + 1) (t0 + 1) 12) (t1 + 2) (t0 + 2) 12) (t1 + 3) (t0 + 3) 60) (t1 + 4) (t0 + 4) 60) t0 5 ((cpD (cpD (cpD (cpD (pD D t0 0 (D t1 0)) (t1 + 1) (t0 + 1) 12) (t1 + 2) (t0 + 2) 12) (t1 + 3) (t0 + 3) 60) (t1 + 4) (t0 + 4) 60) t1 5)) (t1 + 5) (t0 + 5) 14) t0 7 ((cpD (pD (cpD (cpD (cpD (cpD (pD D t0 0 (D t1 0)) (t1 + 1) (t0 + 1) 12) (t1 + 2) (t0 + 2) 12) (t1 + 3) (t0 + 3) 60) (t1 + 4) (t0 + 4) 60) t0 5 ((cpD (cpD (cpD (cpD (pD D t0 0 (D t1 0)) (t1 + 1) (t0 + 1) 12) (t1 + 2) (t0 + 2) 12) (t1 + 3) (t0 + 3) 60) (t1 + 4) (t0 + 4) 60) t1 5)) (t1 + 5) (t0 + 5) 14) t1 7)) t0 8 ((pD (cpD (pD (cpD (cpD (cpD (cpD (pD D t0 0 (D t1 0)) (t1 + 1) (t0 + 1) 12) (t1 + 2) (t0 + 2) 12) (t1 + 3) (t0 + 3) 60) (t1 + 4) (t0 + 4) 60) t0 5 ((cpD (cpD (cpD (cpD (pD D t0 0 (D t1 0)) (t1 + 1) (t0 + 1) 12) (t1 + 2) (t0 + 2) 12) (t1 + 3) (t0 + 3) 60) (t1 + 4) (t0 + 4) 60) t1 5)) (t1 + 5) (t0 + 5) 14) t0 7 ((cpD (pD (cpD (cpD (cpD (cpD (pD D t0 0 (D t1 0)) (t1 + 1) (t0 + 1) 12) (t1 + 2) (t0 + 2) 12) (t1 + 3) (t0 + 3) 60) (t1 + 4) (t0 + 4) 60) t0 5 ((cpD (cpD (cpD (cpD (pD D t0 0 (D t1 0)) (t1 + 1) (t0 + 1) 12) (t1 + 2) (t0 + 2) 12) (t1 + 3) (t0 + 3) 60) (t1 + 4) (t0 + 4) 60) t1 5)) (t1 + 5) (t0 + 5) 14) t1 7)) t1 8)) t1 9)) t0 10 ((pD (pD (pD (cpD (pD (cpD (cpD (cpD (cpD (pD D t0 0 (D t1 0)) (t1 + 1) (t0 + 1) 12) (t1 + 2) (t0 + 2) 12) (t1 + 3) (t0 + 3) 60) (t1 + 4) (t0 + 4) 60) t0 5 ((cpD (cpD (cpD (cpD (pD D t0 0 (D t1 0)) (t1 + 1) (t0 + 1) 12) (t1 + 2) (t0 + 2) 12) (t1 + 3) (t0 + 3) 60) (t1 + 4) (t0 + 4) 60) t1 5)) (t1 + 5) (t0 + 5) 14) t0 7 ((cpD (pD (cpD (cpD (cpD (cpD (pD D t0 0 (D t1 0)) (t1 + 1) (t0 + 1) 12) (t1 + 2) (t0 + 2) 12) (t1 + 3) (t0 + 3) 60) (t1 + 4) (t0 + 4) 60) t0 5 ((cpD (cpD (cpD (cpD (pD D t0 0 (D t1 0)) (t1 + 1) (t0 + 1) 12) (t1 + 2) (t0 + 2) 12) (t1 + 3) (t0 + 3) 60) (t1 + 4) (t0 + 4) 60) t1 5)) (t1 + 5) (t0 + 5) 14) t1 7)) t0 8 ((pD (cpD (pD (cpD (cpD (cpD (cpD (pD D t0 0 (D t1 0)) (t1 + 1) (t0 + 1) 12) (t1 + 2) (t0 + 2) 12) (t1 + 3) (t0 + 3) 60) (t1 + 4) (t0 + 4) 60) t0 5 ((cpD (cpD (cpD (cpD (pD D t0 0 (D t1 0)) (t1 + 1) (t0 + 1) 12) (t1 + 2) (t0 + 2) 12) (t1 + 3) (t0 + 3) 60) (t1 + 4) (t0 + 4) 60) t1 5)) (t1 + 5) (t0 + 5) 14) t0 7 ((cpD (pD (cpD (cpD (cpD (cpD (pD D t0 0 (D t1 0)) (t1 + 1) (t0 + 1) 12) (t1 + 2) (t0 + 2) 12) (t1 + 3) (t0 + 3) 60) (t1 + 4) (t0 + 4) 60) t0 5 ((cpD (cpD (cpD (cpD (pD D t0 0 (D t1 0)) (t1 + 1) (t0 + 1) 12) (t1 + 2) (t0 + 2) 12) (t1 + 3) (t0 + 3) 60) (t1 + 4) (t0 + 4) 60) t1 5)) (t1 + 5) (t0 + 5) 14) t1 7)) t1 8)) t0 9 ((pD (pD (cpD (pD (cpD (cpD (cpD (cpD (pD D t0 0 (D t1 0)) (t1 + 1) (t0 + 1) 12) (t1 + 2) (t0 + 2) 12) (t1 + 3) (t0 + 3) 60) (t1 + 4) (t0 + 4) 60) t0 5 ((cpD (cpD (cpD (cpD (pD D t0 0 (D t1 0)) (t1 + 1) (t0 + 1) 12) (t1 + 2) (t0 + 2) 12) (t1 + 3) (t0 + 3) 60) (t1 + 4) (t0 + 4) 60) t1 5)) (t1 + 5) (t0 + 5) 14) t0 7 ((cpD (pD (cpD (cpD (cpD (cpD (pD D t0 0 (D t1 0)) (t1 + 1) (t0 + 1) 12) (t1 + 2) (t0 + 2) 12) (t1 + 3) (t0 + 3) 60) (t1 + 4) (t0 + 4) 60) t0 5 ((cpD (cpD (cpD (cpD (pD D t0 0 (D t1 0)) (t1 + 1) (t0 + 1) 12) (t1 + 2) (t0 + 2) 12) (t1 + 3) (t0 + 3) 60) (t1 + 4) (t0 + 4) 60) t1 5)) (t1 + 5) (t0 + 5) 14) t1 7)) t0 8 ((pD (cpD (pD (cpD (cpD (cpD (cpD (pD D t0 0 (D t1 0)) (t1 + 1) (t0 + 1) 12) (t1 + 2) (t0 + 2) 12) (t1 + 3) (t0 + 3) 60) (t1 + 4) (t0 + 4) 60) t0 5 ((cpD (cpD (cpD (cpD (pD D t0 0 (D t1 0)) (t1 + 1) (t0 + 1) 12) (t1 + 2) (t0 + 2) 12) (t1 + 3) (t0 + 3) 60) (t1 + 4) (t0 + 4) 60) t1 5)) (t1 + 5) (t0 + 5) 14) t0 7 ((cpD (pD (cpD (cpD (cpD (cpD (pD D t0 0 (D t1 0)) (t1 + 1) (t0 + 1) 12) (t1 + 2) (t0 + 2) 12) (t1 + 3) (t0 + 3) 60) (t1 + 4) (t0 + 4) 60) t0 5 ((cpD (cpD (cpD (cpD (pD D t0 0 (D t1 0)) (t1 + 1) (t0 + 1) 12) (t1 + 2) (t0 + 2) 12) (t1 + 3) (t0 + 3) 60) (t1 + 4) (t0 + 4) 60) t1 5)) (t1 + 5) (t0 + 5) 14) t1 7)) t1 8)) t1 9)) t1 10)) t1 11)) (t1 + 6) (t0 + 6) 6) (t1 + 7) (t0 + 7) 6) t0 14 ((cpD (cpD (pD (pD (pD (pD (pD (cpD (pD (cpD (cpD (cpD (cpD (pD D t0 0 (D t1 0)) (t1 + 1) (t0 + 1) 12) (t1 + 2) (t0 + 2) 12) (t1 + 3) (t0 + 3) 60) (t1 + 4) (t0 + 4) 60) t0 5 ((cpD (cpD (cpD (cpD (pD D t0 0 (D t1 0)) (t1 + 1) (t0 + 1) 12) (t1 + 2) (t0 + 2) 12) (t1 + 3) (t0 + 3) 60) (t1 + 4) (t0 + 4) 60) t1 5)) (t1 + 5) (t0 + 5) 14) t0 7 ((cpD (pD (cpD (cpD (cpD (cpD (pD D t0 0 (D t1 0)) (t1 + 1) (t0 + 1) 12) (t1 + 2) (t0 + 2) 12) (t1 + 3) (t0 + 3) 60) (t1 + 4) (t0 + 4) 60) t0 5 ((cpD (cpD (cpD (cpD (pD D t0 0 (D t1 0)) (t1 + 1) (t0 + 1) 12) (t1 + 2) (t0 + 2) 12) (t1 + 3) (t0 + 3) 60) (t1 + 4) (t0 + 4) 60) t1 5)) (t1 + 5) (t0 + 5) 14) t1 7)) t0 8 ((pD (cpD (pD (cpD (cpD (cpD (cpD (pD D t0 0 (D t1 0)) (t1 + 1) (t0 + 1) 12) (t1 + 2) (t0 + 2) 12) (t1 + 3) (t0 + 3) 60) (t1 + 4) (t0 + 4) 60) t0 5 ((cpD (cpD (cpD (cpD (pD D t0 0 (D t1 0)) (t1 + 1) (t0 + 1) 12) (t1 + 2) (t0 + 2) 12) (t1 + 3) (t0 + 3) 60) (t1 + 4) (t0 + 4) 60) t1 5)) (t1 + 5) (t0 + 5) 14) t0 7 ((cpD (pD (cpD (cpD (cpD (cpD (pD D t0 0 (D t1 0)) (t1 + 1) (t0 + 1) 12) (t1 + 2) (t0 + 2) 12) (t1 + 3) (t0 + 3) 60) (t1 + 4) (t0 + 4) 60) t0 5 ((cpD (cpD (cpD (cpD (pD D t0 0 (D t1 0)) (t1 + 1) (t0 + 1) 12) (t1 + 2) (t0 + 2) 12) (t1 + 3) (t0 + 3) 60) (t1 + 4) (t0 + 4) 60) t1 5)) (t1 + 5) (t0 + 5) 14) t1 7)) t1 8)) t0 9 ((pD (pD (cpD (pD (cpD (cpD (cpD (cpD (pD D t0 0 (D t1 0)) (t1 + 1) (t0 + 1) 12) (t1 + 2) (t0 + 2) 12) (t1 + 3) (t0 + 3) 60) (t1 + 4) (t0 + 4) 60) t0 5 ((cpD (cpD (cpD (cpD (pD D t0 0 (D t1 0)) (t1 + 1) (t0 + 1) 12) (t1 + 2) (t0 + 2) 12) (t1 + 3) (t0 + 3) 60) (t1 + 4) (t0 + 4) 60) t1 5)) (t1 + 5) (t0 + 5) 14) t0 7 ((cpD (pD (cpD (cpD (cpD (cpD (pD D t0 0 (D t1 0)) (t1 + 1) (t0 + 1) 12) (t1 + 2) (t0 + 2) 12) (t1 + 3) (t0 + 3) 60) (t1 + 4) (t0 + 4) 60) t0 5 ((cpD (cpD (cpD (cpD (pD D t0 0 (D t1 0)) (t1 + 1) (t0 + 1) 12) (t1 + 2) (t0 + 2) 12) (t1 + 3) (t0 + 3) 60) (t1 + 4) (t0 + 4) 60) t1 5)) (t1 + 5) (t0 + 5) 14) t1 7)) t0 8 ((pD (cpD (pD (cpD (cpD (cpD (cpD (pD D t0 0 (D t1 0)) (t1 + 1) (t0 + 1) 12) (t1 + 2) (t0 + 2) 12) (t1 + 3) (t0 + 3) 60) (t1 + 4) (t0 + 4) 60) t0 5 ((cpD (cpD (cpD (cpD (pD D t0 0 (D t1 0)) (t1 + 1) (t0 + 1) 12) (t1 + 2) (t0 + 2) 12) (t1 + 3) (t0 + 3) 60) (t1 + 4) (t0 + 4) 60) t1 5)) (t1 + 5) (t0 + 5) 14) t0 7 ((cpD (pD (cpD (cpD (cpD (cpD (pD D t0 0 (D t1 0)) (t1 + 1) (t0 + 1) 12) (t1 + 2) (t0 + 2) 12) (t1 + 3) (t0 + 3) 60) (t1 + 4) (t0 + 4) 60) t0 5 ((cpD (cpD (cpD (cpD (pD D t0 0 (D t1 0)) (t1 + 1) (t0 + 1) 12) (t1 + 2) (t0 + 2) 12) (t1 + 3) (t0 + 3) 60) (t1 + 4) (t0 + 4) 60) t1 5)) (t1 + 5) (t0 + 5) 14) t1 7)) t1 8)) t1 9)) t0 10 ((pD (pD (pD (cpD (pD (cpD (cpD (cpD (cpD (pD D t0 0 (D t1 0)) (t1 + 1) (t0 + 1) 12) (t1 + 2) (t0 + 2) 12) (t1 + 3) (t0 + 3) 60) (t1 + 4) (t0 + 4) 60) t0 5 ((cpD (cpD (cpD (cpD (pD D t0 0 (D t1 0)) (t1 + 1) (t0 + 1) 12) (t1 + 2) (t0 + 2) 12) (t1 + 3) (t0 + 3) 60) (t1 + 4) (t0 + 4) 60) t1 5)) (t1 + 5) (t0 + 5) 14) t0 7 ((cpD (pD (cpD (cpD (cpD (cpD (pD D t0 0 (D t1 0)) (t1 + 1) (t0 + 1) 12) (t1 + 2) (t0 + 2) 12) (t1 + 3) (t0 + 3) 60) (t1 + 4) (t0 + 4) 60) t0 5 ((cpD (cpD (cpD (cpD (pD D t0 0 (D t1 0)) (t1 + 1) (t0 + 1) 12) (t1 + 2) (t0 + 2) 12) (t1 + 3) (t0 + 3) 60) (t1 + 4) (t0 + 4) 60) t1 5)) (t1 + 5) (t0 + 5) 14) t1 7)) t0 8 ((pD (cpD (pD (cpD (cpD (cpD (cpD (pD D t0 0 (D t1 0)) (t1 + 1) (t0 + 1) 12) (t1 + 2) (t0 + 2) 12) (t1 + 3) (t0 + 3) 60) (t1 + 4) (t0 + 4) 60) t0 5 ((cpD (cpD (cpD (cpD (pD D t0 0 (D t1 0)) (t1 + 1) (t0 + 1) 12) (t1 + 2) (t0 + 2) 12) (t1 + 3) (t0 + 3) 60) (t1 + 4) (t0 + 4) 60) t1 5)) (t1 + 5) (t0 + 5) 14) t0 7 ((cpD (pD (cpD (cpD (cpD (cpD (pD D t0 0 (D t1 0)) (t1 + 1) (t0 + 1) 12) (t1 + 2) (t0 + 2) 12) (t1 + 3) (t0 + 3) 60) (t1 + 4) (t0 + 4) 60) t0 5 ((cpD (cpD (cpD (cpD (pD D t0 0 (D t1 0)) (t1 + 1) (t0 + 1) 12) (t1 + 2) (t0 + 2) 12) (t1 + 3) (t0 + 3) 60) (t1 + 4) (t0 + 4) 60) t1 5)) (t1 + 5) (t0 + 5) 14) t1 7)) t1 8)) t0 9 ((pD (pD (cpD (pD (cpD (cpD (cpD (cpD (pD D t0 0 (D t1 0)) (t1 + 1) (t0 + 1) 12) (t1 + 2) (t0 + 2) 12) (t1 + 3) (t0 + 3) 60) (t1 + 4) (t0 + 4) 60) t0 5 ((cpD (cpD (cpD (cpD (pD D t0 0 (D t1 0)) (t1 + 1) (t0 + 1) 12) (t1 + 2) (t0 + 2) 12) (t1 + 3) (t0 + 3) 60) (t1 + 4) (t0 + 4) 60) t1 5)) (t1 + 5) (t0 + 5) 14) t0 7 ((cpD (pD (cpD (cpD (cpD (cpD (pD D t0 0 (D t1 0)) (t1 + 1) (t0 + 1) 12) (t1 + 2) (t0 + 2) 12) (t1 + 3) (t0 + 3) 60) (t1 + 4) (t0 + 4) 60) t0 5 ((cpD (cpD (cpD (cpD (pD D t0 0 (D t1 0)) (t1 + 1) (t0 + 1) 12) (t1 + 2) (t0 + 2) 12) (t1 + 3) (t0 + 3) 60) (t1 + 4) (t0 + 4) 60) t1 5)) (t1 + 5) (t0 + 5) 14) t1 7)) t0 8 ((pD (cpD (pD (cpD (cpD (cpD (cpD (pD D t0 0 (D t1 0)) (t1 + 1) (t0 + 1) 12) (t1 + 2) (t0 + 2) 12) (t1 + 3) (t0 + 3) 60) (t1 + 4) (t0 + 4) 60) t0 5 ((cpD (cpD (cpD (cpD (pD D t0 0 (D t1 0)) (t1 + 1) (t0 + 1) 12) (t1 + 2) (t0 + 2) 12) (t1 + 3) (t0 + 3) 60) (t1 + 4) (t0 + 4) 60) t1 5)) (t1 + 5) (t0 + 5) 14) t0 7 ((cpD (pD (cpD (cpD (cpD (cpD (pD D t0 0 (D t1 0)) (t1 + 1) (t0 + 1) 12) (t1 + 2) (t0 + 2) 12) (t1 + 3) (t0 + 3) 60) (t1 + 4) (t0 + 4) 60) t0 5 ((cpD (cpD (cpD (cpD (pD D t0 0 (D t1 0)) (t1 + 1) (t0 + 1) 12) (t1 + 2) (t0 + 2) 12) (t1 + 3) (t0 + 3) 60) (t1 + 4) (t0 + 4) 60) t1 5)) (t1 + 5) (t0 + 5) 14) t1 7)) t1 8)) t1 9)) t1 10)) t0 11 ((pD (pD (pD (pD (cpD (pD (cpD (cpD (cpD (cpD (pD D t0 0 (D t1 0)) (t1 + 1) (t0 + 1) 12) (t1 + 2) (t0 + 2) 12) (t1 + 3) (t0 + 3) 60) (t1 + 4) (t0 + 4) 60) t0 5 ((cpD (cpD (cpD (cpD (pD D t0 0 (D t1 0)) (t1 + 1) (t0 + 1) 12) (t1 + 2) (t0 + 2) 12) (t1 + 3) (t0 + 3) 60) (t1 + 4) (t0 + 4) 60) t1 5)) (t1 + 5) (t0 + 5) 14) t0 7 ((cpD (pD (cpD (cpD (cpD (cpD (pD D t0 0 (D t1 0)) (t1 + 1) (t0 + 1) 12) (t1 + 2) (t0 + 2) 12) (t1 + 3) (t0 + 3) 60) (t1 + 4) (t0 + 4) 60) t0 5 ((cpD (cpD (cpD (cpD (pD D t0 0 (D t1 0)) (t1 + 1) (t0 + 1) 12) (t1 + 2) (t0 + 2) 12) (t1 + 3) (t0 + 3) 60) (t1 + 4) (t0 + 4) 60) t1 5)) (t1 + 5) (t0 + 5) 14) t1 7)) t0 8 ((pD (cpD (pD (cpD (cpD (cpD (cpD (pD D t0 0 (D t1 0)) (t1 + 1) (t0 + 1) 12) (t1 + 2) (t0 + 2) 12) (t1 + 3) (t0 + 3) 60) (t1 + 4) (t0 + 4) 60) t0 5 ((cpD (cpD (cpD (cpD (pD D t0 0 (D t1 0)) (t1 + 1) (t0 + 1) 12) (t1 + 2) (t0 + 2) 12) (t1 + 3) (t0 + 3) 60) (t1 + 4) (t0 + 4) 60) t1 5)) (t1 + 5) (t0 + 5) 14) t0 7 ((cpD (pD (cpD (cpD (cpD (cpD (pD D t0 0 (D t1 0)) (t1 + 1) (t0 + 1) 12) (t1 + 2) (t0 + 2) 12) (t1 + 3) (t0 + 3) 60) (t1 + 4) (t0 + 4) 60) t0 5 ((cpD (cpD (cpD (cpD (pD D t0 0 (D t1 0)) (t1 + 1) (t0 + 1) 12) (t1 + 2) (t0 + 2) 12) (t1 + 3) (t0 + 3) 60) (t1 + 4) (t0 + 4) 60) t1 5)) (t1 + 5) (t0 + 5) 14) t1 7)) t1 8)) t0 9 ((pD (pD (cpD (pD (cpD (cpD (cpD (cpD (pD D t0 0 (D t1 0)) (t1 + 1) (t0 + 1) 12) (t1 + 2) (t0 + 2) 12) (t1 + 3) (t0 + 3) 60) (t1 + 4) (t0 + 4) 60) t0 5 ((cpD (cpD (cpD (cpD (pD D t0 0 (D t1 0)) (t1 + 1) (t0 + 1) 12) (t1 + 2) (t0 + 2) 12) (t1 + 3) (t0 + 3) 60) (t1 + 4) (t0 + 4) 60) t1 5)) (t1 + 5) (t0 + 5) 14) t0 7 ((cpD (pD (cpD (cpD (cpD (cpD (pD D t0 0 (D t1 0)) (t1 + 1) (t0 + 1) 12) (t1 + 2) (t0 + 2) 12) (t1 + 3) (t0 + 3) 60) (t1 + 4) (t0 + 4) 60) t0 5 ((cpD (cpD (cpD (cpD (pD D t0 0 (D t1 0)) (t1 + 1) (t0 + 1) 12) (t1 + 2) (t0 + 2) 12) (t1 + 3) (t0 + 3) 60) (t1 + 4) (t0 + 4) 60) t1 5)) (t1 + 5) (t0 + 5) 14) t1 7)) t0 8 ((pD (cpD (pD (cpD (cpD (cpD (cpD (pD D t0 0 (D t1 0)) (t1 + 1) (t0 + 1) 12) (t1 + 2) (t0 + 2) 12) (t1 + 3) (t0 + 3) 60) (t1 + 4) (t0 + 4) 60) t0 5 ((cpD (cpD (cpD (cpD (pD D t0 0 (D t1 0)) (t1 + 1) (t0 + 1) 12) (t1 + 2) (t0 + 2) 12) (t1 + 3) (t0 + 3) 60) (t1 + 4) (t0 + 4) 60) t1 5)) (t1 + 5) (t0 + 5) 14) t0 7 ((cpD (pD (cpD (cpD (cpD (cpD (pD D t0 0 (D t1 0)) (t1 + 1) (t0 + 1) 12) (t1 + 2) (t0 + 2) 12) (t1 + 3) (t0 + 3) 60) (t1 + 4) (t0 + 4) 60) t0 5 ((cpD (cpD (cpD (cpD (pD D t0 0 (D t1 0)) (t1 + 1) (t0 + 1) 12) (t1 + 2) (t0 + 2) 12) (t1 + 3) (t0 + 3) 60) (t1 + 4) (t0 + 4) 60) t1 5)) (t1 + 5) (t0 + 5) 14) t1 7)) t1 8)) t1 9)) t0 10 ((pD (pD (pD (cpD (pD (cpD (cpD (cpD (cpD (pD D t0 0 (D t1 0)) (t1 + 1) (t0 + 1) 12) (t1 + 2) (t0 + 2) 12) (t1 + 3) (t0 + 3) 60) (t1 + 4) (t0 + 4) 60) t0 5 ((cpD (cpD (cpD (cpD (pD D t0 0 (D t1 0)) (t1 + 1) (t0 + 1) 12) (t1 + 2) (t0 + 2) 12) (t1 + 3) (t0 + 3) 60) (t1 + 4) (t0 + 4) 60) t1 5)) (t1 + 5) (t0 + 5) 14) t0 7 ((cpD (pD (cpD (cpD (cpD (cpD (pD D t0 0 (D t1 0)) (t1 + 1) (t0 + 1) 12) (t1 + 2) (t0 + 2) 12) (t1 + 3) (t0 + 3) 60) (t1 + 4) (t0 + 4) 60) t0 5 ((cpD (cpD (cpD (cpD (pD D t0 0 (D t1 0)) (t1 + 1) (t0 + 1) 12) (t1 + 2) (t0 + 2) 12) (t1 + 3) (t0 + 3) 60) (t1 + 4) (t0 + 4) 60) t1 5)) (t1 + 5) (t0 + 5) 14) t1 7)) t0 8 ((pD (cpD (pD (cpD (cpD (cpD (cpD (pD D t0 0 (D t1 0)) (t1 + 1) (t0 + 1) 12) (t1 + 2) (t0 + 2) 12) (t1 + 3) (t0 + 3) 60) (t1 + 4) (t0 + 4) 60) t0 5 ((cpD (cpD (cpD (cpD (pD D t0 0 (D t1 0)) (t1 + 1) (t0 + 1) 12) (t1 + 2) (t0 + 2) 12) (t1 + 3) (t0 + 3) 60) (t1 + 4) (t0 + 4) 60) t1 5)) (t1 + 5) (t0 + 5) 14) t0 7 ((cpD (pD (cpD (cpD (cpD (cpD (pD D t0 0 (D t1 0)) (t1 + 1) (t0 + 1) 12) (t1 + 2) (t0 + 2) 12) (t1 + 3) (t0 + 3) 60) (t1 + 4) (t0 + 4) 60) t0 5 ((cpD (cpD (cpD (cpD (pD D t0 0 (D t1 0)) (t1 + 1) (t0 + 1) 12) (t1 + 2) (t0 + 2) 12) (t1 + 3) (t0 + 3) 60) (t1 + 4) (t0 + 4) 60) t1 5)) (t1 + 5) (t0 + 5) 14) t1 7)) t1 8)) t0 9 ((pD (pD (cpD (pD (cpD (cpD (cpD (cpD (pD D t0 0 (D t1 0)) (t1 + 1) (t0 + 1) 12) (t1 + 2) (t0 + 2) 12) (t1 + 3) (t0 + 3) 60) (t1 + 4) (t0 + 4) 60) t0 5 ((cpD (cpD (cpD (cpD (pD D t0 0 (D t1 0)) (t1 + 1) (t0 + 1) 12) (t1 + 2) (t0 + 2) 12) (t1 + 3) (t0 + 3) 60) (t1 + 4) (t0 + 4) 60) t1 5)) (t1 + 5) (t0 + 5) 14) t0 7 ((cpD (pD (cpD (cpD (cpD (cpD (pD D t0 0 (D t1 0)) (t1 + 1) (t0 + 1) 12) (t1 + 2) (t0 + 2) 12) (t1 + 3) (t0 + 3) 60) (t1 + 4) (t0 + 4) 60) t0 5 ((cpD (cpD (cpD (cpD (pD D t0 0 (D t1 0)) (t1 + 1) (t0 + 1) 12) (t1 + 2) (t0 + 2) 12) (t1 + 3) (t0 + 3) 60) (t1 + 4) (t0 + 4) 60) t1 5)) (t1 + 5) (t0 + 5) 14) t1 7)) t0 8 ((pD (cpD (pD (cpD (cpD (cpD (cpD (pD D t0 0 (D t1 0)) (t1 + 1) (t0 + 1) 12) (t1 + 2) (t0 + 2) 12) (t1 + 3) (t0 + 3) 60) (t1 + 4) (t0 + 4) 60) t0 5 ((cpD (cpD (cpD (cpD (pD D t0 0 (D t1 0)) (t1 + 1) (t0 + 1) 12) (t1 + 2) (t0 + 2) 12) (t1 + 3) (t0 + 3) 60) (t1 + 4) (t0 + 4) 60) t1 5)) (t1 + 5) (t0 + 5) 14) t0 7 ((cpD (pD (cpD (cpD (cpD (cpD (pD D t0 0 (D t1 0)) (t1 + 1) (t0 + 1) 12) (t1 + 2) (t0 + 2) 12) (t1 + 3) (t0 + 3) 60) (t1 + 4) (t0 + 4) 60) t0 5 ((cpD (cpD (cpD (cpD (pD D t0 0 (D t1 0)) (t1 + 1) (t0 + 1) 12) (t1 + 2) (t0 + 2) 12) (t1 + 3) (t0 + 3) 60) (t1 + 4) (t0 + 4) 60) t1 5)) (t1 + 5) (t0 + 5) 14) t1 7)) t1 8)) t1 9)) t1 10)) t1 11)) (t1 + 6) (t0 + 6) 6) (t1 + 7) (t0 + 7) 6) t1 14)) (t1 + 8) (t0 + 8) 8) t1 16)))
noncomputable def F_X7_beginFrom (t1 : Nat) (D : mD) : RI :=
  bI (F_X6_copyFrom 94 t1 D) fun _ D1 =>
  some (0, (pD D1 93 3 0))
noncomputable def F_X9_readNumber_S (x1 x2 : Int) (D : mD) : RI :=
  bI (F_X8_numberWithin x1 x2 D) fun v1 D1 =>
  ck (nR v1) <|
  if v1 = (-1) then
    some (v1, D1)
  else
    bI (F_X8_step D1) fun _ D2 =>
    some (v1, D2)
noncomputable def F_X7_readsBoard (D : mD) : RI :=
  bI (F_X9_readNumber_S 10 120 D) fun v1 D1 =>
  ck (nR ((pD D1 94 7 v1) 94 7)) <|
  if ((pD D1 94 7 v1) 94 7) = (-1) then
    some (0, (pD D1 94 7 v1))
  else
    bI (F_X8_takesWord 28 (pD D1 94 7 v1)) fun v2 D2 =>
    ck (nR v2) <|
    if v2 = 0 then
      some (0, D2)
    else
      bI (F_X9_readNumber_S 0 9 D2) fun v3 D3 =>
      ck (nR ((pD D3 94 8 v3) 94 8)) <|
      ck (((if ((pD D3 94 8 v3) 94 8) = (-1) then (0 : Int) else (1 : Int)) = 0 ∨ (if ((pD D3 94 8 v3) 94 8) = (-1) then (0 : Int) else (1 : Int)) = 1)) <|
      some ((if ((pD D3 94 8 v3) 94 8) = (-1) then (0 : Int) else (1 : Int)), (pD D3 94 8 v3))
noncomputable def F_X7_readsLooker (D : mD) : RI :=
  ck (nR (D 94 14)) <|
  if (D 94 14) < 8 then
    bI (F_X8_step D) fun _ D1 =>
    bI (F_X9_readNumber_S 0 200 D1) fun v2 D2 =>
    ck (0 ≤ (D 94 14) ∧ (D 94 14) < 8) <|
    ck (nR ((pD (pD D2 102 (D 94 14) v2) 94 14 (((pD D2 102 (D 94 14) v2) 94 14) + 1)) 102 (D 94 14))) <|
    ck (((if ((pD (pD D2 102 (D 94 14) v2) 94 14 (((pD D2 102 (D 94 14) v2) 94 14) + 1)) 102 (D 94 14)) = (-1) then (0 : Int) else (1 : Int)) = 0 ∨ (if ((pD (pD D2 102 (D 94 14) v2) 94 14 (((pD D2 102 (D 94 14) v2) 94 14) + 1)) 102 (D 94 14)) = (-1) then (0 : Int) else (1 : Int)) = 1)) <|
    some ((if ((pD (pD D2 102 (D 94 14) v2) 94 14 (((pD D2 102 (D 94 14) v2) 94 14) + 1)) 102 (D 94 14)) = (-1) then (0 : Int) else (1 : Int)), (pD (pD D2 102 (D 94 14) v2) 94 14 (((pD D2 102 (D 94 14) v2) 94 14) + 1)))
  else
    some (0, D)
noncomputable def F_X8_figureOf (x1 : Int) (D : mD) : RI :=
  ck (0 ≤ ((D 1 3) + x1) ∧ ((D 1 3) + x1) < 400) <|
  some (((D 2 ((D 1 3) + x1)) - 48), D)
noncomputable def F_X8_isFigures (D : mD) : RI :=
  ck (nR (D 1 2)) <|
  ck (((D 1 2) = 2) → nR ((D 1 4) - (D 1 3))) <|
  ck (((if (D 1 2) = 2 then (if ((D 1 4) - (D 1 3)) = 5 then (1 : Int) else (0 : Int)) else (0 : Int)) = 0 ∨ (if (D 1 2) = 2 then (if ((D 1 4) - (D 1 3)) = 5 then (1 : Int) else (0 : Int)) else (0 : Int)) = 1)) <|
  some ((if (D 1 2) = 2 then (if ((D 1 4) - (D 1 3)) = 5 then (1 : Int) else (0 : Int)) else (0 : Int)), D)
noncomputable def F_X7_readsSides_L91 (x1 : Int) : Nat → Int → mD → RI
  | 0, _, _ => none
  | n + 1, x2, D =>
    ck (nR x2) <|
    if 5 ≤ x2 then
      bI (F_X8_step D) fun _ D1 =>
      some (1, D1)
    else
      bI (F_X8_figureOf x2 D) fun v2 D2 =>
      bI (F_X6_leftOf 94 x1 x2 D2) fun v3 D3 =>
      ck (0 ≤ x1 ∧ x1 < 12) <|
      ck (nR (v3 + v2)) <|
      ck (nR (D3 96 x1)) <|
      if (v3 + v2) < (D3 96 x1) then
        ck (0 ≤ ((x1 * 5) + x2) ∧ ((x1 * 5) + x2) < 60) <|
        F_X7_readsSides_L91 x1 n (x2 + 1) (pD D3 98 ((x1 * 5) + x2) v2)
      else
        some (0, D3)
noncomputable def F_X7_readsSides_L26 (x1 : Int) : Nat → Int → mD → RI
  | 0, _, _ => none
  | n + 1, x2, D =>
    ck (nR x2) <|
    if 5 ≤ x2 then
      bI (F_X8_step D) fun _ D1 =>
      bI (F_X8_takesWord 22 D1) fun v2 D2 =>
      ck (nR v2) <|
      if v2 = 0 then
        some (0, D2)
      else
        bI (F_X8_isFigures D2) fun v3 D3 =>
        ck (nR v3) <|
        if v3 = 0 then
          some (0, D3)
        else
          F_X7_readsSides_L91 x1 fuelN 0 D3
    else
      bI (F_X8_figureOf x2 D) fun v4 D4 =>
      ck (0 ≤ ((x1 * 5) + x2) ∧ ((x1 * 5) + x2) < 60) <|
      F_X7_readsSides_L26 x1 n (x2 + 1) (pD D4 97 ((x1 * 5) + x2) v4)
noncomputable def F_X7_readsSides (x1 : Int) (D : mD) : RI :=
  bI (F_X8_takesWord 21 D) fun v1 D1 =>
  ck (nR v1) <|
  if v1 = 0 then
    some (0, D1)
  else
    bI (F_X8_isFigures D1) fun v2 D2 =>
    ck (nR v2) <|
    if v2 = 0 then
      some (0, D2)
    else
      F_X7_readsSides_L26 x1 fuelN 0 D2
noncomputable def F_X7_sortHere (D : mD) : RI :=
  bI (F_X8_isWord 16 D) fun v1 D1 =>
  ck (nR v1) <|
  if v1 = 0 then
    bI (F_X8_isWord 17 D1) fun v2 D2 =>
    ck (nR v2) <|
    if v2 = 0 then
      bI (F_X8_isWord 18 D2) fun v3 D3 =>
      ck (nR v3) <|
      if v3 = 0 then
        bI (F_X8_isWord 19 D3) fun v4 D4 =>
        ck (nR v4) <|
        some ((if v4 = 0 then (-1 : Int) else (3 : Int)), D4)
      else
        some (2, D3)
    else
      some (1, D2)
  else
    some (0, D1)
noncomputable def F_X7_readsSign (D : mD) : RI :=
  ck (nR (D 94 0)) <|
  if (D 94 0) < 12 then
    bI (F_X8_step D) fun _ D1 =>
    bI (F_X7_sortHere D1) fun v2 D2 =>
    ck (nR v2) <|
    if v2 = (-1) then
      some (0, D2)
    else
      bI (F_X8_step D2) fun _ D3 =>
      bI (F_X8_takesWord 20 D3) fun v4 D4 =>
      ck (nR v4) <|
      if v4 = 0 then
        some (0, D4)
      else
        bI (F_X9_readNumber_S 2 12 D4) fun v5 D5 =>
        ck (nR v5) <|
        if v5 = (-1) then
          some (0, D5)
        else
          ck (0 ≤ (D 94 0) ∧ (D 94 0) < 12) <|
          bI (F_X7_readsSides (D 94 0) (pD (pD D5 95 (D 94 0) v2) 96 (D 94 0) v5)) fun v6 D6 =>
          ck (nR v6) <|
          if v6 = 0 then
            some (0, D6)
          else
            some (1, (pD D6 94 0 ((D6 94 0) + 1)))
  else
    some (0, D)
noncomputable def F_X7_readsWord_L15 : Nat → Int → mD → RI
  | 0, _, _ => none
  | n + 1, x1, D =>
    ck (nR x1) <|
    if 14 ≤ x1 then
      some (0, D)
    else
      bI (F_X9_readNumber_S 0 ((D 94 0) - 1) D) fun v1 D1 =>
      ck (nR v1) <|
      if v1 = (-1) then
        some (0, D1)
      else
        ck (0 ≤ x1 ∧ x1 < 14) <|
        ck (nR ((pD (pD D1 99 x1 v1) 94 5 (((pD D1 99 x1 v1) 94 5) + 1)) 1 2)) <|
        if ((pD (pD D1 99 x1 v1) 94 5 (((pD D1 99 x1 v1) 94 5) + 1)) 1 2) = 2 then
          F_X7_readsWord_L15 n (x1 + 1) (pD (pD D1 99 x1 v1) 94 5 (((pD D1 99 x1 v1) 94 5) + 1))
        else
          some (1, (pD (pD D1 99 x1 v1) 94 5 (((pD D1 99 x1 v1) 94 5) + 1)))
noncomputable def F_X7_readsWord (D : mD) : RI :=
  F_X7_readsWord_L15 fuelN 0 (pD (pD D 93 3 1) 94 5 0)
noncomputable def F_X7_readsWriter (D : mD) : RI :=
  ck (nR (D 94 11)) <|
  if (D 94 11) < 6 then
    bI (F_X8_step D) fun _ D1 =>
    bI (F_X8_takesWord 24 D1) fun v2 D2 =>
    ck (nR v2) <|
    if v2 = 0 then
      some (0, D2)
    else
      bI (F_X9_readNumber_S 0 999 D2) fun v3 D3 =>
      ck (0 ≤ (D 94 11) ∧ (D 94 11) < 6) <|
      ck (nR ((pD D3 100 (D 94 11) v3) 100 (D 94 11))) <|
      if ((pD D3 100 (D 94 11) v3) 100 (D 94 11)) = (-1) then
        some (0, (pD D3 100 (D 94 11) v3))
      else
        bI (F_X8_takesWord 25 (pD D3 100 (D 94 11) v3)) fun v4 D4 =>
        ck (nR v4) <|
        if v4 = 0 then
          some (0, D4)
        else
          bI (F_X9_readNumber_S 0 100 D4) fun v5 D5 =>
          ck (nR ((pD (pD D5 101 (D 94 11) v5) 94 11 (((pD D5 101 (D 94 11) v5) 94 11) + 1)) 101 (D 94 11))) <|
          ck (((if ((pD (pD D5 101 (D 94 11) v5) 94 11 (((pD D5 101 (D 94 11) v5) 94 11) + 1)) 101 (D 94 11)) = (-1) then (0 : Int) else (1 : Int)) = 0 ∨ (if ((pD (pD D5 101 (D 94 11) v5) 94 11 (((pD D5 101 (D 94 11) v5) 94 11) + 1)) 101 (D 94 11)) = (-1) then (0 : Int) else (1 : Int)) = 1)) <|
          some ((if ((pD (pD D5 101 (D 94 11) v5) 94 11 (((pD D5 101 (D 94 11) v5) 94 11) + 1)) 101 (D 94 11)) = (-1) then (0 : Int) else (1 : Int)), (pD (pD D5 101 (D 94 11) v5) 94 11 (((pD D5 101 (D 94 11) v5) 94 11) + 1)))
  else
    some (0, D)
noncomputable def F_X7_readsLine (D : mD) : RI :=
  bI (F_X8_isWord 15 D) fun v1 D1 =>
  ck (nR v1) <|
  if v1 = 0 then
    bI (F_X8_isWord 23 D1) fun v2 D2 =>
    ck (nR v2) <|
    if v2 = 0 then
      bI (F_X8_isWord 26 D2) fun v3 D3 =>
      ck (nR v3) <|
      if v3 = 0 then
        bI (F_X8_takesWord 27 D3) fun v4 D4 =>
        ck (nR v4) <|
        if v4 = 0 then
          bI (F_X8_takesWord 29 D4) fun v5 D5 =>
          ck (nR v5) <|
          if v5 = 0 then
            bI (F_X8_takesWord 30 D5) fun v6 D6 =>
            ck (nR v6) <|
            if v6 = 0 then
              bI (F_X8_takesWord 31 D6) fun v7 D7 =>
              ck (nR v7) <|
              if v7 = 0 then
                some (0, D7)
              else
                bI (F_X7_readsWord D7) fun v8 D8 =>
                ck (nR v8) <|
                ck (((if v8 = 0 then (0 : Int) else (1 : Int)) = 0 ∨ (if v8 = 0 then (0 : Int) else (1 : Int)) = 1)) <|
                some ((if v8 = 0 then (0 : Int) else (1 : Int)), D8)
            else
              bI (F_X9_readNumber_S 1 99 D6) fun v9 D9 =>
              ck (nR ((pD D9 94 10 v9) 94 10)) <|
              ck (((if ((pD D9 94 10 v9) 94 10) = (-1) then (0 : Int) else (1 : Int)) = 0 ∨ (if ((pD D9 94 10 v9) 94 10) = (-1) then (0 : Int) else (1 : Int)) = 1)) <|
              some ((if ((pD D9 94 10 v9) 94 10) = (-1) then (0 : Int) else (1 : Int)), (pD D9 94 10 v9))
          else
            bI (F_X9_readNumber_S 1 99 D5) fun v10 D10 =>
            ck (nR ((pD D10 94 9 v10) 94 9)) <|
            ck (((if ((pD D10 94 9 v10) 94 9) = (-1) then (0 : Int) else (1 : Int)) = 0 ∨ (if ((pD D10 94 9 v10) 94 9) = (-1) then (0 : Int) else (1 : Int)) = 1)) <|
            some ((if ((pD D10 94 9 v10) 94 9) = (-1) then (0 : Int) else (1 : Int)), (pD D10 94 9 v10))
        else
          bI (F_X7_readsBoard D4) fun v11 D11 =>
          ck ((v11 = 0 ∨ v11 = 1)) <|
          some (v11, D11)
      else
        bI (F_X7_readsLooker D3) fun v12 D12 =>
        ck ((v12 = 0 ∨ v12 = 1)) <|
        some (v12, D12)
    else
      bI (F_X7_readsWriter D2) fun v13 D13 =>
      ck ((v13 = 0 ∨ v13 = 1)) <|
      some (v13, D13)
  else
    bI (F_X7_readsSign D1) fun v14 D14 =>
    ck ((v14 = 0 ∨ v14 = 1)) <|
    some (v14, D14)
noncomputable def F_X8_hasRoomFor (x1 : Int) (D : mD) : RI :=
  ck (nR ((D 1 1) + x1)) <|
  ck (((if 400 < ((D 1 1) + x1) then (0 : Int) else (1 : Int)) = 0 ∨ (if 400 < ((D 1 1) + x1) then (0 : Int) else (1 : Int)) = 1)) <|
  some ((if 400 < ((D 1 1) + x1) then (0 : Int) else (1 : Int)), D)
noncomputable def F_X8_addNumber_L3 (x1 : Int) : Nat → Int → mD → RI
  | 0, _, _ => none
  | n + 1, x2, D =>
    ck (nR x2) <|
    if x2 < 0 then
      some (0, D)
    else
      ck (nR (D 1 1)) <|
      if 400 ≤ (D 1 1) then
        F_X8_addNumber_L3 x1 n (x2 - 8) D
      else
        ck (0 ≤ (D 1 1) ∧ (D 1 1) < 400) <|
        F_X8_addNumber_L3 x1 n (x2 - 8) (pD (pD D 2 (D 1 1) (bAnd (bUshr x1 x2) 255)) 1 1 (((pD D 2 (D 1 1) (bAnd (bUshr x1 x2) 255)) 1 1) + 1))
noncomputable def F_X8_addNumber (x1 : Int) (D : mD) : RI :=
  F_X8_addNumber_L3 x1 fuelN 24 D
noncomputable def F_X8_pairAt (x1 : Int) (D : mD) : RI :=
  ck (nR x1) <|
  ck ((¬ (x1 < 0)) → nR (x1 + 1)) <|
  ck ((¬ (x1 < 0)) → ((x1 + 1) < 400) → 0 ≤ x1 ∧ x1 < 400) <|
  ck ((¬ (x1 < 0)) → ((x1 + 1) < 400) → 0 ≤ (x1 + 1) ∧ (x1 + 1) < 400) <|
  some ((if x1 < 0 then (0 : Int) else (if (x1 + 1) < 400 then (((D 2 x1) * 256) + (D 2 (x1 + 1))) else (0 : Int))), D)
noncomputable def F_X8_rewind (D : mD) : RI :=
  bI (F_X8_step (pD D 1 4 0)) fun _ D1 =>
  some (0, D1)
noncomputable def F_X8_takesMark (x1 : Int) (D : mD) : RI :=
  bI (F_X8_isMark x1 D) fun v1 D1 =>
  ck (nR v1) <|
  if v1 = 0 then
    some (0, D1)
  else
    bI (F_X8_step D1) fun _ D2 =>
    some (1, D2)
noncomputable def F_X9_readsText_S_L21 : Nat → Int → mD → RI
  | 0, _, _ => none
  | n + 1, x1, D =>
    ck (nR x1) <|
    ck (nR (D 93 1)) <|
    if (D 93 1) ≤ x1 then
      some (0, D)
    else
      bI (F_X7_readsLine D) fun v1 D1 =>
      ck (nR v1) <|
      if v1 = 0 then
        some (0, D1)
      else
        ck (nR (D1 1 2)) <|
        if (D1 1 2) = 0 then
          some (1, D1)
        else
          bI (F_X8_takesMark 59 D1) fun v2 D2 =>
          ck (nR v2) <|
          if v2 = 0 then
            some (0, D2)
          else
            F_X9_readsText_S_L21 n (x1 + 1) D2
noncomputable def F_X9_readsText_S (D : mD) : RI :=
  bI (F_X8_rewind D) fun _ D1 =>
  ck (nR (D1 1 2)) <|
  if (D1 1 2) = 0 then
    some (1, D1)
  else
    F_X9_readsText_S_L21 fuelN 0 D1
noncomputable def F_X9_readsText_L_L21 : Nat → Int → mD → RI
  | 0, _, _ => none
  | n + 1, x1, D =>
    ck (nR x1) <|
    ck (nR (D 103 1)) <|
    if (D 103 1) ≤ x1 then
      some (0, D)
    else
      bI (F_X3_readsLine D) fun v1 D1 =>
      ck (nR v1) <|
      if v1 = 0 then
        some (0, D1)
      else
        ck (nR (D1 1 2)) <|
        if (D1 1 2) = 0 then
          some (1, D1)
        else
          bI (F_X8_takesMark 59 D1) fun v2 D2 =>
          ck (nR v2) <|
          if v2 = 0 then
            some (0, D2)
          else
            F_X9_readsText_L_L21 n (x1 + 1) D2
noncomputable def F_X9_readsText_L (D : mD) : RI :=
  bI (F_X8_rewind D) fun _ D1 =>
  ck (nR (D1 1 2)) <|
  if (D1 1 2) = 0 then
    some (1, D1)
  else
    F_X9_readsText_L_L21 fuelN 0 D1
noncomputable def F_X10_beginWord (t0 : Nat) (D : mD) : RI :=
  some (0, (pD (pD (fillD (fillD (fillD D (t0 + 1) 13 3) (t0 + 2) 14 0) (t0 + 3) 14 (-1)) t0 3 0) t0 4 (-1)))
noncomputable def F_X10_beside (x0 : Int) (D : mD) : RI :=
  ck (nR x0) <|
  some ((if x0 = (-1) then (0 : Int) else (bOr (bShl (bShl 1 x0) 1) (bShr (bShl 1 x0) 1))), D)
noncomputable def F_X10_nextLetter_L10 (x2 x3 : Int) : Nat → Int → mD → RI
  | 0, _, _ => none
  | n + 1, x4, D =>
    ck (nR x4) <|
    ck (nR x2) <|
    if x2 ≤ x4 then
      some ((-1), D)
    else
      ck (nR (bAnd (bShr x3 x4) 1)) <|
      if (bAnd (bShr x3 x4) 1) = 0 then
        some (x4, D)
      else
        F_X10_nextLetter_L10 x2 x3 n (x4 + 1) D
noncomputable def F_X10_nextLetter (x0 x1 x2 : Int) (D : mD) : RI :=
  bI (F_X10_beside x1 D) fun v1 D1 =>
  F_X10_nextLetter_L10 x2 (bOr x0 v1) fuelN 0 D1
noncomputable def F_X10_draw (t0 : Nat) (D : mD) : RI :=
  some ((bAnd (bUshr ((pD D t0 6 (wr ((1103515245 * (D t0 6)) + 12345))) t0 6) 16) 32767), (pD D t0 6 (wr ((1103515245 * (D t0 6)) + 12345))))
noncomputable def F_X10_slipBeside_j65 (t0 : Nat) (x4 x5 s0 : Int) (D : mD) : RI :=
  ck (nR s0) <|
  ck (nR (min 30 s0)) <|
  ck (0 ≤ x4 ∧ x4 < 13) <|
  some ((((pD D (t0 + 1) x4 (max 0 (min 30 s0))) (t0 + 1) x4) - x5), (pD D (t0 + 1) x4 (max 0 (min 30 s0))))
noncomputable def F_X10_slipBeside_j27 (t0 : Nat) (s0 : Int) (D : mD) : RI :=
  ck (nR s0) <|
  if 0 ≤ s0 then
    ck (0 ≤ s0 ∧ s0 < 13) <|
    bI (F_X10_draw t0 D) fun v1 D1 =>
    ck (nR v1) <|
    ck (0 ≤ v1) <|
    ck (nR (v1 % 2)) <|
    F_X10_slipBeside_j65 t0 s0 (D (t0 + 1) s0) (if (v1 % 2) = 0 then ((D (t0 + 1) s0) - 1) else ((D (t0 + 1) s0) + 1)) D1
  else
    some (0, D)
noncomputable def F_X10_slipBeside (t0 : Nat) (x1 x2 x3 : Int) (D : mD) : RI :=
  bI (F_X10_draw t0 D) fun v1 D1 =>
  ck (nR v1) <|
  ck (0 ≤ v1) <|
  ck (nR (v1 % 100)) <|
  ck (nR x2) <|
  if (v1 % 100) < x2 then
    ck (nR (x1 + 1)) <|
    ck (nR x3) <|
    F_X10_slipBeside_j27 t0 (if x3 ≤ (x1 + 1) then (x1 - 1) else x1) D1
  else
    some (0, D1)
noncomputable def F_X10_writeLog (t0 : Nat) (x1 x2 x3 : Int) (D : mD) : RI :=
  ck (0 ≤ ((D t0 10) * 4) ∧ ((D t0 10) * 4) < 240) <|
  ck (0 ≤ (((D t0 10) * 4) + 1) ∧ (((D t0 10) * 4) + 1) < 240) <|
  ck (0 ≤ (((D t0 10) * 4) + 2) ∧ (((D t0 10) * 4) + 2) < 240) <|
  ck (0 ≤ (((D t0 10) * 4) + 3) ∧ (((D t0 10) * 4) + 3) < 240) <|
  ck (nR (((pD (pD (pD (pD D (t0 + 4) ((D t0 10) * 4) (D t0 7)) (t0 + 4) (((D t0 10) * 4) + 1) x1) (t0 + 4) (((D t0 10) * 4) + 2) x2) (t0 + 4) (((D t0 10) * 4) + 3) x3) t0 10) + 1)) <|
  ck (0 ≤ (((pD (pD (pD (pD D (t0 + 4) ((D t0 10) * 4) (D t0 7)) (t0 + 4) (((D t0 10) * 4) + 1) x1) (t0 + 4) (((D t0 10) * 4) + 2) x2) (t0 + 4) (((D t0 10) * 4) + 3) x3) t0 10) + 1)) <|
  ck (nR (((pD (pD (pD (pD (pD D (t0 + 4) ((D t0 10) * 4) (D t0 7)) (t0 + 4) (((D t0 10) * 4) + 1) x1) (t0 + 4) (((D t0 10) * 4) + 2) x2) (t0 + 4) (((D t0 10) * 4) + 3) x3) t0 10 ((((pD (pD (pD (pD D (t0 + 4) ((D t0 10) * 4) (D t0 7)) (t0 + 4) (((D t0 10) * 4) + 1) x1) (t0 + 4) (((D t0 10) * 4) + 2) x2) (t0 + 4) (((D t0 10) * 4) + 3) x3) t0 10) + 1) % 60)) t0 9) + 1)) <|
  some (0, (pD (pD (pD (pD (pD (pD D (t0 + 4) ((D t0 10) * 4) (D t0 7)) (t0 + 4) (((D t0 10) * 4) + 1) x1) (t0 + 4) (((D t0 10) * 4) + 2) x2) (t0 + 4) (((D t0 10) * 4) + 3) x3) t0 10 ((((pD (pD (pD (pD D (t0 + 4) ((D t0 10) * 4) (D t0 7)) (t0 + 4) (((D t0 10) * 4) + 1) x1) (t0 + 4) (((D t0 10) * 4) + 2) x2) (t0 + 4) (((D t0 10) * 4) + 3) x3) t0 10) + 1) % 60)) t0 9 (min 60 (((pD (pD (pD (pD (pD D (t0 + 4) ((D t0 10) * 4) (D t0 7)) (t0 + 4) (((D t0 10) * 4) + 1) x1) (t0 + 4) (((D t0 10) * 4) + 2) x2) (t0 + 4) (((D t0 10) * 4) + 3) x3) t0 10 ((((pD (pD (pD (pD D (t0 + 4) ((D t0 10) * 4) (D t0 7)) (t0 + 4) (((D t0 10) * 4) + 1) x1) (t0 + 4) (((D t0 10) * 4) + 2) x2) (t0 + 4) (((D t0 10) * 4) + 3) x3) t0 10) + 1) % 60)) t0 9) + 1))))
noncomputable def F_X10_paintDay_j59 (t0 : Nat) (x4 : Int) (D : mD) : RI :=
  some (x4, (pD (pD D t0 4 x4) t0 7 (((pD D t0 4 x4) t0 7) + 1)))
noncomputable def F_X10_paintDay (t0 : Nat) (x1 x2 x3 : Int) (D : mD) : RI :=
  bI (F_X10_nextLetter (D t0 3) (D t0 4) x3 D) fun v1 D1 =>
  ck (nR v1) <|
  if v1 = (-1) then
    F_X10_paintDay_j59 t0 v1 D1
  else
    ck (0 ≤ v1 ∧ v1 < 14) <|
    bI (F_X10_slipBeside t0 v1 x2 x3 (pD (pD D1 t0 3 (bOr (D1 t0 3) (bShl 1 v1))) (t0 + 3) v1 ((pD D1 t0 3 (bOr (D1 t0 3) (bShl 1 v1))) t0 7))) fun v2 D2 =>
    bI (F_X10_writeLog t0 v1 x1 v2 D2) fun _ D3 =>
    F_X10_paintDay_j59 t0 v1 D3
noncomputable def F_X10_logged (t0 : Nat) (x1 x2 : Int) (D : mD) : RI :=
  ck (nR (((D t0 10) - 1) - x1)) <|
  ck (0 ≤ ((((((D t0 10) - 1) - x1) % 60) * 4) + x2) ∧ ((((((D t0 10) - 1) - x1) % 60) * 4) + x2) < 240) <|
  some ((D (t0 + 4) ((((((D t0 10) - 1) - x1) % 60) * 4) + x2)), D)
noncomputable def F_X10_orderOf_j78 (t0 : Nat) (x1 x6 x7 : Int) (D : mD) : RI :=
  ck (nR x1) <|
  some ((if x1 = (-1) then x7 else x6), D)
noncomputable def F_X10_orderOf_j62 (t0 : Nat) (K24 : Int → Int → Int → Int → mD → RI) (x1 x2 x3 x4 x5 x6 x7 : Int) (D : mD) : RI :=
  ck (nR x7) <|
  ck (nR x1) <|
  K24 x4 x5 (if x7 = x1 then x5 else x6) (x7 + 1) D
noncomputable def F_X10_orderOf_L24 (t0 : Nat) (x1 x2 x3 : Int) : Nat → Int → Int → Int → Int → mD → RI
  | 0, _, _, _, _, _ => none
  | n + 1, x4, x5, x6, x7, D =>
    ck (nR x4) <|
    ck (nR x3) <|
    if x4 = x3 then
      F_X10_orderOf_j78 t0 x1 x6 x7 D
    else
      ck (nR x7) <|
      if 56 ≤ x7 then
        F_X10_orderOf_j78 t0 x1 x6 x7 D
      else
        bI (F_X10_nextLetter x4 x5 x2 D) fun v1 D1 =>
        ck (nR v1) <|
        F_X10_orderOf_j62 t0 (F_X10_orderOf_L24 t0 x1 x2 x3 n) x1 x2 x3 (if v1 = (-1) then x4 else (bOr x4 (bShl 1 v1))) v1 x6 x7 D1
noncomputable def F_X10_orderOf (t0 : Nat) (x1 x2 : Int) (D : mD) : RI :=
  F_X10_orderOf_L24 t0 x1 x2 ((bShl 1 x2) - 1) fuelN (D t0 3) (D t0 4) (-1) 0 D
noncomputable def F_X10_needsPause_j19 (t0 : Nat) (x1 x2 s0 : Int) (D : mD) : RI :=
  ck (nR x2) <|
  if x2 = 1 then
    ck ((s0 = 0 ∨ s0 = 1)) <|
    some (s0, D)
  else
  if x2 = 2 then
    ck (nR s0) <|
    ck ((s0 = 0) → nR (bAnd x1 (bShl x1 1))) <|
    ck (((if s0 = 0 then (if (bAnd x1 (bShl x1 1)) = 0 then (0 : Int) else (1 : Int)) else (1 : Int)) = 0 ∨ (if s0 = 0 then (if (bAnd x1 (bShl x1 1)) = 0 then (0 : Int) else (1 : Int)) else (1 : Int)) = 1)) <|
    some ((if s0 = 0 then (if (bAnd x1 (bShl x1 1)) = 0 then (0 : Int) else (1 : Int)) else (1 : Int)), D)
  else
  if x2 = 3 then
    ck (nR (bAnd (bAnd x1 (bShl x1 1)) (bShl x1 2))) <|
    ck (((if (bAnd (bAnd x1 (bShl x1 1)) (bShl x1 2)) = 0 then (0 : Int) else (1 : Int)) = 0 ∨ (if (bAnd (bAnd x1 (bShl x1 1)) (bShl x1 2)) = 0 then (0 : Int) else (1 : Int)) = 1)) <|
    some ((if (bAnd (bAnd x1 (bShl x1 1)) (bShl x1 2)) = 0 then (0 : Int) else (1 : Int)), D)
  else
  some (0, D)
noncomputable def F_X10_needsPause (t0 : Nat) (x1 x2 : Int) (D : mD) : RI :=
  bI (F_X10_beside (D t0 4) D) fun v1 D1 =>
  ck (nR (bAnd x1 (bXor v1 (-1)))) <|
  F_X10_needsPause_j19 t0 x1 x2 (if (bAnd x1 (bXor v1 (-1))) = 0 then (1 : Int) else (0 : Int)) D1
noncomputable def F_X10_fewestDays (t0 : Nat) (x1 : Int) (D : mD) : RI :=
  ck (nR (bAnd ((bShl 1 x1) - 1) (bXor (D t0 3) (-1)))) <|
  ck (nR (bC (bAnd ((bShl 1 x1) - 1) (bXor (D t0 3) (-1))))) <|
  if (bC (bAnd ((bShl 1 x1) - 1) (bXor (D t0 3) (-1)))) ≤ 12 then
    bI (F_X10_needsPause t0 (bAnd ((bShl 1 x1) - 1) (bXor (D t0 3) (-1))) (bC (bAnd ((bShl 1 x1) - 1) (bXor (D t0 3) (-1)))) D) fun v1 D1 =>
    ck (nR v1) <|
    some ((if v1 = 0 then (bC (bAnd ((bShl 1 x1) - 1) (bXor (D t0 3) (-1)))) else ((bC (bAnd ((bShl 1 x1) - 1) (bXor (D t0 3) (-1)))) + 1)), D1)
  else
    some ((-3), D)
noncomputable def F_X11_feed (x1 x2 x3 x4 x5 : Int) (D : mD) : RI :=
  bI (F_X8_hasRoomFor 20 D) fun v1 D1 =>
  ck (nR v1) <|
  if v1 = 0 then
    some ((-1), D1)
  else
    bI (F_X8_addNumber x1 D1) fun _ D2 =>
    bI (F_X8_addNumber x2 D2) fun _ D3 =>
    bI (F_X8_addNumber x3 D3) fun _ D4 =>
    bI (F_X8_addNumber x4 D4) fun _ D5 =>
    bI (F_X8_addNumber x5 D5) fun _ D6 =>
    some ((D6 1 1), D6)
noncomputable def F_X11_end (x1 : Int) (D : mD) : RI :=
  ck (nR x1) <|
  if x1 < 0 then
    some (0, D)
  else
    ck (nR (D 1 1)) <|
    if x1 ≤ (D 1 1) then
      some (1, (pD D 1 1 x1))
    else
      some (0, D)
noncomputable def F_X11_forgetActs (D : mD) : RI :=
  bI (F_X1_clear D) fun _ D1 =>
  bI (F_X0_forgetWhites D1) fun _ D2 =>
  some (0, D2)
noncomputable def F_X11_useUp (x1 : Int) (D : mD) : RI :=
  ck (nR x1) <|
  some (0, (pD (pD D 0 15 (if x1 = 0 then (D 1 3) else (-1 : Int))) 1 1 0))
noncomputable def F_X11_shop_j104 (D : mD) : RX :=
  bI (F_X11_forgetActs D) fun _ D1 =>
  some (.inl (D1 3 16), D1)
noncomputable def F_X11_shop (D : mD) : RX :=
  bI (F_X7_beginFrom 3 D) fun _ D1 =>
  bI (F_X9_readsText_S D1) fun v2 D2 =>
  bI (F_X11_useUp v2 D2) fun _ D3 =>
  ck (nR v2) <|
  if v2 = 0 then
    some (.inr 0, D3)
  else
    ck (nR (D3 3 16)) <|
    if (D3 3 16) < 12 then
      bI (F_X6_copyFrom 3 94 D3) fun _ D4 =>
      ck (nR ((pD D4 3 16 ((D4 3 16) + 1)) 93 3)) <|
      if ((pD D4 3 16 ((D4 3 16) + 1)) 93 3) = 0 then
        F_X11_shop_j104 (pD D4 3 16 ((D4 3 16) + 1))
      else
        bI (F_X10_beginWord 17 (pD D4 3 16 ((D4 3 16) + 1))) fun _ D5 =>
        F_X11_shop_j104 D5
    else
      some (.inr 3, D3)
noncomputable def F_X11_law (D : mD) : RX :=
  bI (F_X2_begin 104 D) fun _ D1 =>
  bI (F_X9_readsText_L D1) fun v2 D2 =>
  bI (F_X11_useUp v2 D2) fun _ D3 =>
  ck (nR v2) <|
  if v2 = 0 then
    some (.inr 0, D3)
  else
    bI (F_X2_copyFrom 12 104 D3) fun _ D4 =>
    bI (F_X11_forgetActs D4) fun _ D5 =>
    some (.inl (D5 12 0), D5)
noncomputable def F_X11_fault (D : mD) : RI :=
  some ((D 0 15), D)
noncomputable def F_X11_needSign_j15 (D : mD) : RX :=
  some (.inr 2, D)
noncomputable def F_X11_needSign (x1 : Int) (D : mD) : RX :=
  ck (nR x1) <|
  if x1 < 0 then
    F_X11_needSign_j15 D
  else
    ck (nR (D 3 0)) <|
    if x1 < (D 3 0) then
      some (.inl 0, D)
    else
      F_X11_needSign_j15 D
noncomputable def F_X11_sign (x1 x2 : Int) (D : mD) : RX :=
  bX (F_X11_needSign x1 D) fun _ D1 =>
  ck (nR x2) <|
  if x2 = 0 then
    ck (0 ≤ x1 ∧ x1 < 12) <|
    some (.inl (D1 4 x1), D1)
  else
  if x2 = 1 then
    ck (0 ≤ x1 ∧ x1 < 12) <|
    some (.inl (D1 5 x1), D1)
  else
  if x2 = 2 then
    bI (F_X6_inkOf 3 x1 D1) fun v2 D2 =>
    some (.inl v2, D2)
  else
  some (.inr 4, D1)
noncomputable def F_X11_needRow_j9 (D : mD) : RX :=
  some (.inr 2, D)
noncomputable def F_X11_needRow (x1 : Int) (D : mD) : RX :=
  ck (nR x1) <|
  if x1 < 0 then
    F_X11_needRow_j9 D
  else
    if x1 < 5 then
      some (.inl 0, D)
    else
      F_X11_needRow_j9 D
noncomputable def F_X11_side (x1 x2 x3 : Int) (D : mD) : RX :=
  bX (F_X11_needSign x1 D) fun _ D1 =>
  bX (F_X11_needRow x2 D1) fun _ D2 =>
  ck (nR x3) <|
  if x3 = 0 then
    bI (F_X6_leftOf 3 x1 x2 D2) fun v3 D3 =>
    some (.inl v3, D3)
  else
    bI (F_X6_rightOf 3 x1 x2 D2) fun v4 D4 =>
    some (.inl v4, D4)
noncomputable def F_X11_needLetter_j15 (D : mD) : RX :=
  some (.inr 2, D)
noncomputable def F_X11_needLetter (x1 : Int) (D : mD) : RX :=
  ck (nR x1) <|
  if x1 < 0 then
    F_X11_needLetter_j15 D
  else
    ck (nR (D 3 5)) <|
    if x1 < (D 3 5) then
      some (.inl 0, D)
    else
      F_X11_needLetter_j15 D
noncomputable def F_X11_letter (x1 x2 : Int) (D : mD) : RX :=
  bX (F_X11_needLetter x1 D) fun _ D1 =>
  ck (nR x2) <|
  if x2 = 0 then
    ck (0 ≤ x1 ∧ x1 < 14) <|
    some (.inl (D1 8 x1), D1)
  else
  if x2 = 1 then
    ck (0 ≤ x1 ∧ x1 < 14) <|
    some (.inl (D1 19 x1), D1)
  else
  if x2 = 2 then
    bI (F_X0_widthOf x1 D1) fun v2 D2 =>
    some (.inl v2, D2)
  else
  if x2 = 3 then
    bI (F_X0_beginOf x1 D1) fun v3 D3 =>
    some (.inl v3, D3)
  else
  if x2 = 4 then
    ck (0 ≤ x1 ∧ x1 < 14) <|
    some (.inl (D1 20 x1), D1)
  else
  some (.inr 4, D1)
noncomputable def F_X11_needGap_j15 (D : mD) : RX :=
  some (.inr 2, D)
noncomputable def F_X11_needGap (x1 : Int) (D : mD) : RX :=
  ck (nR x1) <|
  if x1 < 0 then
    F_X11_needGap_j15 D
  else
    bI (F_X6_gapCount 3 D) fun v1 D1 =>
    ck (nR v1) <|
    if x1 < v1 then
      some (.inl 0, D1)
    else
      F_X11_needGap_j15 D1
noncomputable def F_X11_gap (x1 x2 : Int) (D : mD) : RX :=
  bX (F_X11_needGap x1 D) fun _ D1 =>
  ck (0 ≤ x1 ∧ x1 < 13) <|
  ck (nR x2) <|
  if x2 = 0 then
    some (.inl (D1 18 x1), D1)
  else
  if x2 = 1 then
    bI (F_X0_whiteOf x1 (D1 18 x1) D1) fun v2 D2 =>
    some (.inl v2, D2)
  else
  if x2 = 2 then
    bI (F_X0_leastSpace x1 (D1 18 x1) (D1 17 5) D1) fun v3 D3 =>
    some (.inl v3, D3)
  else
  some (.inr 4, D1)
noncomputable def F_X11_row (x1 x2 x3 : Int) (D : mD) : RX :=
  bX (F_X11_needGap x1 D) fun _ D1 =>
  bX (F_X11_needRow x2 D1) fun _ D2 =>
  ck (0 ≤ x1 ∧ x1 < 13) <|
  ck (nR x3) <|
  if x3 = 0 then
    bI (F_X0_spaceOf x1 x2 (D2 18 x1) (D2 17 5) D2) fun v3 D3 =>
    some (.inl v3, D3)
  else
    bI (F_X0_weightOf x1 x2 (D2 18 x1) D2) fun v4 D4 =>
    some (.inl v4, D4)
noncomputable def F_X11_needLight_j10 (D : mD) : RX :=
  some (.inr 0, D)
noncomputable def F_X11_needLight (x1 : Int) (D : mD) : RX :=
  ck (nR x1) <|
  if x1 < 0 then
    F_X11_needLight_j10 D
  else
    if x1 ≤ 9 then
      some (.inl 0, D)
    else
      F_X11_needLight_j10 D
noncomputable def F_X11_needYards_j11 (D : mD) : RX :=
  some (.inr 0, D)
noncomputable def F_X11_needYards (x1 : Int) (D : mD) : RX :=
  ck (nR x1) <|
  if x1 < 1 then
    F_X11_needYards_j11 D
  else
    if x1 ≤ 60 then
      some (.inl 0, D)
    else
      F_X11_needYards_j11 D
noncomputable def F_X11_fades (x1 x2 : Int) (D : mD) : RX :=
  bX (F_X11_needYards x1 D) fun _ D1 =>
  bX (F_X11_needLight x2 D1) fun _ D2 =>
  bI (F_X0_fadingAt x1 x2 D2) fun v3 D3 =>
  some (.inl v3, D3)
noncomputable def F_X11_count (x1 : Int) (D : mD) : RI :=
  ck (nR x1) <|
  if x1 = 0 then
    some ((D 3 0), D)
  else
  if x1 = 1 then
    some ((D 3 5), D)
  else
  if x1 = 2 then
    some ((D 3 7), D)
  else
  if x1 = 3 then
    some ((D 3 8), D)
  else
  if x1 = 4 then
    some ((D 3 9), D)
  else
  if x1 = 5 then
    some ((D 17 5), D)
  else
  if x1 = 6 then
    some ((D 3 10), D)
  else
  if x1 = 7 then
    some ((D 3 11), D)
  else
  if x1 = 8 then
    some ((D 3 14), D)
  else
  if x1 = 9 then
    some ((D 3 16), D)
  else
  if x1 = 10 then
    some ((D 12 0), D)
  else
  if x1 = 11 then
    some ((D 17 7), D)
  else
  if x1 = 12 then
    bI (F_X0_endOfWord D) fun v1 D1 =>
    some (v1, D1)
  else
  if x1 = 13 then
    some ((D 17 3), D)
  else
  if x1 = 14 then
    some ((D 17 9), D)
  else
  if x1 = 15 then
    some ((D 31 1), D)
  else
  some ((-1), D)
noncomputable def F_X11_needDistance_j10 (D : mD) : RX :=
  some (.inr 0, D)
noncomputable def F_X11_needDistance (x1 : Int) (D : mD) : RX :=
  ck (nR x1) <|
  if x1 < 0 then
    F_X11_needDistance_j10 D
  else
    if x1 ≤ 30 then
      some (.inl 0, D)
    else
      F_X11_needDistance_j10 D
noncomputable def F_X11_shift (x1 x2 : Int) (D : mD) : RX :=
  bX (F_X11_needGap x1 D) fun _ D1 =>
  bX (F_X11_needDistance x2 D1) fun _ D2 =>
  bI (F_X1_remember 17 D2) fun _ D3 =>
  ck (0 ≤ x1 ∧ x1 < 13) <|
  some (.inl (D3 18 x1), (pD D3 18 x1 x2))
noncomputable def F_X11_squeezed_j37 (D : mD) : RX :=
  some (.inr 0, D)
noncomputable def F_X11_squeezed (x1 x2 : Int) (D : mD) : RX :=
  bX (F_X11_needLetter x1 D) fun _ D1 =>
  ck (nR x2) <|
  if x2 < 0 then
    F_X11_squeezed_j37 D1
  else
    if 3 < x2 then
      F_X11_squeezed_j37 D1
    else
      ck (0 ≤ x1 ∧ x1 < 14) <|
      ck (0 ≤ (D1 8 x1) ∧ (D1 8 x1) < 12) <|
      ck (nR ((D1 5 (D1 8 x1)) - x2)) <|
      if 1 ≤ ((D1 5 (D1 8 x1)) - x2) then
        bI (F_X1_remember 17 D1) fun _ D2 =>
        some (.inl (D2 19 x1), (pD D2 19 x1 x2))
      else
        F_X11_squeezed_j37 D1
noncomputable def F_X11_shadow_j10 (D : mD) : RX :=
  some (.inr 0, D)
noncomputable def F_X11_shadow (x1 : Int) (D : mD) : RX :=
  ck (nR x1) <|
  if x1 < 0 then
    F_X11_shadow_j10 D
  else
    if x1 ≤ 9 then
      bI (F_X1_remember 17 D) fun _ D1 =>
      bI (F_X0_forgetWhites (pD D1 17 5 x1)) fun _ D2 =>
      some (.inl (D1 17 5), D2)
    else
      F_X11_shadow_j10 D
noncomputable def F_X11_needWhite_j11 (D : mD) : RX :=
  some (.inr 0, D)
noncomputable def F_X11_needWhite (x1 : Int) (D : mD) : RX :=
  ck (nR x1) <|
  if x1 < 0 then
    F_X11_needWhite_j11 D
  else
    if x1 ≤ 2000 then
      some (.inl 0, D)
    else
      F_X11_needWhite_j11 D
noncomputable def F_X11_lays (x1 : Int) (D : mD) : RX :=
  bX (F_X11_needWhite x1 D) fun _ D1 =>
  bI (F_X4_leastOff x1 0 D1) fun v2 D2 =>
  ck (nR v2) <|
  if v2 = (-1) then
    some (.inr 1, D2)
  else
    bI (F_X1_remember 17 D2) fun _ D3 =>
    bI (F_X4_putDistances 18 D3) fun _ D4 =>
    some (.inl v2, D4)
noncomputable def F_X11_needWriter_j15 (D : mD) : RX :=
  some (.inr 2, D)
noncomputable def F_X11_needWriter (x1 : Int) (D : mD) : RX :=
  ck (nR x1) <|
  if x1 < 0 then
    F_X11_needWriter_j15 D
  else
    ck (nR (D 3 11)) <|
    if x1 < (D 3 11) then
      some (.inl 0, D)
    else
      F_X11_needWriter_j15 D
noncomputable def F_X11_paint (x1 : Int) (D : mD) : RX :=
  bX (F_X11_needWriter x1 D) fun _ D1 =>
  bI (F_X1_remember 17 D1) fun _ D2 =>
  ck (0 ≤ x1 ∧ x1 < 6) <|
  bI (F_X10_paintDay 17 x1 (D2 10 x1) (D2 3 5) D2) fun v3 D3 =>
  some (.inl v3, D3)
noncomputable def F_X11_seed (x1 : Int) (D : mD) : RI :=
  some ((D 17 6), (pD D 17 6 x1))
noncomputable def F_X11_undo (D : mD) : RI :=
  bI (F_X1_recall 17 D) fun v1 D1 =>
  ck (nR v1) <|
  if v1 = 0 then
    some (0, D1)
  else
    bI (F_X0_forgetWhites D1) fun _ D2 =>
    some (1, D2)
noncomputable def F_X11_image (D : mD) : RI :=
  bI (F_X6_copyFrom 114 3 D) fun _ D1 =>
  bI (F_X2_copyFrom 123 12 D1) fun _ D2 =>
  bI (F_X10_copyFrom 128 17 D2) fun _ D3 =>
  some (0, (pD D3 0 14 1))
noncomputable def F_X11_back (D : mD) : RI :=
  ck (nR (D 0 14)) <|
  if (D 0 14) = 0 then
    some (0, D)
  else
    bI (F_X6_copyFrom 3 114 D) fun _ D1 =>
    bI (F_X2_copyFrom 12 123 D1) fun _ D2 =>
    bI (F_X10_copyFrom 17 128 D2) fun _ D3 =>
    bI (F_X11_forgetActs D3) fun _ D4 =>
    some (1, D4)
noncomputable def F_X11_uneven (D : mD) : RI :=
  bI (F_X0_unevenBy 18 0 D) fun v1 D1 =>
  some (v1, D1)
noncomputable def F_X11_off_L9 (x1 : Int) : Nat → Int → Int → mD → RX
  | 0, _, _, _ => none
  | n + 1, x2, x3, D =>
    bI (F_X6_gapCount 3 D) fun v1 D1 =>
    ck (nR x3) <|
    ck (nR v1) <|
    if v1 ≤ x3 then
      some (.inl x2, D1)
    else
      ck (0 ≤ x3 ∧ x3 < 13) <|
      bI (F_X0_whiteOf x3 (D1 18 x3) D1) fun v2 D2 =>
      ck (nR (v2 - x1)) <|
      F_X11_off_L9 x1 n (x2 + (Int.natAbs (v2 - x1) : Int)) (x3 + 1) D2
noncomputable def F_X11_off (x1 : Int) (D : mD) : RX :=
  bX (F_X11_needWhite x1 D) fun _ D1 =>
  F_X11_off_L9 x1 fuelN 0 0 D1
noncomputable def F_X11_fits (D : mD) : RI :=
  bI (F_X0_fitsWith (D 17 5) D) fun v1 D1 =>
  ck ((v1 = 0 ∨ v1 = 1)) <|
  some (v1, D1)
noncomputable def F_X11_laid (x1 x2 : Int) (D : mD) : RX :=
  bX (F_X11_needWhite x1 D) fun _ D1 =>
  bI (F_X4_leastOff x1 0 D1) fun v2 D2 =>
  ck (nR v2) <|
  if v2 = (-1) then
    some (.inl v2, D2)
  else
    ck (nR x2) <|
    if x2 = (-1) then
      some (.inl v2, D2)
    else
      if x2 < 0 then
        some (.inl (-1), D2)
      else
        bI (F_X6_gapCount 3 D2) fun v3 D3 =>
        ck (nR v3) <|
        if x2 < v3 then
          bI (F_X4_distanceOf x2 D3) fun v4 D4 =>
          some (.inl v4, D4)
        else
          some (.inl (-1), D3)
noncomputable def F_X11_best_j83 (x1 x2 x3 : Int) (D : mD) : RI :=
  ck (nR x1) <|
  some ((if x1 = 0 then x2 else x3), D)
noncomputable def F_X11_best_j57 (K22 : Int → Int → Int → mD → RI) (x1 x2 x3 x4 x5 : Int) (D : mD) : RI :=
  bI (F_X6_gapCount 3 D) fun v1 D1 =>
  ck (nR v1) <|
  ck (nR (x5 - x3)) <|
  ck (nR (max 1 v1)) <|
  ck (0 ≤ (x5 - x3)) <|
  ck (0 < (max 1 v1)) <|
  K22 x2 x3 (x4 + (1 + ((x5 - x3) / (max 1 v1)))) D1
noncomputable def F_X11_best_L22 (x1 : Int) : Nat → Int → Int → Int → mD → RI
  | 0, _, _, _, _ => none
  | n + 1, x2, x3, x4, D =>
    ck (nR x4) <|
    if 120 < x4 then
      F_X11_best_j83 x1 x2 x3 D
    else
      ck (nR x3) <|
      if x3 ≤ 0 then
        F_X11_best_j83 x1 x2 x3 D
      else
        bI (F_X4_leastOff x4 0 D) fun v1 D1 =>
        ck (nR v1) <|
        F_X11_best_j57 (F_X11_best_L22 x1 n) x1 (if x3 ≤ v1 then x2 else x4) (if x3 ≤ v1 then x3 else v1) x4 v1 D1
noncomputable def F_X11_best (x1 : Int) (D : mD) : RI :=
  bI (F_X4_leastOff 0 0 D) fun v1 D1 =>
  ck (nR v1) <|
  if v1 = (-1) then
    some ((-1), D1)
  else
    F_X11_best_L22 x1 fuelN 0 v1 1 D1
noncomputable def F_X11_nearest_L15 (x1 x2 : Int) : Nat → Int → Int → mD → RX
  | 0, _, _, _ => none
  | n + 1, x3, x4, D =>
    ck (nR x4) <|
    if 30 < x4 then
      some (.inl x3, D)
    else
      bI (F_X0_whiteOf x1 x4 D) fun v1 D1 =>
      ck (nR (v1 - x2)) <|
      bI (F_X0_whiteOf x1 x3 D1) fun v2 D2 =>
      ck (nR (v2 - x2)) <|
      ck (nR (Int.natAbs (v1 - x2) : Int)) <|
      ck (nR (Int.natAbs (v2 - x2) : Int)) <|
      F_X11_nearest_L15 x1 x2 n (if (Int.natAbs (v2 - x2) : Int) ≤ (Int.natAbs (v1 - x2) : Int) then x3 else x4) (x4 + 1) D2
noncomputable def F_X11_nearest (x1 x2 : Int) (D : mD) : RX :=
  bX (F_X11_needGap x1 D) fun _ D1 =>
  bX (F_X11_needWhite x2 D1) fun _ D2 =>
  F_X11_nearest_L15 x1 x2 fuelN 0 1 D2
noncomputable def F_X11_cannot_L9 (x1 : Int) : Nat → Int → Int → mD → RX
  | 0, _, _, _ => none
  | n + 1, x2, x3, D =>
    bI (F_X6_gapCount 3 D) fun v1 D1 =>
    ck (nR x3) <|
    ck (nR v1) <|
    if v1 ≤ x3 then
      some (.inl x2, D1)
    else
      bI (F_X0_whiteOf x3 0 D1) fun v2 D2 =>
      ck (nR v2) <|
      ck (nR x1) <|
      F_X11_cannot_L9 x1 n (if v2 ≤ x1 then x2 else (bOr x2 (bShl 1 x3))) (x3 + 1) D2
noncomputable def F_X11_cannot (x1 : Int) (D : mD) : RX :=
  bX (F_X11_needWhite x1 D) fun _ D1 =>
  F_X11_cannot_L9 x1 fuelN 0 0 D1
noncomputable def F_X11_lacks (x1 : Int) (D : mD) : RX :=
  bX (F_X11_needWhite x1 D) fun _ D1 =>
  bI (F_X0_lackingBy x1 (D1 3 5) D1) fun v2 D2 =>
  some (.inl v2, D2)
noncomputable def F_X11_squeeze (x1 x2 : Int) (D : mD) : RX :=
  bX (F_X11_needWhite x1 D) fun _ D1 =>
  bI (F_X0_lackingBy x1 (D1 3 5) D1) fun v2 D2 =>
  bI (F_X5_leastHarm v2 D2) fun v3 D3 =>
  ck (nR v3) <|
  if v3 = (-1) then
    some (.inl v3, D3)
  else
    ck (nR x2) <|
    if x2 = 0 then
      some (.inl v3, D3)
    else
      bI (F_X5_squeezedBits D3) fun v4 D4 =>
      some (.inl v4, D4)
noncomputable def F_X11_dropped_L7 (x1 : Int) : Nat → Int → mD → RX
  | 0, _, _ => none
  | n + 1, x2, D =>
    ck (nR x2) <|
    ck (nR (D 3 5)) <|
    if (D 3 5) ≤ x2 then
      some (.inl (-1), D)
    else
      bI (F_X0_lackingBy x1 ((D 3 5) - x2) D) fun v1 D1 =>
      ck (nR v1) <|
      if 0 < v1 then
        F_X11_dropped_L7 x1 n (x2 + 1) D1
      else
        some (.inl x2, D1)
noncomputable def F_X11_dropped (x1 : Int) (D : mD) : RX :=
  bX (F_X11_needWhite x1 D) fun _ D1 =>
  F_X11_dropped_L7 x1 fuelN 0 D1
noncomputable def F_X11_inch (x1 : Int) (D : mD) : RX :=
  bX (F_X11_needWhite x1 D) fun _ D1 =>
  bI (F_X4_leastOff x1 0 D1) fun v2 D2 =>
  bI (F_X4_leastOff x1 12 D2) fun v3 D3 =>
  ck (nR v2) <|
  ck ((¬ (v2 = (-1))) → nR v3) <|
  some (.inl (if v2 = (-1) then (-9999 : Int) else (if v3 = (-1) then (-9999 : Int) else (v2 - v3))), D3)
noncomputable def F_X11_middle (x1 : Int) (D : mD) : RI :=
  bI (F_X0_middleHair D) fun v1 D1 =>
  ck (nR x1) <|
  ck ((¬ (x1 = 0)) → nR (D1 3 7)) <|
  ck ((¬ (x1 = 0)) → 0 ≤ (D1 3 7)) <|
  some ((if x1 = 0 then v1 else (v1 - ((D1 3 7) / 2))), D1)
noncomputable def F_X11_read (x1 x2 : Int) (D : mD) : RX :=
  bX (F_X11_needYards x1 D) fun _ D1 =>
  bX (F_X11_needLight x2 D1) fun _ D2 =>
  bI (F_X0_tightestSpace (D2 17 5) D2) fun v3 D3 =>
  bI (F_X0_isRead x1 x2 v3 D3) fun v4 D4 =>
  ck ((v4 = 0 ∨ v4 = 1)) <|
  some (.inl v4, D4)
noncomputable def F_X11_far (x1 : Int) (D : mD) : RX :=
  bX (F_X11_needLight x1 D) fun _ D1 =>
  bI (F_X0_farthestBy x1 D1) fun v2 D2 =>
  some (.inl v2, D2)
noncomputable def F_X11_runs_L26 (x1 x3 : Int) : Nat → Int → Int → mD → RX
  | 0, _, _, _ => none
  | n + 1, x4, x5, D =>
    bI (F_X6_gapCount 3 D) fun v1 D1 =>
    ck (nR x5) <|
    ck (nR v1) <|
    if v1 ≤ x5 then
      some (.inl x4, D1)
    else
      ck (0 ≤ x5 ∧ x5 < 13) <|
      bI (F_X0_leastSpace x5 (D1 18 x5) (D1 17 5) D1) fun v2 D2 =>
      ck (nR (x3 * v2)) <|
      ck (nR x1) <|
      F_X11_runs_L26 x1 x3 n (if x1 ≤ (x3 * v2) then x4 else (bOr x4 (bShl 1 x5))) (x5 + 1) D2
noncomputable def F_X11_runs (x1 x2 : Int) (D : mD) : RX :=
  bX (F_X11_needYards x1 D) fun _ D1 =>
  bX (F_X11_needLight x2 D1) fun _ D2 =>
  bI (F_X0_clearness x1 x2 D2) fun v3 D3 =>
  F_X11_runs_L26 x1 v3 fuelN 0 0 D3
noncomputable def F_X11_bears_L13 (x1 x2 : Int) : Nat → Int → mD → RX
  | 0, _, _ => none
  | n + 1, x3, D =>
    ck (nR x3) <|
    if x3 < 0 then
      some (.inl (-1), D)
    else
      bI (F_X0_fitsWith x3 D) fun v1 D1 =>
      ck (nR v1) <|
      if v1 = 0 then
        F_X11_bears_L13 x1 x2 n (x3 - 1) D1
      else
        bI (F_X0_tightestSpace x3 D1) fun v2 D2 =>
        bI (F_X0_isRead x1 x2 v2 D2) fun v3 D3 =>
        ck (nR v3) <|
        if v3 = 0 then
          F_X11_bears_L13 x1 x2 n (x3 - 1) D3
        else
          some (.inl x3, D3)
noncomputable def F_X11_bears (x1 x2 : Int) (D : mD) : RX :=
  bX (F_X11_needYards x1 D) fun _ D1 =>
  bX (F_X11_needLight x2 D1) fun _ D2 =>
  F_X11_bears_L13 x1 x2 fuelN 9 D2
noncomputable def F_X11_lamp_L6 : Nat → Int → Int → Int → mD → RI
  | 0, _, _, _, _ => none
  | n + 1, x1, x2, x3, D =>
    ck (nR x3) <|
    if 9 < x3 then
      some (x1, D)
    else
      bI (F_X0_farthestBy x3 D) fun v1 D1 =>
      ck (nR v1) <|
      ck (nR x2) <|
      F_X11_lamp_L6 n (if v1 ≤ x2 then x1 else x3) (if v1 ≤ x2 then x2 else v1) (x3 + 1) D1
noncomputable def F_X11_lamp (D : mD) : RI :=
  F_X11_lamp_L6 fuelN 0 (-1) 0 D
noncomputable def F_X11_aslant_j10 (D : mD) : RX :=
  some (.inr 0, D)
noncomputable def F_X11_aslant (x1 : Int) (D : mD) : RX :=
  ck (nR x1) <|
  if x1 < 0 then
    F_X11_aslant_j10 D
  else
    if x1 ≤ 9 then
      bI (F_X0_unevenBy 18 x1 D) fun v1 D1 =>
      some (.inl v1, D1)
    else
      F_X11_aslant_j10 D
noncomputable def F_X11_from_L20 : Nat → Int → Int → Int → mD → RI
  | 0, _, _, _, _ => none
  | n + 1, x1, x2, x3, D =>
    ck (nR x3) <|
    if 9 < x3 then
      some (x1, D)
    else
      bI (F_X0_unevenBy 18 x3 D) fun v1 D1 =>
      ck (nR v1) <|
      ck (nR x2) <|
      F_X11_from_L20 n (if x2 ≤ v1 then x1 else x3) (if x2 ≤ v1 then x2 else v1) (x3 + 1) D1
noncomputable def F_X11_from (D : mD) : RI :=
  bI (F_X0_unevenBy 18 0 D) fun v1 D1 =>
  F_X11_from_L20 fuelN 0 v1 1 D1
noncomputable def F_X11_ends (x1 : Int) (D : mD) : RX :=
  bX (F_X11_needDistance x1 D) fun _ D1 =>
  ck (nR (D1 3 5)) <|
  if 2 ≤ (D1 3 5) then
    bI (F_X0_freeHairs 0 D1) fun v2 D2 =>
    some (.inl (v2 - (x1 * ((D2 3 5) - 2))), D2)
  else
    some (.inl (-999), D1)
noncomputable def F_X11_order (x1 : Int) (D : mD) : RI :=
  bI (F_X10_orderOf 17 x1 (D 3 5) D) fun v1 D1 =>
  some (v1, D1)
noncomputable def F_X11_brush (D : mD) : RI :=
  bI (F_X10_fewestDays 17 (D 3 5) D) fun v1 D1 =>
  some (v1, D1)
noncomputable def F_X11_useUpWhites (D : mD) : RI :=
  some ((D 1 1), (pD D 1 1 0))
noncomputable def F_X11_wrote_L47 (K29 : Int → Int → Int → mD → RX) (x1 x2 x3 x4 : Int) : Nat → Int → Int → mD → RX
  | 0, _, _, _ => none
  | n + 1, x5, x6, D =>
    ck (nR (x6 + 1)) <|
    ck (nR x1) <|
    if x1 ≤ (x6 + 1) then
      ck (nR x2) <|
      ck ((¬ (x2 = (-1))) → nR x5) <|
      ck ((¬ (x2 = (-1))) → nR x3) <|
      K29 (if x2 = (-1) then x4 else (if x3 ≤ x5 then x2 else x4)) (if x2 = (-1) then x5 else (if x3 ≤ x5 then x3 else x5)) (x4 + 1) D
    else
      bI (F_X8_pairAt x6 D) fun v1 D1 =>
      ck (0 ≤ x4 ∧ x4 < 6) <|
      ck (nR (v1 - (D1 9 x4))) <|
      F_X11_wrote_L47 K29 x1 x2 x3 x4 n (x5 + (Int.natAbs (v1 - (D1 9 x4)) : Int)) (x6 + 2) D1
noncomputable def F_X11_wrote_L29 (x1 : Int) : Nat → Int → Int → Int → mD → RX
  | 0, _, _, _, _ => none
  | n + 1, x2, x3, x4, D =>
    ck (nR x4) <|
    ck (nR (D 3 11)) <|
    if (D 3 11) ≤ x4 then
      some (.inl x2, D)
    else
      F_X11_wrote_L47 (F_X11_wrote_L29 x1 n) x1 x2 x3 x4 fuelN 0 0 D
noncomputable def F_X11_wrote (D : mD) : RX :=
  bI (F_X11_useUpWhites D) fun v1 D1 =>
  ck (nR v1) <|
  ck (0 ≤ v1) <|
  ck (nR (v1 % 2)) <|
  if (v1 % 2) = 0 then
    F_X11_wrote_L29 v1 fuelN (-1) 0 0 D1
  else
    some (.inr 0, D1)
noncomputable def F_X11_likely_L32 (x1 x2 : Int) : Nat → Int → Int → mD → RX
  | 0, _, _, _ => none
  | n + 1, x3, x4, D =>
    ck (nR (x4 + 1)) <|
    ck (nR x2) <|
    if x2 ≤ (x4 + 1) then
      some (.inl x3, D)
    else
      bI (F_X8_pairAt x4 D) fun v1 D1 =>
      ck (0 ≤ x1 ∧ x1 < 6) <|
      ck (nR (v1 - (D1 9 x1))) <|
      ck (nR (Int.natAbs (v1 - (D1 9 x1)) : Int)) <|
      F_X11_likely_L32 x1 x2 n (if 10 < (Int.natAbs (v1 - (D1 9 x1)) : Int) then x3 else (x3 + 1)) (x4 + 2) D1
noncomputable def F_X11_likely (x1 : Int) (D : mD) : RX :=
  bI (F_X11_useUpWhites D) fun v1 D1 =>
  bX (F_X11_needWriter x1 D1) fun _ D2 =>
  ck (nR v1) <|
  ck (0 ≤ v1) <|
  ck (nR (v1 % 2)) <|
  if (v1 % 2) = 0 then
    F_X11_likely_L32 x1 v1 fuelN 0 0 D2
  else
    some (.inr 0, D2)
noncomputable def F_X11_lookers_L21 (x1 x2 : Int) : Nat → Int → Int → mD → RI
  | 0, _, _, _ => none
  | n + 1, x3, x4, D =>
    ck (nR x4) <|
    ck (nR (D 3 14)) <|
    if (D 3 14) ≤ x4 then
      ck (nR x1) <|
      ck ((¬ (x1 = 0)) → nR (x3 * (x3 - 1))) <|
      ck ((¬ (x1 = 0)) → 0 ≤ (x3 * (x3 - 1))) <|
      ck ((¬ (x1 = 0)) → nR (((D 3 14) - x3) * (((D 3 14) - x3) - 1))) <|
      ck ((¬ (x1 = 0)) → 0 ≤ (((D 3 14) - x3) * (((D 3 14) - x3) - 1))) <|
      some ((if x1 = 0 then x3 else (((x3 * (x3 - 1)) / 2) + ((((D 3 14) - x3) * (((D 3 14) - x3) - 1)) / 2))), D)
    else
      ck (0 ≤ x4 ∧ x4 < 8) <|
      ck (nR x2) <|
      ck (nR (D 11 x4)) <|
      F_X11_lookers_L21 x1 x2 n (if (D 11 x4) ≤ x2 then x3 else (x3 + 1)) (x4 + 1) D
noncomputable def F_X11_lookers (x1 : Int) (D : mD) : RI :=
  bI (F_X0_unevenBy 18 0 D) fun v1 D1 =>
  F_X11_lookers_L21 x1 v1 fuelN 0 0 D1
noncomputable def F_X11_needTrialDays_j10 (D : mD) : RX :=
  some (.inr 0, D)
noncomputable def F_X11_needTrialDays (x1 : Int) (D : mD) : RX :=
  ck (nR x1) <|
  if x1 < 0 then
    F_X11_needTrialDays_j10 D
  else
    if x1 ≤ 40 then
      some (.inl 0, D)
    else
      F_X11_needTrialDays_j10 D
noncomputable def F_X11_tryDays_L22 (x1 x2 : Int) : Nat → Int → mD → RI
  | 0, _, _ => none
  | n + 1, x4, D =>
    ck (nR x4) <|
    ck (nR x2) <|
    if x2 ≤ x4 then
      some (0, D)
    else
      ck (0 ≤ x1 ∧ x1 < 6) <|
      bI (F_X10_paintDay 109 x1 (D 10 x1) (D 3 5) D) fun v1 D1 =>
      F_X11_tryDays_L22 x1 x2 n (x4 + 1) D1
noncomputable def F_X11_tryDays (x1 x2 x3 : Int) (D : mD) : RI :=
  bI (F_X10_copyFrom 109 17 D) fun _ D1 =>
  F_X11_tryDays_L22 x1 x2 fuelN 0 (pD D1 109 6 x3)
noncomputable def F_X11_trial (x1 x2 x3 : Int) (D : mD) : RX :=
  bX (F_X11_needWriter x1 D) fun _ D1 =>
  bX (F_X11_needTrialDays x2 D1) fun _ D2 =>
  bI (F_X11_tryDays x1 x2 (D2 17 6) D2) fun _ D3 =>
  ck (nR x3) <|
  if x3 = 0 then
    bI (F_X0_unevenBy 110 0 D3) fun v4 D4 =>
    some (.inl v4, D4)
  else
    ck (nR (D3 109 3)) <|
    some (.inl (bC (D3 109 3)), D3)
noncomputable def F_X11_span_L16 (x1 x2 x3 : Int) : Nat → Int → Int → mD → RX
  | 0, _, _, _ => none
  | n + 1, x4, x5, D =>
    ck (nR x5) <|
    if 6 < x5 then
      some (.inl x4, D)
    else
      bI (F_X11_tryDays x1 x2 x5 D) fun _ D1 =>
      bI (F_X0_unevenBy 110 0 D1) fun v2 D2 =>
      ck (nR x4) <|
      ck ((¬ (x4 = (-1))) → nR x3) <|
      ck ((¬ (x4 = (-1))) → (x3 = 0) → nR v2) <|
      ck ((¬ (x4 = (-1))) → (¬ (x3 = 0)) → nR v2) <|
      F_X11_span_L16 x1 x2 x3 n (if x4 = (-1) then v2 else (if x3 = 0 then (if x4 ≤ v2 then x4 else v2) else (if v2 ≤ x4 then x4 else v2))) (x5 + 1) D2
noncomputable def F_X11_span (x1 x2 x3 : Int) (D : mD) : RX :=
  bX (F_X11_needWriter x1 D) fun _ D1 =>
  bX (F_X11_needTrialDays x2 D1) fun _ D2 =>
  F_X11_span_L16 x1 x2 x3 fuelN (-1) 1 D2
noncomputable def F_X11_slips_j48 (K14 : Int → Int → mD → RX) (x1 x2 x3 s0 : Int) (D : mD) : RX :=
  ck (nR s0) <|
  if s0 = 0 then
    K14 x2 (x3 + 1) D
  else
    bI (F_X10_logged 17 x3 3 D) fun v1 D1 =>
    ck (nR v1) <|
    K14 (if v1 = 0 then x2 else (x2 + 1)) (x3 + 1) D1
noncomputable def F_X11_slips_j43 (K14 : Int → Int → mD → RX) (x1 x2 x3 : Int) (D : mD) : RX :=
  F_X11_slips_j48 (K14) x1 x2 x3 1 D
noncomputable def F_X11_slips_L14 (x1 : Int) : Nat → Int → Int → mD → RX
  | 0, _, _, _ => none
  | n + 1, x2, x3, D =>
    ck (nR x3) <|
    ck (nR (D 17 9)) <|
    if (D 17 9) ≤ x3 then
      some (.inl x2, D)
    else
      ck (nR x1) <|
      if x1 = (-1) then
        F_X11_slips_j43 (F_X11_slips_L14 x1 n) x1 x2 x3 D
      else
        bI (F_X10_logged 17 x3 2 D) fun v1 D1 =>
        ck (nR v1) <|
        F_X11_slips_j48 (F_X11_slips_L14 x1 n) x1 x2 x3 (if v1 = x1 then (1 : Int) else (0 : Int)) D1
noncomputable def F_X11_slips (x1 : Int) (D : mD) : RX :=
  ck (nR x1) <|
  if x1 = (-1) then
    F_X11_slips_L14 x1 fuelN 0 0 D
  else
    bX (F_X11_needWriter x1 D) fun _ D1 =>
    F_X11_slips_L14 x1 fuelN 0 0 D1
noncomputable def F_X11_log_j9 (D : mD) : RX :=
  some (.inr 4, D)
noncomputable def F_X11_log (x1 x2 : Int) (D : mD) : RX :=
  ck (nR x2) <|
  if x2 < 0 then
    F_X11_log_j9 D
  else
    if x2 < 4 then
      ck (nR x1) <|
      if x1 < 0 then
        some (.inl (-99), D)
      else
        ck (nR (D 17 9)) <|
        if x1 < (D 17 9) then
          bI (F_X10_logged 17 x1 x2 D) fun v1 D1 =>
          some (.inl v1, D1)
        else
          some (.inl (-99), D)
    else
      F_X11_log_j9 D
noncomputable def F_X12_thrown (D : mD) : RI :=
  some ((D 133 0), D)
noncomputable def F_X12_throwsIf (x1 x2 : Int) (D : mD) : RI :=
  ck (nR x1) <|
  if x1 = 0 then
    ck ((x1 = 0 ∨ x1 = 1)) <|
    some (x1, D)
  else
    ck ((x1 = 0 ∨ x1 = 1)) <|
    some (x1, (pD D 133 0 x2))
noncomputable def F_X12_in (x0 x1 x2 : Int) (D : mD) : RI :=
  ck (nR x0) <|
  ck (nR x1) <|
  ck ((¬ (x0 < x1)) → nR x2) <|
  ck (((if x0 < x1 then (0 : Int) else (if x2 < x0 then (0 : Int) else (1 : Int))) = 0 ∨ (if x0 < x1 then (0 : Int) else (if x2 < x0 then (0 : Int) else (1 : Int))) = 1)) <|
  some ((if x0 < x1 then (0 : Int) else (if x2 < x0 then (0 : Int) else (1 : Int))), D)
noncomputable def F_X12_has (x0 x1 : Int) (D : mD) : RI :=
  ck (nR (bAnd (bShr x0 x1) 1)) <|
  ck (((if (bAnd (bShr x0 x1) 1) = 1 then (1 : Int) else (0 : Int)) = 0 ∨ (if (bAnd (bShr x0 x1) 1) = 1 then (1 : Int) else (0 : Int)) = 1)) <|
  some ((if (bAnd (bShr x0 x1) 1) = 1 then (1 : Int) else (0 : Int)), D)
noncomputable def F_X12_image_L7 : Nat → Int → mD → RI
  | 0, _, _ => none
  | n + 1, x1, D =>
    ck (nR x1) <|
    if 1324 ≤ x1 then
      some (0, (pD D 133 6 1))
    else
      ck (0 ≤ x1 ∧ x1 < 2173) <|
      ck (0 ≤ x1 ∧ x1 < 1324) <|
      F_X12_image_L7 n (x1 + 1) (pD D 135 x1 (D 134 x1))
noncomputable def F_X12_image (D : mD) : RI :=
  F_X12_image_L7 fuelN 0 (pD D 133 0 0)
noncomputable def F_X12_back_L16 : Nat → Int → mD → RI
  | 0, _, _ => none
  | n + 1, x1, D =>
    ck (nR x1) <|
    if 1324 ≤ x1 then
      some (1, (pD D 133 7 0))
    else
      ck (0 ≤ x1 ∧ x1 < 1324) <|
      ck (0 ≤ x1 ∧ x1 < 2173) <|
      F_X12_back_L16 n (x1 + 1) (pD D 134 x1 (D 135 x1))
noncomputable def F_X12_back (D : mD) : RI :=
  ck (nR ((pD D 133 0 0) 133 6)) <|
  if ((pD D 133 0 0) 133 6) = 0 then
    some (0, (pD D 133 0 0))
  else
    F_X12_back_L16 fuelN 0 (pD D 133 0 0)
noncomputable def F_X12_remembers_L55 : Nat → Int → mD → RI
  | 0, _, _ => none
  | n + 1, x1, D =>
    ck (nR x1) <|
    if 475 ≤ x1 then
      some (0, D)
    else
      ck (0 ≤ x1 ∧ x1 < 2173) <|
      ck (0 ≤ ((475 * ((D 133 7) - 1)) + x1) ∧ ((475 * ((D 133 7) - 1)) + x1) < 5700) <|
      F_X12_remembers_L55 n (x1 + 1) (pD D 138 ((475 * ((D 133 7) - 1)) + x1) (D 134 x1))
noncomputable def F_X12_remembers_L11 : Nat → Int → mD → RI
  | 0, _, _ => none
  | n + 1, x1, D =>
    ck (nR x1) <|
    if 5225 ≤ x1 then
      F_X12_remembers_L55 fuelN 0 D
    else
      ck (0 ≤ (x1 + 475) ∧ (x1 + 475) < 5700) <|
      ck (0 ≤ x1 ∧ x1 < 5700) <|
      F_X12_remembers_L11 n (x1 + 1) (pD D 138 x1 (D 138 (x1 + 475)))
noncomputable def F_X12_remembers (D : mD) : RI :=
  ck (nR (D 133 7)) <|
  if (D 133 7) = 12 then
    F_X12_remembers_L11 fuelN 0 D
  else
    F_X12_remembers_L55 fuelN 0 (pD D 133 7 ((D 133 7) + 1))
noncomputable def F_X12_undo_L26 : Nat → Int → mD → RI
  | 0, _, _ => none
  | n + 1, x1, D =>
    ck (nR x1) <|
    if 475 ≤ x1 then
      some (1, D)
    else
      ck (0 ≤ ((475 * (D 133 7)) + x1) ∧ ((475 * (D 133 7)) + x1) < 5700) <|
      ck (0 ≤ x1 ∧ x1 < 2173) <|
      F_X12_undo_L26 n (x1 + 1) (pD D 134 x1 (D 138 ((475 * (D 133 7)) + x1)))
noncomputable def F_X12_undo (D : mD) : RI :=
  ck (nR ((pD D 133 0 0) 133 7)) <|
  if ((pD D 133 0 0) 133 7) = 0 then
    some (0, (pD D 133 0 0))
  else
    F_X12_undo_L26 fuelN 0 (pD (pD D 133 0 0) 133 7 (((pD D 133 0 0) 133 7) - 1))
noncomputable def F_X12_signs (D : mD) : RI :=
  some ((D 134 0), D)
noncomputable def F_X12_letters (D : mD) : RI :=
  some ((D 134 1), D)
noncomputable def F_X12_gaps (D : mD) : RI :=
  bI (F_X12_letters D) fun v1 D1 =>
  ck (nR (v1 - 1)) <|
  some ((max 0 (v1 - 1)), D1)
noncomputable def F_X12_writers (D : mD) : RI :=
  some ((D 134 7), D)
noncomputable def F_X12_ofSign (x1 x2 : Int) (D : mD) : RI :=
  ck (0 ≤ ((15 + (12 * x1)) + x2) ∧ ((15 + (12 * x1)) + x2) < 2173) <|
  some ((D 134 ((15 + (12 * x1)) + x2)), D)
noncomputable def F_X12_of (x1 x2 : Int) (D : mD) : RI :=
  ck (0 ≤ ((159 + (4 * x1)) + x2) ∧ ((159 + (4 * x1)) + x2) < 2173) <|
  some ((D 134 ((159 + (4 * x1)) + x2)), D)
noncomputable def F_X12_sets (x1 x2 x3 : Int) (D : mD) : RI :=
  ck (0 ≤ ((159 + (4 * x1)) + x2) ∧ ((159 + (4 * x1)) + x2) < 2173) <|
  some (0, (pD D 134 ((159 + (4 * x1)) + x2) x3))
noncomputable def F_X12_its (x1 x2 : Int) (D : mD) : RI :=
  bI (F_X12_of x1 0 D) fun v1 D1 =>
  bI (F_X12_ofSign v1 x2 D1) fun v2 D2 =>
  some (v2, D2)
noncomputable def F_X12_widthOf (x1 : Int) (D : mD) : RI :=
  bI (F_X12_its x1 1 D) fun v1 D1 =>
  bI (F_X12_of x1 1 D1) fun v2 D2 =>
  ck (nR (v1 - v2)) <|
  some ((max 1 (v1 - v2)), D2)
noncomputable def F_X12_distance (x1 : Int) (D : mD) : RI :=
  bI (F_X12_of x1 3 D) fun v1 D1 =>
  some (v1, D1)
noncomputable def F_X12_isPainted (x1 : Int) (D : mD) : RI :=
  bI (F_X12_of x1 2 D) fun v1 D1 =>
  ck (nR v1) <|
  ck (((if v1 < 0 then (0 : Int) else (1 : Int)) = 0 ∨ (if v1 < 0 then (0 : Int) else (1 : Int)) = 1)) <|
  some ((if v1 < 0 then (0 : Int) else (1 : Int)), D1)
noncomputable def F_X12_noSign (x1 : Int) (D : mD) : RI :=
  bI (F_X12_signs D) fun v1 D1 =>
  bI (F_X12_in x1 0 (v1 - 1) D1) fun v2 D2 =>
  ck (nR v2) <|
  ck (((if v2 = 0 then (1 : Int) else (0 : Int)) = 0 ∨ (if v2 = 0 then (1 : Int) else (0 : Int)) = 1)) <|
  some ((if v2 = 0 then (1 : Int) else (0 : Int)), D2)
noncomputable def F_X12_noLetter (x1 : Int) (D : mD) : RI :=
  bI (F_X12_letters D) fun v1 D1 =>
  bI (F_X12_in x1 0 (v1 - 1) D1) fun v2 D2 =>
  ck (nR v2) <|
  ck (((if v2 = 0 then (1 : Int) else (0 : Int)) = 0 ∨ (if v2 = 0 then (1 : Int) else (0 : Int)) = 1)) <|
  some ((if v2 = 0 then (1 : Int) else (0 : Int)), D2)
noncomputable def F_X12_noGap (x1 : Int) (D : mD) : RI :=
  bI (F_X12_gaps D) fun v1 D1 =>
  bI (F_X12_in x1 0 (v1 - 1) D1) fun v2 D2 =>
  ck (nR v2) <|
  ck (((if v2 = 0 then (1 : Int) else (0 : Int)) = 0 ∨ (if v2 = 0 then (1 : Int) else (0 : Int)) = 1)) <|
  some ((if v2 = 0 then (1 : Int) else (0 : Int)), D2)
noncomputable def F_X12_noWriter (x1 : Int) (D : mD) : RI :=
  bI (F_X12_writers D) fun v1 D1 =>
  bI (F_X12_in x1 0 (v1 - 1) D1) fun v2 D2 =>
  ck (nR v2) <|
  ck (((if v2 = 0 then (1 : Int) else (0 : Int)) = 0 ∨ (if v2 = 0 then (1 : Int) else (0 : Int)) = 1)) <|
  some ((if v2 = 0 then (1 : Int) else (0 : Int)), D2)
noncomputable def F_X12_noWhite (x0 : Int) (D : mD) : RI :=
  bI (F_X12_in x0 0 2000 D) fun v1 D1 =>
  ck (nR v1) <|
  ck (((if v1 = 0 then (1 : Int) else (0 : Int)) = 0 ∨ (if v1 = 0 then (1 : Int) else (0 : Int)) = 1)) <|
  some ((if v1 = 0 then (1 : Int) else (0 : Int)), D1)
noncomputable def F_X12_draw (x1 : Int) (D : mD) : RI :=
  ck (nR (bAnd (bShr ((pD D 134 14 (wr ((1103515245 * (D 134 14)) + 12345))) 134 14) 16) 32767)) <|
  ck (nR x1) <|
  ck (0 ≤ (bAnd (bShr ((pD D 134 14 (wr ((1103515245 * (D 134 14)) + 12345))) 134 14) 16) 32767)) <|
  ck (0 < x1) <|
  some (((bAnd (bShr ((pD D 134 14 (wr ((1103515245 * (D 134 14)) + 12345))) 134 14) 16) 32767) % x1), (pD D 134 14 (wr ((1103515245 * (D 134 14)) + 12345))))
noncomputable def F_X12_feed_L60 : Nat → Int → mD → RI
  | 0, _, _ => none
  | n + 1, x6, D =>
    ck (nR x6) <|
    if 20 ≤ x6 then
      some (((pD D 133 9 ((D 133 9) + 20)) 133 9), (pD D 133 9 ((D 133 9) + 20)))
    else
      ck (0 ≤ x6) <|
      ck (0 ≤ (x6 / 4) ∧ (x6 / 4) < 5) <|
      ck (0 ≤ ((D 133 9) + x6) ∧ ((D 133 9) + x6) < 400) <|
      F_X12_feed_L60 n (x6 + 1) (pD D 139 ((D 133 9) + x6) (bNb (bI2b (bShr (D 140 (x6 / 4)) (24 - (8 * (x6 % 4)))))))
noncomputable def F_X12_feed (x1 x2 x3 x4 x5 : Int) (D : mD) : RI :=
  ck (nR (((pD D 133 0 0) 133 9) + 20)) <|
  if (((pD D 133 0 0) 133 9) + 20) ≤ 400 then
    F_X12_feed_L60 fuelN 0 (pD (pD (pD (pD (pD (pD D 133 0 0) 140 0 x1) 140 1 x2) 140 2 x3) 140 3 x4) 140 4 x5)
  else
    some ((-1), (pD D 133 0 0))
noncomputable def F_X12_end (x1 : Int) (D : mD) : RI :=
  ck (nR x1) <|
  if x1 < 0 then
    some (0, (pD D 133 0 0))
  else
    ck (nR ((pD D 133 0 0) 133 9)) <|
    if x1 ≤ ((pD D 133 0 0) 133 9) then
      some (1, (pD (pD D 133 0 0) 133 9 x1))
    else
      some (0, (pD D 133 0 0))
noncomputable def F_X12_isAt (x1 x2 : Int) (D : mD) : RI :=
  ck (nR (D 133 10)) <|
  ck (nR (D 133 11)) <|
  ck ((¬ ((D 133 11) ≤ (D 133 10))) → 0 ≤ (D 133 10) ∧ (D 133 10) < 400) <|
  ck ((¬ ((D 133 11) ≤ (D 133 10))) → nR (D 139 (D 133 10))) <|
  ck ((¬ ((D 133 11) ≤ (D 133 10))) → nR x1) <|
  ck ((¬ ((D 133 11) ≤ (D 133 10))) → (¬ ((D 139 (D 133 10)) < x1)) → nR x2) <|
  ck (((if (D 133 11) ≤ (D 133 10) then (0 : Int) else (if (D 139 (D 133 10)) < x1 then (0 : Int) else (if x2 < (D 139 (D 133 10)) then (0 : Int) else (1 : Int)))) = 0 ∨ (if (D 133 11) ≤ (D 133 10) then (0 : Int) else (if (D 139 (D 133 10)) < x1 then (0 : Int) else (if x2 < (D 139 (D 133 10)) then (0 : Int) else (1 : Int)))) = 1)) <|
  some ((if (D 133 11) ≤ (D 133 10) then (0 : Int) else (if (D 139 (D 133 10)) < x1 then (0 : Int) else (if x2 < (D 139 (D 133 10)) then (0 : Int) else (1 : Int)))), D)
noncomputable def F_X12_blanks_L0 : Nat → mD → RI
  | 0, _ => none
  | n + 1, D =>
    bI (F_X12_isAt 32 32 D) fun v1 D1 =>
    ck (nR v1) <|
    if v1 = 0 then
      some (0, (pD D1 133 12 (D1 133 10)))
    else
      F_X12_blanks_L0 n (pD D1 133 10 ((D1 133 10) + 1))
noncomputable def F_X12_blanks (D : mD) : RI :=
  F_X12_blanks_L0 fuelN D
noncomputable def F_X12_lettersPass_L4 : Nat → mD → RI
  | 0, _ => none
  | n + 1, D =>
    bI (F_X12_isAt 97 122 D) fun v1 D1 =>
    ck (nR v1) <|
    if v1 = 0 then
      some (0, D1)
    else
      F_X12_lettersPass_L4 n (pD D1 133 10 ((D1 133 10) + 1))
noncomputable def F_X12_lettersPass (D : mD) : RI :=
  bI (F_X12_blanks D) fun _ D1 =>
  F_X12_lettersPass_L4 fuelN D1
noncomputable def F_X12_isWord_L24 (s1_ : Nat) : Nat → Int → Int → mD → RI
  | 0, _, _, _ => none
  | n + 1, x2, x3, D =>
    ck (nR x2) <|
    if x2 = 0 then
      ck ((x2 = 0 ∨ x2 = 1)) <|
      some (x2, D)
    else
      ck (nR x3) <|
      ck (nR (sLen s1_)) <|
      if (sLen s1_) ≤ x3 then
        ck ((x2 = 0 ∨ x2 = 1)) <|
        some (x2, D)
      else
        ck (0 ≤ ((D 133 12) + x3) ∧ ((D 133 12) + x3) < 400) <|
        ck (0 ≤ x3 ∧ x3 < sLen s1_) <|
        ck (nR (D 139 ((D 133 12) + x3))) <|
        ck (nR (sAt s1_ x3)) <|
        F_X12_isWord_L24 s1_ n (if (D 139 ((D 133 12) + x3)) = (sAt s1_ x3) then (1 : Int) else (0 : Int)) (x3 + 1) D
noncomputable def F_X12_isWord (s1_ : Nat) (D : mD) : RI :=
  ck (nR ((D 133 10) - (D 133 12))) <|
  ck (nR (sLen s1_)) <|
  F_X12_isWord_L24 s1_ fuelN (if ((D 133 10) - (D 133 12)) = (sLen s1_) then (1 : Int) else (0 : Int)) 0 D
noncomputable def F_X12_passes (s1_ : Nat) (D : mD) : RI :=
  bI (F_X12_lettersPass D) fun _ D1 =>
  bI (F_X12_isWord s1_ D1) fun v2 D2 =>
  ck (nR v2) <|
  if v2 = 0 then
    some (0, (pD D2 133 10 (D2 133 12)))
  else
    some (1, D2)
noncomputable def F_X12_isSign (x1 : Int) (D : mD) : RI :=
  bI (F_X12_blanks D) fun _ D1 =>
  bI (F_X12_isAt x1 x1 D1) fun v2 D2 =>
  ck (nR v2) <|
  if v2 = 0 then
    some (0, D2)
  else
    some (1, (pD D2 133 10 ((D2 133 10) + 1)))
noncomputable def F_X12_number_j51 (K6 : Int → mD → RI) (x1 x2 s0 : Int) (D : mD) : RI :=
  K6 s0 (pD D 133 10 ((D 133 10) + 1))
noncomputable def F_X12_number_L6 (x1 x2 : Int) : Nat → Int → mD → RI
  | 0, _, _ => none
  | n + 1, x3, D =>
    bI (F_X12_isAt 48 57 D) fun v1 D1 =>
    ck (nR v1) <|
    if v1 = 0 then
      ck (nR (D1 133 10)) <|
      ck (nR (D1 133 12)) <|
      ck ((¬ ((D1 133 10) = (D1 133 12))) → nR ((D1 133 10) - (D1 133 12))) <|
      ck ((¬ ((D1 133 10) = (D1 133 12))) → (¬ (3 < ((D1 133 10) - (D1 133 12)))) → nR x3) <|
      ck ((¬ ((D1 133 10) = (D1 133 12))) → (¬ (3 < ((D1 133 10) - (D1 133 12)))) → nR x1) <|
      ck ((¬ ((D1 133 10) = (D1 133 12))) → (¬ (3 < ((D1 133 10) - (D1 133 12)))) → (¬ (x3 < x1)) → nR x2) <|
      some ((if (D1 133 10) = (D1 133 12) then (-1 : Int) else (if 3 < ((D1 133 10) - (D1 133 12)) then (-1 : Int) else (if x3 < x1 then (-1 : Int) else (if x3 ≤ x2 then x3 else (-1 : Int))))), D1)
    else
      ck (nR ((D1 133 10) - (D1 133 12))) <|
      ck ((¬ (3 ≤ ((D1 133 10) - (D1 133 12)))) → 0 ≤ (D1 133 10) ∧ (D1 133 10) < 400) <|
      F_X12_number_j51 (F_X12_number_L6 x1 x2 n) x1 x2 (if 3 ≤ ((D1 133 10) - (D1 133 12)) then x3 else (((10 * x3) + (D1 139 (D1 133 10))) - 48)) D1
noncomputable def F_X12_number (x1 x2 : Int) (D : mD) : RI :=
  bI (F_X12_blanks D) fun _ D1 =>
  F_X12_number_L6 x1 x2 fuelN 0 D1
noncomputable def F_X12_after (s1_ : Nat) (x2 x3 : Int) (D : mD) : RI :=
  bI (F_X12_lettersPass D) fun _ D1 =>
  bI (F_X12_isWord s1_ D1) fun v2 D2 =>
  ck (nR v2) <|
  if v2 = 0 then
    some ((-1), D2)
  else
    bI (F_X12_number x2 x3 D2) fun v3 D3 =>
    some (v3, D3)
noncomputable def F_X12_isFigure (D : mD) : RI :=
  bI (F_X12_blanks D) fun _ D1 =>
  bI (F_X12_isAt 48 57 D1) fun v2 D2 =>
  ck ((v2 = 0 ∨ v2 = 1)) <|
  some (v2, D2)
noncomputable def F_X12_fault (D : mD) : RI :=
  some (((pD D 133 0 0) 133 14), (pD D 133 0 0))
noncomputable def F_X12_uses (D : mD) : RI :=
  some (0, (pD (pD (pD (pD D 133 0 0) 133 11 ((pD D 133 0 0) 133 9)) 133 9 0) 133 10 0))
noncomputable def F_X12_sortTold (D : mD) : RI :=
  bI (F_X12_isWord 55 D) fun v1 D1 =>
  ck (nR v1) <|
  if v1 = 0 then
    bI (F_X12_isWord 56 D1) fun v2 D2 =>
    ck (nR v2) <|
    if v2 = 0 then
      bI (F_X12_isWord 57 D2) fun v3 D3 =>
      ck (nR v3) <|
      if v3 = 0 then
        bI (F_X12_isWord 58 D3) fun v4 D4 =>
        ck (nR v4) <|
        some ((if v4 = 0 then (-1 : Int) else (3 : Int)), D4)
      else
        some (2, D3)
    else
      some (1, D2)
  else
    some (0, D1)
noncomputable def F_X12_readRows_j90 (s1_ : Nat) (D : mD) : RI :=
  ck (nR ((D 133 10) - (D 133 12))) <|
  ck (((if ((D 133 10) - (D 133 12)) = 5 then (1 : Int) else (0 : Int)) = 0 ∨ (if ((D 133 10) - (D 133 12)) = 5 then (1 : Int) else (0 : Int)) = 1)) <|
  some ((if ((D 133 10) - (D 133 12)) = 5 then (1 : Int) else (0 : Int)), D)
noncomputable def F_X12_readRows_L44 (s1_ : Nat) (x2 : Int) : Nat → Int → mD → RI
  | 0, _, _ => none
  | n + 1, x3, D =>
    ck (nR x3) <|
    if 5 ≤ x3 then
      F_X12_readRows_j90 s1_ D
    else
      ck (nR ((D 133 10) - (D 133 12))) <|
      if ((D 133 10) - (D 133 12)) = 5 then
        ck (0 ≤ ((D 133 12) + x3) ∧ ((D 133 12) + x3) < 400) <|
        ck (0 ≤ (x2 + x3) ∧ (x2 + x3) < 2173) <|
        F_X12_readRows_L44 s1_ x2 n (x3 + 1) (pD D 134 (x2 + x3) ((D 139 ((D 133 12) + x3)) - 48))
      else
        F_X12_readRows_j90 s1_ D
noncomputable def F_X12_readRows_L18 (s1_ : Nat) (x2 : Int) : Nat → mD → RI
  | 0, _ => none
  | n + 1, D =>
    bI (F_X12_isAt 48 57 D) fun v1 D1 =>
    ck (nR v1) <|
    if v1 = 0 then
      F_X12_readRows_L44 s1_ x2 fuelN 0 D1
    else
      F_X12_readRows_L18 s1_ x2 n (pD D1 133 10 ((D1 133 10) + 1))
noncomputable def F_X12_readRows (s1_ : Nat) (x2 : Int) (D : mD) : RI :=
  bI (F_X12_lettersPass D) fun _ D1 =>
  bI (F_X12_isWord s1_ D1) fun v2 D2 =>
  ck (nR v2) <|
  if v2 = 0 then
    some (0, D2)
  else
    bI (F_X12_blanks D2) fun _ D3 =>
    F_X12_readRows_L18 s1_ x2 fuelN D3
noncomputable def F_X12_readSign_L107 (x1 : Int) : Nat → Int → mD → RI
  | 0, _, _ => none
  | n + 1, x3, D =>
    ck (nR x3) <|
    if 5 ≤ x3 then
      some (1, (pD D 134 0 ((D 134 0) + 1)))
    else
      bI (F_X12_ofSign x1 (2 + x3) D) fun v1 D1 =>
      bI (F_X12_ofSign x1 (7 + x3) D1) fun v2 D2 =>
      bI (F_X12_ofSign x1 1 D2) fun v3 D3 =>
      ck (nR (v1 + v2)) <|
      ck (nR v3) <|
      if (v1 + v2) < v3 then
        F_X12_readSign_L107 x1 n (x3 + 1) D3
      else
        some (0, D3)
noncomputable def F_X12_readSign (D : mD) : RI :=
  bI (F_X12_signs D) fun v1 D1 =>
  ck (nR v1) <|
  if v1 = 12 then
    some (0, D1)
  else
    bI (F_X12_lettersPass D1) fun _ D2 =>
    bI (F_X12_sortTold D2) fun v3 D3 =>
    ck (0 ≤ ((15 + (12 * v1)) + 0) ∧ ((15 + (12 * v1)) + 0) < 2173) <|
    ck (nR ((pD D3 134 ((15 + (12 * v1)) + 0) v3) 134 ((15 + (12 * v1)) + 0))) <|
    if 0 ≤ ((pD D3 134 ((15 + (12 * v1)) + 0) v3) 134 ((15 + (12 * v1)) + 0)) then
      bI (F_X12_after 59 2 12 (pD D3 134 ((15 + (12 * v1)) + 0) v3)) fun v4 D4 =>
      ck (0 ≤ ((15 + (12 * v1)) + 1) ∧ ((15 + (12 * v1)) + 1) < 2173) <|
      ck (nR ((pD D4 134 ((15 + (12 * v1)) + 1) v4) 134 ((15 + (12 * v1)) + 1))) <|
      if ((pD D4 134 ((15 + (12 * v1)) + 1) v4) 134 ((15 + (12 * v1)) + 1)) < 0 then
        some (0, (pD D4 134 ((15 + (12 * v1)) + 1) v4))
      else
        bI (F_X12_readRows 60 ((15 + (12 * v1)) + 2) (pD D4 134 ((15 + (12 * v1)) + 1) v4)) fun v5 D5 =>
        ck (nR v5) <|
        if v5 = 0 then
          some (0, D5)
        else
          bI (F_X12_readRows 61 ((15 + (12 * v1)) + 7) D5) fun v6 D6 =>
          ck (nR v6) <|
          if v6 = 0 then
            some (0, D6)
          else
            F_X12_readSign_L107 v1 fuelN 0 D6
    else
      some (0, (pD D3 134 ((15 + (12 * v1)) + 0) v3))
noncomputable def F_X12_readBoard_j26 (x1 s0 : Int) (D : mD) : RI :=
  ck (nR s0) <|
  if 0 ≤ s0 then
    some (1, (pD (pD D 134 2 x1) 134 3 s0))
  else
    some (0, D)
noncomputable def F_X12_readBoard (D : mD) : RI :=
  bI (F_X12_number 10 120 D) fun v1 D1 =>
  ck (nR v1) <|
  if 0 ≤ v1 then
    bI (F_X12_after 63 0 9 D1) fun v2 D2 =>
    F_X12_readBoard_j26 v1 v2 D2
  else
    F_X12_readBoard_j26 v1 (-1) D1
noncomputable def F_X12_readWord_j34 (K2 : Int → mD → RI) (x1 x2 : Int) (D : mD) : RI :=
  ck (nR x2) <|
  if 0 ≤ x2 then
    bI (F_X12_sets x1 0 x2 D) fun _ D1 =>
    bI (F_X12_sets x1 1 0 D1) fun _ D2 =>
    bI (F_X12_sets x1 2 (-1) D2) fun _ D3 =>
    bI (F_X12_sets x1 3 3 D3) fun _ D4 =>
    bI (F_X12_isFigure D4) fun v5 D5 =>
    ck (nR v5) <|
    if v5 = 0 then
      some (1, (pD (pD D5 134 1 (x1 + 1)) 134 12 (-1)))
    else
      K2 (x1 + 1) D5
  else
    some (0, D)
noncomputable def F_X12_readWord_j23 (K2 : Int → mD → RI) (x1 s0 : Int) (D : mD) : RI :=
  ck (nR x1) <|
  if x1 = 14 then
    bI (F_X12_blanks D) fun _ D1 =>
    F_X12_readWord_j34 (K2) x1 s0 D1
  else
    F_X12_readWord_j34 (K2) x1 s0 D
noncomputable def F_X12_readWord_L2 : Nat → Int → mD → RI
  | 0, _, _ => none
  | n + 1, x1, D =>
    ck (nR x1) <|
    if x1 = 14 then
      F_X12_readWord_j23 (F_X12_readWord_L2 n) x1 (-1) D
    else
      bI (F_X12_signs D) fun v1 D1 =>
      bI (F_X12_number 0 (v1 - 1) D1) fun v2 D2 =>
      F_X12_readWord_j23 (F_X12_readWord_L2 n) x1 v2 D2
noncomputable def F_X12_readWord (D : mD) : RI :=
  F_X12_readWord_L2 fuelN 0 D
noncomputable def F_X12_readWriter_j39 (x1 s0 : Int) (D : mD) : RI :=
  ck (nR s0) <|
  if 0 ≤ s0 then
    bI (F_X12_writers D) fun v1 D1 =>
    ck (0 ≤ (215 + (2 * v1)) ∧ (215 + (2 * v1)) < 2173) <|
    bI (F_X12_writers (pD D1 134 (215 + (2 * v1)) x1)) fun v2 D2 =>
    ck (0 ≤ ((215 + (2 * v2)) + 1) ∧ ((215 + (2 * v2)) + 1) < 2173) <|
    some (1, (pD (pD D2 134 ((215 + (2 * v2)) + 1) s0) 134 7 (((pD D2 134 ((215 + (2 * v2)) + 1) s0) 134 7) + 1)))
  else
    some (0, D)
noncomputable def F_X12_readWriter (D : mD) : RI :=
  bI (F_X12_writers D) fun v1 D1 =>
  ck (nR v1) <|
  if v1 = 6 then
    some (0, D1)
  else
    bI (F_X12_after 68 0 999 D1) fun v2 D2 =>
    ck (nR v2) <|
    if 0 ≤ v2 then
      bI (F_X12_after 69 0 100 D2) fun v3 D3 =>
      F_X12_readWriter_j39 v2 v3 D3
    else
      F_X12_readWriter_j39 v2 (-1) D2
noncomputable def F_X12_readLooker (D : mD) : RI :=
  ck (nR (D 134 8)) <|
  if (D 134 8) = 8 then
    some (0, D)
  else
    bI (F_X12_number 0 200 D) fun v1 D1 =>
    ck (nR v1) <|
    if 0 ≤ v1 then
      ck (0 ≤ (227 + (D1 134 8)) ∧ (227 + (D1 134 8)) < 2173) <|
      some (1, (pD (pD D1 134 (227 + (D1 134 8)) v1) 134 8 (((pD D1 134 (227 + (D1 134 8)) v1) 134 8) + 1)))
    else
      some (0, D1)
noncomputable def F_X12_readNumber (x1 : Int) (D : mD) : RI :=
  bI (F_X12_number 1 99 D) fun v1 D1 =>
  ck (0 ≤ x1 ∧ x1 < 2173) <|
  ck (nR v1) <|
  ck (((if v1 < 0 then (0 : Int) else (1 : Int)) = 0 ∨ (if v1 < 0 then (0 : Int) else (1 : Int)) = 1)) <|
  some ((if v1 < 0 then (0 : Int) else (1 : Int)), (pD D1 134 x1 v1))
noncomputable def F_X12_readShopLine (D : mD) : RI :=
  bI (F_X12_isWord 54 D) fun v1 D1 =>
  ck (nR v1) <|
  if v1 = 0 then
    bI (F_X12_isWord 62 D1) fun v2 D2 =>
    ck (nR v2) <|
    if v2 = 0 then
      bI (F_X12_isWord 64 D2) fun v3 D3 =>
      ck (nR v3) <|
      if v3 = 0 then
        bI (F_X12_isWord 65 D3) fun v4 D4 =>
        ck (nR v4) <|
        if v4 = 0 then
          bI (F_X12_isWord 66 D4) fun v5 D5 =>
          ck (nR v5) <|
          if v5 = 0 then
            bI (F_X12_isWord 67 D5) fun v6 D6 =>
            ck (nR v6) <|
            if v6 = 0 then
              bI (F_X12_isWord 70 D6) fun v7 D7 =>
              ck (nR v7) <|
              if v7 = 0 then
                some (0, D7)
              else
                bI (F_X12_readLooker D7) fun v8 D8 =>
                ck (nR v8) <|
                ck (((if v8 = 0 then (0 : Int) else (1 : Int)) = 0 ∨ (if v8 = 0 then (0 : Int) else (1 : Int)) = 1)) <|
                some ((if v8 = 0 then (0 : Int) else (1 : Int)), D8)
            else
              bI (F_X12_readWriter D6) fun v9 D9 =>
              ck ((v9 = 0 ∨ v9 = 1)) <|
              some (v9, D9)
          else
            bI (F_X12_readWord D5) fun v10 D10 =>
            ck ((v10 = 0 ∨ v10 = 1)) <|
            some (v10, D10)
        else
          bI (F_X12_readNumber 6 D4) fun v11 D11 =>
          ck ((v11 = 0 ∨ v11 = 1)) <|
          some (v11, D11)
      else
        bI (F_X12_readNumber 4 D3) fun v12 D12 =>
        ck ((v12 = 0 ∨ v12 = 1)) <|
        some (v12, D12)
    else
      bI (F_X12_readBoard D2) fun v13 D13 =>
      ck ((v13 = 0 ∨ v13 = 1)) <|
      some (v13, D13)
  else
    bI (F_X12_readSign D1) fun v14 D14 =>
    ck ((v14 = 0 ∨ v14 = 1)) <|
    some (v14, D14)
noncomputable def F_X12_emits (x1 x2 : Int) (D : mD) : RI :=
  ck (0 ≤ (1373 + (2 * (D 133 16))) ∧ (1373 + (2 * (D 133 16))) < 2173) <|
  ck (0 ≤ ((1373 + (2 * ((pD D 134 (1373 + (2 * (D 133 16))) x1) 133 16))) + 1) ∧ ((1373 + (2 * ((pD D 134 (1373 + (2 * (D 133 16))) x1) 133 16))) + 1) < 2173) <|
  some (0, (pD (pD (pD D 134 (1373 + (2 * (D 133 16))) x1) 134 ((1373 + (2 * ((pD D 134 (1373 + (2 * (D 133 16))) x1) 133 16))) + 1) x2) 133 16 (((pD (pD D 134 (1373 + (2 * (D 133 16))) x1) 134 ((1373 + (2 * ((pD D 134 (1373 + (2 * (D 133 16))) x1) 133 16))) + 1) x2) 133 16) + 1)))
noncomputable def F_X12_readPart_j120 (x1 : Int) (D : mD) : RI :=
  ck (nR x1) <|
  ck (((if x1 < 0 then (0 : Int) else (1 : Int)) = 0 ∨ (if x1 < 0 then (0 : Int) else (1 : Int)) = 1)) <|
  some ((if x1 < 0 then (0 : Int) else (1 : Int)), D)
noncomputable def F_X12_readPart_j113 (s0 : Int) (D : mD) : RI :=
  bI (F_X12_emits s0 0 D) fun _ D1 =>
  F_X12_readPart_j120 s0 D1
noncomputable def F_X12_readPart (D : mD) : RI :=
  bI (F_X12_lettersPass D) fun _ D1 =>
  ck (nR (D1 133 10)) <|
  ck (nR (D1 133 12)) <|
  if (D1 133 10) = (D1 133 12) then
    bI (F_X12_number 0 999 D1) fun v8 D8 =>
    bI (F_X12_emits 7 v8 D8) fun _ D9 =>
    F_X12_readPart_j120 v8 D9
  else
    bI (F_X12_isWord 75 D1) fun v2 D2 =>
    ck (nR v2) <|
    if v2 = 0 then
      bI (F_X12_isWord 76 D2) fun v3 D3 =>
      ck (nR v3) <|
      if v3 = 0 then
        bI (F_X12_isWord 60 D3) fun v4 D4 =>
        ck (nR v4) <|
        if v4 = 0 then
          bI (F_X12_isWord 61 D4) fun v5 D5 =>
          ck (nR v5) <|
          if v5 = 0 then
            bI (F_X12_isWord 77 D5) fun v6 D6 =>
            ck (nR v6) <|
            if v6 = 0 then
              bI (F_X12_isWord 78 D6) fun v7 D7 =>
              ck (nR v7) <|
              F_X12_readPart_j113 (if v7 = 0 then (-1 : Int) else (5 : Int)) D7
            else
              F_X12_readPart_j113 4 D6
          else
            F_X12_readPart_j113 3 D5
        else
          F_X12_readPart_j113 2 D4
      else
        F_X12_readPart_j113 1 D3
    else
      F_X12_readPart_j113 0 D2
noncomputable def F_X12_readSum_L9 : Nat → mD → RI
  | 0, _ => none
  | n + 1, D =>
    bI (F_X12_isSign 43 D) fun v1 D1 =>
    ck (nR v1) <|
    if v1 = 0 then
      some (1, D1)
    else
      bI (F_X12_readPart D1) fun v2 D2 =>
      ck (nR v2) <|
      if v2 = 0 then
        some (0, D2)
      else
        bI (F_X12_emits 8 0 D2) fun _ D3 =>
        F_X12_readSum_L9 n D3
noncomputable def F_X12_readSum (D : mD) : RI :=
  bI (F_X12_readPart D) fun v1 D1 =>
  ck (nR v1) <|
  if v1 = 0 then
    some (0, D1)
  else
    F_X12_readSum_L9 fuelN D1
noncomputable def F_X12_readTag_j31 (x1 : Int) (D : mD) : RI :=
  ck (nR x1) <|
  ck (((if x1 ≤ 0 then (0 : Int) else (1 : Int)) = 0 ∨ (if x1 ≤ 0 then (0 : Int) else (1 : Int)) = 1)) <|
  some ((if x1 ≤ 0 then (0 : Int) else (1 : Int)), D)
noncomputable def F_X12_readTag (D : mD) : RI :=
  bI (F_X12_lettersPass D) fun _ D1 =>
  bI (F_X12_sortTold D1) fun v2 D2 =>
  ck (nR v2) <|
  if v2 ≤ 0 then
    F_X12_readTag_j31 v2 (pD D2 133 10 (D2 133 12))
  else
    bI (F_X12_emits 6 v2 D2) fun _ D3 =>
    F_X12_readTag_j31 v2 D3
noncomputable def F_X12_readAtom_j173 (f_readAtom : mD → RI) (f_readCond : mD → RI) (s1 : Int) (D : mD) : RI :=
  bI (F_X12_emits s1 0 D) fun _ D1 =>
  some (1, D1)
noncomputable def F_X12_readAtom_j152 (f_readAtom : mD → RI) (f_readCond : mD → RI) (x1 : Int) (D : mD) : RI :=
  bI (F_X12_readSum D) fun v1 D1 =>
  ck (nR v1) <|
  if v1 = 0 then
    some (0, D1)
  else
    ck (nR x1) <|
    F_X12_readAtom_j173 f_readAtom f_readCond (if x1 = 0 then (10 : Int) else (9 : Int)) D1
noncomputable def F_X12_readAtom (f_readAtom : mD → RI) (f_readCond : mD → RI) (D : mD) : RI :=
  bI (F_X12_isSign 40 D) fun v1 D1 =>
  ck (nR v1) <|
  if v1 = 0 then
    bI (F_X12_passes 74 D1) fun v2 D2 =>
    ck (nR v2) <|
    if v2 = 0 then
      bI (F_X12_readTag D2) fun v3 D3 =>
      ck (nR v3) <|
      if v3 = 0 then
        bI (F_X12_readSum D3) fun v4 D4 =>
        ck (nR v4) <|
        if v4 = 0 then
          some (0, D4)
        else
          bI (F_X12_isSign 60 D4) fun v5 D5 =>
          ck (nR v5) <|
          if v5 = 0 then
            bI (F_X12_isSign 62 D5) fun v6 D6 =>
            ck (nR v6) <|
            if v6 = 0 then
              some (0, D6)
            else
              F_X12_readAtom_j152 f_readAtom f_readCond v5 D6
          else
            F_X12_readAtom_j152 f_readAtom f_readCond v5 D5
      else
        some (1, D3)
    else
      ck (nR (D2 133 13)) <|
      if (D2 133 13) = 6 then
        some (0, D2)
      else
        bI (f_readAtom (pD D2 133 13 ((D2 133 13) + 1))) fun v7 D7 =>
        ck (nR v7) <|
        if v7 = 0 then
          some (0, D7)
        else
          bI (F_X12_emits 11 0 (pD D7 133 13 ((D7 133 13) - 1))) fun _ D8 =>
          some (1, D8)
  else
    ck (nR (D1 133 13)) <|
    if (D1 133 13) = 6 then
      some (0, D1)
    else
      bI (f_readCond (pD D1 133 13 ((D1 133 13) + 1))) fun v9 D9 =>
      ck (nR v9) <|
      if v9 = 0 then
        some (0, D9)
      else
        bI (F_X12_isSign 41 (pD D9 133 13 ((D9 133 13) - 1))) fun v10 D10 =>
        ck ((v10 = 0 ∨ v10 = 1)) <|
        some (v10, D10)
noncomputable def F_X12_readAllOf_L9 (f_readAtom : mD → RI) : Nat → mD → RI
  | 0, _ => none
  | n + 1, D =>
    bI (F_X12_passes 79 D) fun v1 D1 =>
    ck (nR v1) <|
    if v1 = 0 then
      some (1, D1)
    else
      bI (f_readAtom D1) fun v2 D2 =>
      ck (nR v2) <|
      if v2 = 0 then
        some (0, D2)
      else
        bI (F_X12_emits 12 0 D2) fun _ D3 =>
        F_X12_readAllOf_L9 f_readAtom n D3
noncomputable def F_X12_readAllOf (f_readAtom : mD → RI) (D : mD) : RI :=
  bI (f_readAtom D) fun v1 D1 =>
  ck (nR v1) <|
  if v1 = 0 then
    some (0, D1)
  else
    F_X12_readAllOf_L9 f_readAtom fuelN D1
noncomputable def F_X12_readCond_L9 (f_readAllOf : mD → RI) : Nat → mD → RI
  | 0, _ => none
  | n + 1, D =>
    bI (F_X12_passes 80 D) fun v1 D1 =>
    ck (nR v1) <|
    if v1 = 0 then
      some (1, D1)
    else
      bI (f_readAllOf D1) fun v2 D2 =>
      ck (nR v2) <|
      if v2 = 0 then
        some (0, D2)
      else
        bI (F_X12_emits 13 0 D2) fun _ D3 =>
        F_X12_readCond_L9 f_readAllOf n D3
noncomputable def F_X12_readCond (f_readAllOf : mD → RI) (D : mD) : RI :=
  bI (f_readAllOf D) fun v1 D1 =>
  ck (nR v1) <|
  if v1 = 0 then
    some (0, D1)
  else
    F_X12_readCond_L9 f_readAllOf fuelN D1
noncomputable def GA12 : Nat → mD → RI
  | 0 => fun _ => none
  | n + 1 => F_X12_readAtom (GA12 n) (F_X12_readCond (F_X12_readAllOf (GA12 n)))
noncomputable def G_X12_readCond : mD → RI := F_X12_readCond (F_X12_readAllOf (GA12 8))
noncomputable def F_X12_readLawLine_j120 (x2 : Int) (D : mD) : RI :=
  ck (0 ≤ (x2 + 3) ∧ (x2 + 3) < 2173) <|
  some (1, (pD D 134 (x2 + 3) (D 133 16)))
noncomputable def F_X12_readLawLine_j67 (x2 s1 s3 s4 : Int) (D : mD) : RI :=
  bI (F_X12_number s3 s4 D) fun v1 D1 =>
  ck (0 ≤ s1 ∧ s1 < 2173) <|
  ck (0 ≤ (x2 + 1) ∧ (x2 + 1) < 2173) <|
  ck (nR ((pD D1 134 s1 v1) 134 (x2 + 1))) <|
  if 0 ≤ ((pD D1 134 s1 v1) 134 (x2 + 1)) then
    ck (0 ≤ (x2 + 2) ∧ (x2 + 2) < 2173) <|
    bI (F_X12_passes 73 (pD (pD (pD D1 134 s1 v1) 134 (x2 + 2) ((pD D1 134 s1 v1) 133 16)) 133 13 0)) fun v2 D2 =>
    ck (nR v2) <|
    if v2 = 0 then
      F_X12_readLawLine_j120 x2 D2
    else
      bI (G_X12_readCond D2) fun v3 D3 =>
      ck (nR v3) <|
      if v3 = 0 then
        some (0, D3)
      else
        F_X12_readLawLine_j120 x2 D3
  else
    some (0, (pD D1 134 s1 v1))
noncomputable def F_X12_readLawLine_j46 (x2 x3 s1 s2 : Int) (D : mD) : RI :=
  ck (0 ≤ s1 ∧ s1 < 2173) <|
  ck (nR x3) <|
  F_X12_readLawLine_j67 x2 (x2 + 1) 0 (if x3 = 0 then (9 : Int) else (99 : Int)) (pD D 134 s1 s2)
noncomputable def F_X12_readLawLine_j32 (x2 x3 : Int) (D : mD) : RI :=
  ck (nR x3) <|
  F_X12_readLawLine_j46 x2 x3 x2 (if x3 = 0 then (0 : Int) else (1 : Int)) D
noncomputable def F_X12_readLawLine (x1 : Int) (D : mD) : RI :=
  bI (F_X12_isWord 71 D) fun v1 D1 =>
  ck (nR v1) <|
  if v1 = 0 then
    bI (F_X12_isWord 72 D1) fun v2 D2 =>
    ck (nR v2) <|
    if v2 = 0 then
      some (0, D2)
    else
      F_X12_readLawLine_j32 (1325 + (4 * x1)) v1 D2
  else
    F_X12_readLawLine_j32 (1325 + (4 * x1)) v1 D1
noncomputable def F_X12_readLine_j16 (x1 x2 s0 s1 : Int) (D : mD) : RI :=
  ck (nR s0) <|
  ck (nR s1) <|
  if s1 ≤ s0 then
    some (0, D)
  else
    ck (nR x1) <|
    if x1 = 0 then
      bI (F_X12_readLawLine x2 D) fun v1 D1 =>
      ck (nR v1) <|
      ck (((if v1 = 0 then (0 : Int) else (1 : Int)) = 0 ∨ (if v1 = 0 then (0 : Int) else (1 : Int)) = 1)) <|
      some ((if v1 = 0 then (0 : Int) else (1 : Int)), D1)
    else
      bI (F_X12_readShopLine D) fun v2 D2 =>
      ck (nR v2) <|
      ck (((if v2 = 0 then (0 : Int) else (1 : Int)) = 0 ∨ (if v2 = 0 then (0 : Int) else (1 : Int)) = 1)) <|
      some ((if v2 = 0 then (0 : Int) else (1 : Int)), D2)
noncomputable def F_X12_readLine (x1 x2 : Int) (D : mD) : RI :=
  bI (F_X12_lettersPass D) fun _ D1 =>
  ck (nR x1) <|
  F_X12_readLine_j16 x1 x2 x2 (if x1 = 0 then (12 : Int) else (14 : Int)) D1
noncomputable def F_X12_readAll_L28 (x1 : Int) : Nat → Int → mD → RI
  | 0, _, _ => none
  | n + 1, x2, D =>
    bI (F_X12_readLine x1 x2 D) fun v1 D1 =>
    ck (nR v1) <|
    if v1 = 0 then
      some ((-1), D1)
    else
      bI (F_X12_blanks D1) fun _ D2 =>
      ck (nR (D2 133 10)) <|
      ck (nR (D2 133 11)) <|
      if (D2 133 10) = (D2 133 11) then
        some ((x2 + 1), D2)
      else
        bI (F_X12_isAt 59 59 D2) fun v3 D3 =>
        ck (nR v3) <|
        if v3 = 0 then
          some ((-1), D3)
        else
          F_X12_readAll_L28 x1 n (x2 + 1) (pD D3 133 10 ((D3 133 10) + 1))
noncomputable def F_X12_readAll (x1 : Int) (D : mD) : RI :=
  bI (F_X12_uses D) fun _ D1 =>
  bI (F_X12_blanks (pD D1 133 16 0)) fun _ D2 =>
  ck (nR (D2 133 10)) <|
  ck (nR (D2 133 11)) <|
  if (D2 133 10) = (D2 133 11) then
    some (0, D2)
  else
    F_X12_readAll_L28 x1 fuelN 0 D2
noncomputable def F_X12_shop_L93 : Nat → Int → mD → RI
  | 0, _, _ => none
  | n + 1, x2, D =>
    ck (nR x2) <|
    if 1324 ≤ x2 then
      some (0, D)
    else
      ck (0 ≤ x2 ∧ x2 < 1324) <|
      ck (0 ≤ x2 ∧ x2 < 2173) <|
      F_X12_shop_L93 n (x2 + 1) (pD D 134 x2 (D 136 x2))
noncomputable def F_X12_shop_j84 (s1 : Int) (D : mD) : RI :=
  bI (F_X12_throwsIf s1 2 D) fun v1 D1 =>
  ck (nR v1) <|
  if v1 = 0 then
    some (((pD (pD D1 134 9 ((D1 134 9) + 1)) 133 7 0) 134 9), (pD (pD D1 134 9 ((D1 134 9) + 1)) 133 7 0))
  else
    F_X12_shop_L93 fuelN 0 D1
noncomputable def F_X12_shop_j59 (s1 : Int) (D : mD) : RI :=
  bI (F_X12_throwsIf s1 1 D) fun v1 D1 =>
  ck (nR v1) <|
  if v1 = 0 then
    ck (nR (D1 134 9)) <|
    F_X12_shop_j84 (if (D1 134 9) = 12 then (1 : Int) else (0 : Int)) D1
  else
    F_X12_shop_L93 fuelN 0 D1
noncomputable def F_X12_shop_j46 (x1 s1 : Int) (D : mD) : RI :=
  ck (nR x1) <|
  F_X12_shop_j59 (if 0 ≤ x1 then (0 : Int) else (1 : Int)) (pD D 133 14 s1)
noncomputable def F_X12_shop_L2 : Nat → Int → mD → RI
  | 0, _, _ => none
  | n + 1, x1, D =>
    ck (nR x1) <|
    if 1324 ≤ x1 then
      bI (F_X12_readAll 1 D) fun v1 D1 =>
      ck (nR v1) <|
      F_X12_shop_j46 v1 (if 0 ≤ v1 then (-1 : Int) else (D1 133 12)) D1
    else
      ck (0 ≤ x1 ∧ x1 < 2173) <|
      ck (0 ≤ x1 ∧ x1 < 1324) <|
      F_X12_shop_L2 n (x1 + 1) (pD D 136 x1 (D 134 x1))
noncomputable def F_X12_shop (D : mD) : RI :=
  F_X12_shop_L2 fuelN 0 D
noncomputable def F_X12_law_L52 (x1 : Int) : Nat → Int → mD → RI
  | 0, _, _ => none
  | n + 1, x2, D =>
    ck (nR x2) <|
    if 849 ≤ x2 then
      some (x1, (pD (pD D 134 10 1) 133 7 0))
    else
      ck (0 ≤ (1324 + x2) ∧ (1324 + x2) < 2173) <|
      ck (0 ≤ (475 + x2) ∧ (475 + x2) < 2173) <|
      F_X12_law_L52 x1 n (x2 + 1) (pD D 134 (475 + x2) (D 134 (1324 + x2)))
noncomputable def F_X12_law_j32 (x1 s1 : Int) (D : mD) : RI :=
  bI (F_X12_throwsIf s1 1 D) fun v1 D1 =>
  ck (nR v1) <|
  if v1 = 0 then
    F_X12_law_L52 x1 fuelN 0 (pD D1 134 1324 x1)
  else
    some (0, D1)
noncomputable def F_X12_law_j19 (x1 s1 : Int) (D : mD) : RI :=
  ck (nR x1) <|
  F_X12_law_j32 x1 (if 0 ≤ x1 then (0 : Int) else (1 : Int)) (pD D 133 14 s1)
noncomputable def F_X12_law (D : mD) : RI :=
  bI (F_X12_readAll 0 D) fun v1 D1 =>
  ck (nR v1) <|
  F_X12_law_j19 v1 (if 0 ≤ v1 then (-1 : Int) else (D1 133 12)) D1
noncomputable def F_X12_isSort (x1 : Int) (D : mD) : RI :=
  ck (nR (D 133 18)) <|
  if (D 133 18) < 0 then
    some (0, D)
  else
    bI (F_X12_its (D 133 18) 0 D) fun v1 D1 =>
    ck (nR v1) <|
    ck (nR x1) <|
    if v1 = x1 then
      some (1, D1)
    else
      bI (F_X12_its ((D1 133 18) + 1) 0 D1) fun v2 D2 =>
      ck (nR v2) <|
      ck (((if v2 = x1 then (1 : Int) else (0 : Int)) = 0 ∨ (if v2 = x1 then (1 : Int) else (0 : Int)) = 1)) <|
      some ((if v2 = x1 then (1 : Int) else (0 : Int)), D2)
noncomputable def F_X12_factOf (x1 x2 x3 : Int) (D : mD) : RI :=
  ck (nR x1) <|
  if x1 = 0 then
    ck (nR (D 133 18)) <|
    some ((if 0 ≤ (D 133 18) then x3 else (0 : Int)), D)
  else
  if x1 = 1 then
    ck (nR (D 133 18)) <|
    some ((if 0 ≤ (D 133 18) then (D 133 19) else (0 : Int)), D)
  else
  if x1 = 2 then
    ck (nR (D 133 18)) <|
    if 0 ≤ (D 133 18) then
      bI (F_X12_its (D 133 18) (7 + x3) D) fun v1 D1 =>
      some (v1, D1)
    else
      some (0, D)
  else
  if x1 = 3 then
    ck (nR (D 133 18)) <|
    if 0 ≤ (D 133 18) then
      bI (F_X12_its ((D 133 18) + 1) (2 + x3) D) fun v2 D2 =>
      some (v2, D2)
    else
      some (0, D)
  else
  if x1 = 4 then
    some ((D 133 20), D)
  else
  if x1 = 5 then
    some ((D 133 21), D)
  else
  if x1 = 6 then
    bI (F_X12_isSort x2 D) fun v3 D3 =>
    ck (nR v3) <|
    some ((if v3 = 0 then (0 : Int) else (1 : Int)), D3)
  else
  some (x2, D)
noncomputable def F_X12_holdsLine_j222 (K22 : Int → Int → mD → RI) (x2 x3 x4 x5 x6 x7 x8 s0 : Int) (D : mD) : RI :=
  ck (nR x6) <|
  ck ((¬ (x6 = 8)) → nR s0) <|
  ck (0 ≤ (x3 - 1) ∧ (x3 - 1) < 400) <|
  K22 x3 (x5 + 1) (pD D 141 (x3 - 1) (if x6 = 8 then (x7 + x8) else (if s0 = 0 then (0 : Int) else (1 : Int))))
noncomputable def F_X12_holdsLine_L22 (x2 x4 : Int) : Nat → Int → Int → mD → RI
  | 0, _, _, _ => none
  | n + 1, x3, x5, D =>
    ck (0 ≤ (x4 + 3) ∧ (x4 + 3) < 2173) <|
    ck (nR x5) <|
    ck (nR (D 134 (x4 + 3))) <|
    if (D 134 (x4 + 3)) ≤ x5 then
      ck (nR x3) <|
      ck ((¬ (x3 = 0)) → nR (D 141 0)) <|
      ck (((if x3 = 0 then (1 : Int) else (if (D 141 0) = 1 then (1 : Int) else (0 : Int))) = 0 ∨ (if x3 = 0 then (1 : Int) else (if (D 141 0) = 1 then (1 : Int) else (0 : Int))) = 1)) <|
      some ((if x3 = 0 then (1 : Int) else (if (D 141 0) = 1 then (1 : Int) else (0 : Int))), D)
    else
      ck (0 ≤ (524 + (2 * x5)) ∧ (524 + (2 * x5)) < 2173) <|
      ck (nR (D 134 (524 + (2 * x5)))) <|
      if 7 < (D 134 (524 + (2 * x5))) then
        if (D 134 (524 + (2 * x5))) = 11 then
          ck (0 ≤ (x3 - 1) ∧ (x3 - 1) < 400) <|
          F_X12_holdsLine_L22 x2 x4 n x3 (x5 + 1) (pD D 141 (x3 - 1) (1 - (D 141 (x3 - 1))))
        else
          ck (0 ≤ ((x3 - 1) - 1) ∧ ((x3 - 1) - 1) < 400) <|
          ck (0 ≤ (x3 - 1) ∧ (x3 - 1) < 400) <|
          ck ((¬ ((D 134 (524 + (2 * x5))) = 9)) → (¬ ((D 134 (524 + (2 * x5))) = 10)) → (¬ ((D 134 (524 + (2 * x5))) = 12)) → nR ((D 141 ((x3 - 1) - 1)) + (D 141 (x3 - 1)))) <|
          ck ((¬ ((D 134 (524 + (2 * x5))) = 9)) → (¬ ((D 134 (524 + (2 * x5))) = 10)) → ((D 134 (524 + (2 * x5))) = 12) → nR ((D 141 ((x3 - 1) - 1)) + (D 141 (x3 - 1)))) <|
          ck ((¬ ((D 134 (524 + (2 * x5))) = 9)) → ((D 134 (524 + (2 * x5))) = 10) → nR (D 141 ((x3 - 1) - 1))) <|
          ck ((¬ ((D 134 (524 + (2 * x5))) = 9)) → ((D 134 (524 + (2 * x5))) = 10) → nR (D 141 (x3 - 1))) <|
          ck (((D 134 (524 + (2 * x5))) = 9) → nR (D 141 ((x3 - 1) - 1))) <|
          ck (((D 134 (524 + (2 * x5))) = 9) → nR (D 141 (x3 - 1))) <|
          F_X12_holdsLine_j222 (F_X12_holdsLine_L22 x2 x4 n) x2 (x3 - 1) x4 x5 (D 134 (524 + (2 * x5))) (D 141 ((x3 - 1) - 1)) (D 141 (x3 - 1)) (if (D 134 (524 + (2 * x5))) = 9 then (if (D 141 (x3 - 1)) ≤ (D 141 ((x3 - 1) - 1)) then (0 : Int) else (1 : Int)) else (if (D 134 (524 + (2 * x5))) = 10 then (if (D 141 ((x3 - 1) - 1)) ≤ (D 141 (x3 - 1)) then (0 : Int) else (1 : Int)) else (if (D 134 (524 + (2 * x5))) = 12 then (if ((D 141 ((x3 - 1) - 1)) + (D 141 (x3 - 1))) = 2 then (1 : Int) else (0 : Int)) else (if ((D 141 ((x3 - 1) - 1)) + (D 141 (x3 - 1))) ≤ 0 then (0 : Int) else (1 : Int))))) D
      else
        ck (0 ≤ ((524 + (2 * x5)) + 1) ∧ ((524 + (2 * x5)) + 1) < 2173) <|
        bI (F_X12_factOf (D 134 (524 + (2 * x5))) (D 134 ((524 + (2 * x5)) + 1)) x2 D) fun v1 D1 =>
        ck (0 ≤ x3 ∧ x3 < 400) <|
        F_X12_holdsLine_L22 x2 x4 n (x3 + 1) (x5 + 1) (pD D1 141 x3 v1)
noncomputable def F_X12_holdsLine (x1 x2 : Int) (D : mD) : RI :=
  ck (0 ≤ ((476 + (4 * x1)) + 2) ∧ ((476 + (4 * x1)) + 2) < 2173) <|
  F_X12_holdsLine_L22 x2 (476 + (4 * x1)) fuelN 0 (D 134 ((476 + (4 * x1)) + 2)) D
noncomputable def F_X12_sumOf_L5 (x1 x2 : Int) : Nat → Int → Int → mD → RI
  | 0, _, _, _ => none
  | n + 1, x3, x4, D =>
    ck (nR x4) <|
    ck (nR (D 134 475)) <|
    if (D 134 475) ≤ x4 then
      some (x3, D)
    else
      ck (0 ≤ (476 + (4 * x4)) ∧ (476 + (4 * x4)) < 2173) <|
      ck (nR (D 134 (476 + (4 * x4)))) <|
      ck (nR x1) <|
      if (D 134 (476 + (4 * x4))) = x1 then
        bI (F_X12_holdsLine x4 x2 D) fun v1 D1 =>
        ck (nR v1) <|
        ck ((¬ (v1 = 0)) → 0 ≤ ((476 + (4 * x4)) + 1) ∧ ((476 + (4 * x4)) + 1) < 2173) <|
        F_X12_sumOf_L5 x1 x2 n (x3 + (if v1 = 0 then (0 : Int) else (D1 134 ((476 + (4 * x4)) + 1)))) (x4 + 1) D1
      else
        F_X12_sumOf_L5 x1 x2 n (x3 + 0) (x4 + 1) D
noncomputable def F_X12_sumOf (x1 x2 : Int) (D : mD) : RI :=
  F_X12_sumOf_L5 x1 x2 fuelN 0 0 D
noncomputable def F_X12_weightOf (x1 x2 x3 : Int) (D : mD) : RI :=
  ck (nR (D 134 10)) <|
  if (D 134 10) = 0 then
    some (1, D)
  else
    bI (F_X12_sumOf 0 x3 (pD (pD (pD (pD D 133 18 x1) 133 19 x2) 133 20 0) 133 21 0)) fun v1 D1 =>
    some (v1, D1)
noncomputable def F_X12_fadesBy (x1 x2 : Int) (D : mD) : RI :=
  ck (nR (D 134 10)) <|
  if (D 134 10) = 0 then
    some (0, D)
  else
    bI (F_X12_sumOf 1 0 (pD (pD (pD D 133 18 (-1)) 133 20 x2) 133 21 x1)) fun v1 D1 =>
    some (v1, D1)
noncomputable def F_X12_spaceOf (x1 x2 x3 : Int) (D : mD) : RI :=
  bI (F_X12_its x1 (7 + x3) D) fun v1 D1 =>
  ck (nR (x2 - (D1 134 5))) <|
  bI (F_X12_its (x1 + 1) (2 + x3) D1) fun v2 D2 =>
  ck (nR (D 134 4)) <|
  ck (nR ((v1 + (max 0 (x2 - (D1 134 5)))) + v2)) <|
  some ((min (D 134 4) ((v1 + (max 0 (x2 - (D1 134 5)))) + v2)), D2)
noncomputable def F_X12_whiteBy_L5 (x1 x2 : Int) : Nat → Int → Int → mD → RI
  | 0, _, _, _ => none
  | n + 1, x3, x4, D =>
    ck (nR x4) <|
    if 5 ≤ x4 then
      some (x3, D)
    else
      bI (F_X12_spaceOf x1 x2 x4 D) fun v1 D1 =>
      bI (F_X12_weightOf x1 x2 x4 D1) fun v2 D2 =>
      F_X12_whiteBy_L5 x1 x2 n (x3 + (v1 * v2)) (x4 + 1) D2
noncomputable def F_X12_whiteBy (x1 x2 : Int) (D : mD) : RI :=
  F_X12_whiteBy_L5 x1 x2 fuelN 0 0 D
noncomputable def F_X12_white (x1 : Int) (D : mD) : RI :=
  bI (F_X12_distance x1 D) fun v1 D1 =>
  bI (F_X12_whiteBy x1 v1 D1) fun v2 D2 =>
  some (v2, D2)
noncomputable def F_X12_leastSpace_L6 (x1 : Int) : Nat → Int → Int → mD → RI
  | 0, _, _, _ => none
  | n + 1, x2, x3, D =>
    ck (nR x3) <|
    if 5 ≤ x3 then
      some (x2, D)
    else
      bI (F_X12_distance x1 D) fun v1 D1 =>
      bI (F_X12_spaceOf x1 v1 x3 D1) fun v2 D2 =>
      ck (nR x2) <|
      ck (nR v2) <|
      F_X12_leastSpace_L6 x1 n (min x2 v2) (x3 + 1) D2
noncomputable def F_X12_leastSpace (x1 : Int) (D : mD) : RI :=
  F_X12_leastSpace_L6 x1 fuelN 1000000 0 D
noncomputable def F_X12_inkOf_L4 (x1 : Int) : Nat → Int → Int → mD → RI
  | 0, _, _, _ => none
  | n + 1, x2, x3, D =>
    ck (nR x3) <|
    if 5 ≤ x3 then
      some (x2, D)
    else
      bI (F_X12_ofSign x1 1 D) fun v1 D1 =>
      bI (F_X12_ofSign x1 (2 + x3) D1) fun v2 D2 =>
      bI (F_X12_ofSign x1 (7 + x3) D2) fun v3 D3 =>
      F_X12_inkOf_L4 x1 n (x2 + ((v1 - v2) - v3)) (x3 + 1) D3
noncomputable def F_X12_inkOf (x1 : Int) (D : mD) : RI :=
  F_X12_inkOf_L4 x1 fuelN 0 0 D
noncomputable def F_X12_sign_j33 (x1 x2 s1 : Int) (D : mD) : RI :=
  bI (F_X12_throwsIf s1 2 D) fun v1 D1 =>
  ck (nR v1) <|
  if v1 = 0 then
    ck (nR x2) <|
    if x2 = 2 then
      bI (F_X12_inkOf x1 D1) fun v3 D3 =>
      some (v3, D3)
    else
      bI (F_X12_ofSign x1 x2 D1) fun v2 D2 =>
      some (v2, D2)
  else
    some (0, D1)
noncomputable def F_X12_sign (x1 x2 : Int) (D : mD) : RI :=
  bI (F_X12_noSign x1 (pD D 133 0 0)) fun v1 D1 =>
  bI (F_X12_throwsIf v1 1 D1) fun v2 D2 =>
  ck (nR v2) <|
  if v2 = 0 then
    bI (F_X12_in x2 0 2 D2) fun v3 D3 =>
    ck (nR v3) <|
    F_X12_sign_j33 x1 x2 (if v3 = 0 then (1 : Int) else (0 : Int)) D3
  else
    some (0, D2)
noncomputable def F_X12_side_j51 (x2 s1 s2 : Int) (D : mD) : RI :=
  bI (F_X12_ofSign s1 (s2 + x2) D) fun v1 D1 =>
  some (v1, D1)
noncomputable def F_X12_side_j28 (x1 x2 x3 s1 : Int) (D : mD) : RI :=
  bI (F_X12_throwsIf s1 1 D) fun v1 D1 =>
  ck (nR v1) <|
  if v1 = 0 then
    ck (nR x3) <|
    F_X12_side_j51 x2 x1 (if x3 = 0 then (2 : Int) else (7 : Int)) D1
  else
    some (0, D1)
noncomputable def F_X12_side_j23 (x1 x2 x3 : Int) (D : mD) : RI :=
  F_X12_side_j28 x1 x2 x3 1 D
noncomputable def F_X12_side (x1 x2 x3 : Int) (D : mD) : RI :=
  bI (F_X12_noSign x1 (pD D 133 0 0)) fun v1 D1 =>
  ck (nR v1) <|
  if v1 = 0 then
    bI (F_X12_in x2 0 4 D1) fun v2 D2 =>
    ck (nR v2) <|
    F_X12_side_j28 x1 x2 x3 (if v2 = 0 then (1 : Int) else (0 : Int)) D2
  else
    F_X12_side_j23 x1 x2 x3 D1
noncomputable def F_X12_beginOf_L9 (x1 : Int) : Nat → Int → Int → mD → RI
  | 0, _, _, _ => none
  | n + 1, x2, x3, D =>
    ck (nR x3) <|
    ck (nR x1) <|
    if x1 ≤ x3 then
      some (x2, D)
    else
      bI (F_X12_widthOf x3 D) fun v1 D1 =>
      bI (F_X12_distance x3 D1) fun v2 D2 =>
      F_X12_beginOf_L9 x1 n (x2 + (v1 + v2)) (x3 + 1) D2
noncomputable def F_X12_beginOf (x1 : Int) (D : mD) : RI :=
  F_X12_beginOf_L9 x1 fuelN (D 134 3) 0 D
noncomputable def F_X12_endOfLast (D : mD) : RI :=
  bI (F_X12_letters D) fun v1 D1 =>
  ck (nR v1) <|
  if v1 = 0 then
    some ((D1 134 3), D1)
  else
    bI (F_X12_letters D1) fun v2 D2 =>
    bI (F_X12_beginOf (v2 - 1) D2) fun v3 D3 =>
    bI (F_X12_letters D3) fun v4 D4 =>
    bI (F_X12_widthOf (v4 - 1) D4) fun v5 D5 =>
    some ((v3 + v5), D5)
noncomputable def F_X12_letter_j33 (x1 x2 s1 : Int) (D : mD) : RI :=
  bI (F_X12_throwsIf s1 2 D) fun v1 D1 =>
  ck (nR v1) <|
  if v1 = 0 then
    ck (nR x2) <|
    if x2 = 2 then
      bI (F_X12_widthOf x1 D1) fun v2 D2 =>
      some (v2, D2)
    else
    if x2 = 3 then
      bI (F_X12_beginOf x1 D1) fun v3 D3 =>
      some (v3, D3)
    else
    if x2 = 4 then
      bI (F_X12_of x1 2 D1) fun v4 D4 =>
      some (v4, D4)
    else
    bI (F_X12_of x1 x2 D1) fun v5 D5 =>
    some (v5, D5)
  else
    some (0, D1)
noncomputable def F_X12_letter (x1 x2 : Int) (D : mD) : RI :=
  bI (F_X12_noLetter x1 (pD D 133 0 0)) fun v1 D1 =>
  bI (F_X12_throwsIf v1 1 D1) fun v2 D2 =>
  ck (nR v2) <|
  if v2 = 0 then
    bI (F_X12_in x2 0 4 D2) fun v3 D3 =>
    ck (nR v3) <|
    F_X12_letter_j33 x1 x2 (if v3 = 0 then (1 : Int) else (0 : Int)) D3
  else
    some (0, D2)
noncomputable def F_X12_gap_j33 (x1 x2 s1 : Int) (D : mD) : RI :=
  bI (F_X12_throwsIf s1 2 D) fun v1 D1 =>
  ck (nR v1) <|
  if v1 = 0 then
    ck (nR x2) <|
    if x2 = 0 then
      bI (F_X12_distance x1 D1) fun v4 D4 =>
      some (v4, D4)
    else
      if x2 = 1 then
        bI (F_X12_white x1 D1) fun v3 D3 =>
        some (v3, D3)
      else
        bI (F_X12_leastSpace x1 D1) fun v2 D2 =>
        some (v2, D2)
  else
    some (0, D1)
noncomputable def F_X12_gap (x1 x2 : Int) (D : mD) : RI :=
  bI (F_X12_noGap x1 (pD D 133 0 0)) fun v1 D1 =>
  bI (F_X12_throwsIf v1 1 D1) fun v2 D2 =>
  ck (nR v2) <|
  if v2 = 0 then
    bI (F_X12_in x2 0 2 D2) fun v3 D3 =>
    ck (nR v3) <|
    F_X12_gap_j33 x1 x2 (if v3 = 0 then (1 : Int) else (0 : Int)) D3
  else
    some (0, D2)
noncomputable def F_X12_row_j28 (x1 x2 x3 s1 : Int) (D : mD) : RI :=
  bI (F_X12_throwsIf s1 1 D) fun v1 D1 =>
  ck (nR v1) <|
  if v1 = 0 then
    ck (nR x3) <|
    if x3 = 0 then
      bI (F_X12_distance x1 D1) fun v2 D2 =>
      bI (F_X12_spaceOf x1 v2 x2 D2) fun v3 D3 =>
      some (v3, D3)
    else
      bI (F_X12_distance x1 D1) fun v4 D4 =>
      bI (F_X12_weightOf x1 v4 x2 D4) fun v5 D5 =>
      some (v5, D5)
  else
    some (0, D1)
noncomputable def F_X12_row_j23 (x1 x2 x3 : Int) (D : mD) : RI :=
  F_X12_row_j28 x1 x2 x3 1 D
noncomputable def F_X12_row (x1 x2 x3 : Int) (D : mD) : RI :=
  bI (F_X12_noGap x1 (pD D 133 0 0)) fun v1 D1 =>
  ck (nR v1) <|
  if v1 = 0 then
    bI (F_X12_in x2 0 4 D1) fun v2 D2 =>
    ck (nR v2) <|
    F_X12_row_j28 x1 x2 x3 (if v2 = 0 then (1 : Int) else (0 : Int)) D2
  else
    F_X12_row_j23 x1 x2 x3 D1
noncomputable def F_X12_noLight (x0 x1 : Int) (D : mD) : RI :=
  bI (F_X12_in x0 1 60 D) fun v1 D1 =>
  ck (nR v1) <|
  if v1 = 0 then
    some (1, D1)
  else
    bI (F_X12_in x1 0 9 D1) fun v2 D2 =>
    ck (nR v2) <|
    ck (((if v2 = 0 then (1 : Int) else (0 : Int)) = 0 ∨ (if v2 = 0 then (1 : Int) else (0 : Int)) = 1)) <|
    some ((if v2 = 0 then (1 : Int) else (0 : Int)), D2)
noncomputable def F_X12_fades (x1 x2 : Int) (D : mD) : RI :=
  bI (F_X12_noLight x1 x2 (pD D 133 0 0)) fun v1 D1 =>
  bI (F_X12_throwsIf v1 1 D1) fun v2 D2 =>
  ck (nR v2) <|
  if v2 = 0 then
    bI (F_X12_fadesBy x1 x2 D2) fun v3 D3 =>
    some (v3, D3)
  else
    some (0, D2)
noncomputable def F_X12_shift_j34 (x1 x2 s1 : Int) (D : mD) : RI :=
  bI (F_X12_throwsIf s1 2 D) fun v1 D1 =>
  ck (nR v1) <|
  if v1 = 0 then
    bI (F_X12_remembers D1) fun _ D2 =>
    bI (F_X12_distance x1 D2) fun v3 D3 =>
    bI (F_X12_sets x1 3 x2 D3) fun _ D4 =>
    some (v3, D4)
  else
    some (0, D1)
noncomputable def F_X12_shift (x1 x2 : Int) (D : mD) : RI :=
  bI (F_X12_noGap x1 (pD D 133 0 0)) fun v1 D1 =>
  bI (F_X12_throwsIf v1 1 D1) fun v2 D2 =>
  ck (nR v2) <|
  if v2 = 0 then
    bI (F_X12_in x2 0 30 D2) fun v3 D3 =>
    ck (nR v3) <|
    F_X12_shift_j34 x1 x2 (if v3 = 0 then (1 : Int) else (0 : Int)) D3
  else
    some (0, D2)
noncomputable def F_X12_squeezed_j45 (x1 x2 s1 : Int) (D : mD) : RI :=
  bI (F_X12_throwsIf s1 2 D) fun v1 D1 =>
  ck (nR v1) <|
  if v1 = 0 then
    bI (F_X12_remembers D1) fun _ D2 =>
    bI (F_X12_of x1 1 D2) fun v3 D3 =>
    bI (F_X12_sets x1 1 x2 D3) fun _ D4 =>
    some (v3, D4)
  else
    some (0, D1)
noncomputable def F_X12_squeezed_j40 (x1 x2 : Int) (D : mD) : RI :=
  F_X12_squeezed_j45 x1 x2 1 D
noncomputable def F_X12_squeezed (x1 x2 : Int) (D : mD) : RI :=
  bI (F_X12_noLetter x1 (pD D 133 0 0)) fun v1 D1 =>
  bI (F_X12_throwsIf v1 1 D1) fun v2 D2 =>
  ck (nR v2) <|
  if v2 = 0 then
    bI (F_X12_in x2 0 3 D2) fun v3 D3 =>
    ck (nR v3) <|
    if v3 = 0 then
      F_X12_squeezed_j40 x1 x2 D3
    else
      bI (F_X12_its x1 1 D3) fun v4 D4 =>
      ck (nR (v4 - x2)) <|
      F_X12_squeezed_j45 x1 x2 (if 1 ≤ (v4 - x2) then (0 : Int) else (1 : Int)) D4
  else
    some (0, D2)
noncomputable def F_X12_shadow_j21 (x1 s1 : Int) (D : mD) : RI :=
  bI (F_X12_throwsIf s1 1 D) fun v1 D1 =>
  ck (nR v1) <|
  if v1 = 0 then
    bI (F_X12_remembers D1) fun _ D2 =>
    some ((D2 134 5), (pD D2 134 5 x1))
  else
    some (0, D1)
noncomputable def F_X12_shadow (x1 : Int) (D : mD) : RI :=
  bI (F_X12_in x1 0 9 (pD D 133 0 0)) fun v1 D1 =>
  ck (nR v1) <|
  F_X12_shadow_j21 x1 (if v1 = 0 then (1 : Int) else (0 : Int)) D1
noncomputable def F_X12_laysWhites_L12 (K2 : Int → mD → RI) (x1 : Int) : Nat → Int → mD → RI
  | 0, _, _ => none
  | n + 1, x2, D =>
    ck (nR x2) <|
    if 31 ≤ x2 then
      K2 (x1 + 1) D
    else
      bI (F_X12_whiteBy x1 x2 D) fun v1 D1 =>
      ck (0 ≤ ((31 * x1) + x2) ∧ ((31 * x1) + x2) < 434) <|
      F_X12_laysWhites_L12 K2 x1 n (x2 + 1) (pD D1 142 ((31 * x1) + x2) v1)
noncomputable def F_X12_laysWhites_L2 : Nat → Int → mD → RI
  | 0, _, _ => none
  | n + 1, x1, D =>
    bI (F_X12_gaps D) fun v1 D1 =>
    ck (nR x1) <|
    ck (nR v1) <|
    if v1 ≤ x1 then
      some (0, D1)
    else
      F_X12_laysWhites_L12 (F_X12_laysWhites_L2 n) x1 fuelN 0 D1
noncomputable def F_X12_laysWhites (D : mD) : RI :=
  F_X12_laysWhites_L2 fuelN 0 D
noncomputable def F_X12_leastAt (x0 x1 : Int) (D : mD) : RI :=
  some (((x0 * 133) + x1), D)
noncomputable def F_X12_offBy (x1 x2 x3 : Int) (D : mD) : RI :=
  ck (0 ≤ ((31 * x1) + x2) ∧ ((31 * x1) + x2) < 434) <|
  ck (nR ((D 142 ((31 * x1) + x2)) - x3)) <|
  some ((Int.natAbs ((D 142 ((31 * x1) + x2)) - x3) : Int), D)
noncomputable def F_X12_rest (x1 x2 : Int) (D : mD) : RI :=
  ck (nR x2) <|
  if 0 ≤ x2 then
    bI (F_X12_leastAt x1 x2 D) fun v1 D1 =>
    ck (0 ≤ v1 ∧ v1 < 1862) <|
    some ((D1 143 v1), D1)
  else
    some (1000000, D)
noncomputable def F_X12_widths_L4 : Nat → Int → Int → mD → RI
  | 0, _, _, _ => none
  | n + 1, x1, x2, D =>
    bI (F_X12_letters D) fun v1 D1 =>
    ck (nR x2) <|
    ck (nR v1) <|
    if v1 ≤ x2 then
      some (x1, D1)
    else
      bI (F_X12_widthOf x2 D1) fun v2 D2 =>
      F_X12_widths_L4 n (x1 + v2) (x2 + 1) D2
noncomputable def F_X12_widths (D : mD) : RI :=
  F_X12_widths_L4 fuelN 0 0 D
noncomputable def F_X12_room (x1 : Int) (D : mD) : RI :=
  bI (F_X12_widths D) fun v1 D1 =>
  some ((((((D 134 2) + x1) - (2 * (D 134 3))) - (D 134 5)) - v1), D1)
noncomputable def F_X12_laysBy_j142 (K70 : Int → mD → RI) (K78 : Int → mD → RI) (x1 x3 x4 x5 x6 : Int) (D : mD) : RI :=
  bI (F_X12_leastAt x4 x5 D) fun v1 D1 =>
  ck (nR x6) <|
  ck (0 ≤ v1 ∧ v1 < 1862) <|
  K78 (x5 + 1) (pD D1 143 v1 (min 1000000 x6))
noncomputable def F_X12_laysBy_L92 (K70 : Int → mD → RI) (K78 : Int → mD → RI) (x1 x3 x4 x5 : Int) : Nat → Int → Int → mD → RI
  | 0, _, _, _ => none
  | n + 1, x6, x7, D =>
    ck (nR x7) <|
    if 30 < x7 then
      F_X12_laysBy_j142 (K70) (K78) x1 x3 x4 x5 x6 D
    else
      ck (nR x5) <|
      if x5 < x7 then
        F_X12_laysBy_j142 (K70) (K78) x1 x3 x4 x5 x6 D
      else
        bI (F_X12_offBy x4 x7 x1 D) fun v1 D1 =>
        bI (F_X12_rest (x4 + 1) (x5 - x7) D1) fun v2 D2 =>
        ck (nR x6) <|
        ck (nR (v1 + v2)) <|
        F_X12_laysBy_L92 K70 K78 x1 x3 x4 x5 n (min x6 (v1 + v2)) (x7 + 1) D2
noncomputable def F_X12_laysBy_L78 (K70 : Int → mD → RI) (x1 x3 x4 : Int) : Nat → Int → mD → RI
  | 0, _, _ => none
  | n + 1, x5, D =>
    ck (nR x5) <|
    ck (nR x3) <|
    if x3 < x5 then
      K70 (x4 - 1) D
    else
      F_X12_laysBy_L92 (K70) (F_X12_laysBy_L78 K70 x1 x3 x4 n) x1 x3 x4 x5 fuelN 1000000 0 D
noncomputable def F_X12_laysBy_L70 (x1 x3 : Int) : Nat → Int → mD → RI
  | 0, _, _ => none
  | n + 1, x4, D =>
    ck (nR x4) <|
    if x4 < 0 then
      bI (F_X12_leastAt 0 x3 D) fun v1 D1 =>
      ck (0 ≤ v1 ∧ v1 < 1862) <|
      some ((D1 143 v1), D1)
    else
      F_X12_laysBy_L78 (F_X12_laysBy_L70 x1 x3 n) x1 x3 x4 fuelN 0 D
noncomputable def F_X12_laysBy_L24 (x1 x3 : Int) : Nat → Int → mD → RI
  | 0, _, _ => none
  | n + 1, x4, D =>
    ck (nR x4) <|
    ck (nR x3) <|
    if x3 < x4 then
      bI (F_X12_gaps D) fun v1 D1 =>
      F_X12_laysBy_L70 x1 x3 fuelN (v1 - 1) D1
    else
      bI (F_X12_gaps D) fun v2 D2 =>
      bI (F_X12_leastAt v2 x4 D2) fun v3 D3 =>
      ck (0 ≤ v3 ∧ v3 < 1862) <|
      F_X12_laysBy_L24 x1 x3 n (x4 + 1) (pD D3 143 v3 (if x4 = 0 then (0 : Int) else (1000000 : Int)))
noncomputable def F_X12_laysBy (x1 x2 : Int) (D : mD) : RI :=
  bI (F_X12_room x2 D) fun v1 D1 =>
  bI (F_X12_letters D1) fun v2 D2 =>
  ck (nR v2) <|
  if v2 = 0 then
    some (1000000, D2)
  else
    ck (nR v1) <|
    if 0 ≤ v1 then
      F_X12_laysBy_L24 x1 v1 fuelN 0 D2
    else
      some (1000000, D2)
noncomputable def F_X12_firstWay_L19 (K8 : Int → Int → mD → RI) (x1 x2 x3 : Int) : Nat → Int → mD → RI
  | 0, _, _ => none
  | n + 1, x4, D =>
    bI (F_X12_offBy x3 x4 x1 D) fun v1 D1 =>
    bI (F_X12_rest (x3 + 1) (x2 - x4) D1) fun v2 D2 =>
    bI (F_X12_rest x3 x2 D2) fun v3 D3 =>
    ck (nR (v1 + v2)) <|
    ck (nR v3) <|
    if (v1 + v2) = v3 then
      ck (0 ≤ x3 ∧ x3 < 14) <|
      K8 (x2 - x4) (x3 + 1) (pD D3 144 x3 x4)
    else
      F_X12_firstWay_L19 K8 x1 x2 x3 n (x4 + 1) D3
noncomputable def F_X12_firstWay_L8 (x1 : Int) : Nat → Int → Int → mD → RI
  | 0, _, _, _ => none
  | n + 1, x2, x3, D =>
    bI (F_X12_gaps D) fun v1 D1 =>
    ck (nR x3) <|
    ck (nR v1) <|
    if v1 ≤ x3 then
      some (0, D1)
    else
      F_X12_firstWay_L19 (F_X12_firstWay_L8 x1 n) x1 x2 x3 fuelN 0 D1
noncomputable def F_X12_firstWay (x1 : Int) (D : mD) : RI :=
  bI (F_X12_room 0 D) fun v1 D1 =>
  F_X12_firstWay_L8 x1 fuelN v1 0 D1
noncomputable def F_X12_lays_L63 (x2 : Int) : Nat → Int → mD → RI
  | 0, _, _ => none
  | n + 1, x3, D =>
    bI (F_X12_gaps D) fun v1 D1 =>
    ck (nR x3) <|
    ck (nR v1) <|
    if v1 ≤ x3 then
      some (x2, D1)
    else
      ck (0 ≤ x3 ∧ x3 < 14) <|
      bI (F_X12_sets x3 3 (D1 144 x3) D1) fun _ D2 =>
      F_X12_lays_L63 x2 n (x3 + 1) D2
noncomputable def F_X12_lays_j43 (x1 x2 s1 : Int) (D : mD) : RI :=
  bI (F_X12_throwsIf s1 2 D) fun v1 D1 =>
  ck (nR v1) <|
  if v1 = 0 then
    bI (F_X12_remembers D1) fun _ D2 =>
    bI (F_X12_firstWay x1 D2) fun _ D3 =>
    F_X12_lays_L63 x2 fuelN 0 D3
  else
    some (0, D1)
noncomputable def F_X12_lays (x1 : Int) (D : mD) : RI :=
  bI (F_X12_noWhite x1 (pD D 133 0 0)) fun v1 D1 =>
  bI (F_X12_throwsIf v1 1 D1) fun v2 D2 =>
  ck (nR v2) <|
  if v2 = 0 then
    bI (F_X12_laysWhites D2) fun _ D3 =>
    bI (F_X12_laysBy x1 0 D3) fun v4 D4 =>
    ck (nR v4) <|
    F_X12_lays_j43 x1 v4 (if v4 = 1000000 then (1 : Int) else (0 : Int)) D4
  else
    some (0, D2)
noncomputable def F_X12_laid_j42 (x3 : Int) (D : mD) : RI :=
  ck (nR x3) <|
  some ((if x3 = 1000000 then (-1 : Int) else x3), D)
noncomputable def F_X12_laid (x1 x2 : Int) (D : mD) : RI :=
  bI (F_X12_noWhite x1 (pD D 133 0 0)) fun v1 D1 =>
  bI (F_X12_throwsIf v1 1 D1) fun v2 D2 =>
  ck (nR v2) <|
  if v2 = 0 then
    bI (F_X12_laysWhites D2) fun _ D3 =>
    bI (F_X12_laysBy x1 0 D3) fun v4 D4 =>
    ck (nR v4) <|
    if v4 = 1000000 then
      F_X12_laid_j42 v4 D4
    else
      ck (nR x2) <|
      if x2 = (-1) then
        F_X12_laid_j42 v4 D4
      else
        bI (F_X12_firstWay x1 D4) fun _ D5 =>
        bI (F_X12_gaps D5) fun v6 D6 =>
        bI (F_X12_in x2 0 (v6 - 1) D6) fun v7 D7 =>
        ck (nR v7) <|
        ck ((¬ (v7 = 0)) → 0 ≤ x2 ∧ x2 < 14) <|
        some ((if v7 = 0 then (-1 : Int) else (D7 144 x2)), D7)
  else
    some (0, D2)
noncomputable def F_X12_best_L18 (x1 : Int) : Nat → Int → Int → Int → mD → RI
  | 0, _, _, _, _ => none
  | n + 1, x2, x3, x4, D =>
    ck (nR x4) <|
    if 120 < x4 then
      ck (nR x3) <|
      ck ((¬ (x3 = 1000000)) → nR x1) <|
      some ((if x3 = 1000000 then (-1 : Int) else (if x1 = 0 then x2 else x3)), D)
    else
      bI (F_X12_laysBy x4 0 D) fun v1 D1 =>
      ck (nR v1) <|
      ck (nR x3) <|
      F_X12_best_L18 x1 n (if v1 < x3 then x4 else x2) (if v1 < x3 then v1 else x3) (x4 + 1) D1
noncomputable def F_X12_best (x1 : Int) (D : mD) : RI :=
  bI (F_X12_laysWhites (pD D 133 0 0)) fun _ D1 =>
  F_X12_best_L18 x1 fuelN 0 1000000 0 D1
noncomputable def F_X12_inch (x1 : Int) (D : mD) : RI :=
  bI (F_X12_noWhite x1 (pD D 133 0 0)) fun v1 D1 =>
  bI (F_X12_throwsIf v1 1 D1) fun v2 D2 =>
  ck (nR v2) <|
  if v2 = 0 then
    bI (F_X12_laysWhites D2) fun _ D3 =>
    bI (F_X12_laysBy x1 0 D3) fun v4 D4 =>
    bI (F_X12_laysBy x1 12 D4) fun v5 D5 =>
    ck (nR v4) <|
    ck ((¬ (v4 = 1000000)) → nR v5) <|
    some ((if v4 = 1000000 then (-9999 : Int) else (if v5 = 1000000 then (-9999 : Int) else (v4 - v5))), D5)
  else
    some (0, D2)
noncomputable def F_X12_nextLetter_L10 (x1 : Int) : Nat → Int → mD → RI
  | 0, _, _ => none
  | n + 1, x2, D =>
    bI (F_X12_letters D) fun v1 D1 =>
    ck (nR x2) <|
    ck (nR v1) <|
    if v1 ≤ x2 then
      some ((-1), D1)
    else
      bI (F_X12_isPainted x2 D1) fun v2 D2 =>
      ck (nR v2) <|
      if v2 = 0 then
        ck (nR x1) <|
        if x1 < 0 then
          some (x2, D2)
        else
          ck (nR (x2 - x1)) <|
          ck (nR (Int.natAbs (x2 - x1) : Int)) <|
          if (Int.natAbs (x2 - x1) : Int) = 1 then
            F_X12_nextLetter_L10 x1 n (x2 + 1) D2
          else
            some (x2, D2)
      else
        F_X12_nextLetter_L10 x1 n (x2 + 1) D2
noncomputable def F_X12_nextLetter (D : mD) : RI :=
  F_X12_nextLetter_L10 (D 134 12) fuelN 0 D
noncomputable def F_X12_gapOf (x1 : Int) (D : mD) : RI :=
  bI (F_X12_gaps D) fun v1 D1 =>
  ck (nR x1) <|
  ck (nR v1) <|
  if v1 ≤ x1 then
    bI (F_X12_gaps D1) fun v2 D2 =>
    some ((v2 - 1), D2)
  else
    some (x1, D1)
noncomputable def F_X12_slipsBy (x1 x2 : Int) (D : mD) : RI :=
  bI (F_X12_draw 100 D) fun v1 D1 =>
  ck (0 ≤ ((215 + (2 * x2)) + 1) ∧ ((215 + (2 * x2)) + 1) < 2173) <|
  ck (nR v1) <|
  ck (nR (D1 134 ((215 + (2 * x2)) + 1))) <|
  if (D1 134 ((215 + (2 * x2)) + 1)) ≤ v1 then
    some (0, D1)
  else
    bI (F_X12_gaps D1) fun v2 D2 =>
    ck (nR v2) <|
    if v2 = 0 then
      some (0, D2)
    else
      bI (F_X12_gapOf x1 D2) fun v3 D3 =>
      bI (F_X12_distance v3 D3) fun v4 D4 =>
      bI (F_X12_draw 2 D4) fun v5 D5 =>
      ck (nR ((v4 + (2 * v5)) - 1)) <|
      ck (nR (min 30 ((v4 + (2 * v5)) - 1))) <|
      bI (F_X12_sets v3 3 (max 0 (min 30 ((v4 + (2 * v5)) - 1))) D5) fun _ D6 =>
      bI (F_X12_distance v3 D6) fun v7 D7 =>
      some ((v7 - v4), D7)
noncomputable def F_X12_isLogged_L5 (x1 x2 x3 : Int) : Nat → Int → mD → RI
  | 0, _, _ => none
  | n + 1, x4, D =>
    ck (nR x4) <|
    if x4 < 4 then
      ck (nR (((pD (pD (pD (pD D 134 235 (D 134 11)) 134 236 x1) 134 237 x2) 134 238 x3) 134 13) + 1)) <|
      some (0, (pD (pD (pD (pD (pD D 134 235 (D 134 11)) 134 236 x1) 134 237 x2) 134 238 x3) 134 13 (min 60 (((pD (pD (pD (pD D 134 235 (D 134 11)) 134 236 x1) 134 237 x2) 134 238 x3) 134 13) + 1))))
    else
      ck (0 ≤ ((235 + x4) - 4) ∧ ((235 + x4) - 4) < 2173) <|
      ck (0 ≤ (235 + x4) ∧ (235 + x4) < 2173) <|
      F_X12_isLogged_L5 x1 x2 x3 n (x4 - 1) (pD D 134 (235 + x4) (D 134 ((235 + x4) - 4)))
noncomputable def F_X12_isLogged (x1 x2 x3 : Int) (D : mD) : RI :=
  F_X12_isLogged_L5 x1 x2 x3 fuelN 239 D
noncomputable def F_X12_paints_j34 (x2 : Int) (D : mD) : RI :=
  some (x2, (pD (pD D 134 12 x2) 134 11 (((pD D 134 12 x2) 134 11) + 1)))
noncomputable def F_X12_paints (x1 : Int) (D : mD) : RI :=
  bI (F_X12_nextLetter D) fun v1 D1 =>
  ck (nR v1) <|
  if v1 < 0 then
    F_X12_paints_j34 v1 D1
  else
    bI (F_X12_sets v1 2 (D1 134 11) D1) fun _ D2 =>
    bI (F_X12_slipsBy v1 x1 D2) fun v3 D3 =>
    bI (F_X12_isLogged v1 x1 v3 D3) fun _ D4 =>
    F_X12_paints_j34 v1 D4
noncomputable def F_X12_paint (x1 : Int) (D : mD) : RI :=
  bI (F_X12_noWriter x1 (pD D 133 0 0)) fun v1 D1 =>
  bI (F_X12_throwsIf v1 1 D1) fun v2 D2 =>
  ck (nR v2) <|
  if v2 = 0 then
    bI (F_X12_remembers D2) fun _ D3 =>
    bI (F_X12_paints x1 D3) fun v4 D4 =>
    some (v4, D4)
  else
    some (0, D2)
noncomputable def F_X12_painted_L4 : Nat → Int → Int → mD → RI
  | 0, _, _, _ => none
  | n + 1, x1, x2, D =>
    bI (F_X12_letters D) fun v1 D1 =>
    ck (nR x2) <|
    ck (nR v1) <|
    if v1 ≤ x2 then
      some (x1, D1)
    else
      bI (F_X12_isPainted x2 D1) fun v2 D2 =>
      ck (nR v2) <|
      F_X12_painted_L4 n (bOr x1 (if v2 = 0 then (0 : Int) else (bShl 1 x2))) (x2 + 1) D2
noncomputable def F_X12_painted (D : mD) : RI :=
  F_X12_painted_L4 fuelN 0 0 D
noncomputable def F_X12_allLetters (D : mD) : RI :=
  bI (F_X12_letters D) fun v1 D1 =>
  some (((bShl 1 v1) - 1), D1)
noncomputable def F_X12_keepsAll_L2 : Nat → Int → mD → RI
  | 0, _, _ => none
  | n + 1, x1, D =>
    ck (nR x1) <|
    if 475 ≤ x1 then
      some (0, D)
    else
      ck (0 ≤ x1 ∧ x1 < 2173) <|
      ck (0 ≤ x1 ∧ x1 < 475) <|
      F_X12_keepsAll_L2 n (x1 + 1) (pD D 137 x1 (D 134 x1))
noncomputable def F_X12_keepsAll (D : mD) : RI :=
  F_X12_keepsAll_L2 fuelN 0 D
noncomputable def F_X12_bringsBack_L2 : Nat → Int → mD → RI
  | 0, _, _ => none
  | n + 1, x1, D =>
    ck (nR x1) <|
    if 475 ≤ x1 then
      some (0, D)
    else
      ck (0 ≤ x1 ∧ x1 < 475) <|
      ck (0 ≤ x1 ∧ x1 < 2173) <|
      F_X12_bringsBack_L2 n (x1 + 1) (pD D 134 x1 (D 137 x1))
noncomputable def F_X12_bringsBack (D : mD) : RI :=
  F_X12_bringsBack_L2 fuelN 0 D
noncomputable def F_X12_order_j43 (K13 : Int → Int → mD → RI) (x1 x2 x3 x4 : Int) (D : mD) : RI :=
  ck (nR x2) <|
  ck (nR x1) <|
  K13 (x2 + 1) (if x2 = x1 then x4 else x3) (pD D 134 12 x4)
noncomputable def F_X12_order_L13 (x1 : Int) : Nat → Int → Int → mD → RI
  | 0, _, _, _ => none
  | n + 1, x2, x3, D =>
    bI (F_X12_painted D) fun v1 D1 =>
    bI (F_X12_allLetters D1) fun v2 D2 =>
    ck (nR v1) <|
    ck (nR v2) <|
    if v1 = v2 then
      bI (F_X12_bringsBack D2) fun _ D3 =>
      ck (nR x1) <|
      some ((if x1 = (-1) then x2 else x3), D3)
    else
      bI (F_X12_nextLetter D2) fun v4 D4 =>
      ck (nR v4) <|
      if v4 < 0 then
        F_X12_order_j43 (F_X12_order_L13 x1 n) x1 x2 x3 v4 D4
      else
        bI (F_X12_sets v4 2 0 D4) fun _ D5 =>
        F_X12_order_j43 (F_X12_order_L13 x1 n) x1 x2 x3 v4 D5
noncomputable def F_X12_order (x1 : Int) (D : mD) : RI :=
  bI (F_X12_keepsAll (pD D 133 0 0)) fun _ D1 =>
  F_X12_order_L13 x1 fuelN 0 (-1) D1
noncomputable def F_X12_brushAt (x1 x2 : Int) (D : mD) : RI :=
  ck (nR x2) <|
  some ((bOr (bShl (if 0 ≤ x2 then x2 else (14 : Int)) 12) x1), D)
noncomputable def F_X12_brushes_j63 (K28 : Int → Int → mD → RI) (x1 x2 x3 x4 x5 : Int) (D : mD) : RI :=
  ck (0 ≤ x5 ∧ x5 < 14) <|
  bI (F_X12_brushAt (bOr x2 (bShl 1 x5)) (D 146 x5) D) fun v1 D1 =>
  ck (0 ≤ v1 ∧ v1 < 61440) <|
  ck (nR x4) <|
  ck (nR (1 + (D1 145 v1))) <|
  K28 (min x4 (1 + (D1 145 v1))) (x5 + 1) D1
noncomputable def F_X12_brushes_L28 (x1 x2 x3 : Int) : Nat → Int → Int → mD → RI
  | 0, _, _, _ => none
  | n + 1, x4, x5, D =>
    ck (nR x5) <|
    ck (nR x1) <|
    if x1 ≤ x5 then
      some (x4, D)
    else
      bI (F_X12_has x2 x5 D) fun v1 D1 =>
      ck (nR v1) <|
      if v1 = 0 then
        ck (nR x3) <|
        if x3 < 0 then
          F_X12_brushes_j63 (F_X12_brushes_L28 x1 x2 x3 n) x1 x2 x3 x4 x5 D1
        else
          ck (0 ≤ x5 ∧ x5 < 14) <|
          ck (nR ((D1 146 x5) - x3)) <|
          ck (nR (Int.natAbs ((D1 146 x5) - x3) : Int)) <|
          if (Int.natAbs ((D1 146 x5) - x3) : Int) = 1 then
            F_X12_brushes_L28 x1 x2 x3 n x4 (x5 + 1) D1
          else
            F_X12_brushes_j63 (F_X12_brushes_L28 x1 x2 x3 n) x1 x2 x3 x4 x5 D1
      else
        F_X12_brushes_L28 x1 x2 x3 n x4 (x5 + 1) D1
noncomputable def F_X12_brushes (x1 x2 x3 : Int) (D : mD) : RI :=
  ck (nR x3) <|
  if 0 ≤ x3 then
    bI (F_X12_brushAt x2 (-1) D) fun v1 D1 =>
    ck (0 ≤ v1 ∧ v1 < 61440) <|
    F_X12_brushes_L28 x1 x2 x3 fuelN (1 + (D1 145 v1)) 0 D1
  else
    F_X12_brushes_L28 x1 x2 x3 fuelN 1000000 0 D
noncomputable def F_X12_brush_L68 (K61 : Int → mD → RI) (x1 x2 x3 : Int) : Nat → Int → mD → RI
  | 0, _, _ => none
  | n + 1, x4, D =>
    bI (F_X12_letters D) fun v1 D1 =>
    ck (nR x4) <|
    ck (nR v1) <|
    if v1 ≤ x4 then
      K61 (x3 - 1) D1
    else
      bI (F_X12_brushAt x3 x4 D1) fun v2 D2 =>
      ck (nR x3) <|
      ck (nR x2) <|
      if x3 = x2 then
        ck (0 ≤ v2 ∧ v2 < 61440) <|
        F_X12_brush_L68 K61 x1 x2 x3 n (x4 + 1) (pD D2 145 v2 0)
      else
        bI (F_X12_brushes x1 x3 x4 D2) fun v3 D3 =>
        ck (0 ≤ v2 ∧ v2 < 61440) <|
        F_X12_brush_L68 K61 x1 x2 x3 n (x4 + 1) (pD D3 145 v2 v3)
noncomputable def F_X12_brush_L61 (x1 x2 : Int) : Nat → Int → mD → RI
  | 0, _, _ => none
  | n + 1, x3, D =>
    ck (nR x3) <|
    if x3 < 0 then
      bI (F_X12_brushAt 0 (D 134 12) D) fun v1 D1 =>
      ck (0 ≤ v1 ∧ v1 < 61440) <|
      some ((D1 145 v1), D1)
    else
      F_X12_brush_L68 (F_X12_brush_L61 x1 x2 n) x1 x2 x3 fuelN (-1) D
noncomputable def F_X12_brush_L9 : Nat → Int → Int → mD → RI
  | 0, _, _, _ => none
  | n + 1, x1, x2, D =>
    bI (F_X12_letters D) fun v1 D1 =>
    ck (nR x2) <|
    ck (nR v1) <|
    if v1 ≤ x2 then
      ck (nR x1) <|
      if x1 ≤ 12 then
        F_X12_brush_L61 x1 ((bShl 1 x1) - 1) fuelN ((bShl 1 x1) - 1) D1
      else
        some ((-3), D1)
    else
      bI (F_X12_isPainted x2 D1) fun v2 D2 =>
      ck (nR v2) <|
      if v2 = 0 then
        ck (0 ≤ x1 ∧ x1 < 14) <|
        F_X12_brush_L9 n (x1 + 1) (x2 + 1) (pD D2 146 x1 x2)
      else
        F_X12_brush_L9 n x1 (x2 + 1) D2
noncomputable def F_X12_brush (D : mD) : RI :=
  F_X12_brush_L9 fuelN 0 0 (pD D 133 0 0)
noncomputable def F_X12_unevenNow_L8 : Nat → Int → Int → Int → mD → RI
  | 0, _, _, _, _ => none
  | n + 1, x1, x2, x3, D =>
    bI (F_X12_gaps D) fun v1 D1 =>
    ck (nR x3) <|
    ck (nR v1) <|
    if v1 ≤ x3 then
      bI (F_X12_gaps D1) fun v2 D2 =>
      ck (nR v2) <|
      some ((if 2 ≤ v2 then (x1 - x2) else (0 : Int)), D2)
    else
      bI (F_X12_white x3 D1) fun v3 D3 =>
      ck (nR x1) <|
      ck (nR v3) <|
      bI (F_X12_white x3 D3) fun v4 D4 =>
      ck (nR x2) <|
      ck (nR v4) <|
      F_X12_unevenNow_L8 n (max x1 v3) (min x2 v4) (x3 + 1) D4
noncomputable def F_X12_unevenNow (D : mD) : RI :=
  F_X12_unevenNow_L8 fuelN 0 1000000 0 D
noncomputable def F_X12_uneven (D : mD) : RI :=
  bI (F_X12_unevenNow (pD D 133 0 0)) fun v1 D1 =>
  some (v1, D1)
noncomputable def F_X12_off_L23 (x1 : Int) : Nat → Int → Int → mD → RI
  | 0, _, _, _ => none
  | n + 1, x2, x3, D =>
    bI (F_X12_gaps D) fun v1 D1 =>
    ck (nR x3) <|
    ck (nR v1) <|
    if v1 ≤ x3 then
      some (x2, D1)
    else
      bI (F_X12_white x3 D1) fun v2 D2 =>
      ck (nR (v2 - x1)) <|
      F_X12_off_L23 x1 n (x2 + (Int.natAbs (v2 - x1) : Int)) (x3 + 1) D2
noncomputable def F_X12_off (x1 : Int) (D : mD) : RI :=
  bI (F_X12_noWhite x1 (pD D 133 0 0)) fun v1 D1 =>
  bI (F_X12_throwsIf v1 1 D1) fun v2 D2 =>
  ck (nR v2) <|
  if v2 = 0 then
    F_X12_off_L23 x1 fuelN 0 0 D2
  else
    some (0, D2)
noncomputable def F_X12_isFit (D : mD) : RI :=
  bI (F_X12_endOfLast D) fun v1 D1 =>
  ck (nR (v1 + (D1 134 5))) <|
  ck (nR ((D1 134 2) - (D1 134 3))) <|
  ck (((if ((D1 134 2) - (D1 134 3)) < (v1 + (D1 134 5)) then (0 : Int) else (1 : Int)) = 0 ∨ (if ((D1 134 2) - (D1 134 3)) < (v1 + (D1 134 5)) then (0 : Int) else (1 : Int)) = 1)) <|
  some ((if ((D1 134 2) - (D1 134 3)) < (v1 + (D1 134 5)) then (0 : Int) else (1 : Int)), D1)
noncomputable def F_X12_fits (D : mD) : RI :=
  bI (F_X12_isFit (pD D 133 0 0)) fun v1 D1 =>
  ck ((v1 = 0 ∨ v1 = 1)) <|
  some (v1, D1)
noncomputable def F_X12_nearest_L41 (x1 x2 : Int) : Nat → Int → Int → mD → RI
  | 0, _, _, _ => none
  | n + 1, x3, x4, D =>
    ck (nR x4) <|
    if 31 ≤ x4 then
      some (x3, D)
    else
      bI (F_X12_offBy x1 x4 x2 D) fun v1 D1 =>
      bI (F_X12_offBy x1 x3 x2 D1) fun v2 D2 =>
      ck (nR v1) <|
      ck (nR v2) <|
      F_X12_nearest_L41 x1 x2 n (if v2 ≤ v1 then x3 else x4) (x4 + 1) D2
noncomputable def F_X12_nearest (x1 x2 : Int) (D : mD) : RI :=
  bI (F_X12_noGap x1 (pD D 133 0 0)) fun v1 D1 =>
  bI (F_X12_throwsIf v1 1 D1) fun v2 D2 =>
  ck (nR v2) <|
  if v2 = 0 then
    bI (F_X12_noWhite x2 D2) fun v3 D3 =>
    bI (F_X12_throwsIf v3 2 D3) fun v4 D4 =>
    ck (nR v4) <|
    if v4 = 0 then
      bI (F_X12_laysWhites D4) fun _ D5 =>
      F_X12_nearest_L41 x1 x2 fuelN 0 1 D5
    else
      some (0, D4)
  else
    some (0, D2)
noncomputable def F_X12_cannot_L23 (x1 : Int) : Nat → Int → Int → mD → RI
  | 0, _, _, _ => none
  | n + 1, x2, x3, D =>
    bI (F_X12_gaps D) fun v1 D1 =>
    ck (nR x3) <|
    ck (nR v1) <|
    if v1 ≤ x3 then
      some (x2, D1)
    else
      bI (F_X12_whiteBy x3 0 D1) fun v2 D2 =>
      ck (nR v2) <|
      ck (nR x1) <|
      F_X12_cannot_L23 x1 n (bOr x2 (if v2 ≤ x1 then (0 : Int) else (bShl 1 x3))) (x3 + 1) D2
noncomputable def F_X12_cannot (x1 : Int) (D : mD) : RI :=
  bI (F_X12_noWhite x1 (pD D 133 0 0)) fun v1 D1 =>
  bI (F_X12_throwsIf v1 1 D1) fun v2 D2 =>
  ck (nR v2) <|
  if v2 = 0 then
    F_X12_cannot_L23 x1 fuelN 0 0 D2
  else
    some (0, D2)
noncomputable def F_X12_leastFor_L2 (x1 x2 : Int) : Nat → Int → mD → RI
  | 0, _, _ => none
  | n + 1, x3, D =>
    ck (nR x3) <|
    if 30 ≤ x3 then
      some (x3, D)
    else
      ck (0 ≤ ((31 * x1) + x3) ∧ ((31 * x1) + x3) < 434) <|
      ck (nR (D 142 ((31 * x1) + x3))) <|
      ck (nR x2) <|
      if x2 ≤ (D 142 ((31 * x1) + x3)) then
        some (x3, D)
      else
        F_X12_leastFor_L2 x1 x2 n (x3 + 1) D
noncomputable def F_X12_leastFor (x1 x2 : Int) (D : mD) : RI :=
  F_X12_leastFor_L2 x1 x2 fuelN 0 D
noncomputable def F_X12_shortBy_L26 (x1 x2 : Int) : Nat → Int → Int → mD → RI
  | 0, _, _, _ => none
  | n + 1, x3, x4, D =>
    ck (nR x4) <|
    ck (nR x2) <|
    if x2 ≤ x4 then
      some (x3, D)
    else
      bI (F_X12_widthOf x4 D) fun v1 D1 =>
      ck (nR (x2 - 1)) <|
      if (x2 - 1) ≤ x4 then
        F_X12_shortBy_L26 x1 x2 n (x3 + (v1 + 0)) (x4 + 1) D1
      else
        bI (F_X12_leastFor x4 x1 D1) fun v2 D2 =>
        F_X12_shortBy_L26 x1 x2 n (x3 + (v1 + v2)) (x4 + 1) D2
noncomputable def F_X12_shortBy (x1 x2 : Int) (D : mD) : RI :=
  F_X12_shortBy_L26 x1 x2 fuelN (((2 * (D 134 3)) + (D 134 5)) - (D 134 2)) 0 D
noncomputable def F_X12_lacks (x1 : Int) (D : mD) : RI :=
  bI (F_X12_noWhite x1 (pD D 133 0 0)) fun v1 D1 =>
  bI (F_X12_throwsIf v1 1 D1) fun v2 D2 =>
  ck (nR v2) <|
  if v2 = 0 then
    bI (F_X12_laysWhites D2) fun _ D3 =>
    bI (F_X12_letters D3) fun v4 D4 =>
    bI (F_X12_shortBy x1 v4 D4) fun v5 D5 =>
    some (v5, D5)
  else
    some (0, D2)
noncomputable def F_X12_harmBy (x1 x2 : Int) (D : mD) : RI :=
  bI (F_X12_of x1 0 D) fun v1 D1 =>
  bI (F_X12_inkOf v1 D1) fun v2 D2 =>
  some (((x2 * x2) * v2), D2)
noncomputable def F_X12_canBe (x1 x2 : Int) (D : mD) : RI :=
  ck (nR x2) <|
  if x2 = 0 then
    some (1, D)
  else
    bI (F_X12_of x1 1 D) fun v1 D1 =>
    ck (nR v1) <|
    if v1 = 0 then
      bI (F_X12_its x1 1 D1) fun v2 D2 =>
      ck (nR (v2 - x2)) <|
      ck (((if (v2 - x2) < 1 then (0 : Int) else (1 : Int)) = 0 ∨ (if (v2 - x2) < 1 then (0 : Int) else (1 : Int)) = 1)) <|
      some ((if (v2 - x2) < 1 then (0 : Int) else (1 : Int)), D2)
    else
      some (0, D1)
noncomputable def F_X12_harmFrom (x1 x2 : Int) (D : mD) : RI :=
  ck (nR x2) <|
  ck (0 ≤ ((43 * x1) + (max 0 x2)) ∧ ((43 * x1) + (max 0 x2)) < 645) <|
  some ((D 147 ((43 * x1) + (max 0 x2))), D)
noncomputable def F_X12_laysHarms_L76 (K56 : Int → mD → RI) (K62 : Int → mD → RI) (x1 x2 x3 : Int) : Nat → Int → Int → mD → RI
  | 0, _, _, _ => none
  | n + 1, x4, x5, D =>
    ck (nR x5) <|
    if 3 < x5 then
      ck (nR x4) <|
      ck (0 ≤ ((43 * x2) + x3) ∧ ((43 * x2) + x3) < 645) <|
      K62 (x3 + 1) (pD D 147 ((43 * x2) + x3) (min 1000000 x4))
    else
      bI (F_X12_canBe x2 x5 D) fun v1 D1 =>
      ck (nR v1) <|
      if v1 = 0 then
        F_X12_laysHarms_L76 K56 K62 x1 x2 x3 n x4 (x5 + 1) D1
      else
        bI (F_X12_harmBy x2 x5 D1) fun v2 D2 =>
        bI (F_X12_harmFrom (x2 + 1) (x3 - x5) D2) fun v3 D3 =>
        ck (nR x4) <|
        ck (nR (v2 + v3)) <|
        F_X12_laysHarms_L76 K56 K62 x1 x2 x3 n (min x4 (v2 + v3)) (x5 + 1) D3
noncomputable def F_X12_laysHarms_L62 (K56 : Int → mD → RI) (x1 x2 : Int) : Nat → Int → mD → RI
  | 0, _, _ => none
  | n + 1, x3, D =>
    ck (nR x3) <|
    if 43 ≤ x3 then
      K56 (x2 - 1) D
    else
      F_X12_laysHarms_L76 (K56) (F_X12_laysHarms_L62 K56 x1 x2 n) x1 x2 x3 fuelN 1000000 0 D
noncomputable def F_X12_laysHarms_L56 (x1 : Int) : Nat → Int → mD → RI
  | 0, _, _ => none
  | n + 1, x2, D =>
    ck (nR x2) <|
    if x2 < 0 then
      bI (F_X12_harmFrom 0 x1 D) fun v1 D1 =>
      some (v1, D1)
    else
      F_X12_laysHarms_L62 (F_X12_laysHarms_L56 x1 n) x1 x2 fuelN 0 D
noncomputable def F_X12_laysHarms_L12 (x1 : Int) : Nat → Int → mD → RI
  | 0, _, _ => none
  | n + 1, x2, D =>
    ck (nR x2) <|
    if 43 ≤ x2 then
      bI (F_X12_letters D) fun v1 D1 =>
      F_X12_laysHarms_L56 x1 fuelN (v1 - 1) D1
    else
      bI (F_X12_letters D) fun v2 D2 =>
      ck (0 ≤ ((43 * v2) + x2) ∧ ((43 * v2) + x2) < 645) <|
      F_X12_laysHarms_L12 x1 n (x2 + 1) (pD D2 147 ((43 * v2) + x2) (if x2 = 0 then (0 : Int) else (1000000 : Int)))
noncomputable def F_X12_laysHarms (x1 : Int) (D : mD) : RI :=
  ck (nR x1) <|
  if x1 < 43 then
    F_X12_laysHarms_L12 x1 fuelN 0 D
  else
    some (1000000, D)
noncomputable def F_X12_squeezes_j81 (K7 : Int → Int → Int → mD → RI) (x2 x4 x5 s0 s1 : Int) (D : mD) : RI :=
  K7 (x2 - x5) (bOr s0 s1) (x4 + 1) D
noncomputable def F_X12_squeezes_L19 (K7 : Int → Int → Int → mD → RI) (x2 x3 x4 : Int) : Nat → Int → mD → RI
  | 0, _, _ => none
  | n + 1, x5, D =>
    bI (F_X12_canBe x4 x5 D) fun v1 D1 =>
    ck (nR v1) <|
    if v1 = 0 then
      F_X12_squeezes_L19 K7 x2 x3 x4 n (x5 + 1) D1
    else
      bI (F_X12_harmBy x4 x5 D1) fun v2 D2 =>
      bI (F_X12_harmFrom (x4 + 1) (x2 - x5) D2) fun v3 D3 =>
      bI (F_X12_harmFrom x4 x2 D3) fun v4 D4 =>
      ck (nR (v2 + v3)) <|
      ck (nR v4) <|
      if (v2 + v3) = v4 then
        ck (nR x5) <|
        F_X12_squeezes_j81 (K7) x2 x4 x5 x3 (if x5 ≤ 0 then (0 : Int) else (bShl 1 x4)) D4
      else
        F_X12_squeezes_L19 K7 x2 x3 x4 n (x5 + 1) D4
noncomputable def F_X12_squeezes_L7 : Nat → Int → Int → Int → mD → RI
  | 0, _, _, _, _ => none
  | n + 1, x2, x3, x4, D =>
    bI (F_X12_letters D) fun v1 D1 =>
    ck (nR x4) <|
    ck (nR v1) <|
    if v1 ≤ x4 then
      some (x3, D1)
    else
      F_X12_squeezes_L19 (F_X12_squeezes_L7 n) x2 x3 x4 fuelN 0 D1
noncomputable def F_X12_squeezes (x1 : Int) (D : mD) : RI :=
  F_X12_squeezes_L7 fuelN x1 0 0 D
noncomputable def F_X12_squeeze (x1 x2 : Int) (D : mD) : RI :=
  bI (F_X12_noWhite x1 (pD D 133 0 0)) fun v1 D1 =>
  bI (F_X12_throwsIf v1 1 D1) fun v2 D2 =>
  ck (nR v2) <|
  if v2 = 0 then
    bI (F_X12_laysWhites D2) fun _ D3 =>
    bI (F_X12_letters D3) fun v4 D4 =>
    bI (F_X12_shortBy x1 v4 D4) fun v5 D5 =>
    bI (F_X12_laysHarms v5 D5) fun v6 D6 =>
    ck (nR v6) <|
    if v6 = 1000000 then
      some ((-1), D6)
    else
      ck (nR x2) <|
      if x2 = 0 then
        some (v6, D6)
      else
        bI (F_X12_squeezes v5 D6) fun v7 D7 =>
        some (v7, D7)
  else
    some (0, D2)
noncomputable def F_X12_dropped_L25 (x1 : Int) : Nat → Int → mD → RI
  | 0, _, _ => none
  | n + 1, x2, D =>
    bI (F_X12_letters D) fun v1 D1 =>
    ck (nR x2) <|
    ck (nR v1) <|
    if v1 ≤ x2 then
      some ((-1), D1)
    else
      bI (F_X12_letters D1) fun v2 D2 =>
      bI (F_X12_shortBy x1 (v2 - x2) D2) fun v3 D3 =>
      ck (nR v3) <|
      if 0 < v3 then
        F_X12_dropped_L25 x1 n (x2 + 1) D3
      else
        some (x2, D3)
noncomputable def F_X12_dropped (x1 : Int) (D : mD) : RI :=
  bI (F_X12_noWhite x1 (pD D 133 0 0)) fun v1 D1 =>
  bI (F_X12_throwsIf v1 1 D1) fun v2 D2 =>
  ck (nR v2) <|
  if v2 = 0 then
    bI (F_X12_laysWhites D2) fun _ D3 =>
    F_X12_dropped_L25 x1 fuelN 0 D3
  else
    some (0, D2)
noncomputable def F_X12_inkAhead_L22 (K4 : Int → Int → mD → RI) (x1 x3 x4 : Int) : Nat → Int → Int → mD → RI
  | 0, _, _, _ => none
  | n + 1, x2, x5, D =>
    ck (nR x5) <|
    if 5 ≤ x5 then
      K4 x2 (x3 + 1) D
    else
      bI (F_X12_its x3 (2 + x5) D) fun v1 D1 =>
      bI (F_X12_widthOf x3 D1) fun v2 D2 =>
      bI (F_X12_its x3 (7 + x5) D2) fun v3 D3 =>
      ck (nR x1) <|
      ck (nR ((x4 + v2) - v3)) <|
      ck (nR ((min x1 ((x4 + v2) - v3)) - (x4 + v1))) <|
      F_X12_inkAhead_L22 K4 x1 x3 x4 n (x2 + (max 0 ((min x1 ((x4 + v2) - v3)) - (x4 + v1)))) (x5 + 1) D3
noncomputable def F_X12_inkAhead_L4 (x1 : Int) : Nat → Int → Int → mD → RI
  | 0, _, _, _ => none
  | n + 1, x2, x3, D =>
    bI (F_X12_letters D) fun v1 D1 =>
    ck (nR x3) <|
    ck (nR v1) <|
    if v1 ≤ x3 then
      some (x2, D1)
    else
      bI (F_X12_beginOf x3 D1) fun v2 D2 =>
      F_X12_inkAhead_L22 (F_X12_inkAhead_L4 x1 n) x1 x3 v2 fuelN x2 0 D2
noncomputable def F_X12_inkAhead (x1 : Int) (D : mD) : RI :=
  F_X12_inkAhead_L4 x1 fuelN 0 0 D
noncomputable def F_X12_middleOf_L10 (x1 : Int) : Nat → Int → mD → RI
  | 0, _, _ => none
  | n + 1, x2, D =>
    bI (F_X12_inkAhead x2 D) fun v1 D1 =>
    ck (nR (2 * v1)) <|
    ck (nR x1) <|
    if x1 ≤ (2 * v1) then
      some (x2, D1)
    else
      F_X12_middleOf_L10 x1 n (x2 + 1) D1
noncomputable def F_X12_middleOf (D : mD) : RI :=
  bI (F_X12_inkAhead 1000000 D) fun v1 D1 =>
  F_X12_middleOf_L10 v1 fuelN 0 D1
noncomputable def F_X12_middle (x1 : Int) (D : mD) : RI :=
  bI (F_X12_middleOf (pD D 133 0 0)) fun v1 D1 =>
  ck (nR x1) <|
  ck ((¬ (x1 = 0)) → nR (D1 134 2)) <|
  ck ((¬ (x1 = 0)) → 0 ≤ (D1 134 2)) <|
  some ((v1 - (if x1 = 0 then (0 : Int) else ((D1 134 2) / 2))), D1)
noncomputable def F_X12_strength (x1 x2 : Int) (D : mD) : RI :=
  bI (F_X12_fadesBy x1 x2 D) fun v1 D1 =>
  ck (nR ((D 134 6) - v1)) <|
  some ((max 0 ((D 134 6) - v1)), D1)
noncomputable def F_X12_runsBy_L13 (x1 x3 : Int) : Nat → Int → Int → mD → RI
  | 0, _, _, _ => none
  | n + 1, x4, x5, D =>
    bI (F_X12_gaps D) fun v1 D1 =>
    ck (nR x5) <|
    ck (nR v1) <|
    if v1 ≤ x5 then
      some (x4, D1)
    else
      bI (F_X12_leastSpace x5 D1) fun v2 D2 =>
      ck (nR (x3 * v2)) <|
      ck (nR x1) <|
      F_X12_runsBy_L13 x1 x3 n (bOr x4 (if x1 ≤ (x3 * v2) then (0 : Int) else (bShl 1 x5))) (x5 + 1) D2
noncomputable def F_X12_runsBy (x1 x2 : Int) (D : mD) : RI :=
  bI (F_X12_strength x1 x2 D) fun v1 D1 =>
  F_X12_runsBy_L13 x1 v1 fuelN 0 0 D1
noncomputable def F_X12_isRead (x1 x2 : Int) (D : mD) : RI :=
  bI (F_X12_gaps D) fun v1 D1 =>
  ck (nR v1) <|
  if v1 = 0 then
    bI (F_X12_strength x1 x2 D1) fun v3 D3 =>
    ck (nR v3) <|
    ck (((if v3 ≤ 0 then (0 : Int) else (1 : Int)) = 0 ∨ (if v3 ≤ 0 then (0 : Int) else (1 : Int)) = 1)) <|
    some ((if v3 ≤ 0 then (0 : Int) else (1 : Int)), D3)
  else
    bI (F_X12_runsBy x1 x2 D1) fun v2 D2 =>
    ck (nR v2) <|
    ck (((if v2 = 0 then (1 : Int) else (0 : Int)) = 0 ∨ (if v2 = 0 then (1 : Int) else (0 : Int)) = 1)) <|
    some ((if v2 = 0 then (1 : Int) else (0 : Int)), D2)
noncomputable def F_X12_read (x1 x2 : Int) (D : mD) : RI :=
  bI (F_X12_noLight x1 x2 (pD D 133 0 0)) fun v1 D1 =>
  bI (F_X12_throwsIf v1 1 D1) fun v2 D2 =>
  ck (nR v2) <|
  if v2 = 0 then
    bI (F_X12_isRead x1 x2 D2) fun v3 D3 =>
    ck (nR v3) <|
    ck (((if v3 = 0 then (0 : Int) else (1 : Int)) = 0 ∨ (if v3 = 0 then (0 : Int) else (1 : Int)) = 1)) <|
    some ((if v3 = 0 then (0 : Int) else (1 : Int)), D3)
  else
    some (0, D2)
noncomputable def F_X12_farBy_L2 (x1 : Int) : Nat → Int → mD → RI
  | 0, _, _ => none
  | n + 1, x2, D =>
    ck (nR x2) <|
    if 60 ≤ x2 then
      some (x2, D)
    else
      bI (F_X12_isRead (x2 + 1) x1 D) fun v1 D1 =>
      ck (nR v1) <|
      if v1 = 0 then
        some (x2, D1)
      else
        F_X12_farBy_L2 x1 n (x2 + 1) D1
noncomputable def F_X12_farBy (x1 : Int) (D : mD) : RI :=
  F_X12_farBy_L2 x1 fuelN 0 D
noncomputable def F_X12_far_j21 (x1 s1 : Int) (D : mD) : RI :=
  bI (F_X12_throwsIf s1 1 D) fun v1 D1 =>
  ck (nR v1) <|
  if v1 = 0 then
    bI (F_X12_farBy x1 D1) fun v2 D2 =>
    some (v2, D2)
  else
    some (0, D1)
noncomputable def F_X12_far (x1 : Int) (D : mD) : RI :=
  bI (F_X12_in x1 0 9 (pD D 133 0 0)) fun v1 D1 =>
  ck (nR v1) <|
  F_X12_far_j21 x1 (if v1 = 0 then (1 : Int) else (0 : Int)) D1
noncomputable def F_X12_runs (x1 x2 : Int) (D : mD) : RI :=
  bI (F_X12_noLight x1 x2 (pD D 133 0 0)) fun v1 D1 =>
  bI (F_X12_throwsIf v1 1 D1) fun v2 D2 =>
  ck (nR v2) <|
  if v2 = 0 then
    bI (F_X12_runsBy x1 x2 D2) fun v3 D3 =>
    some (v3, D3)
  else
    some (0, D2)
noncomputable def F_X12_bears_L33 (x1 x2 x3 : Int) : Nat → Int → Int → mD → RI
  | 0, _, _, _ => none
  | n + 1, x4, x5, D =>
    ck (nR x5) <|
    if 10 ≤ x5 then
      some (x4, (pD D 134 5 x3))
    else
      bI (F_X12_isFit (pD D 134 5 x5)) fun v1 D1 =>
      ck (nR v1) <|
      if v1 = 0 then
        F_X12_bears_L33 x1 x2 x3 n x4 (x5 + 1) D1
      else
        bI (F_X12_isRead x1 x2 D1) fun v2 D2 =>
        ck (nR v2) <|
        F_X12_bears_L33 x1 x2 x3 n (if v2 = 0 then x4 else x5) (x5 + 1) D2
noncomputable def F_X12_bears (x1 x2 : Int) (D : mD) : RI :=
  bI (F_X12_noLight x1 x2 (pD D 133 0 0)) fun v1 D1 =>
  bI (F_X12_throwsIf v1 1 D1) fun v2 D2 =>
  ck (nR v2) <|
  if v2 = 0 then
    F_X12_bears_L33 x1 x2 (D2 134 5) fuelN (-1) 0 D2
  else
    some (0, D2)
noncomputable def F_X12_lamp_L9 : Nat → Int → Int → mD → RI
  | 0, _, _, _ => none
  | n + 1, x1, x2, D =>
    ck (nR x2) <|
    if 10 ≤ x2 then
      some (x1, D)
    else
      bI (F_X12_farBy x2 D) fun v1 D1 =>
      bI (F_X12_farBy x1 D1) fun v2 D2 =>
      ck (nR v1) <|
      ck (nR v2) <|
      F_X12_lamp_L9 n (if v1 ≤ v2 then x1 else x2) (x2 + 1) D2
noncomputable def F_X12_lamp (D : mD) : RI :=
  F_X12_lamp_L9 fuelN 0 1 (pD D 133 0 0)
noncomputable def F_X12_seenFrom_L9 (x1 : Int) : Nat → Int → Int → Int → mD → RI
  | 0, _, _, _, _ => none
  | n + 1, x2, x3, x4, D =>
    bI (F_X12_gaps D) fun v1 D1 =>
    ck (nR x4) <|
    ck (nR v1) <|
    if v1 ≤ x4 then
      bI (F_X12_gaps D1) fun v2 D2 =>
      ck (nR v2) <|
      some ((if 2 ≤ v2 then (x2 - x3) else (0 : Int)), D2)
    else
      bI (F_X12_distance x4 D1) fun v3 D3 =>
      ck (nR (100 - (x1 * x4))) <|
      ck (nR (v3 * (max 0 (100 - (x1 * x4))))) <|
      ck (0 ≤ (v3 * (max 0 (100 - (x1 * x4))))) <|
      bI (F_X12_whiteBy x4 ((v3 * (max 0 (100 - (x1 * x4)))) / 100) D3) fun v4 D4 =>
      ck (nR x2) <|
      ck (nR v4) <|
      ck (nR x3) <|
      F_X12_seenFrom_L9 x1 n (max x2 v4) (min x3 v4) (x4 + 1) D4
noncomputable def F_X12_seenFrom (x1 : Int) (D : mD) : RI :=
  F_X12_seenFrom_L9 x1 fuelN 0 1000000 0 D
noncomputable def F_X12_aslant_j21 (x1 s1 : Int) (D : mD) : RI :=
  bI (F_X12_throwsIf s1 1 D) fun v1 D1 =>
  ck (nR v1) <|
  if v1 = 0 then
    bI (F_X12_seenFrom x1 D1) fun v2 D2 =>
    some (v2, D2)
  else
    some (0, D1)
noncomputable def F_X12_aslant (x1 : Int) (D : mD) : RI :=
  bI (F_X12_in x1 0 9 (pD D 133 0 0)) fun v1 D1 =>
  ck (nR v1) <|
  F_X12_aslant_j21 x1 (if v1 = 0 then (1 : Int) else (0 : Int)) D1
noncomputable def F_X12_from_L9 : Nat → Int → Int → mD → RI
  | 0, _, _, _ => none
  | n + 1, x1, x2, D =>
    ck (nR x2) <|
    if 10 ≤ x2 then
      some (x1, D)
    else
      bI (F_X12_seenFrom x2 D) fun v1 D1 =>
      bI (F_X12_seenFrom x1 D1) fun v2 D2 =>
      ck (nR v1) <|
      ck (nR v2) <|
      F_X12_from_L9 n (if v2 ≤ v1 then x1 else x2) (x2 + 1) D2
noncomputable def F_X12_from (D : mD) : RI :=
  F_X12_from_L9 fuelN 0 1 (pD D 133 0 0)
noncomputable def F_X12_ends_j21 (x1 s1 : Int) (D : mD) : RI :=
  bI (F_X12_throwsIf s1 1 D) fun v1 D1 =>
  ck (nR v1) <|
  if v1 = 0 then
    bI (F_X12_letters D1) fun v2 D2 =>
    ck (nR v2) <|
    if 2 ≤ v2 then
      bI (F_X12_room 0 D2) fun v3 D3 =>
      bI (F_X12_letters D3) fun v4 D4 =>
      some ((v3 - (x1 * (v4 - 2))), D4)
    else
      some ((-999), D2)
  else
    some (0, D1)
noncomputable def F_X12_ends (x1 : Int) (D : mD) : RI :=
  bI (F_X12_in x1 0 30 (pD D 133 0 0)) fun v1 D1 =>
  ck (nR v1) <|
  F_X12_ends_j21 x1 (if v1 = 0 then (1 : Int) else (0 : Int)) D1
noncomputable def F_X12_isWhites (D : mD) : RI :=
  bI (F_X12_uses D) fun _ D1 =>
  ck (nR (D1 133 11)) <|
  ck (0 ≤ (D1 133 11)) <|
  ck (nR ((D1 133 11) % 2)) <|
  ck (((if ((D1 133 11) % 2) = 0 then (1 : Int) else (0 : Int)) = 0 ∨ (if ((D1 133 11) % 2) = 0 then (1 : Int) else (0 : Int)) = 1)) <|
  some ((if ((D1 133 11) % 2) = 0 then (1 : Int) else (0 : Int)), D1)
noncomputable def F_X12_toldWhite (x1 : Int) (D : mD) : RI :=
  ck (0 ≤ x1 ∧ x1 < 400) <|
  ck (0 ≤ (x1 + 1) ∧ (x1 + 1) < 400) <|
  some ((((bAnd (D 139 x1) 255) * 256) + (bAnd (D 139 (x1 + 1)) 255)), D)
noncomputable def F_X12_writersWhite (x1 : Int) (D : mD) : RI :=
  ck (0 ≤ (215 + (2 * x1)) ∧ (215 + (2 * x1)) < 2173) <|
  some ((D 134 (215 + (2 * x1))), D)
noncomputable def F_X12_offOf_L4 (x1 : Int) : Nat → Int → Int → mD → RI
  | 0, _, _, _ => none
  | n + 1, x2, x3, D =>
    ck (nR x3) <|
    ck (nR (D 133 11)) <|
    if (D 133 11) ≤ x3 then
      some (x2, D)
    else
      bI (F_X12_toldWhite x3 D) fun v1 D1 =>
      bI (F_X12_writersWhite x1 D1) fun v2 D2 =>
      ck (nR (v1 - v2)) <|
      F_X12_offOf_L4 x1 n (x2 + (Int.natAbs (v1 - v2) : Int)) (x3 + 2) D2
noncomputable def F_X12_offOf (x1 : Int) (D : mD) : RI :=
  F_X12_offOf_L4 x1 fuelN 0 0 D
noncomputable def F_X12_wrote_L28 : Nat → Int → Int → mD → RI
  | 0, _, _, _ => none
  | n + 1, x2, x3, D =>
    bI (F_X12_writers D) fun v1 D1 =>
    ck (nR x3) <|
    ck (nR v1) <|
    if v1 ≤ x3 then
      some (x2, D1)
    else
      ck (nR x2) <|
      if x2 < 0 then
        F_X12_wrote_L28 n x3 (x3 + 1) D1
      else
        bI (F_X12_offOf x3 D1) fun v2 D2 =>
        bI (F_X12_offOf x2 D2) fun v3 D3 =>
        ck (nR v2) <|
        ck (nR v3) <|
        F_X12_wrote_L28 n (if v3 ≤ v2 then x2 else x3) (x3 + 1) D3
noncomputable def F_X12_wrote_j15 (s1 : Int) (D : mD) : RI :=
  bI (F_X12_throwsIf s1 1 D) fun v1 D1 =>
  ck (nR v1) <|
  if v1 = 0 then
    F_X12_wrote_L28 fuelN (-1) 0 D1
  else
    some (0, D1)
noncomputable def F_X12_wrote (D : mD) : RI :=
  bI (F_X12_isWhites D) fun v1 D1 =>
  ck (nR v1) <|
  F_X12_wrote_j15 (if v1 = 0 then (1 : Int) else (0 : Int)) D1
noncomputable def F_X12_likely_L42 (x1 : Int) : Nat → Int → Int → mD → RI
  | 0, _, _, _ => none
  | n + 1, x3, x4, D =>
    ck (nR x4) <|
    ck (nR (D 133 11)) <|
    if (D 133 11) ≤ x4 then
      some (x3, D)
    else
      bI (F_X12_toldWhite x4 D) fun v1 D1 =>
      bI (F_X12_writersWhite x1 D1) fun v2 D2 =>
      ck (nR (v1 - v2)) <|
      ck (nR (Int.natAbs (v1 - v2) : Int)) <|
      F_X12_likely_L42 x1 n (x3 + (if 10 < (Int.natAbs (v1 - v2) : Int) then (0 : Int) else (1 : Int))) (x4 + 2) D2
noncomputable def F_X12_likely_j28 (x1 s1 : Int) (D : mD) : RI :=
  bI (F_X12_throwsIf s1 2 D) fun v1 D1 =>
  ck (nR v1) <|
  if v1 = 0 then
    F_X12_likely_L42 x1 fuelN 0 0 D1
  else
    some (0, D1)
noncomputable def F_X12_likely (x1 : Int) (D : mD) : RI :=
  bI (F_X12_isWhites D) fun v1 D1 =>
  bI (F_X12_noWriter x1 D1) fun v2 D2 =>
  bI (F_X12_throwsIf v2 1 D2) fun v3 D3 =>
  ck (nR v3) <|
  if v3 = 0 then
    ck (nR v1) <|
    F_X12_likely_j28 x1 (if v1 = 0 then (1 : Int) else (0 : Int)) D3
  else
    some (0, D3)
noncomputable def F_X12_lookers_L15 (x1 x2 : Int) : Nat → Int → Int → mD → RI
  | 0, _, _, _ => none
  | n + 1, x3, x4, D =>
    ck (nR x4) <|
    ck (nR (D 134 8)) <|
    if (D 134 8) ≤ x4 then
      ck (nR x1) <|
      ck ((¬ (x1 = 0)) → nR ((x3 * (x3 - 1)) + (((D 134 8) - x3) * (((D 134 8) - x3) - 1)))) <|
      ck ((¬ (x1 = 0)) → 0 ≤ ((x3 * (x3 - 1)) + (((D 134 8) - x3) * (((D 134 8) - x3) - 1)))) <|
      some ((if x1 = 0 then x3 else (((x3 * (x3 - 1)) + (((D 134 8) - x3) * (((D 134 8) - x3) - 1))) / 2)), D)
    else
      ck (0 ≤ (227 + x4) ∧ (227 + x4) < 2173) <|
      ck (nR x2) <|
      ck (nR (D 134 (227 + x4))) <|
      F_X12_lookers_L15 x1 x2 n (x3 + (if (D 134 (227 + x4)) ≤ x2 then (0 : Int) else (1 : Int))) (x4 + 1) D
noncomputable def F_X12_lookers (x1 : Int) (D : mD) : RI :=
  bI (F_X12_unevenNow (pD D 133 0 0)) fun v1 D1 =>
  F_X12_lookers_L15 x1 v1 fuelN 0 0 D1
noncomputable def F_X12_tries_L2 (x1 x2 : Int) : Nat → Int → mD → RI
  | 0, _, _ => none
  | n + 1, x3, D =>
    ck (nR x3) <|
    ck (nR x2) <|
    if x2 ≤ x3 then
      some (0, D)
    else
      bI (F_X12_paints x1 D) fun v1 D1 =>
      F_X12_tries_L2 x1 x2 n (x3 + 1) D1
noncomputable def F_X12_tries (x1 x2 : Int) (D : mD) : RI :=
  F_X12_tries_L2 x1 x2 fuelN 0 D
noncomputable def F_X12_trial_j71 (s0 : Int) (D : mD) : RI :=
  bI (F_X12_bringsBack D) fun _ D1 =>
  some (s0, D1)
noncomputable def F_X12_trial_j34 (x1 x2 x3 s1 : Int) (D : mD) : RI :=
  bI (F_X12_throwsIf s1 2 D) fun v1 D1 =>
  ck (nR v1) <|
  if v1 = 0 then
    bI (F_X12_keepsAll D1) fun _ D2 =>
    bI (F_X12_tries x1 x2 D2) fun _ D3 =>
    ck (nR x3) <|
    if x3 = 0 then
      bI (F_X12_unevenNow D3) fun v4 D4 =>
      F_X12_trial_j71 v4 D4
    else
      bI (F_X12_painted D3) fun v5 D5 =>
      ck (nR v5) <|
      F_X12_trial_j71 (bC v5) D5
  else
    some (0, D1)
noncomputable def F_X12_trial (x1 x2 x3 : Int) (D : mD) : RI :=
  bI (F_X12_noWriter x1 (pD D 133 0 0)) fun v1 D1 =>
  bI (F_X12_throwsIf v1 1 D1) fun v2 D2 =>
  ck (nR v2) <|
  if v2 = 0 then
    bI (F_X12_in x2 0 40 D2) fun v3 D3 =>
    ck (nR v3) <|
    F_X12_trial_j34 x1 x2 x3 (if v3 = 0 then (1 : Int) else (0 : Int)) D3
  else
    some (0, D2)
noncomputable def F_X12_span_L53 (x1 x2 x3 : Int) : Nat → Int → Int → mD → RI
  | 0, _, _, _ => none
  | n + 1, x4, x5, D =>
    ck (nR x5) <|
    if 6 < x5 then
      some (x4, D)
    else
      bI (F_X12_tries x1 x2 (pD D 134 14 x5)) fun _ D1 =>
      bI (F_X12_unevenNow D1) fun v2 D2 =>
      bI (F_X12_bringsBack D2) fun _ D3 =>
      ck (nR x4) <|
      ck ((0 ≤ x4) → nR x3) <|
      ck ((0 ≤ x4) → (x3 = 0) → nR v2) <|
      ck ((0 ≤ x4) → (¬ (x3 = 0)) → nR v2) <|
      F_X12_span_L53 x1 x2 x3 n (if 0 ≤ x4 then (if x3 = 0 then (min x4 v2) else (max x4 v2)) else v2) (x5 + 1) D3
noncomputable def F_X12_span_j34 (x1 x2 x3 s1 : Int) (D : mD) : RI :=
  bI (F_X12_throwsIf s1 2 D) fun v1 D1 =>
  ck (nR v1) <|
  if v1 = 0 then
    bI (F_X12_keepsAll D1) fun _ D2 =>
    F_X12_span_L53 x1 x2 x3 fuelN (-1) 1 D2
  else
    some (0, D1)
noncomputable def F_X12_span (x1 x2 x3 : Int) (D : mD) : RI :=
  bI (F_X12_noWriter x1 (pD D 133 0 0)) fun v1 D1 =>
  bI (F_X12_throwsIf v1 1 D1) fun v2 D2 =>
  ck (nR v2) <|
  if v2 = 0 then
    bI (F_X12_in x2 0 40 D2) fun v3 D3 =>
    ck (nR v3) <|
    F_X12_span_j34 x1 x2 x3 (if v3 = 0 then (1 : Int) else (0 : Int)) D3
  else
    some (0, D2)
noncomputable def F_X12_ofLog (x1 x2 : Int) (D : mD) : RI :=
  ck (0 ≤ ((235 + (4 * x1)) + x2) ∧ ((235 + (4 * x1)) + x2) < 2173) <|
  some ((D 134 ((235 + (4 * x1)) + x2)), D)
noncomputable def F_X12_slips_L37 (x1 : Int) : Nat → Int → Int → mD → RI
  | 0, _, _, _ => none
  | n + 1, x2, x3, D =>
    ck (nR x3) <|
    ck (nR (D 134 13)) <|
    if (D 134 13) ≤ x3 then
      some (x2, D)
    else
      bI (F_X12_ofLog x3 3 D) fun v1 D1 =>
      ck (nR v1) <|
      if v1 = 0 then
        F_X12_slips_L37 x1 n (x2 + 0) (x3 + 1) D1
      else
        ck (nR x1) <|
        if x1 = (-1) then
          F_X12_slips_L37 x1 n (x2 + 1) (x3 + 1) D1
        else
          bI (F_X12_ofLog x3 2 D1) fun v2 D2 =>
          ck (nR v2) <|
          F_X12_slips_L37 x1 n (x2 + (if v2 = x1 then (1 : Int) else (0 : Int))) (x3 + 1) D2
noncomputable def F_X12_slips_j24 (x1 s1 : Int) (D : mD) : RI :=
  bI (F_X12_throwsIf s1 1 D) fun v1 D1 =>
  ck (nR v1) <|
  if v1 = 0 then
    F_X12_slips_L37 x1 fuelN 0 0 D1
  else
    some (0, D1)
noncomputable def F_X12_slips_j23 (x1 : Int) (D : mD) : RI :=
  F_X12_slips_j24 x1 0 D
noncomputable def F_X12_slips (x1 : Int) (D : mD) : RI :=
  ck (nR x1) <|
  if x1 = (-1) then
    F_X12_slips_j23 x1 (pD D 133 0 0)
  else
    bI (F_X12_noWriter x1 (pD D 133 0 0)) fun v1 D1 =>
    ck (nR v1) <|
    F_X12_slips_j24 x1 (if v1 = 0 then (0 : Int) else (1 : Int)) D1
noncomputable def F_X12_log_j20 (x1 x2 s1 : Int) (D : mD) : RI :=
  bI (F_X12_throwsIf s1 1 D) fun v1 D1 =>
  ck (nR v1) <|
  if v1 = 0 then
    bI (F_X12_in x1 0 ((D1 134 13) - 1) D1) fun v2 D2 =>
    ck (nR v2) <|
    if v2 = 0 then
      some ((-99), D2)
    else
      bI (F_X12_ofLog x1 x2 D2) fun v3 D3 =>
      some (v3, D3)
  else
    some (0, D1)
noncomputable def F_X12_log (x1 x2 : Int) (D : mD) : RI :=
  bI (F_X12_in x2 0 3 (pD D 133 0 0)) fun v1 D1 =>
  ck (nR v1) <|
  F_X12_log_j20 x1 x2 (if v1 = 0 then (1 : Int) else (0 : Int)) D1
noncomputable def F_X12_seed (x1 : Int) (D : mD) : RI :=
  some (((pD D 133 0 0) 134 14), (pD (pD D 133 0 0) 134 14 x1))
noncomputable def F_X12_count (x1 : Int) (D : mD) : RI :=
  ck (nR x1) <|
  if x1 = 10 then
    ck (nR ((pD D 133 0 0) 134 10)) <|
    some ((if ((pD D 133 0 0) 134 10) = 1 then ((pD D 133 0 0) 134 475) else (-1 : Int)), (pD D 133 0 0))
  else
  if x1 = 11 then
    some (((pD D 133 0 0) 134 11), (pD D 133 0 0))
  else
  if x1 = 12 then
    bI (F_X12_endOfLast (pD D 133 0 0)) fun v1 D1 =>
    some (v1, D1)
  else
  if x1 = 13 then
    bI (F_X12_painted (pD D 133 0 0)) fun v2 D2 =>
    some (v2, D2)
  else
  if x1 = 14 then
    some (((pD D 133 0 0) 134 13), (pD D 133 0 0))
  else
  if x1 = 15 then
    some (((pD D 133 0 0) 133 7), (pD D 133 0 0))
  else
  bI (F_X12_in x1 0 9 (pD D 133 0 0)) fun v3 D3 =>
  ck (nR v3) <|
  ck ((¬ (v3 = 0)) → 0 ≤ x1 ∧ x1 < 2173) <|
  some ((if v3 = 0 then (-1 : Int) else (D3 134 x1)), D3)
