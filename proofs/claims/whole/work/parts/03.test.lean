def f_X1_follow_50 (o1 : Nat) (k1 : Nat)  : Nat → Int32 → wx_St → Option (Unit × wx_St)
  | 0, _, _ => none
  | n + 1, x2, σ =>
  if 64 ≤ x2 then
    some ((), σ)
   else
    wx_w (wx_sI σ 13 2 (Int32.toNatClampNeg x2) 0) 64 x2 (fun σ62 => (f_X1_follow_50 o1 k1 n) (x2 + 1) σ62)
def f_X1_follow_37 (o1 : Nat) (k1 : Nat)   (σ : wx_St) : Option (Unit × wx_St) :=
  wx_l (wx_cI σ o1 k1 0 13 0 0 4) (fun σ45 => f_X1_follow_50 o1 k1 2000 0 σ45)
def f_X1_follow (o1 : Nat) (k1 : Nat)   (σ : wx_St) : Option (Unit × wx_St) :=
  wx_rI σ 13 0 4 0 (fun v5 => wx_rI σ o1 k1 4 0 (fun v8 => if v5 = v8 then
    wx_rI σ 13 0 4 1 (fun v17 => wx_rI σ o1 k1 4 1 (fun v20 => if v17 = v20 then
      wx_rI σ 13 0 4 2 (fun v29 => wx_rI σ o1 k1 4 2 (fun v32 => if v29 = v32 then
        some ((), σ)
       else
        f_X1_follow_37 o1 k1 σ))
     else
      f_X1_follow_37 o1 k1 σ))
   else
    f_X1_follow_37 o1 k1 σ))
def f_J0_isLatin1_aae02_18 (i : Nat)  (y0 : Int32) : Option Int32 :=
  wx_z y0 (some y0)
def f_J0_isLatin1_aae02_17 (i : Nat)   : Option Int32 :=
  f_J0_isLatin1_aae02_18 i 0
def f_J0_isLatin1_aae02 (i : Nat)   : Option Int32 :=
  if (1 : Int32) = 0 then
    f_J0_isLatin1_aae02_17 i
   else
    if (0 : Int32) = 0 then
      f_J0_isLatin1_aae02_18 i 1
     else
      f_J0_isLatin1_aae02_17 i
def f_J3_checkIndex_8e157_9   (x0 : Int32) (x1 : Int32) : Option Int32 :=
  none
def f_J3_checkIndex_8e157   (x0 : Int32) (x1 : Int32) : Option Int32 :=
  if x0 < 0 then
    f_J3_checkIndex_8e157_9 x0 x1
   else
    if x0 < x1 then
      some x0
     else
      f_J3_checkIndex_8e157_9 x0 x1
def f_J0_checkIndex_df160   (x0 : Int32) (x1 : Int32) : Option Unit :=
  wx_o (f_J3_checkIndex_8e157 x0 x1) (fun v5 => some ())
def f_J1_charAt_3b067 (i : Nat)  (x1 : Int32) : Option Int32 :=
  wx_o (f_J0_checkIndex_df160 x1 (Int32.ofNat (wx_len.getD i 0))) (fun v3 => wx_rT (wx_byt.getD i []) (wx_len.getD i 0) x1 (fun v8 => wx_zt .char (((v8 &&& 255).toUInt32 % 65536).toInt32) (some (((v8 &&& 255).toUInt32 % 65536).toInt32))))
def f_J0_charAt_5068e (i : Nat)  (x1 : Int32) : Option Int32 :=
  wx_o (f_J0_isLatin1_aae02 i) (fun v1 => if v1 = 0 then
    none
   else
    wx_o (f_J1_charAt_3b067 i x1) (fun v12 => wx_zt .char v12 (some v12)))
def f_J0_coder_7d493_14 (i : Nat)  (y0 : Int32) : Option Int32 :=
  wx_zt .byte y0 (some y0)
def f_J0_coder_7d493 (i : Nat)   : Option Int32 :=
  if (1 : Int32) = 0 then
    f_J0_coder_7d493_14 i 1
   else
    f_J0_coder_7d493_14 i (0 : Int32)
def f_J0_length_8abf5 (i : Nat)   : Option Int32 :=
  wx_o (f_J0_coder_7d493 i) (fun v6 => some ((Int32.ofNat (wx_len.getD i 0)) >>> (v6 &&& 31)))
def f_X2_codeAt_22   (x1 : Int32) (y0 : Int32) (σ : wx_St) : Option Int32 :=
  some y0
def f_X2_codeAt_21   (x1 : Int32) (σ : wx_St) : Option Int32 :=
  f_X2_codeAt_22 x1 0 σ
def f_X2_codeAt   (x1 : Int32) (σ : wx_St) : Option Int32 :=
  if x1 < 0 then
    f_X2_codeAt_21 x1 σ
   else
    if (σ.2.2.1 15 1) ≤ x1 then
      f_X2_codeAt_21 x1 σ
     else
      wx_rI σ 15 0 80 x1 (fun v17 => f_X2_codeAt_22 x1 v17 σ)
def f_X2_isColumn_25   (x1 : Int32) (y0 : Int32) (σ : wx_St) : Option Int32 :=
  wx_z y0 (some y0)
def f_X2_isColumn_24   (x1 : Int32) (σ : wx_St) : Option Int32 :=
  f_X2_isColumn_25 x1 0 σ
def f_X2_isColumn   (x1 : Int32) (σ : wx_St) : Option Int32 :=
  wx_o (f_X2_codeAt x1 σ) (fun v2 => if v2 < 97 then
    f_X2_isColumn_24 x1 σ
   else
    wx_o (f_X2_codeAt x1 σ) (fun v12 => if 104 < v12 then
      f_X2_isColumn_24 x1 σ
     else
      f_X2_isColumn_25 x1 1 σ))
def f_X2_isDigit_25   (x1 : Int32) (y0 : Int32) (σ : wx_St) : Option Int32 :=
  wx_z y0 (some y0)
def f_X2_isDigit_24   (x1 : Int32) (σ : wx_St) : Option Int32 :=
  f_X2_isDigit_25 x1 0 σ
def f_X2_isDigit   (x1 : Int32) (σ : wx_St) : Option Int32 :=
  wx_o (f_X2_codeAt x1 σ) (fun v2 => if v2 < 48 then
    f_X2_isDigit_24 x1 σ
   else
    wx_o (f_X2_codeAt x1 σ) (fun v12 => if 57 < v12 then
      f_X2_isDigit_24 x1 σ
     else
      f_X2_isDigit_25 x1 1 σ))
def f_X2_endOf_68 (i : Nat) (K2 : Int32 → Int32 → wx_St → Option Int32) (x2 : Int32) (x3 : Int32) (x4 : Int32) (y0 : Int32) (σ : wx_St) : Option Int32 :=
  if y0 = 0 then
    some ((x2 + x3) ^^^ (-1))
   else
    K2 x2 (x3 + 1) σ
def f_X2_endOf_2 (i : Nat)  : Nat → Int32 → Int32 → wx_St → Option Int32
  | 0, _, _, _ => none
  | n + 1, x2, x3, σ =>
  wx_o (f_J0_length_8abf5 i) (fun v4 => if v4 ≤ x3 then
    wx_o (f_J0_length_8abf5 i) (fun v89 => some (x2 + v89))
   else
    wx_o (f_J0_charAt_5068e i x3) (fun v12 => if v12 = 100 then
      wx_o (f_X2_isDigit (x2 + x3) σ) (fun v28 => f_X2_endOf_68 i (f_X2_endOf_2 i n) x2 x3 v12 v28 σ)
     else
      if v12 = 99 then
        wx_o (f_X2_isColumn (x2 + x3) σ) (fun v45 => f_X2_endOf_68 i (f_X2_endOf_2 i n) x2 x3 v12 v45 σ)
       else
        wx_o (f_X2_codeAt (x2 + x3) σ) (fun v55 => if v55 = v12 then
          f_X2_endOf_68 i (f_X2_endOf_2 i n) x2 x3 v12 1 σ
         else
          f_X2_endOf_68 i (f_X2_endOf_2 i n) x2 x3 v12 0 σ)))
def f_X2_endOf (i : Nat)  (x2 : Int32) (σ : wx_St) : Option Int32 :=
  f_X2_endOf_2 i 2000 x2 0 σ
def f_X0_beginRun_12 (o : Nat)  : Nat → Int32 → wx_St → Option (Unit × wx_St)
  | 0, _, _ => none
  | n + 1, x1, σ =>
  if 64 ≤ x1 then
    some ((), σ)
   else
    wx_w (wx_sF σ o 7 (Int32.toNatClampNeg x1) FP.fconst0) 64 x1 (fun σ24 => (f_X0_beginRun_12 o n) (x1 + 1) σ24)
def f_X0_beginRun (o : Nat)   (σ : wx_St) : Option (Unit × wx_St) :=
  wx_l (wx_sS σ o 6 0) (fun σ2 => wx_l (wx_sS σ2 o 9 0) (fun σ7 => f_X0_beginRun_12 o 2000 0 σ7))
def f_X5_neighbourOf_43   (x0 : Int32) (x1 : Int32) (y0 : Int32) : Option Int32 :=
  some y0
def f_X5_neighbourOf_59   (x0 : Int32) (x1 : Int32) (y0 : Int32) : Option Int32 :=
  some y0
def f_X5_neighbourOf_75   (x0 : Int32) (x1 : Int32) (y0 : Int32) : Option Int32 :=
  some y0
def f_X5_neighbourOf_93   (x0 : Int32) (x1 : Int32) (y0 : Int32) : Option Int32 :=
  some y0
def f_X5_neighbourOf   (x0 : Int32) (x1 : Int32) : Option Int32 :=
  if x1 = 0 then
    if x0 < 8 then
      f_X5_neighbourOf_43 x0 x1 (-6)
     else
      f_X5_neighbourOf_43 x0 x1 (x0 - 8)
   else
    if x1 = 1 then
      if 56 ≤ x0 then
        f_X5_neighbourOf_59 x0 x1 (-6)
       else
        f_X5_neighbourOf_59 x0 x1 (x0 + 8)
     else
      if x1 = 2 then
        if (x0 - x0 / 8 * 8) ≤ 0 then
          f_X5_neighbourOf_75 x0 x1 (-6)
         else
          f_X5_neighbourOf_75 x0 x1 (x0 - 1)
       else
        if 7 ≤ (x0 - x0 / 8 * 8) then
          f_X5_neighbourOf_93 x0 x1 (-6)
         else
          f_X5_neighbourOf_93 x0 x1 (x0 + 1)
def f_X0_hasNeighbourOf_32 (o : Nat) (K2 : Int32 → Int32 → Int32 → wx_St → Option Int32) (x1 : Int32) (x2 : Int32) (x3 : Int32) (x4 : Int32) (σ : wx_St) : Option Int32 :=
  K2 x1 x2 (x3 + 1) σ
def f_X0_hasNeighbourOf_2 (o : Nat)  : Nat → Int32 → Int32 → Int32 → wx_St → Option Int32
  | 0, _, _, _, _ => none
  | n + 1, x1, x2, x3, σ =>
  if 4 ≤ x3 then
    some 0
   else
    wx_o (f_X5_neighbourOf x1 x3) (fun v9 => if v9 < 0 then
      f_X0_hasNeighbourOf_32 o (f_X0_hasNeighbourOf_2 o n) x1 x2 x3 v9 σ
     else
      wx_rI σ o 1 64 v9 (fun v25 => if v25 = x2 then
        some 1
       else
        f_X0_hasNeighbourOf_32 o (f_X0_hasNeighbourOf_2 o n) x1 x2 x3 v9 σ))
def f_X0_hasNeighbourOf (o : Nat)  (x1 : Int32) (x2 : Int32) (σ : wx_St) : Option Int32 :=
  f_X0_hasNeighbourOf_2 o 2000 x1 x2 0 σ
def f_X0_touchAt_2 (o : Nat)  : Nat → Int32 → Int32 → wx_St → Option Int32
  | 0, _, _, _ => none
  | n + 1, x1, x2, σ =>
  if (σ.2.2.1 o 3) ≤ x2 then
    some (-6)
   else
    wx_rI σ o 4 3 x2 (fun v15 => if v15 = x1 then
      some x2
     else
      (f_X0_touchAt_2 o n) x1 (x2 + 1) σ)
def f_X0_touchAt (o : Nat)  (x1 : Int32) (σ : wx_St) : Option Int32 :=
  f_X0_touchAt_2 o 2000 x1 0 σ
def f_X5_isNet_16   (x0 : Int32) (y0 : Int32) : Option Int32 :=
  wx_z y0 (some y0)
def f_X5_isNet_15   (x0 : Int32) : Option Int32 :=
  f_X5_isNet_16 x0 0
def f_X5_isNet   (x0 : Int32) : Option Int32 :=
  if x0 < 1 then
    f_X5_isNet_15 x0
   else
    if 7 < x0 then
      f_X5_isNet_15 x0
     else
      f_X5_isNet_16 x0 1
def f_X5_placeOf_30   (x0 : Int32) (x1 : Int32) (y0 : Int32) : Option Int32 :=
  some y0
def f_X5_placeOf_20   (x0 : Int32) (x1 : Int32) : Option Int32 :=
  f_X5_placeOf_30 x0 x1 (-1)
def f_X5_placeOf   (x0 : Int32) (x1 : Int32) : Option Int32 :=
  if x0 < 0 then
    f_X5_placeOf_20 x0 x1
   else
    if 8 ≤ x0 then
      f_X5_placeOf_20 x0 x1
     else
      if x1 < 0 then
        f_X5_placeOf_20 x0 x1
       else
        if x1 < 8 then
          f_X5_placeOf_30 x0 x1 ((8 * x0) + x1)
         else
          f_X5_placeOf_20 x0 x1
def f_X0_join_66 (o : Nat)  (x1 : Int32) (x2 : Int32) (x3 : Int32) (x4 : Int32) (σ : wx_St) : Option (Int32 × wx_St) :=
  some ((-5), σ)
def f_X0_join (o : Nat)  (x1 : Int32) (x2 : Int32) (x3 : Int32) (σ : wx_St) : Option (Int32 × wx_St) :=
  wx_o (f_X5_placeOf x1 x2) (fun v2 => if 0 ≤ v2 then
    wx_o (f_X5_isNet x3) (fun v15 => if v15 = 0 then
      some ((-2), σ)
     else
      wx_rI σ o 1 64 v2 (fun v30 => if v30 = 0 then
        f_X0_join_66 o x1 x2 x3 v2 σ
       else
        wx_rI σ o 1 64 v2 (fun v40 => if v40 = x3 then
          f_X0_join_66 o x1 x2 x3 v2 σ
         else
          wx_o (f_X0_touchAt o v2 σ) (fun v48 => if v48 = (-6) then
            wx_o (f_X0_hasNeighbourOf o v2 x3 σ) (fun v60 => if v60 = 0 then
              f_X0_join_66 o x1 x2 x3 v2 σ
             else
              if (σ.2.2.1 o 3) < 3 then
                wx_w (wx_sI σ o 4 (Int32.toNatClampNeg (σ.2.2.1 o 3)) v2) 3 (σ.2.2.1 o 3) (fun σ90 => wx_w (wx_sI σ90 o 5 (Int32.toNatClampNeg (σ90.2.2.1 o 3)) x3) 3 (σ90.2.2.1 o 3) (fun σ100 => wx_l (wx_sS σ100 o 3 ((σ100.2.2.1 o 3) + 1)) (fun σ108 => wx_b (f_X0_beginRun o σ108) (fun v112 σ112 => some (((σ112.2.2.1 o 3) - 1), σ112)))))
               else
                some ((-4), σ))
           else
            f_X0_join_66 o x1 x2 x3 v2 σ))))
   else
    some ((-1), σ))
def f_X5_areNeighbours_2   : Nat → Int32 → Int32 → Int32 → Option Int32
  | 0, _, _, _ => none
  | n + 1, x0, x1, x2 =>
  if 4 ≤ x2 then
    some 0
   else
    wx_o (f_X5_neighbourOf x0 x2) (fun v9 => if v9 = x1 then
      some 1
     else
      (f_X5_areNeighbours_2 n) x0 x1 (x2 + 1))
def f_X5_areNeighbours   (x0 : Int32) (x1 : Int32) : Option Int32 :=
  f_X5_areNeighbours_2 2000 x0 x1 0
def f_X0_isNeededByTouch_52 (o : Nat) (K2 : Int32 → Int32 → wx_St → Option Int32) (x1 : Int32) (x2 : Int32) (σ : wx_St) : Option Int32 :=
  K2 x1 (x2 + 1) σ
def f_X0_isNeededByTouch_2 (o : Nat)  : Nat → Int32 → Int32 → wx_St → Option Int32
  | 0, _, _, _ => none
  | n + 1, x1, x2, σ =>
  if (σ.2.2.1 o 3) ≤ x2 then
    some 0
   else
    wx_rI σ o 4 3 x2 (fun v15 => if v15 = x1 then
      some 1
     else
      wx_rI σ o 4 3 x2 (fun v27 => wx_o (f_X5_areNeighbours v27 x1) (fun v29 => if v29 = 0 then
        f_X0_isNeededByTouch_52 o (f_X0_isNeededByTouch_2 o n) x1 x2 σ
       else
        wx_rI σ o 5 3 x2 (fun v40 => wx_rI σ o 1 64 x1 (fun v46 => if v40 = v46 then
          some 1
         else
          f_X0_isNeededByTouch_52 o (f_X0_isNeededByTouch_2 o n) x1 x2 σ)))))
def f_X0_isNeededByTouch (o : Nat)  (x1 : Int32) (σ : wx_St) : Option Int32 :=
  f_X0_isNeededByTouch_2 o 2000 x1 0 σ
def f_X0_lay_28 (o : Nat)  (x1 : Int32) (x2 : Int32) (x3 : Int32) (x4 : Int32) (σ : wx_St) : Option (Int32 × wx_St) :=
  wx_o (f_X0_isNeededByTouch o x4 σ) (fun v31 => if v31 = 0 then
    wx_rI σ o 1 64 x4 (fun v46 => wx_w (wx_sI σ o 1 (Int32.toNatClampNeg x4) x3) 64 x4 (fun σ56 => wx_b (f_X0_beginRun o σ56) (fun v58 σ58 => some (v46, σ58))))
   else
    some ((-5), σ))
def f_X0_lay (o : Nat)  (x1 : Int32) (x2 : Int32) (x3 : Int32) (σ : wx_St) : Option (Int32 × wx_St) :=
  wx_o (f_X5_placeOf x1 x2) (fun v2 => if 0 ≤ v2 then
    if x3 = 0 then
      f_X0_lay_28 o x1 x2 x3 v2 σ
     else
      wx_o (f_X5_isNet x3) (fun v19 => if v19 = 0 then
        some ((-2), σ)
       else
        f_X0_lay_28 o x1 x2 x3 v2 σ)
   else
    some ((-1), σ))
def f_X0_isFed_18 (o : Nat)  (x1 : Int32) (x2 : Int32) (y0 : Int32) (σ : wx_St) : Option Int32 :=
  wx_z y0 (some y0)
def f_X0_isFed (o : Nat)  (x1 : Int32) (x2 : Int32) (σ : wx_St) : Option Int32 :=
  wx_rI σ o 2 8 x1 (fun v5 => if (((v5.toUInt32 >>> (x2.toUInt32 &&& Int32.toUInt32 31)).toInt32) &&& 1) = 0 then
    f_X0_isFed_18 o x1 x2 0 σ
   else
    f_X0_isFed_18 o x1 x2 1 σ)
def f_X0_isLive (o : Nat)  (x1 : Int32) (σ : wx_St) : Option Int32 :=
  wx_rI σ o 4 3 x1 (fun v10 => wx_rI σ o 1 64 v10 (fun v11 => wx_rI σ o 5 3 x1 (fun v17 => wx_o (f_X0_isFed o v11 v17 σ) (fun v18 => wx_z v18 (some v18)))))
def f_X0_heated_31 (o : Nat) (K4 : Int64 → Int32 → wx_St → Option Int64) (x1 : Int64) (x3 : Int32) (σ : wx_St) : Option Int64 :=
  K4 x1 (x3 + 1) σ
def f_X0_heated_4 (o : Nat)  : Nat → Int64 → Int32 → wx_St → Option Int64
  | 0, _, _, _ => none
  | n + 1, x1, x3, σ =>
  if (σ.2.2.1 o 3) ≤ x3 then
    some x1
   else
    wx_o (f_X0_isLive o x3 σ) (fun v14 => if v14 = 0 then
      f_X0_heated_31 o (f_X0_heated_4 o n) x1 x3 σ
     else
      wx_rI σ o 4 3 x3 (fun v27 => f_X0_heated_31 o (f_X0_heated_4 o n) (x1 ||| ((1 : Int64) <<< (v27.toInt64 &&& 63))) x3 σ))
def f_X0_heated (o : Nat)   (σ : wx_St) : Option Int64 :=
  f_X0_heated_4 o 2000 (0 : Int64) 0 σ
def f_X5_isIn_15   (x0 : Int64) (x2 : Int32) (y0 : Int32) : Option Int32 :=
  wx_z y0 (some y0)
def f_X5_isIn   (x0 : Int64) (x2 : Int32) : Option Int32 :=
  if (lg_cmp (((x0.toUInt64 >>> (x2.toInt64.toUInt64 &&& Int64.toUInt64 63)).toInt64) &&& (1 : Int64)) (0 : Int64)) = 0 then
    f_X5_isIn_15 x0 x2 0
   else
    f_X5_isIn_15 x0 x2 1
def f_X5_step_206 (o0 : Nat) (k0 : Nat) (n0 : Nat) (o2 : Nat) (k2 : Nat) (n2 : Nat) (o6 : Nat) (k6 : Nat) (K27 : Int32 → Int32 → Int64 → UInt32 → UInt32 → UInt32 → Int32 → wx_St → Option (Unit × wx_St)) (x1 : Int32) (x3 : Int32) (x4 : Int64) (x7 : UInt32) (x8 : UInt32) (x9 : UInt32) (x10 : Int32) (x11 : Int32) (x12 : UInt32) (x13 : UInt32) (x14 : UInt32) (y1 : Int32) (y2 : UInt32) (σ : wx_St) : Option (Unit × wx_St) :=
  wx_w (wx_sF σ o2 k2 (Int32.toNatClampNeg y1) y2) n2 y1 (fun σ206 => K27 x1 x3 x4 x7 x8 x9 (x10 + 1) σ206)
def f_X5_step_167 (o0 : Nat) (k0 : Nat) (n0 : Nat) (o2 : Nat) (k2 : Nat) (n2 : Nat) (o6 : Nat) (k6 : Nat) (K27 : Int32 → Int32 → Int64 → UInt32 → UInt32 → UInt32 → Int32 → wx_St → Option (Unit × wx_St)) (x1 : Int32) (x3 : Int32) (x4 : Int64) (x7 : UInt32) (x8 : UInt32) (x9 : UInt32) (x10 : Int32) (x11 : Int32) (x12 : UInt32) (x13 : UInt32) (σ : wx_St) : Option (Unit × wx_St) :=
  wx_f (FP.fadd x12 x13) (fun v171 => wx_f (FP.fmul v171 x8) (fun v174 => wx_f (FP.fdiv v174 (1120403456 : UInt32)) (fun v178 => wx_o (f_X5_isIn x4 x10) (fun v190 => if v190 = 0 then
    f_X5_step_206 o0 k0 n0 o2 k2 n2 o6 k6 K27 x1 x3 x4 x7 x8 x9 x10 x11 x12 x13 v178 (x3 + x10) v178 σ
   else
    wx_f (FP.fadd v178 x9) (fun v200 => f_X5_step_206 o0 k0 n0 o2 k2 n2 o6 k6 K27 x1 x3 x4 x7 x8 x9 x10 x11 x12 x13 v178 (x3 + x10) v200 σ)))))
def f_X5_step_136 (o0 : Nat) (k0 : Nat) (n0 : Nat) (o2 : Nat) (k2 : Nat) (n2 : Nat) (o6 : Nat) (k6 : Nat) (K27 : Int32 → Int32 → Int64 → UInt32 → UInt32 → UInt32 → Int32 → wx_St → Option (Unit × wx_St)) (x1 : Int32) (x3 : Int32) (x4 : Int64) (x7 : UInt32) (x8 : UInt32) (x9 : UInt32) (x10 : Int32) (x11 : Int32) (x12 : UInt32) (x13 : UInt32) (σ : wx_St) : Option (Unit × wx_St) :=
  if 7 ≤ (x10 - x10 / 8 * 8) then
    f_X5_step_167 o0 k0 n0 o2 k2 n2 o6 k6 K27 x1 x3 x4 x7 x8 x9 x10 x11 x12 x13 σ
   else
    wx_rF σ o0 k0 n0 (x11 + 1) (fun v153 => wx_f (FP.fsub v153 x12) (fun v156 => wx_f (FP.fmul v156 x7) (fun v159 => wx_f (FP.fdiv v159 (1120403456 : UInt32)) (fun v163 => wx_f (FP.fadd x13 v163) (fun v164 => f_X5_step_167 o0 k0 n0 o2 k2 n2 o6 k6 K27 x1 x3 x4 x7 x8 x9 x10 x11 x12 v164 σ)))))
def f_X5_step_107 (o0 : Nat) (k0 : Nat) (n0 : Nat) (o2 : Nat) (k2 : Nat) (n2 : Nat) (o6 : Nat) (k6 : Nat) (K27 : Int32 → Int32 → Int64 → UInt32 → UInt32 → UInt32 → Int32 → wx_St → Option (Unit × wx_St)) (x1 : Int32) (x3 : Int32) (x4 : Int64) (x7 : UInt32) (x8 : UInt32) (x9 : UInt32) (x10 : Int32) (x11 : Int32) (x12 : UInt32) (x13 : UInt32) (σ : wx_St) : Option (Unit × wx_St) :=
  if (x10 - x10 / 8 * 8) ≤ 0 then
    f_X5_step_136 o0 k0 n0 o2 k2 n2 o6 k6 K27 x1 x3 x4 x7 x8 x9 x10 x11 x12 x13 σ
   else
    wx_rF σ o0 k0 n0 (x11 - 1) (fun v122 => wx_f (FP.fsub v122 x12) (fun v125 => wx_f (FP.fmul v125 x7) (fun v128 => wx_f (FP.fdiv v128 (1120403456 : UInt32)) (fun v132 => wx_f (FP.fadd x13 v132) (fun v133 => f_X5_step_136 o0 k0 n0 o2 k2 n2 o6 k6 K27 x1 x3 x4 x7 x8 x9 x10 x11 x12 v133 σ)))))
def f_X5_step_78 (o0 : Nat) (k0 : Nat) (n0 : Nat) (o2 : Nat) (k2 : Nat) (n2 : Nat) (o6 : Nat) (k6 : Nat) (K27 : Int32 → Int32 → Int64 → UInt32 → UInt32 → UInt32 → Int32 → wx_St → Option (Unit × wx_St)) (x1 : Int32) (x3 : Int32) (x4 : Int64) (x7 : UInt32) (x8 : UInt32) (x9 : UInt32) (x10 : Int32) (x11 : Int32) (x12 : UInt32) (x13 : UInt32) (σ : wx_St) : Option (Unit × wx_St) :=
  if 56 ≤ x10 then
    f_X5_step_107 o0 k0 n0 o2 k2 n2 o6 k6 K27 x1 x3 x4 x7 x8 x9 x10 x11 x12 x13 σ
   else
    wx_rF σ o0 k0 n0 (x11 + 8) (fun v93 => wx_f (FP.fsub v93 x12) (fun v96 => wx_f (FP.fmul v96 x7) (fun v99 => wx_f (FP.fdiv v99 (1120403456 : UInt32)) (fun v103 => wx_f (FP.fadd x13 v103) (fun v104 => f_X5_step_107 o0 k0 n0 o2 k2 n2 o6 k6 K27 x1 x3 x4 x7 x8 x9 x10 x11 x12 v104 σ)))))
def f_X5_step_27 (o0 : Nat) (k0 : Nat) (n0 : Nat) (o2 : Nat) (k2 : Nat) (n2 : Nat) (o6 : Nat) (k6 : Nat)  : Nat → Int32 → Int32 → Int64 → UInt32 → UInt32 → UInt32 → Int32 → wx_St → Option (Unit × wx_St)
  | 0, _, _, _, _, _, _, _, _ => none
  | n + 1, x1, x3, x4, x7, x8, x9, x10, σ =>
  if 64 ≤ x10 then
    some ((), σ)
   else
    wx_rF σ o0 k0 n0 (x1 + x10) (fun v43 => if x10 < 8 then
      f_X5_step_78 o0 k0 n0 o2 k2 n2 o6 k6 (f_X5_step_27 o0 k0 n0 o2 k2 n2 o6 k6 n) x1 x3 x4 x7 x8 x9 x10 (x1 + x10) v43 FP.fconst0 σ
     else
      wx_rF σ o0 k0 n0 ((x1 + x10) - 8) (fun v64 => wx_f (FP.fsub v64 v43) (fun v67 => wx_f (FP.fmul v67 x7) (fun v70 => wx_f (FP.fdiv v70 (1120403456 : UInt32)) (fun v74 => wx_f (FP.fadd FP.fconst0 v74) (fun v75 => f_X5_step_78 o0 k0 n0 o2 k2 n2 o6 k6 (f_X5_step_27 o0 k0 n0 o2 k2 n2 o6 k6 n) x1 x3 x4 x7 x8 x9 x10 (x1 + x10) v43 v75 σ))))))
def f_X5_step (o0 : Nat) (k0 : Nat) (n0 : Nat) (o2 : Nat) (k2 : Nat) (n2 : Nat) (o6 : Nat) (k6 : Nat)  (x1 : Int32) (x3 : Int32) (x4 : Int64) (σ : wx_St) : Option (Unit × wx_St) :=
  wx_rI σ o6 k6 4 0 (fun v3 => wx_rI σ o6 k6 4 1 (fun v12 => wx_rI σ o6 k6 4 2 (fun v20 => f_X5_step_27 o0 k0 n0 o2 k2 n2 o6 k6 2000 x1 x3 x4 (FP.i2f v3) (FP.i2f (100 - v12)) (FP.i2f v20) 0 σ)))
def f_X0_passOne (o : Nat)  (x1 : Int64) (σ : wx_St) : Option (Unit × wx_St) :=
  wx_b (f_X5_step o 7 64 o 8 64 o 0 0 0 x1 σ) (fun v15 σ15 => wx_l (wx_cF σ15 o 8 0 o 7 0 64) (fun σ30 => some ((), σ30)))
def f_X0_letPass_11 (o : Nat)  (x1 : Int32) (σ : wx_St) : Option (Int32 × wx_St) :=
  some ((-2), σ)
def f_X0_letPass_36 (o : Nat)  : Nat → Int32 → Int64 → Int32 → wx_St → Option (Int32 × wx_St)
  | 0, _, _, _, _ => none
  | n + 1, x1, x2, x4, σ =>
  if x1 ≤ x4 then
    wx_l (wx_sS σ o 6 ((σ.2.2.1 o 6) + x1)) (fun σ60 => some ((σ60.2.2.1 o 6), σ60))
   else
    wx_b (f_X0_passOne o x2 σ) (fun v44 σ44 => (f_X0_letPass_36 o n) x1 x2 (x4 + 1) σ44)
def f_X0_letPass (o : Nat)  (x1 : Int32) (σ : wx_St) : Option (Int32 × wx_St) :=
  if x1 < 1 then
    f_X0_letPass_11 o x1 σ
   else
    if x1 ≤ 50 then
      if ((σ.2.2.1 o 6) + x1) ≤ 100 then
        wx_o (f_X0_heated o σ) (fun v29 => f_X0_letPass_36 o 2000 x1 v29 0 σ)
       else
        some ((-5), σ)
     else
      f_X0_letPass_11 o x1 σ
def f_X5_readOf   (x0 : UInt32) : Option Int32 :=
  wx_f (FP.fmul x0 (1092616192 : UInt32)) (fun v4 => some (FP.f2i v4))
def f_X0_measure (o : Nat)  (x1 : Int32) (x2 : Int32) (σ : wx_St) : Option (Int32 × wx_St) :=
  wx_o (f_X5_placeOf x1 x2) (fun v2 => if 0 ≤ v2 then
    if (σ.2.2.1 o 9) < 8 then
      wx_rF σ o 7 64 v2 (fun v29 => wx_o (f_X5_readOf v29) (fun v30 => wx_w (wx_sI σ o 10 (Int32.toNatClampNeg (σ.2.2.1 o 9)) v2) 8 (σ.2.2.1 o 9) (fun σ44 => wx_w (wx_sI σ44 o 11 (Int32.toNatClampNeg (σ44.2.2.1 o 9)) v30) 8 (σ44.2.2.1 o 9) (fun σ55 => wx_w (wx_sI σ55 o 12 (Int32.toNatClampNeg (σ55.2.2.1 o 9)) (σ55.2.2.1 o 6)) 8 (σ55.2.2.1 o 9) (fun σ68 => wx_l (wx_sS σ68 o 9 ((σ68.2.2.1 o 9) + 1)) (fun σ76 => some (v30, σ76)))))))
     else
      some ((-4), σ)
   else
    some ((-1), σ))
def f_X0_part_12 (o : Nat)  (x1 : Int32) (σ : wx_St) : Option (Int32 × wx_St) :=
  some ((-1), σ)
def f_X0_part_16 (o : Nat)  : Nat → Int32 → Int32 → wx_St → Option (Int32 × wx_St)
  | 0, _, _, _ => none
  | n + 1, x1, x2, σ =>
  if ((σ.2.2.1 o 3) - 1) ≤ x2 then
    wx_l (wx_sS σ o 3 ((σ.2.2.1 o 3) - 1)) (fun σ67 => wx_b (f_X0_beginRun o σ67) (fun v71 σ71 => some ((σ71.2.2.1 o 3), σ71)))
   else
    wx_rI σ o 4 3 (x2 + 1) (fun v38 => wx_w (wx_sI σ o 4 (Int32.toNatClampNeg x2) v38) 3 x2 (fun σ39 => wx_rI σ39 o 5 3 (x2 + 1) (fun v52 => wx_w (wx_sI σ39 o 5 (Int32.toNatClampNeg x2) v52) 3 x2 (fun σ53 => (f_X0_part_16 o n) x1 (x2 + 1) σ53))))
def f_X0_part (o : Nat)  (x1 : Int32) (σ : wx_St) : Option (Int32 × wx_St) :=
  if x1 < 0 then
    f_X0_part_12 o x1 σ
   else
    if x1 < (σ.2.2.1 o 3) then
      f_X0_part_16 o 2000 x1 x1 σ
     else
      f_X0_part_12 o x1 σ
def f_X0_turnPair_14 (o : Nat)  (x1 : Int32) (x2 : Int32) (σ : wx_St) : Option (Int32 × wx_St) :=
  some ((-1), σ)
def f_X0_turnPair_74 (o : Nat)  (x1 : Int32) (x2 : Int32) (y0 : Int32) (σ : wx_St) : Option (Int32 × wx_St) :=
  some (y0, σ)
def f_X0_turnPair (o : Nat)  (x1 : Int32) (x2 : Int32) (σ : wx_St) : Option (Int32 × wx_St) :=
  wx_o (f_X5_isNet x1) (fun v1 => if v1 = 0 then
    f_X0_turnPair_14 o x1 x2 σ
   else
    wx_o (f_X5_isNet x2) (fun v8 => if v8 = 0 then
      f_X0_turnPair_14 o x1 x2 σ
     else
      if x1 = x2 then
        some ((-2), σ)
       else
        wx_rI σ o 2 8 x1 (fun v34 => wx_w (wx_sI σ o 2 (Int32.toNatClampNeg x1) (v34 ^^^ (1 <<< (x2 &&& 31)))) 8 x1 (fun σ39 => wx_rI σ39 o 2 8 x2 (fun v50 => wx_w (wx_sI σ39 o 2 (Int32.toNatClampNeg x2) (v50 ^^^ (1 <<< (x1 &&& 31)))) 8 x2 (fun σ55 => wx_b (f_X0_beginRun o σ55) (fun v57 σ57 => wx_o (f_X0_isFed o x1 x2 σ57) (fun v63 => if v63 = 0 then
          f_X0_turnPair_74 o x1 x2 0 σ57
         else
          f_X0_turnPair_74 o x1 x2 1 σ57))))))))
def f_X2_columnAt   (x1 : Int32) (σ : wx_St) : Option Int32 :=
  wx_o (f_X2_codeAt x1 σ) (fun v2 => some (v2 - 97))
def f_X2_digitAt   (x1 : Int32) (σ : wx_St) : Option Int32 :=
  wx_o (f_X2_codeAt x1 σ) (fun v2 => some (v2 - 48))
def f_X2_numberIn_5   : Nat → Int32 → Int32 → Int32 → Int32 → wx_St → Option Int32
  | 0, _, _, _, _, _ => none
  | n + 1, x1, x2, x3, x4, σ =>
  if x2 ≤ x4 then
    some x3
   else
    wx_o (f_X2_digitAt x4 σ) (fun v18 => (f_X2_numberIn_5 n) x1 x2 ((10 * x3) + v18) (x4 + 1) σ)
def f_X2_numberIn   (x1 : Int32) (x2 : Int32) (σ : wx_St) : Option Int32 :=
  f_X2_numberIn_5 2000 x1 x2 0 x1 σ
def f_X5_answerOf   (x1 : Int32) (x2 : Int32) (x3 : Int32) (σ : wx_St) : Option (Int32 × wx_St) :=
  wx_o (f_X2_codeAt x1 σ) (fun v5 => if v5 = 102 then
    wx_o (f_X2_digitAt (x1 + 1) σ) (fun v118 => wx_o (f_X2_digitAt (x1 + 2) σ) (fun v128 => wx_b (f_X0_turnPair 7 v118 v128 σ) (fun v131 σ131 => some (v131, σ131))))
   else
    if v5 = 109 then
      wx_o (f_X2_digitAt (x1 + 1) σ) (fun v184 => wx_b (f_X0_part 7 v184 σ) (fun v187 σ187 => some (v187, σ187)))
     else
      if v5 = 115 then
        wx_o (f_X2_digitAt (x1 + 2) σ) (fun v146 => wx_o (f_X2_columnAt (x1 + 1) σ) (fun v156 => wx_o (f_X2_digitAt (x1 + 4) σ) (fun v166 => wx_b (f_X0_join 7 v146 v156 v166 σ) (fun v169 σ169 => some (v169, σ169)))))
       else
        if v5 = 116 then
          wx_o (f_X2_digitAt (((x1 + 2) + (2 * x3)) + 1) σ) (fun v81 => wx_o (f_X2_columnAt ((x1 + 2) + (2 * x3)) σ) (fun v90 => wx_o (f_X2_digitAt (x1 + 1) σ) (fun v100 => wx_b (f_X0_lay 7 v81 v90 v100 σ) (fun v103 σ103 => some (v103, σ103)))))
         else
          if v5 = 119 then
            wx_o (f_X2_numberIn (x1 + 1) x2 σ) (fun v203 => wx_b (f_X0_letPass 7 v203 σ) (fun v206 σ206 => some (v206, σ206)))
           else
            wx_o (f_X2_digitAt (x1 + 2) σ) (fun v221 => wx_o (f_X2_columnAt (x1 + 1) σ) (fun v231 => wx_b (f_X0_measure 7 v221 v231 σ) (fun v234 σ234 => some (v234, σ234)))))
def f_X2_endOfNumber_41   (x1 : Int32) (y0 : Int32) (σ : wx_St) : Option Int32 :=
  some y0
def f_X2_endOfNumber_38   (x1 : Int32) (σ : wx_St) : Option Int32 :=
  f_X2_endOfNumber_41 x1 (x1 + 1) σ
def f_X2_endOfNumber   (x1 : Int32) (σ : wx_St) : Option Int32 :=
  wx_o (f_X2_isDigit x1 σ) (fun v2 => if v2 = 0 then
    some (x1 ^^^ (-1))
   else
    wx_o (f_X2_codeAt x1 σ) (fun v14 => if v14 = 48 then
      f_X2_endOfNumber_38 x1 σ
     else
      wx_o (f_X2_isDigit (x1 + 1) σ) (fun v26 => if v26 = 0 then
        f_X2_endOfNumber_38 x1 σ
       else
        f_X2_endOfNumber_41 x1 (x1 + 2) σ)))
def f_X2_endOfPlaces_36   (x1 : Int32) (x2 : Int32) (x3 : Int32) (σ : wx_St) : Option Int32 :=
  some x2
def f_X2_endOfPlaces_4   : Nat → Int32 → Int32 → Int32 → wx_St → Option Int32
  | 0, _, _, _, _ => none
  | n + 1, x1, x2, x3, σ =>
  if 80 ≤ x3 then
    f_X2_endOfPlaces_36 x1 x2 x3 σ
   else
    if x2 < 0 then
      f_X2_endOfPlaces_36 x1 x2 x3 σ
     else
      wx_o (f_X2_isColumn x2 σ) (fun v16 => if v16 = 0 then
        f_X2_endOfPlaces_36 x1 x2 x3 σ
       else
        wx_o (f_X2_endOf 1 x2 σ) (fun v26 => (f_X2_endOfPlaces_4 n) x1 v26 (x3 + 1) σ))
def f_X2_endOfPlaces   (x1 : Int32) (σ : wx_St) : Option Int32 :=
  f_X2_endOfPlaces_4 2000 x1 x1 0 σ
def f_X2_endOfOrder   (x1 : Int32) (σ : wx_St) : Option Int32 :=
  wx_o (f_X2_codeAt x1 σ) (fun v2 => if v2 = 102 then
    wx_o (f_X2_endOf 2 (x1 + 1) σ) (fun v112 => some v112)
   else
    if v2 = 103 then
      some (x1 ^^^ (-1))
     else
      if v2 = 104 then
        some (x1 ^^^ (-1))
       else
        if v2 = 105 then
          some (x1 ^^^ (-1))
         else
          if v2 = 106 then
            some (x1 ^^^ (-1))
           else
            if v2 = 107 then
              some (x1 ^^^ (-1))
             else
              if v2 = 108 then
                some (x1 ^^^ (-1))
               else
                if v2 = 109 then
                  wx_o (f_X2_endOf 4 (x1 + 1) σ) (fun v132 => some v132)
                 else
                  if v2 = 110 then
                    some (x1 ^^^ (-1))
                   else
                    if v2 = 111 then
                      some (x1 ^^^ (-1))
                     else
                      if v2 = 112 then
                        wx_o (f_X2_endOf 1 (x1 + 1) σ) (fun v150 => some v150)
                       else
                        if v2 = 113 then
                          some (x1 ^^^ (-1))
                         else
                          if v2 = 114 then
                            some (x1 ^^^ (-1))
                           else
                            if v2 = 115 then
                              wx_o (f_X2_endOf 3 (x1 + 1) σ) (fun v122 => some v122)
                             else
                              if v2 = 116 then
                                wx_o (f_X2_endOf 0 (x1 + 1) σ) (fun v99 => wx_o (f_X2_endOfPlaces v99 σ) (fun v102 => some v102))
                               else
                                if v2 = 117 then
                                  some (x1 ^^^ (-1))
                                 else
                                  if v2 = 118 then
                                    some (x1 ^^^ (-1))
                                   else
                                    if v2 = 119 then
                                      wx_o (f_X2_endOfNumber (x1 + 1) σ) (fun v140 => some v140)
                                     else
                                      some (x1 ^^^ (-1)))
def f_X2_clear    (σ : wx_St) : Option (Int32 × wx_St) :=
  wx_l (wx_sS σ 15 1 0) (fun σ7 => some ((σ.2.2.1 15 1), σ7))
def f_X2_firstFault_4   : Nat → Int32 → Int32 → wx_St → Option Int32
  | 0, _, _, _ => none
  | n + 1, x1, x2, σ =>
  if 80 ≤ x2 then
    some (σ.2.2.1 15 1)
   else
    wx_o (f_X2_endOfOrder x1 σ) (fun v12 => if 0 ≤ v12 then
      if v12 < (σ.2.2.1 15 1) then
        wx_o (f_X2_codeAt v12 σ) (fun v37 => if v37 = 59 then
          (f_X2_firstFault_4 n) (v12 + 1) (x2 + 1) σ
         else
          some v12)
       else
        some (-6)
     else
      some (v12 ^^^ (-1)))
def f_X2_firstFault    (σ : wx_St) : Option Int32 :=
  f_X2_firstFault_4 2000 0 0 σ
def f_X3_kept_36   : Nat → Int32 → Nat → Int32 → wx_St → Option (Int32 × wx_St)
  | 0, _, _, _, _ => none
  | n + 1, x1, z2, x3, σ =>
  if 6 ≤ x3 then
    wx_w (wx_sR σ (Int32.toNatClampNeg 6) z2) 7 6 (fun σ69 => some (x1, σ69))
   else
    wx_rR σ 14 7 (x3 + 1) (fun z54 => wx_w (wx_sR σ (Int32.toNatClampNeg x3) z54) 7 x3 (fun σ55 => (f_X3_kept_36 n) x1 z2 (x3 + 1) σ55))
def f_X3_kept   (x1 : Int32) (σ : wx_St) : Option (Int32 × wx_St) :=
  if 0 ≤ x1 then
    if 6 ≤ (σ.2.2.1 14 1) then
      wx_rR σ 14 7 0 (fun z32 => f_X3_kept_36 2000 x1 z32 0 σ)
     else
      wx_l (wx_sS σ 14 1 ((σ.2.2.1 14 1) + 1)) (fun σ22 => some (x1, σ22))
   else
    some (x1, σ)
def f_X0_takeOver (o : Nat) (b1 : Nat)   (σ : wx_St) : Option (Unit × wx_St) :=
  wx_l (wx_cI σ b1 0 0 o 0 0 4) (fun σ11 => wx_l (wx_cI σ11 b1 1 0 o 1 0 64) (fun σ26 => wx_l (wx_cI σ26 b1 2 0 o 2 0 8) (fun σ41 => wx_l (wx_sS σ41 o 3 (σ41.2.2.1 b1 3)) (fun σ49 => wx_l (wx_cI σ49 b1 4 0 o 4 0 3) (fun σ63 => wx_l (wx_cI σ63 b1 5 0 o 5 0 3) (fun σ77 => wx_l (wx_sS σ77 o 6 (σ77.2.2.1 b1 6)) (fun σ85 => wx_l (wx_cF σ85 b1 7 0 o 7 0 64) (fun σ100 => wx_l (wx_sS σ100 o 9 (σ100.2.2.1 b1 9)) (fun σ108 => wx_l (wx_cI σ108 b1 10 0 o 10 0 8) (fun σ123 => wx_l (wx_cI σ123 b1 11 0 o 11 0 8) (fun σ138 => wx_l (wx_cI σ138 b1 12 0 o 12 0 8) (fun σ153 => some ((), σ153)))))))))))))
def f_X3_prepare (b1 : Nat)   (σ : wx_St) : Option (Unit × wx_St) :=
  wx_rR σ 14 7 (σ.2.2.1 14 1) (fun z8 => wx_b (f_X0_takeOver z8 b1 σ) (fun v10 σ10 => some ((), σ10)))
def f_X2_ordersIn_21   (x1 : Int32) (x2 : Int32) (y0 : Int32) (σ : wx_St) : Option Int32 :=
  some y0
def f_X2_ordersIn   (x1 : Int32) (x2 : Int32) (σ : wx_St) : Option Int32 :=
  wx_o (f_X2_codeAt x1 σ) (fun v2 => if v2 = 116 then
    f_X2_ordersIn_21 x1 x2 (((x2 - x1) - 2) / 2) σ
   else
    f_X2_ordersIn_21 x1 x2 1 σ)
def f_X5_carriedOut_48  (K6 : Int32 → Int32 → Int32 → wx_St → Option (Int32 × wx_St)) : Nat → Int32 → Int32 → Int32 → Int32 → Int32 → Int32 → wx_St → Option (Int32 × wx_St)
  | 0, _, _, _, _, _, _, _ => none
  | n + 1, x1, x2, x3, x4, x5, x6, σ =>
  if x5 ≤ x6 then
    K6 x1 (x4 + 1) (x3 + 1) σ
   else
    wx_b (f_X5_answerOf x2 x4 x6 σ) (fun v61 σ61 => if 0 ≤ v61 then
      (f_X5_carriedOut_48 K6 n) (x1 + 1) x2 x3 x4 x5 (x6 + 1) σ61
     else
      some (x1, σ61))
def f_X5_carriedOut_89   (x1 : Int32) (x2 : Int32) (x3 : Int32) (σ : wx_St) : Option (Int32 × wx_St) :=
  some (x1, σ)
def f_X5_carriedOut_6   : Nat → Int32 → Int32 → Int32 → wx_St → Option (Int32 × wx_St)
  | 0, _, _, _, _ => none
  | n + 1, x1, x2, x3, σ =>
  if 80 ≤ x3 then
    f_X5_carriedOut_89 x1 x2 x3 σ
   else
    if (σ.2.2.1 15 1) ≤ x2 then
      f_X5_carriedOut_89 x1 x2 x3 σ
     else
      wx_o (f_X2_endOfOrder x2 σ) (fun v28 => wx_o (f_X2_ordersIn x2 v28 σ) (fun v40 => f_X5_carriedOut_48 (f_X5_carriedOut_6 n) 2000 x1 x2 x3 v28 v40 0 σ))
def f_X5_carriedOut    (σ : wx_St) : Option (Int32 × wx_St) :=
  f_X5_carriedOut_6 2000 0 0 0 σ
def f_X5_carryOut    (σ : wx_St) : Option (Int32 × wx_St) :=
  wx_o (f_X2_firstFault σ) (fun v4 => if v4 = (-6) then
    wx_b (f_X3_prepare 7 σ) (fun v23 σ23 => wx_b (f_X5_carriedOut σ23) (fun v27 σ27 => wx_b (f_X2_clear σ27) (fun v35 σ35 => wx_b (f_X3_kept v27 σ35) (fun v44 σ44 => some (v44, σ44)))))
   else
    some ((-3), σ))
def f_X5_readsIn_26   (x1 : Int32) (x2 : Int32) (x3 : Int32) (x4 : Int32) (σ : wx_St) : Option (Int32 × wx_St) :=
  some ((-2), σ)
def f_X5_readsIn_52   : Nat → Int32 → Int32 → Int32 → Int32 → Int64 → Int32 → wx_St → Option (Int32 × wx_St)
  | 0, _, _, _, _, _, _, _ => none
  | n + 1, x1, x2, x3, x4, x5, x7, σ =>
  if 200 < x7 then
    some ((-6), σ)
   else
    wx_rF σ 8 7 64 x4 (fun v69 => wx_o (f_X5_readOf v69) (fun v70 => if v70 < x3 then
      wx_b (f_X0_passOne 8 x5 σ) (fun v86 σ86 => (f_X5_readsIn_52 n) x1 x2 x3 x4 x5 (x7 + 1) σ86)
     else
      some (x7, σ)))
def f_X5_readsIn   (x1 : Int32) (x2 : Int32) (x3 : Int32) (σ : wx_St) : Option (Int32 × wx_St) :=
  wx_o (f_X5_placeOf x1 x2) (fun v2 => if 0 ≤ v2 then
    if x3 < 1 then
      f_X5_readsIn_26 x1 x2 x3 v2 σ
     else
      if x3 ≤ 9999 then
        wx_b (f_X0_takeOver 8 7 σ) (fun v37 σ37 => wx_o (f_X0_heated 8 σ37) (fun v44 => f_X5_readsIn_52 2000 x1 x2 x3 v2 v44 0 σ37))
       else
        f_X5_readsIn_26 x1 x2 x3 v2 σ
   else
    some ((-1), σ))
def f_X5_restore_9   (x1 : Int32) (σ : wx_St) : Option (Int32 × wx_St) :=
  some ((-2), σ)
def f_X5_restore   (x1 : Int32) (σ : wx_St) : Option (Int32 × wx_St) :=
  if x1 < 0 then
    f_X5_restore_9 x1 σ
   else
    if x1 < 2 then
      wx_rI σ 11 6 2 x1 (fun v17 => if v17 = 0 then
        some ((-5), σ)
       else
        wx_b (f_X3_prepare 7 σ) (fun v32 σ32 => wx_rR σ32 11 2 x1 (fun z44 => wx_b (f_X0_takeOver 7 z44 σ32) (fun v45 σ45 => wx_b (f_X3_kept (σ45.2.2.1 7 3) σ45) (fun v59 σ59 => some (v59, σ59))))))
     else
      f_X5_restore_9 x1 σ
variable {p : Program} {l : Launch} {e : Env} {s : State} {m : MethodId} {args : Array Value} {below : List Frame} {meth : Method} {c : Code} {D : va_G} {ad : Nat → Nat → Nat} {rd : Nat → Nat} {ca : Nat → ClassId} {A : Nat → Prop}
theorem i_X1_follow_1 : ∀ w ∈ wsX10, w ∈ wsX1_follow := by decide +kernel
theorem k_X1_follow_w0 : Cond.fieldLink RX1 9 "WarmProbes$Lone" "settings" "[I" ∈ wsX1_follow := by decide +kernel
theorem k_X1_follow_w1 : Cond.methodLink RX1 24 arraycopyName ∈ wsX1_follow := by decide +kernel
theorem k_X1_follow_w2 : Cond.native arraycopyName ∈ wsX1_follow := by decide +kernel
theorem k_X1_follow_w3 : Cond.static arraycopyName ∈ wsX1_follow := by decide +kernel
theorem k_X1_follow_w4 : Cond.initialized "java/lang/System" ∈ wsX1_follow := by decide +kernel
theorem k_X1_follow_w5 : Cond.fieldLink RX1 21 "WarmProbes$Lone" "steps" "[I" ∈ wsX1_follow := by decide +kernel
set_option maxRecDepth 20000 in
set_option maxHeartbeats 4000000 in
theorem b_X1_follow_50 (B : wx_B p s m args meth c cX1_follow 3 none wsX1_follow RX1 D ad ca A) {o1 : Nat} {k1 : Nat} {al : Nat → Bool} (hs1 : wx_sh al o1 k1 = (1, 4))  {σ' : wx_St}   :
    ∀ {n : Nat} {x2 : Int32}  {σ : wx_St} (h : f_X1_follow_50 o1 k1 n x2 σ = some ((), σ')) {H : Heap} {locs : List Loc} (Z : wx_Z D ad rd ca A σ H) (hS : va_S A s.heap H locs) {ls : Array Slot} (hl : lv_has ls 3 [(0, .ref (ad 13 99)), (1, .ref (wx_ad ad rd o1 k1)), (2, .int x2)]) (hal : σ.2.2.2.2 = al), W p l e ({ frames := 1, cells := 0, slots := 0, locals := 26 } : Room) s m args below meth c H locs 0 0 (MQ below (wx_Q D ad rd ca A none σ') args s 0 0 A) (F0 m 50 ls []) := by
  obtain ⟨hx, hb, hml, hr, hts, hown, hlk, hC, hA⟩ := id B
  intro n
  induction n with
  | zero => intro x2  σ h H locs Z hS ls hl hal; exact wx_no h
  | succ n ih =>
    intro x2  σ h H locs Z hS ls hl hal
    rw [f_X1_follow_50] at h
    refine lv_iload_n hx hb dX1_follow_50 rfl (lv_at hl 2 rfl) ?_
    refine lv_bipush (v := 64) hx hb dX1_follow_51 (by decide) ?_
    refine lv_icmp_ge (tgt := 69) hx hb dX1_follow_53 (by decide) (fun c53 => ?_) (fun c53 => ?_)
    · replace h := wx_ift c53 h
      obtain ⟨-, rfl⟩ := wx_ret_ok h
      exact W.vret hx hb hr (fun t ht hW => ⟨rfl, by rw [ht]; exact Z, hS.F ht⟩) hS.2.2 dX1_follow_69
    · replace h := wx_iff c53 h
      refine lv_aload_n hx hb dX1_follow_56 rfl (lv_at hl 0 rfl) ?_
      refine wx_get (own := RX1) hx hb hts i_X1_follow_1 hown hC.1 Z (o := 13) (ci := 1) rfl (rfl : vwCl[1]? = some (RX1, TX1, 3)) 2 (by decide) (hts _ k_X1_follow_w5) (fun _ h9 => h9) (f := 0) rfl rfl dX1_follow_57 ?_
      refine lv_iload_n hx hb dX1_follow_60 rfl (lv_at hl 2 rfl) ?_
      refine lv_iconst (v := 0) hx hb dX1_follow_61 (by decide) ?_
      obtain ⟨σ62, e62, i62, h⟩ := wx_w_ok h
      refine wx_iast hx hb hC.1 Z hS (o := 13) (k := 2) (n := 64) rfl rfl i62 dX1_follow_62 e62 (fun H locs Z hS => ?_)
      replace hal := (congrArg (fun z : wx_St => z.2.2.2.2) e62).trans hal
      refine lv_iinc (v := x2 + 1) (lv' := [(2, .int (x2 + 1)), (0, .ref (ad 13 99)), (1, .ref (wx_ad ad rd o1 k1))]) hx hb dX1_follow_63 hl (k := 2) rfl rfl (by decide) rfl (fun ls hl => ?_)
      refine lv_goto (tgt := 50) hx hb dX1_follow_66 (by decide) ?_
      exact ih h Z hS (lv_sub hl [1, 2, 0] rfl) hal
set_option maxRecDepth 20000 in
set_option maxHeartbeats 4000000 in
theorem b_X1_follow_37 (B : wx_B p s m args meth c cX1_follow 3 none wsX1_follow RX1 D ad ca A) {o1 : Nat} {k1 : Nat} {al : Nat → Bool} (hs1 : wx_sh al o1 k1 = (1, 4))  {σ' : wx_St}    {σ : wx_St} (h : f_X1_follow_37 o1 k1 σ = some ((), σ')) {H : Heap} {locs : List Loc} (Z : wx_Z D ad rd ca A σ H) (hS : va_S A s.heap H locs) {ls : Array Slot} (hl : lv_has ls 3 [(0, .ref (ad 13 99)), (1, .ref (wx_ad ad rd o1 k1))]) (hal : σ.2.2.2.2 = al) : W p l e ({ frames := 1, cells := 0, slots := 0, locals := 26 } : Room) s m args below meth c H locs 0 0 (MQ below (wx_Q D ad rd ca A none σ') args s 0 0 A) (F0 m 37 ls []) := by
  obtain ⟨hx, hb, hml, hr, hts, hown, hlk, hC, hA⟩ := id B
  unfold f_X1_follow_37 at h
  refine lv_aload_n hx hb dX1_follow_37 rfl (lv_at hl 1 rfl) ?_
  refine lv_iconst (v := 0) hx hb dX1_follow_38 (by decide) ?_
  refine lv_aload_n hx hb dX1_follow_39 rfl (lv_at hl 0 rfl) ?_
  refine wx_get (own := RX1) hx hb hts i_X1_follow_1 hown hC.1 Z (o := 13) (ci := 1) rfl (rfl : vwCl[1]? = some (RX1, TX1, 3)) 0 (by decide) (hts _ k_X1_follow_w0) (fun _ h9 => h9) (f := 0) rfl rfl dX1_follow_40 ?_
  refine lv_iconst (v := 0) hx hb dX1_follow_43 (by decide) ?_
  refine lv_iconst (v := 4) hx hb dX1_follow_44 (by decide) ?_
  obtain ⟨σ45, e45, h⟩ := wx_l_ok h
  refine wx_copyi (own := RX1) hx hb (hml.trans hl.1.symm) hown (hts _ k_X1_follow_w1) (hts _ k_X1_follow_w2) (hts _ k_X1_follow_w3) (hts _ k_X1_follow_w4) hC.1 Z hS (o := o1) (k := k1) (n := 4) (o' := 13) (k' := 0) (n' := 4) (wx_hal hal hs1) rfl rfl rfl (by decide) (by decide) (by decide) (by decide) (by decide) (Nat.le_of_ble_eq_true rfl) (Nat.le_of_ble_eq_true rfl) dX1_follow_45 e45 (fun H locs Z hS => ?_)
  replace hal := (congrArg (fun z : wx_St => z.2.2.2.2) e45).trans hal
  refine lv_iconst (v := 0) hx hb dX1_follow_48 (by decide) ?_
  refine lv_istore_n (lv' := [(2, .int 0), (0, .ref (ad 13 99)), (1, .ref (wx_ad ad rd o1 k1))]) hx hb dX1_follow_49 rfl hl (by decide) rfl (fun ls hl => ?_)
  exact b_X1_follow_50 B hs1 h Z hS (lv_sub hl [1, 2, 0] rfl) hal
set_option maxRecDepth 20000 in
set_option maxHeartbeats 4000000 in
theorem b_X1_follow_0 (B : wx_B p s m args meth c cX1_follow 3 none wsX1_follow RX1 D ad ca A) {o1 : Nat} {k1 : Nat} {al : Nat → Bool} (hs1 : wx_sh al o1 k1 = (1, 4))  {σ' : wx_St}    {σ : wx_St} (h : f_X1_follow o1 k1 σ = some ((), σ')) {H : Heap} {locs : List Loc} (Z : wx_Z D ad rd ca A σ H) (hS : va_S A s.heap H locs) {ls : Array Slot} (hl : lv_has ls 3 [(0, .ref (ad 13 99)), (1, .ref (wx_ad ad rd o1 k1))]) (hal : σ.2.2.2.2 = al) : W p l e ({ frames := 1, cells := 0, slots := 0, locals := 26 } : Room) s m args below meth c H locs 0 0 (MQ below (wx_Q D ad rd ca A none σ') args s 0 0 A) (F0 m 0 ls []) := by
  obtain ⟨hx, hb, hml, hr, hts, hown, hlk, hC, hA⟩ := id B
  unfold f_X1_follow at h
  refine lv_aload_n hx hb dX1_follow_0 rfl (lv_at hl 0 rfl) ?_
  refine wx_get (own := RX1) hx hb hts i_X1_follow_1 hown hC.1 Z (o := 13) (ci := 1) rfl (rfl : vwCl[1]? = some (RX1, TX1, 3)) 0 (by decide) (hts _ k_X1_follow_w0) (fun _ h9 => h9) (f := 0) rfl rfl dX1_follow_1 ?_
  refine lv_iconst (v := 0) hx hb dX1_follow_4 (by decide) ?_
  obtain ⟨v5, ev5, iv5, h⟩ := wx_rI_ok h
  refine wx_iald hx hb hC.1 Z (o := 13) (k := 0) (n := 4) rfl rfl iv5 dX1_follow_5 ev5 ?_
  refine lv_aload_n hx hb dX1_follow_6 rfl (lv_at hl 1 rfl) ?_
  refine lv_iconst (v := 0) hx hb dX1_follow_7 (by decide) ?_
  obtain ⟨v8, ev8, iv8, h⟩ := wx_rI_ok h
  refine wx_iald hx hb hC.1 Z (o := o1) (k := k1) (n := 4) (wx_hal hal hs1) rfl iv8 dX1_follow_8 ev8 ?_
  refine lv_icmp_ne (tgt := 37) hx hb dX1_follow_9 (by decide) (fun c9 => ?_) (fun c9 => ?_)
  · replace h := wx_iff c9 h
    exact b_X1_follow_37 B hs1 h Z hS (lv_sub hl [0, 1] rfl) hal
  · replace h := wx_ift c9 h
    refine lv_aload_n hx hb dX1_follow_12 rfl (lv_at hl 0 rfl) ?_
    refine wx_get (own := RX1) hx hb hts i_X1_follow_1 hown hC.1 Z (o := 13) (ci := 1) rfl (rfl : vwCl[1]? = some (RX1, TX1, 3)) 0 (by decide) (hts _ k_X1_follow_w0) (fun _ h9 => h9) (f := 0) rfl rfl dX1_follow_13 ?_
    refine lv_iconst (v := 1) hx hb dX1_follow_16 (by decide) ?_
    obtain ⟨v17, ev17, iv17, h⟩ := wx_rI_ok h
    refine wx_iald hx hb hC.1 Z (o := 13) (k := 0) (n := 4) rfl rfl iv17 dX1_follow_17 ev17 ?_
    refine lv_aload_n hx hb dX1_follow_18 rfl (lv_at hl 1 rfl) ?_
    refine lv_iconst (v := 1) hx hb dX1_follow_19 (by decide) ?_
    obtain ⟨v20, ev20, iv20, h⟩ := wx_rI_ok h
    refine wx_iald hx hb hC.1 Z (o := o1) (k := k1) (n := 4) (wx_hal hal hs1) rfl iv20 dX1_follow_20 ev20 ?_
    refine lv_icmp_ne (tgt := 37) hx hb dX1_follow_21 (by decide) (fun c21 => ?_) (fun c21 => ?_)
    · replace h := wx_iff c21 h
      exact b_X1_follow_37 B hs1 h Z hS (lv_sub hl [0, 1] rfl) hal
    · replace h := wx_ift c21 h
      refine lv_aload_n hx hb dX1_follow_24 rfl (lv_at hl 0 rfl) ?_
      refine wx_get (own := RX1) hx hb hts i_X1_follow_1 hown hC.1 Z (o := 13) (ci := 1) rfl (rfl : vwCl[1]? = some (RX1, TX1, 3)) 0 (by decide) (hts _ k_X1_follow_w0) (fun _ h9 => h9) (f := 0) rfl rfl dX1_follow_25 ?_
      refine lv_iconst (v := 2) hx hb dX1_follow_28 (by decide) ?_
      obtain ⟨v29, ev29, iv29, h⟩ := wx_rI_ok h
      refine wx_iald hx hb hC.1 Z (o := 13) (k := 0) (n := 4) rfl rfl iv29 dX1_follow_29 ev29 ?_
      refine lv_aload_n hx hb dX1_follow_30 rfl (lv_at hl 1 rfl) ?_
      refine lv_iconst (v := 2) hx hb dX1_follow_31 (by decide) ?_
      obtain ⟨v32, ev32, iv32, h⟩ := wx_rI_ok h
      refine wx_iald hx hb hC.1 Z (o := o1) (k := k1) (n := 4) (wx_hal hal hs1) rfl iv32 dX1_follow_32 ev32 ?_
      refine lv_icmp_ne (tgt := 37) hx hb dX1_follow_33 (by decide) (fun c33 => ?_) (fun c33 => ?_)
      · replace h := wx_iff c33 h
        exact b_X1_follow_37 B hs1 h Z hS (lv_sub hl [0, 1] rfl) hal
      · replace h := wx_ift c33 h
        obtain ⟨-, rfl⟩ := wx_ret_ok h
        exact W.vret hx hb hr (fun t ht hW => ⟨rfl, by rw [ht]; exact Z, hS.F ht⟩) hS.2.2 dX1_follow_36
set_option maxRecDepth 20000 in
theorem c_X1_follow (l : Launch) {D : va_G} {ad : Nat → Nat → Nat} {rd : Nat → Nat} {ca : Nat → ClassId} {A : Nat → Prop} {σ : wx_St} {o1 : Nat} {k1 : Nat} {al : Nat → Bool} (hs1 : wx_sh al o1 k1 = (1, 4)) (hal : σ.2.2.2.2 = al)   {σ' : wx_St} (h : f_X1_follow o1 k1 σ = some ((), σ')) : wx_M l yX1_follow wsX1_follow 1 26 D ad rd ca A [.ref (ad 13 99), .ref (wx_ad ad rd o1 k1)] σ none σ' := by
  refine Met.ofW (cc := cX1_follow) (maxL := 3) (ret := none) (by decide) rfl ?_
  intro p e s m args below meth c s₁ B0 hml hv
  obtain ⟨rfl, hC, Z, hA⟩ := hv
  have hl := lv_entry ([.ref (ad 13 99), .ref (wx_ad ad rd o1 k1)]) (n := 3) (Nat.le_of_ble_eq_true rfl)
  rw [lg_entry_eq]
  generalize (lg_sl ([.ref (ad 13 99), .ref (wx_ad ad rd o1 k1)]) ++ List.replicate (3 - (lg_sl ([.ref (ad 13 99), .ref (wx_ad ad rd o1 k1)])).length) Slot.unset).toArray = ls at hl ⊢
  exact b_X1_follow_0 ⟨B0.exec, B0.bytes, hml, B0.returns, atoms_spec (ws := wsX1_follow) B0.pre, findClass_of_methodNamed B0.named, B0.notSynchronized, hC, hA⟩ hs1 h Z va_S.rf hl hal
theorem k_J0_isLatin1_aae02_w0 : Cond.fieldLink RJ0 38 "java/lang/String" "COMPACT_STRINGS" "Z" ∈ wsJ0_isLatin1_aae02 := by decide +kernel
theorem k_J0_isLatin1_aae02_w1 : Cond.fieldLink RJ0 15 "java/lang/String" "coder" "B" ∈ wsJ0_isLatin1_aae02 := by decide +kernel
set_option maxRecDepth 20000 in
set_option maxHeartbeats 4000000 in
theorem b_J0_isLatin1_aae02_18 (B : wx_B p s m args meth c cJ0_isLatin1_aae02 1 (some .boolean) wsJ0_isLatin1_aae02 RJ0 D ad ca A) {i : Nat}  (hi : i < 5) {r : Int32} {σ : wx_St}  {y0 : Int32}   (h : f_J0_isLatin1_aae02_18 i y0 = some r) {H : Heap} {locs : List Loc} (Z : wx_Z D ad rd ca A σ H) (hS : va_S A s.heap H locs) {ls : Array Slot} (hl : lv_has ls 1 [(0, .ref (ad 18 i))]) : W p l e ({ frames := 0, cells := 0, slots := 0, locals := 0 } : Room) s m args below meth c H locs 0 0 (MQ below (wx_Q D ad rd ca A (some (.int r)) σ) args s 0 0 A) (F0 m 18 ls [.int y0]) := by
  obtain ⟨hx, hb, hml, hr, hts, hown, hlk, hC, hA⟩ := id B
  unfold f_J0_isLatin1_aae02_18 at h
  obtain ⟨hz, h⟩ := wx_z_ok h
  obtain rfl := Option.some.inj h
  exact W.zret hx hb hr (wx_nb hz) (fun t ht hW => ⟨rfl, by rw [ht]; exact Z, hS.F ht⟩) hS.2.2 dJ0_isLatin1_aae02_18
set_option maxRecDepth 20000 in
set_option maxHeartbeats 4000000 in
theorem b_J0_isLatin1_aae02_17 (B : wx_B p s m args meth c cJ0_isLatin1_aae02 1 (some .boolean) wsJ0_isLatin1_aae02 RJ0 D ad ca A) {i : Nat}  (hi : i < 5) {r : Int32} {σ : wx_St}     (h : f_J0_isLatin1_aae02_17 i = some r) {H : Heap} {locs : List Loc} (Z : wx_Z D ad rd ca A σ H) (hS : va_S A s.heap H locs) {ls : Array Slot} (hl : lv_has ls 1 [(0, .ref (ad 18 i))]) : W p l e ({ frames := 0, cells := 0, slots := 0, locals := 0 } : Room) s m args below meth c H locs 0 0 (MQ below (wx_Q D ad rd ca A (some (.int r)) σ) args s 0 0 A) (F0 m 17 ls []) := by
  obtain ⟨hx, hb, hml, hr, hts, hown, hlk, hC, hA⟩ := id B
  unfold f_J0_isLatin1_aae02_17 at h
  refine lv_iconst (v := 0) hx hb dJ0_isLatin1_aae02_17 (by decide) ?_
  exact b_J0_isLatin1_aae02_18 B hi h Z hS (lv_sub hl [0] rfl)
set_option maxRecDepth 20000 in
set_option maxHeartbeats 4000000 in
theorem b_J0_isLatin1_aae02_0 (B : wx_B p s m args meth c cJ0_isLatin1_aae02 1 (some .boolean) wsJ0_isLatin1_aae02 RJ0 D ad ca A) {i : Nat}  (hi : i < 5) {r : Int32} {σ : wx_St}     (h : f_J0_isLatin1_aae02 i = some r) {H : Heap} {locs : List Loc} (Z : wx_Z D ad rd ca A σ H) (hS : va_S A s.heap H locs) {ls : Array Slot} (hl : lv_has ls 1 [(0, .ref (ad 18 i))]) : W p l e ({ frames := 0, cells := 0, slots := 0, locals := 0 } : Room) s m args below meth c H locs 0 0 (MQ below (wx_Q D ad rd ca A (some (.int r)) σ) args s 0 0 A) (F0 m 0 ls []) := by
  obtain ⟨hx, hb, hml, hr, hts, hown, hlk, hC, hA⟩ := id B
  unfold f_J0_isLatin1_aae02 at h
  refine va_gets (own := RJ0) hx hb hC.2.1.2.2.1.1 hS hown (hts _ k_J0_isLatin1_aae02_w0) (fun _ h9 => h9) dJ0_isLatin1_aae02_0 ?_
  refine lv_if_eq (tgt := 17) hx hb dJ0_isLatin1_aae02_3 (by decide) (fun c3 => ?_) (fun c3 => ?_)
  · replace h := wx_ift c3 h
    exact b_J0_isLatin1_aae02_17 B hi h Z hS (lv_sub hl [0] rfl)
  · replace h := wx_iff c3 h
    refine lv_aload_n hx hb dJ0_isLatin1_aae02_6 rfl (lv_at hl 0 rfl) ?_
    refine vk_getf (own := RJ0) hx hb (hC.2.1.2.2.2.1 _ hi).2.1 hS hown (hts _ k_J0_isLatin1_aae02_w1) (fun _ h9 => h9) dJ0_isLatin1_aae02_7 ?_
    refine lv_if_ne (tgt := 17) hx hb dJ0_isLatin1_aae02_10 (by decide) (fun c10 => ?_) (fun c10 => ?_)
    · replace h := wx_iff c10 h
      exact b_J0_isLatin1_aae02_17 B hi h Z hS (lv_sub hl [0] rfl)
    · replace h := wx_ift c10 h
      refine lv_iconst (v := 1) hx hb dJ0_isLatin1_aae02_13 (by decide) ?_
      refine lv_goto (tgt := 18) hx hb dJ0_isLatin1_aae02_14 (by decide) ?_
      exact b_J0_isLatin1_aae02_18 B hi h Z hS (lv_sub hl [0] rfl)
set_option maxRecDepth 20000 in
theorem c_J0_isLatin1_aae02 (l : Launch) {D : va_G} {ad : Nat → Nat → Nat} {rd : Nat → Nat} {ca : Nat → ClassId} {A : Nat → Prop} {σ : wx_St} {i : Nat}  (hi : i < 5)  {r : Int32} (h : f_J0_isLatin1_aae02 i = some r) : wx_M l yJ0_isLatin1_aae02 wsJ0_isLatin1_aae02 0 0 D ad rd ca A [.ref (ad 18 i)] σ (some (.int r)) σ := by
  refine va_MetF (cc := cJ0_isLatin1_aae02) (maxL := 1) (ret := (some .boolean)) (by decide) rfl ?_
  intro p e s m args below meth c s₁ B0 hml hv
  obtain ⟨rfl, hC, Z, hA⟩ := hv
  have hl := lv_entry ([.ref (ad 18 i)]) (n := 1) (Nat.le_of_ble_eq_true rfl)
  rw [lg_entry_eq]
  generalize (lg_sl ([.ref (ad 18 i)]) ++ List.replicate (1 - (lg_sl ([.ref (ad 18 i)])).length) Slot.unset).toArray = ls at hl ⊢
  exact b_J0_isLatin1_aae02_0 ⟨B0.exec, B0.bytes, hml, B0.returns, atoms_spec (ws := wsJ0_isLatin1_aae02) B0.pre, findClass_of_methodNamed B0.named, B0.notSynchronized, hC, hA⟩ hi h Z va_S.rf hl
set_option maxRecDepth 20000 in
set_option maxHeartbeats 4000000 in
theorem b_J3_checkIndex_8e157n_9 (B : wx_B p s m args meth c cJ3_checkIndex_8e157 3 (some .int) wsJ3_checkIndex_8e157 RJ3 D ad ca A)    {r : Int32} {σ : wx_St}  {x0 : Int32} {x1 : Int32}   (h : f_J3_checkIndex_8e157_9 x0 x1 = some r) {H : Heap} {locs : List Loc} (Z : wx_Z D ad rd ca A σ H) (hS : va_S A s.heap H locs) {ls : Array Slot} (hl : lv_has ls 3 [(0, .int x0), (1, .int x1), (2, .null)]) : W p l e ({ frames := 0, cells := 0, slots := 0, locals := 0 } : Room) s m args below meth c H locs 0 0 (MQ below (wx_Q D ad rd ca A (some (.int r)) σ) args s 0 0 A) (F0 m 9 ls []) := by
  obtain ⟨hx, hb, hml, hr, hts, hown, hlk, hC, hA⟩ := id B
  unfold f_J3_checkIndex_8e157_9 at h
  exact wx_no h
set_option maxRecDepth 20000 in
set_option maxHeartbeats 4000000 in
theorem b_J3_checkIndex_8e157n_0 (B : wx_B p s m args meth c cJ3_checkIndex_8e157 3 (some .int) wsJ3_checkIndex_8e157 RJ3 D ad ca A)    {r : Int32} {σ : wx_St}  {x0 : Int32} {x1 : Int32}   (h : f_J3_checkIndex_8e157 x0 x1 = some r) {H : Heap} {locs : List Loc} (Z : wx_Z D ad rd ca A σ H) (hS : va_S A s.heap H locs) {ls : Array Slot} (hl : lv_has ls 3 [(0, .int x0), (1, .int x1), (2, .null)]) : W p l e ({ frames := 0, cells := 0, slots := 0, locals := 0 } : Room) s m args below meth c H locs 0 0 (MQ below (wx_Q D ad rd ca A (some (.int r)) σ) args s 0 0 A) (F0 m 0 ls []) := by
  obtain ⟨hx, hb, hml, hr, hts, hown, hlk, hC, hA⟩ := id B
  unfold f_J3_checkIndex_8e157 at h
  refine lv_iload_n hx hb dJ3_checkIndex_8e157_0 rfl (lv_at hl 0 rfl) ?_
  refine lv_if_lt (tgt := 9) hx hb dJ3_checkIndex_8e157_1 (by decide) (fun c1 => ?_) (fun c1 => ?_)
  · replace h := wx_ift c1 h
    exact b_J3_checkIndex_8e157n_9 B h Z hS (lv_sub hl [0, 1, 2] rfl)
  · replace h := wx_iff c1 h
    refine lv_iload_n hx hb dJ3_checkIndex_8e157_4 rfl (lv_at hl 0 rfl) ?_
    refine lv_iload_n hx hb dJ3_checkIndex_8e157_5 rfl (lv_at hl 1 rfl) ?_
    refine lv_icmp_lt (tgt := 16) hx hb dJ3_checkIndex_8e157_6 (by decide) (fun c6 => ?_) (fun c6 => ?_)
    · replace h := wx_ift c6 h
      refine lv_iload_n hx hb dJ3_checkIndex_8e157_16 rfl (lv_at hl 0 rfl) ?_
      obtain rfl := Option.some.inj h
      exact W.iret hx hb hr (fun t ht hW => ⟨rfl, by rw [ht]; exact Z, hS.F ht⟩) hS.2.2 dJ3_checkIndex_8e157_17
    · replace h := wx_iff c6 h
      exact b_J3_checkIndex_8e157n_9 B h Z hS (lv_sub hl [0, 1, 2] rfl)
set_option maxRecDepth 20000 in
theorem c_J3_checkIndex_8e157n (l : Launch) {D : va_G} {ad : Nat → Nat → Nat} {rd : Nat → Nat} {ca : Nat → ClassId} {A : Nat → Prop} {σ : wx_St}    {x0 : Int32} {x1 : Int32} {r : Int32} (h : f_J3_checkIndex_8e157 x0 x1 = some r) : wx_M l yJ3_checkIndex_8e157 wsJ3_checkIndex_8e157 0 0 D ad rd ca A [.int x0, .int x1, .null] σ (some (.int r)) σ := by
  refine va_MetF (cc := cJ3_checkIndex_8e157) (maxL := 3) (ret := (some .int)) (by decide) rfl ?_
  intro p e s m args below meth c s₁ B0 hml hv
  obtain ⟨rfl, hC, Z, hA⟩ := hv
  have hl := lv_entry ([.int x0, .int x1, .null]) (n := 3) (Nat.le_of_ble_eq_true rfl)
  rw [lg_entry_eq]
  generalize (lg_sl ([.int x0, .int x1, .null]) ++ List.replicate (3 - (lg_sl ([.int x0, .int x1, .null])).length) Slot.unset).toArray = ls at hl ⊢
  exact b_J3_checkIndex_8e157n_0 ⟨B0.exec, B0.bytes, hml, B0.returns, atoms_spec (ws := wsJ3_checkIndex_8e157) B0.pre, findClass_of_methodNamed B0.named, B0.notSynchronized, hC, hA⟩  h Z va_S.rf hl
set_option maxRecDepth 20000 in
set_option maxHeartbeats 4000000 in
theorem b_J3_checkIndex_8e157r_9 (B : wx_B p s m args meth c cJ3_checkIndex_8e157 3 (some .int) wsJ3_checkIndex_8e157 RJ3 D ad ca A) {t : Nat}    {r : Int32} {σ : wx_St}  {x0 : Int32} {x1 : Int32}   (h : f_J3_checkIndex_8e157_9 x0 x1 = some r) {H : Heap} {locs : List Loc} (Z : wx_Z D ad rd ca A σ H) (hS : va_S A s.heap H locs) {ls : Array Slot} (hl : lv_has ls 3 [(0, .int x0), (1, .int x1), (2, .ref t)]) : W p l e ({ frames := 0, cells := 0, slots := 0, locals := 0 } : Room) s m args below meth c H locs 0 0 (MQ below (wx_Q D ad rd ca A (some (.int r)) σ) args s 0 0 A) (F0 m 9 ls []) := by
  obtain ⟨hx, hb, hml, hr, hts, hown, hlk, hC, hA⟩ := id B
  unfold f_J3_checkIndex_8e157_9 at h
  exact wx_no h
set_option maxRecDepth 20000 in
set_option maxHeartbeats 4000000 in
theorem b_J3_checkIndex_8e157r_0 (B : wx_B p s m args meth c cJ3_checkIndex_8e157 3 (some .int) wsJ3_checkIndex_8e157 RJ3 D ad ca A) {t : Nat}    {r : Int32} {σ : wx_St}  {x0 : Int32} {x1 : Int32}   (h : f_J3_checkIndex_8e157 x0 x1 = some r) {H : Heap} {locs : List Loc} (Z : wx_Z D ad rd ca A σ H) (hS : va_S A s.heap H locs) {ls : Array Slot} (hl : lv_has ls 3 [(0, .int x0), (1, .int x1), (2, .ref t)]) : W p l e ({ frames := 0, cells := 0, slots := 0, locals := 0 } : Room) s m args below meth c H locs 0 0 (MQ below (wx_Q D ad rd ca A (some (.int r)) σ) args s 0 0 A) (F0 m 0 ls []) := by
  obtain ⟨hx, hb, hml, hr, hts, hown, hlk, hC, hA⟩ := id B
  unfold f_J3_checkIndex_8e157 at h
  refine lv_iload_n hx hb dJ3_checkIndex_8e157_0 rfl (lv_at hl 0 rfl) ?_
  refine lv_if_lt (tgt := 9) hx hb dJ3_checkIndex_8e157_1 (by decide) (fun c1 => ?_) (fun c1 => ?_)
  · replace h := wx_ift c1 h
    exact b_J3_checkIndex_8e157r_9 B h Z hS (lv_sub hl [0, 1, 2] rfl)
  · replace h := wx_iff c1 h
    refine lv_iload_n hx hb dJ3_checkIndex_8e157_4 rfl (lv_at hl 0 rfl) ?_
    refine lv_iload_n hx hb dJ3_checkIndex_8e157_5 rfl (lv_at hl 1 rfl) ?_
    refine lv_icmp_lt (tgt := 16) hx hb dJ3_checkIndex_8e157_6 (by decide) (fun c6 => ?_) (fun c6 => ?_)
    · replace h := wx_ift c6 h
      refine lv_iload_n hx hb dJ3_checkIndex_8e157_16 rfl (lv_at hl 0 rfl) ?_
      obtain rfl := Option.some.inj h
      exact W.iret hx hb hr (fun t ht hW => ⟨rfl, by rw [ht]; exact Z, hS.F ht⟩) hS.2.2 dJ3_checkIndex_8e157_17
    · replace h := wx_iff c6 h
      exact b_J3_checkIndex_8e157r_9 B h Z hS (lv_sub hl [0, 1, 2] rfl)
set_option maxRecDepth 20000 in
theorem c_J3_checkIndex_8e157r (l : Launch) {D : va_G} {ad : Nat → Nat → Nat} {rd : Nat → Nat} {ca : Nat → ClassId} {A : Nat → Prop} {σ : wx_St} {t : Nat} {t : Nat}    {x0 : Int32} {x1 : Int32} {r : Int32} (h : f_J3_checkIndex_8e157 x0 x1 = some r) : wx_M l yJ3_checkIndex_8e157 wsJ3_checkIndex_8e157 0 0 D ad rd ca A [.int x0, .int x1, .ref t] σ (some (.int r)) σ := by
  refine va_MetF (cc := cJ3_checkIndex_8e157) (maxL := 3) (ret := (some .int)) (by decide) rfl ?_
  intro p e s m args below meth c s₁ B0 hml hv
  obtain ⟨rfl, hC, Z, hA⟩ := hv
  have hl := lv_entry ([.int x0, .int x1, .ref t]) (n := 3) (Nat.le_of_ble_eq_true rfl)
  rw [lg_entry_eq]
  generalize (lg_sl ([.int x0, .int x1, .ref t]) ++ List.replicate (3 - (lg_sl ([.int x0, .int x1, .ref t])).length) Slot.unset).toArray = ls at hl ⊢
  exact b_J3_checkIndex_8e157r_0 ⟨B0.exec, B0.bytes, hml, B0.returns, atoms_spec (ws := wsJ3_checkIndex_8e157) B0.pre, findClass_of_methodNamed B0.named, B0.notSynchronized, hC, hA⟩  h Z va_S.rf hl
theorem k_J0_checkIndex_df160_w0 : Cond.fieldLink RJ0 1053 "jdk/internal/util/Preconditions" "SIOOBE_FORMATTER" "Ljava/util/function/BiFunction;" ∈ wsJ0_checkIndex_df160 := by decide +kernel
set_option maxRecDepth 20000 in
set_option maxHeartbeats 4000000 in
theorem b_J0_checkIndex_df160_0 (B : wx_B p s m args meth c cJ0_checkIndex_df160 2 none wsJ0_checkIndex_df160 RJ0 D ad ca A)     {σ : wx_St}  {x0 : Int32} {x1 : Int32}   (h : f_J0_checkIndex_df160 x0 x1 = some ()) {H : Heap} {locs : List Loc} (Z : wx_Z D ad rd ca A σ H) (hS : va_S A s.heap H locs) {ls : Array Slot} (hl : lv_has ls 2 [(0, .int x0), (1, .int x1)]) : W p l e ({ frames := 1, cells := 0, slots := 0, locals := 22 } : Room) s m args below meth c H locs 0 0 (MQ below (wx_Q D ad rd ca A none σ) args s 0 0 A) (F0 m 0 ls []) := by
  obtain ⟨hx, hb, hml, hr, hts, hown, hlk, hC, hA⟩ := id B
  unfold f_J0_checkIndex_df160 at h
  refine lv_iload_n hx hb dJ0_checkIndex_df160_0 rfl (lv_at hl 0 rfl) ?_
  refine lv_iload_n hx hb dJ0_checkIndex_df160_1 rfl (lv_at hl 1 rfl) ?_
  rcases hC.2.1.2.2.1.2 with hq | ⟨t, hq⟩
  · refine va_gets (own := RJ0) hx hb hq hS hown (hts _ k_J0_checkIndex_df160_w0) (fun _ h9 => h9) dJ0_checkIndex_df160_2 ?_
    obtain ⟨v5, hc5, h⟩ := wx_o_ok h
    refine wx_call (va_runS (As := [.int x0, .int x1, .null]) (rest := []) ⟨hx, hb, hml, hown, hts⟩ (c_J3_checkIndex_8e157n l (D := D) (ad := ad) (rd := rd) (ca := ca) (A := A) (σ := σ) hc5) (va_cwS 3 hts gJ0_checkIndex_df160_J3_checkIndex_8e157 rfl rfl rfl (by decide +kernel) ⟨Nat.le_of_ble_eq_true rfl, Nat.le_of_ble_eq_true rfl⟩) (wx_preS hC Z hS hA) rfl rfl hl.1 rfl (lv_room (Nat.le_of_ble_eq_true rfl)) dJ0_checkIndex_df160_5 ⟨Nat.zero_le _, Nat.zero_le _⟩) hS (fun H locs Z hS => ?_)
    refine lv_pop hx hb dJ0_checkIndex_df160_8 rfl ?_
    exact W.vret hx hb hr (fun t ht hW => ⟨rfl, by rw [ht]; exact Z, hS.F ht⟩) hS.2.2 dJ0_checkIndex_df160_9
  · refine va_gets (own := RJ0) hx hb hq hS hown (hts _ k_J0_checkIndex_df160_w0) (fun _ h9 => h9) dJ0_checkIndex_df160_2 ?_
    obtain ⟨v5, hc5, h⟩ := wx_o_ok h
    refine wx_call (va_runS (As := [.int x0, .int x1, .ref t]) (rest := []) ⟨hx, hb, hml, hown, hts⟩ (c_J3_checkIndex_8e157r l (D := D) (ad := ad) (rd := rd) (ca := ca) (A := A) (σ := σ) (t := t) hc5) (va_cwS 3 hts gJ0_checkIndex_df160_J3_checkIndex_8e157 rfl rfl rfl (by decide +kernel) ⟨Nat.le_of_ble_eq_true rfl, Nat.le_of_ble_eq_true rfl⟩) (wx_preS hC Z hS hA) rfl rfl hl.1 rfl (lv_room (Nat.le_of_ble_eq_true rfl)) dJ0_checkIndex_df160_5 ⟨Nat.zero_le _, Nat.zero_le _⟩) hS (fun H locs Z hS => ?_)
    refine lv_pop hx hb dJ0_checkIndex_df160_8 rfl ?_
    exact W.vret hx hb hr (fun t ht hW => ⟨rfl, by rw [ht]; exact Z, hS.F ht⟩) hS.2.2 dJ0_checkIndex_df160_9
set_option maxRecDepth 20000 in
theorem c_J0_checkIndex_df160 (l : Launch) {D : va_G} {ad : Nat → Nat → Nat} {rd : Nat → Nat} {ca : Nat → ClassId} {A : Nat → Prop} {σ : wx_St}    {x0 : Int32} {x1 : Int32}  (h : f_J0_checkIndex_df160 x0 x1 = some ()) : wx_M l yJ0_checkIndex_df160 wsJ0_checkIndex_df160 1 22 D ad rd ca A [.int x0, .int x1] σ none σ := by
  refine va_MetF (cc := cJ0_checkIndex_df160) (maxL := 2) (ret := none) (by decide) rfl ?_
  intro p e s m args below meth c s₁ B0 hml hv
  obtain ⟨rfl, hC, Z, hA⟩ := hv
  have hl := lv_entry ([.int x0, .int x1]) (n := 2) (Nat.le_of_ble_eq_true rfl)
  rw [lg_entry_eq]
  generalize (lg_sl ([.int x0, .int x1]) ++ List.replicate (2 - (lg_sl ([.int x0, .int x1])).length) Slot.unset).toArray = ls at hl ⊢
  exact b_J0_checkIndex_df160_0 ⟨B0.exec, B0.bytes, hml, B0.returns, atoms_spec (ws := wsJ0_checkIndex_df160) B0.pre, findClass_of_methodNamed B0.named, B0.notSynchronized, hC, hA⟩  h Z va_S.rf hl
set_option maxRecDepth 20000 in
set_option maxHeartbeats 4000000 in
theorem b_J1_charAt_3b067_0 (B : wx_B p s m args meth c cJ1_charAt_3b067 2 (some .char) wsJ1_charAt_3b067 RJ1 D ad ca A) {i : Nat}  (hi : i < 5) {r : Int32} {σ : wx_St}  {x1 : Int32}   (h : f_J1_charAt_3b067 i x1 = some r) {H : Heap} {locs : List Loc} (Z : wx_Z D ad rd ca A σ H) (hS : va_S A s.heap H locs) {ls : Array Slot} (hl : lv_has ls 2 [(0, .ref (ad 19 i)), (1, .int x1)]) : W p l e ({ frames := 2, cells := 0, slots := 0, locals := 43 } : Room) s m args below meth c H locs 0 0 (MQ below (wx_Q D ad rd ca A (some (.int r)) σ) args s 0 0 A) (F0 m 0 ls []) := by
  obtain ⟨hx, hb, hml, hr, hts, hown, hlk, hC, hA⟩ := id B
  unfold f_J1_charAt_3b067 at h
  refine lv_iload_n hx hb dJ1_charAt_3b067_0 rfl (lv_at hl 1 rfl) ?_
  refine lv_aload_n hx hb dJ1_charAt_3b067_1 rfl (lv_at hl 0 rfl) ?_
  refine va_tlen (v := (Int32.ofNat (wx_len.getD i 0))) hx hb (hC.2.1.2.2.2.1 _ hi).2.2.2 hS rfl dJ1_charAt_3b067_2 ?_
  obtain ⟨v3, hc3, h⟩ := wx_o_ok h
  refine wx_call (va_runS (As := [.int x1, .int (Int32.ofNat (wx_len.getD i 0))]) (rest := []) ⟨hx, hb, hml, hown, hts⟩ (c_J0_checkIndex_df160 l (D := D) (ad := ad) (rd := rd) (ca := ca) (A := A) (σ := σ) hc3) (va_cwS 2 hts gJ1_charAt_3b067_J0_checkIndex_df160 rfl rfl rfl (by decide +kernel) ⟨Nat.le_of_ble_eq_true rfl, Nat.le_of_ble_eq_true rfl⟩) (wx_preS hC Z hS hA) rfl rfl hl.1 rfl (lv_room (Nat.le_of_ble_eq_true rfl)) dJ1_charAt_3b067_3 ⟨Nat.zero_le _, Nat.zero_le _⟩) hS (fun H locs Z hS => ?_)
  refine lv_aload_n hx hb dJ1_charAt_3b067_6 rfl (lv_at hl 0 rfl) ?_
  refine lv_iload_n hx hb dJ1_charAt_3b067_7 rfl (lv_at hl 1 rfl) ?_
  obtain ⟨v8, ev8, iv8, h⟩ := wx_rT_ok h
  refine va_tb hx hb (hC.2.1.2.2.2.1 _ hi).2.2.2 hS (wx_in_vp iv8) (v := .int v8) (by rw [ev8]) dJ1_charAt_3b067_8 ?_
  refine lv_sipush (v := 255) hx hb dJ1_charAt_3b067_9 (by decide) ?_
  refine lv_iand hx hb dJ1_charAt_3b067_12 ?_
  refine lv_i2c (v := ((v8 &&& 255).toUInt32 % 65536).toInt32) hx hb dJ1_charAt_3b067_13 rfl ?_
  obtain ⟨hz, h⟩ := wx_zt_ok h
  obtain rfl := Option.some.inj h
  exact W.zret hx hb hr (wx_ntC hz) (fun t ht hW => ⟨rfl, by rw [ht]; exact Z, hS.F ht⟩) hS.2.2 dJ1_charAt_3b067_14
set_option maxRecDepth 20000 in
theorem c_J1_charAt_3b067 (l : Launch) {D : va_G} {ad : Nat → Nat → Nat} {rd : Nat → Nat} {ca : Nat → ClassId} {A : Nat → Prop} {σ : wx_St} {i : Nat}  (hi : i < 5) {x1 : Int32} {r : Int32} (h : f_J1_charAt_3b067 i x1 = some r) : wx_M l yJ1_charAt_3b067 wsJ1_charAt_3b067 2 43 D ad rd ca A [.ref (ad 19 i), .int x1] σ (some (.int r)) σ := by
  refine va_MetF (cc := cJ1_charAt_3b067) (maxL := 2) (ret := (some .char)) (by decide) rfl ?_
  intro p e s m args below meth c s₁ B0 hml hv
  obtain ⟨rfl, hC, Z, hA⟩ := hv
  have hl := lv_entry ([.ref (ad 19 i), .int x1]) (n := 2) (Nat.le_of_ble_eq_true rfl)
  rw [lg_entry_eq]
  generalize (lg_sl ([.ref (ad 19 i), .int x1]) ++ List.replicate (2 - (lg_sl ([.ref (ad 19 i), .int x1])).length) Slot.unset).toArray = ls at hl ⊢
  exact b_J1_charAt_3b067_0 ⟨B0.exec, B0.bytes, hml, B0.returns, atoms_spec (ws := wsJ1_charAt_3b067) B0.pre, findClass_of_methodNamed B0.named, B0.notSynchronized, hC, hA⟩ hi h Z va_S.rf hl
theorem k_J0_charAt_5068e_w0 : Cond.fieldLink RJ0 9 "java/lang/String" "value" "[B" ∈ wsJ0_charAt_5068e := by decide +kernel
set_option maxRecDepth 20000 in
set_option maxHeartbeats 4000000 in
theorem b_J0_charAt_5068e_0 (B : wx_B p s m args meth c cJ0_charAt_5068e 2 (some .char) wsJ0_charAt_5068e RJ0 D ad ca A) {i : Nat}  (hi : i < 5) {r : Int32} {σ : wx_St}  {x1 : Int32}   (h : f_J0_charAt_5068e i x1 = some r) {H : Heap} {locs : List Loc} (Z : wx_Z D ad rd ca A σ H) (hS : va_S A s.heap H locs) {ls : Array Slot} (hl : lv_has ls 2 [(0, .ref (ad 18 i)), (1, .int x1)]) : W p l e ({ frames := 3, cells := 0, slots := 0, locals := 64 } : Room) s m args below meth c H locs 0 0 (MQ below (wx_Q D ad rd ca A (some (.int r)) σ) args s 0 0 A) (F0 m 0 ls []) := by
  obtain ⟨hx, hb, hml, hr, hts, hown, hlk, hC, hA⟩ := id B
  unfold f_J0_charAt_5068e at h
  refine lv_aload_n hx hb dJ0_charAt_5068e_0 rfl (lv_at hl 0 rfl) ?_
  obtain ⟨v1, hc1, h⟩ := wx_o_ok h
  refine wx_call (va_runV (As := []) (rest := []) ⟨hx, hb, hml, hown, hts⟩ (c_J0_isLatin1_aae02 l (D := D) (ad := ad) (rd := rd) (ca := ca) (A := A) (σ := σ) (i := i) hi hc1) (cwV 0 hts gJ0_charAt_5068e_J0_isLatin1_aae02 rfl rfl rfl (by decide +kernel) ⟨Nat.le_of_ble_eq_true rfl, Nat.le_of_ble_eq_true rfl⟩) (wx_preVS hC Z hS hA hi) rfl rfl hl.1 rfl (lv_room (Nat.le_of_ble_eq_true rfl)) dJ0_charAt_5068e_1 ⟨Nat.zero_le _, Nat.zero_le _⟩) hS (fun H locs Z hS => ?_)
  refine lv_if_eq (tgt := 16) hx hb dJ0_charAt_5068e_4 (by decide) (fun c4 => ?_) (fun c4 => ?_)
  · replace h := wx_ift c4 h
    exact wx_no h
  · replace h := wx_iff c4 h
    refine lv_aload_n hx hb dJ0_charAt_5068e_7 rfl (lv_at hl 0 rfl) ?_
    refine vk_getf (own := RJ0) hx hb (hC.2.1.2.2.2.1 _ hi).2.2.1 hS hown (hts _ k_J0_charAt_5068e_w0) (fun _ h9 => h9) dJ0_charAt_5068e_8 ?_
    refine lv_iload_n hx hb dJ0_charAt_5068e_11 rfl (lv_at hl 1 rfl) ?_
    obtain ⟨v12, hc12, h⟩ := wx_o_ok h
    refine wx_call (va_runS (As := [.ref (ad 19 i), .int x1]) (rest := []) ⟨hx, hb, hml, hown, hts⟩ (c_J1_charAt_3b067 l (D := D) (ad := ad) (rd := rd) (ca := ca) (A := A) (σ := σ) (i := i) hi hc12) (va_cwS 2 hts gJ0_charAt_5068e_J1_charAt_3b067 rfl rfl rfl (by decide +kernel) ⟨Nat.le_of_ble_eq_true rfl, Nat.le_of_ble_eq_true rfl⟩) (wx_preS hC Z hS hA) rfl rfl hl.1 rfl (lv_room (Nat.le_of_ble_eq_true rfl)) dJ0_charAt_5068e_12 ⟨Nat.zero_le _, Nat.zero_le _⟩) hS (fun H locs Z hS => ?_)
    obtain ⟨hz, h⟩ := wx_zt_ok h
    obtain rfl := Option.some.inj h
    exact W.zret hx hb hr (wx_ntC hz) (fun t ht hW => ⟨rfl, by rw [ht]; exact Z, hS.F ht⟩) hS.2.2 dJ0_charAt_5068e_15
set_option maxRecDepth 20000 in
theorem c_J0_charAt_5068e (l : Launch) {D : va_G} {ad : Nat → Nat → Nat} {rd : Nat → Nat} {ca : Nat → ClassId} {A : Nat → Prop} {σ : wx_St} {i : Nat}  (hi : i < 5) {x1 : Int32} {r : Int32} (h : f_J0_charAt_5068e i x1 = some r) : wx_M l yJ0_charAt_5068e wsJ0_charAt_5068e 3 64 D ad rd ca A [.ref (ad 18 i), .int x1] σ (some (.int r)) σ := by
  refine va_MetF (cc := cJ0_charAt_5068e) (maxL := 2) (ret := (some .char)) (by decide) rfl ?_
  intro p e s m args below meth c s₁ B0 hml hv
  obtain ⟨rfl, hC, Z, hA⟩ := hv
  have hl := lv_entry ([.ref (ad 18 i), .int x1]) (n := 2) (Nat.le_of_ble_eq_true rfl)
  rw [lg_entry_eq]
  generalize (lg_sl ([.ref (ad 18 i), .int x1]) ++ List.replicate (2 - (lg_sl ([.ref (ad 18 i), .int x1])).length) Slot.unset).toArray = ls at hl ⊢
  exact b_J0_charAt_5068e_0 ⟨B0.exec, B0.bytes, hml, B0.returns, atoms_spec (ws := wsJ0_charAt_5068e) B0.pre, findClass_of_methodNamed B0.named, B0.notSynchronized, hC, hA⟩ hi h Z va_S.rf hl
theorem k_J0_coder_7d493_w0 : Cond.fieldLink RJ0 38 "java/lang/String" "COMPACT_STRINGS" "Z" ∈ wsJ0_coder_7d493 := by decide +kernel
theorem k_J0_coder_7d493_w1 : Cond.fieldLink RJ0 15 "java/lang/String" "coder" "B" ∈ wsJ0_coder_7d493 := by decide +kernel
set_option maxRecDepth 20000 in
set_option maxHeartbeats 4000000 in
theorem b_J0_coder_7d493_14 (B : wx_B p s m args meth c cJ0_coder_7d493 1 (some .byte) wsJ0_coder_7d493 RJ0 D ad ca A) {i : Nat}  (hi : i < 5) {r : Int32} {σ : wx_St}  {y0 : Int32}   (h : f_J0_coder_7d493_14 i y0 = some r) {H : Heap} {locs : List Loc} (Z : wx_Z D ad rd ca A σ H) (hS : va_S A s.heap H locs) {ls : Array Slot} (hl : lv_has ls 1 [(0, .ref (ad 18 i))]) : W p l e ({ frames := 0, cells := 0, slots := 0, locals := 0 } : Room) s m args below meth c H locs 0 0 (MQ below (wx_Q D ad rd ca A (some (.int r)) σ) args s 0 0 A) (F0 m 14 ls [.int y0]) := by
  obtain ⟨hx, hb, hml, hr, hts, hown, hlk, hC, hA⟩ := id B
  unfold f_J0_coder_7d493_14 at h
  obtain ⟨hz, h⟩ := wx_zt_ok h
  obtain rfl := Option.some.inj h
  exact W.zret hx hb hr (wx_ntB hz) (fun t ht hW => ⟨rfl, by rw [ht]; exact Z, hS.F ht⟩) hS.2.2 dJ0_coder_7d493_14
set_option maxRecDepth 20000 in
set_option maxHeartbeats 4000000 in
theorem b_J0_coder_7d493_0 (B : wx_B p s m args meth c cJ0_coder_7d493 1 (some .byte) wsJ0_coder_7d493 RJ0 D ad ca A) {i : Nat}  (hi : i < 5) {r : Int32} {σ : wx_St}     (h : f_J0_coder_7d493 i = some r) {H : Heap} {locs : List Loc} (Z : wx_Z D ad rd ca A σ H) (hS : va_S A s.heap H locs) {ls : Array Slot} (hl : lv_has ls 1 [(0, .ref (ad 18 i))]) : W p l e ({ frames := 0, cells := 0, slots := 0, locals := 0 } : Room) s m args below meth c H locs 0 0 (MQ below (wx_Q D ad rd ca A (some (.int r)) σ) args s 0 0 A) (F0 m 0 ls []) := by
  obtain ⟨hx, hb, hml, hr, hts, hown, hlk, hC, hA⟩ := id B
  unfold f_J0_coder_7d493 at h
  refine va_gets (own := RJ0) hx hb hC.2.1.2.2.1.1 hS hown (hts _ k_J0_coder_7d493_w0) (fun _ h9 => h9) dJ0_coder_7d493_0 ?_
  refine lv_if_eq (tgt := 13) hx hb dJ0_coder_7d493_3 (by decide) (fun c3 => ?_) (fun c3 => ?_)
  · replace h := wx_ift c3 h
    refine lv_iconst (v := 1) hx hb dJ0_coder_7d493_13 (by decide) ?_
    exact b_J0_coder_7d493_14 B hi h Z hS (lv_sub hl [0] rfl)
  · replace h := wx_iff c3 h
    refine lv_aload_n hx hb dJ0_coder_7d493_6 rfl (lv_at hl 0 rfl) ?_
    refine vk_getf (own := RJ0) hx hb (hC.2.1.2.2.2.1 _ hi).2.1 hS hown (hts _ k_J0_coder_7d493_w1) (fun _ h9 => h9) dJ0_coder_7d493_7 ?_
    refine lv_goto (tgt := 14) hx hb dJ0_coder_7d493_10 (by decide) ?_
    exact b_J0_coder_7d493_14 B hi h Z hS (lv_sub hl [0] rfl)
set_option maxRecDepth 20000 in
theorem c_J0_coder_7d493 (l : Launch) {D : va_G} {ad : Nat → Nat → Nat} {rd : Nat → Nat} {ca : Nat → ClassId} {A : Nat → Prop} {σ : wx_St} {i : Nat}  (hi : i < 5)  {r : Int32} (h : f_J0_coder_7d493 i = some r) : wx_M l yJ0_coder_7d493 wsJ0_coder_7d493 0 0 D ad rd ca A [.ref (ad 18 i)] σ (some (.int r)) σ := by
  refine va_MetF (cc := cJ0_coder_7d493) (maxL := 1) (ret := (some .byte)) (by decide) rfl ?_
  intro p e s m args below meth c s₁ B0 hml hv
  obtain ⟨rfl, hC, Z, hA⟩ := hv
  have hl := lv_entry ([.ref (ad 18 i)]) (n := 1) (Nat.le_of_ble_eq_true rfl)
  rw [lg_entry_eq]
  generalize (lg_sl ([.ref (ad 18 i)]) ++ List.replicate (1 - (lg_sl ([.ref (ad 18 i)])).length) Slot.unset).toArray = ls at hl ⊢
  exact b_J0_coder_7d493_0 ⟨B0.exec, B0.bytes, hml, B0.returns, atoms_spec (ws := wsJ0_coder_7d493) B0.pre, findClass_of_methodNamed B0.named, B0.notSynchronized, hC, hA⟩ hi h Z va_S.rf hl
theorem k_J0_length_8abf5_w0 : Cond.fieldLink RJ0 9 "java/lang/String" "value" "[B" ∈ wsJ0_length_8abf5 := by decide +kernel
set_option maxRecDepth 20000 in
set_option maxHeartbeats 4000000 in
theorem b_J0_length_8abf5_0 (B : wx_B p s m args meth c cJ0_length_8abf5 1 (some .int) wsJ0_length_8abf5 RJ0 D ad ca A) {i : Nat}  (hi : i < 5) {r : Int32} {σ : wx_St}     (h : f_J0_length_8abf5 i = some r) {H : Heap} {locs : List Loc} (Z : wx_Z D ad rd ca A σ H) (hS : va_S A s.heap H locs) {ls : Array Slot} (hl : lv_has ls 1 [(0, .ref (ad 18 i))]) : W p l e ({ frames := 1, cells := 0, slots := 0, locals := 20 } : Room) s m args below meth c H locs 0 0 (MQ below (wx_Q D ad rd ca A (some (.int r)) σ) args s 0 0 A) (F0 m 0 ls []) := by
  obtain ⟨hx, hb, hml, hr, hts, hown, hlk, hC, hA⟩ := id B
  unfold f_J0_length_8abf5 at h
  refine lv_aload_n hx hb dJ0_length_8abf5_0 rfl (lv_at hl 0 rfl) ?_
  refine vk_getf (own := RJ0) hx hb (hC.2.1.2.2.2.1 _ hi).2.2.1 hS hown (hts _ k_J0_length_8abf5_w0) (fun _ h9 => h9) dJ0_length_8abf5_1 ?_
  refine va_tlen (v := (Int32.ofNat (wx_len.getD i 0))) hx hb (hC.2.1.2.2.2.1 _ hi).2.2.2 hS rfl dJ0_length_8abf5_4 ?_
  refine lv_aload_n hx hb dJ0_length_8abf5_5 rfl (lv_at hl 0 rfl) ?_
  obtain ⟨v6, hc6, h⟩ := wx_o_ok h
  refine wx_call (va_runV (As := []) (rest := [.int (Int32.ofNat (wx_len.getD i 0))]) ⟨hx, hb, hml, hown, hts⟩ (c_J0_coder_7d493 l (D := D) (ad := ad) (rd := rd) (ca := ca) (A := A) (σ := σ) (i := i) hi hc6) (cwV 0 hts gJ0_length_8abf5_J0_coder_7d493 rfl rfl rfl (by decide +kernel) ⟨Nat.le_of_ble_eq_true rfl, Nat.le_of_ble_eq_true rfl⟩) (wx_preVS hC Z hS hA hi) rfl rfl hl.1 rfl (lv_room (Nat.le_of_ble_eq_true rfl)) dJ0_length_8abf5_6 ⟨Nat.zero_le _, Nat.zero_le _⟩) hS (fun H locs Z hS => ?_)
  refine lv_ishr hx hb dJ0_length_8abf5_9 ?_
  obtain rfl := Option.some.inj h
  exact W.iret hx hb hr (fun t ht hW => ⟨rfl, by rw [ht]; exact Z, hS.F ht⟩) hS.2.2 dJ0_length_8abf5_10
set_option maxRecDepth 20000 in
theorem c_J0_length_8abf5 (l : Launch) {D : va_G} {ad : Nat → Nat → Nat} {rd : Nat → Nat} {ca : Nat → ClassId} {A : Nat → Prop} {σ : wx_St} {i : Nat}  (hi : i < 5)  {r : Int32} (h : f_J0_length_8abf5 i = some r) : wx_M l yJ0_length_8abf5 wsJ0_length_8abf5 1 20 D ad rd ca A [.ref (ad 18 i)] σ (some (.int r)) σ := by
  refine va_MetF (cc := cJ0_length_8abf5) (maxL := 1) (ret := (some .int)) (by decide) rfl ?_
  intro p e s m args below meth c s₁ B0 hml hv
  obtain ⟨rfl, hC, Z, hA⟩ := hv
  have hl := lv_entry ([.ref (ad 18 i)]) (n := 1) (Nat.le_of_ble_eq_true rfl)
  rw [lg_entry_eq]
  generalize (lg_sl ([.ref (ad 18 i)]) ++ List.replicate (1 - (lg_sl ([.ref (ad 18 i)])).length) Slot.unset).toArray = ls at hl ⊢
  exact b_J0_length_8abf5_0 ⟨B0.exec, B0.bytes, hml, B0.returns, atoms_spec (ws := wsJ0_length_8abf5) B0.pre, findClass_of_methodNamed B0.named, B0.notSynchronized, hC, hA⟩ hi h Z va_S.rf hl
theorem i_X2_codeAt_2 : ∀ w ∈ wsX20, w ∈ wsX2_codeAt := by decide +kernel
theorem k_X2_codeAt_w0 : Cond.fieldLink RX2 15 "WarmProbes$Pad" "length" "I" ∈ wsX2_codeAt := by decide +kernel
theorem k_X2_codeAt_w1 : Cond.fieldLink RX2 9 "WarmProbes$Pad" "codes" "[I" ∈ wsX2_codeAt := by decide +kernel
set_option maxRecDepth 20000 in
set_option maxHeartbeats 4000000 in
theorem b_X2_codeAt_22 (B : wx_B p s m args meth c cX2_codeAt 2 (some .int) wsX2_codeAt RX2 D ad ca A)    {r : Int32} {σ : wx_St}  {x1 : Int32} {y0 : Int32}   (h : f_X2_codeAt_22 x1 y0 σ = some r) {H : Heap} {locs : List Loc} (Z : wx_Z D ad rd ca A σ H) (hS : va_S A s.heap H locs) {ls : Array Slot} (hl : lv_has ls 2 [(0, .ref (ad 15 99)), (1, .int x1)]) : W p l e ({ frames := 0, cells := 0, slots := 0, locals := 0 } : Room) s m args below meth c H locs 0 0 (MQ below (wx_Q D ad rd ca A (some (.int r)) σ) args s 0 0 A) (F0 m 22 ls [.int y0]) := by
  obtain ⟨hx, hb, hml, hr, hts, hown, hlk, hC, hA⟩ := id B
  unfold f_X2_codeAt_22 at h
  obtain rfl := Option.some.inj h
  exact W.iret hx hb hr (fun t ht hW => ⟨rfl, by rw [ht]; exact Z, hS.F ht⟩) hS.2.2 dX2_codeAt_22
set_option maxRecDepth 20000 in
set_option maxHeartbeats 4000000 in
theorem b_X2_codeAt_21 (B : wx_B p s m args meth c cX2_codeAt 2 (some .int) wsX2_codeAt RX2 D ad ca A)    {r : Int32} {σ : wx_St}  {x1 : Int32}   (h : f_X2_codeAt_21 x1 σ = some r) {H : Heap} {locs : List Loc} (Z : wx_Z D ad rd ca A σ H) (hS : va_S A s.heap H locs) {ls : Array Slot} (hl : lv_has ls 2 [(0, .ref (ad 15 99)), (1, .int x1)]) : W p l e ({ frames := 0, cells := 0, slots := 0, locals := 0 } : Room) s m args below meth c H locs 0 0 (MQ below (wx_Q D ad rd ca A (some (.int r)) σ) args s 0 0 A) (F0 m 21 ls []) := by
  obtain ⟨hx, hb, hml, hr, hts, hown, hlk, hC, hA⟩ := id B
  unfold f_X2_codeAt_21 at h
  refine lv_iconst (v := 0) hx hb dX2_codeAt_21 (by decide) ?_
  exact b_X2_codeAt_22 B h Z hS (lv_sub hl [0, 1] rfl)
set_option maxRecDepth 20000 in
set_option maxHeartbeats 4000000 in
theorem b_X2_codeAt_0 (B : wx_B p s m args meth c cX2_codeAt 2 (some .int) wsX2_codeAt RX2 D ad ca A)    {r : Int32} {σ : wx_St}  {x1 : Int32}   (h : f_X2_codeAt x1 σ = some r) {H : Heap} {locs : List Loc} (Z : wx_Z D ad rd ca A σ H) (hS : va_S A s.heap H locs) {ls : Array Slot} (hl : lv_has ls 2 [(0, .ref (ad 15 99)), (1, .int x1)]) : W p l e ({ frames := 0, cells := 0, slots := 0, locals := 0 } : Room) s m args below meth c H locs 0 0 (MQ below (wx_Q D ad rd ca A (some (.int r)) σ) args s 0 0 A) (F0 m 0 ls []) := by
  obtain ⟨hx, hb, hml, hr, hts, hown, hlk, hC, hA⟩ := id B
  unfold f_X2_codeAt at h
  refine lv_iload_n hx hb dX2_codeAt_0 rfl (lv_at hl 1 rfl) ?_
  refine lv_if_lt (tgt := 21) hx hb dX2_codeAt_1 (by decide) (fun c1 => ?_) (fun c1 => ?_)
  · replace h := wx_ift c1 h
    exact b_X2_codeAt_21 B h Z hS (lv_sub hl [0, 1] rfl)
  · replace h := wx_iff c1 h
    refine lv_iload_n hx hb dX2_codeAt_4 rfl (lv_at hl 1 rfl) ?_
    refine lv_aload_n hx hb dX2_codeAt_5 rfl (lv_at hl 0 rfl) ?_
    refine wx_get (own := RX2) hx hb hts i_X2_codeAt_2 hown hC.1 Z (o := 15) (ci := 2) rfl (rfl : vwCl[2]? = some (RX2, TX2, 2)) 1 (by decide) (hts _ k_X2_codeAt_w0) (fun _ h9 => h9) (f := 1) rfl rfl dX2_codeAt_6 ?_
    refine lv_icmp_ge (tgt := 21) hx hb dX2_codeAt_9 (by decide) (fun c9 => ?_) (fun c9 => ?_)
    · replace h := wx_ift c9 h
      exact b_X2_codeAt_21 B h Z hS (lv_sub hl [0, 1] rfl)
    · replace h := wx_iff c9 h
      refine lv_aload_n hx hb dX2_codeAt_12 rfl (lv_at hl 0 rfl) ?_
      refine wx_get (own := RX2) hx hb hts i_X2_codeAt_2 hown hC.1 Z (o := 15) (ci := 2) rfl (rfl : vwCl[2]? = some (RX2, TX2, 2)) 0 (by decide) (hts _ k_X2_codeAt_w1) (fun _ h9 => h9) (f := 0) rfl rfl dX2_codeAt_13 ?_
      refine lv_iload_n hx hb dX2_codeAt_16 rfl (lv_at hl 1 rfl) ?_
      obtain ⟨v17, ev17, iv17, h⟩ := wx_rI_ok h
      refine wx_iald hx hb hC.1 Z (o := 15) (k := 0) (n := 80) rfl rfl iv17 dX2_codeAt_17 ev17 ?_
      refine lv_goto (tgt := 22) hx hb dX2_codeAt_18 (by decide) ?_
      exact b_X2_codeAt_22 B h Z hS (lv_sub hl [0, 1] rfl)
set_option maxRecDepth 20000 in
theorem c_X2_codeAt (l : Launch) {D : va_G} {ad : Nat → Nat → Nat} {rd : Nat → Nat} {ca : Nat → ClassId} {A : Nat → Prop} {σ : wx_St}    {x1 : Int32} {r : Int32} (h : f_X2_codeAt x1 σ = some r) : wx_M l yX2_codeAt wsX2_codeAt 0 0 D ad rd ca A [.ref (ad 15 99), .int x1] σ (some (.int r)) σ := by
  refine Met.ofW (cc := cX2_codeAt) (maxL := 2) (ret := (some .int)) (by decide) rfl ?_
  intro p e s m args below meth c s₁ B0 hml hv
  obtain ⟨rfl, hC, Z, hA⟩ := hv
  have hl := lv_entry ([.ref (ad 15 99), .int x1]) (n := 2) (Nat.le_of_ble_eq_true rfl)
  rw [lg_entry_eq]
  generalize (lg_sl ([.ref (ad 15 99), .int x1]) ++ List.replicate (2 - (lg_sl ([.ref (ad 15 99), .int x1])).length) Slot.unset).toArray = ls at hl ⊢
  exact b_X2_codeAt_0 ⟨B0.exec, B0.bytes, hml, B0.returns, atoms_spec (ws := wsX2_codeAt) B0.pre, findClass_of_methodNamed B0.named, B0.notSynchronized, hC, hA⟩  h Z va_S.rf hl
set_option maxRecDepth 20000 in
set_option maxHeartbeats 4000000 in
theorem b_X2_isColumn_25 (B : wx_B p s m args meth c cX2_isColumn 2 (some .boolean) wsX2_isColumn RX2 D ad ca A)    {r : Int32} {σ : wx_St}  {x1 : Int32} {y0 : Int32}   (h : f_X2_isColumn_25 x1 y0 σ = some r) {H : Heap} {locs : List Loc} (Z : wx_Z D ad rd ca A σ H) (hS : va_S A s.heap H locs) {ls : Array Slot} (hl : lv_has ls 2 [(0, .ref (ad 15 99)), (1, .int x1)]) : W p l e ({ frames := 1, cells := 0, slots := 0, locals := 21 } : Room) s m args below meth c H locs 0 0 (MQ below (wx_Q D ad rd ca A (some (.int r)) σ) args s 0 0 A) (F0 m 25 ls [.int y0]) := by
  obtain ⟨hx, hb, hml, hr, hts, hown, hlk, hC, hA⟩ := id B
  unfold f_X2_isColumn_25 at h
  obtain ⟨hz, h⟩ := wx_z_ok h
  obtain rfl := Option.some.inj h
  exact W.zret hx hb hr (wx_nb hz) (fun t ht hW => ⟨rfl, by rw [ht]; exact Z, hS.F ht⟩) hS.2.2 dX2_isColumn_25
set_option maxRecDepth 20000 in
set_option maxHeartbeats 4000000 in
theorem b_X2_isColumn_24 (B : wx_B p s m args meth c cX2_isColumn 2 (some .boolean) wsX2_isColumn RX2 D ad ca A)    {r : Int32} {σ : wx_St}  {x1 : Int32}   (h : f_X2_isColumn_24 x1 σ = some r) {H : Heap} {locs : List Loc} (Z : wx_Z D ad rd ca A σ H) (hS : va_S A s.heap H locs) {ls : Array Slot} (hl : lv_has ls 2 [(0, .ref (ad 15 99)), (1, .int x1)]) : W p l e ({ frames := 1, cells := 0, slots := 0, locals := 21 } : Room) s m args below meth c H locs 0 0 (MQ below (wx_Q D ad rd ca A (some (.int r)) σ) args s 0 0 A) (F0 m 24 ls []) := by
  obtain ⟨hx, hb, hml, hr, hts, hown, hlk, hC, hA⟩ := id B
  unfold f_X2_isColumn_24 at h
  refine lv_iconst (v := 0) hx hb dX2_isColumn_24 (by decide) ?_
  exact b_X2_isColumn_25 B h Z hS (lv_sub hl [0, 1] rfl)
set_option maxRecDepth 20000 in
set_option maxHeartbeats 4000000 in
theorem b_X2_isColumn_0 (B : wx_B p s m args meth c cX2_isColumn 2 (some .boolean) wsX2_isColumn RX2 D ad ca A)    {r : Int32} {σ : wx_St}  {x1 : Int32}   (h : f_X2_isColumn x1 σ = some r) {H : Heap} {locs : List Loc} (Z : wx_Z D ad rd ca A σ H) (hS : va_S A s.heap H locs) {ls : Array Slot} (hl : lv_has ls 2 [(0, .ref (ad 15 99)), (1, .int x1)]) : W p l e ({ frames := 1, cells := 0, slots := 0, locals := 21 } : Room) s m args below meth c H locs 0 0 (MQ below (wx_Q D ad rd ca A (some (.int r)) σ) args s 0 0 A) (F0 m 0 ls []) := by
  obtain ⟨hx, hb, hml, hr, hts, hown, hlk, hC, hA⟩ := id B
  unfold f_X2_isColumn at h
  refine lv_aload_n hx hb dX2_isColumn_0 rfl (lv_at hl 0 rfl) ?_
  refine lv_iload_n hx hb dX2_isColumn_1 rfl (lv_at hl 1 rfl) ?_
  obtain ⟨v2, hc2, h⟩ := wx_o_ok h
  refine wx_call (va_runV (As := [.int x1]) (rest := []) ⟨hx, hb, hml, hown, hts⟩ (c_X2_codeAt l (D := D) (ad := ad) (rd := rd) (ca := ca) (A := A) (σ := σ) hc2) (cwV 1 hts gX2_isColumn_X2_codeAt rfl rfl rfl (by decide +kernel) ⟨Nat.le_of_ble_eq_true rfl, Nat.le_of_ble_eq_true rfl⟩) (wx_preV hC Z hS hA rfl (rfl : vwCl[2]? = some (RX2, TX2, 2))) rfl rfl hl.1 rfl (lv_room (Nat.le_of_ble_eq_true rfl)) dX2_isColumn_2 ⟨Nat.zero_le _, Nat.zero_le _⟩) hS (fun H locs Z hS => ?_)
  refine lv_bipush (v := 97) hx hb dX2_isColumn_5 (by decide) ?_
  refine lv_icmp_lt (tgt := 24) hx hb dX2_isColumn_7 (by decide) (fun c7 => ?_) (fun c7 => ?_)
  · replace h := wx_ift c7 h
    exact b_X2_isColumn_24 B h Z hS (lv_sub hl [0, 1] rfl)
  · replace h := wx_iff c7 h
    refine lv_aload_n hx hb dX2_isColumn_10 rfl (lv_at hl 0 rfl) ?_
    refine lv_iload_n hx hb dX2_isColumn_11 rfl (lv_at hl 1 rfl) ?_
    obtain ⟨v12, hc12, h⟩ := wx_o_ok h
    refine wx_call (va_runV (As := [.int x1]) (rest := []) ⟨hx, hb, hml, hown, hts⟩ (c_X2_codeAt l (D := D) (ad := ad) (rd := rd) (ca := ca) (A := A) (σ := σ) hc12) (cwV 1 hts gX2_isColumn_X2_codeAt rfl rfl rfl (by decide +kernel) ⟨Nat.le_of_ble_eq_true rfl, Nat.le_of_ble_eq_true rfl⟩) (wx_preV hC Z hS hA rfl (rfl : vwCl[2]? = some (RX2, TX2, 2))) rfl rfl hl.1 rfl (lv_room (Nat.le_of_ble_eq_true rfl)) dX2_isColumn_12 ⟨Nat.zero_le _, Nat.zero_le _⟩) hS (fun H locs Z hS => ?_)
    refine lv_bipush (v := 104) hx hb dX2_isColumn_15 (by decide) ?_
    refine lv_icmp_gt (tgt := 24) hx hb dX2_isColumn_17 (by decide) (fun c17 => ?_) (fun c17 => ?_)
    · replace h := wx_ift c17 h
      exact b_X2_isColumn_24 B h Z hS (lv_sub hl [0, 1] rfl)
    · replace h := wx_iff c17 h
      refine lv_iconst (v := 1) hx hb dX2_isColumn_20 (by decide) ?_
      refine lv_goto (tgt := 25) hx hb dX2_isColumn_21 (by decide) ?_
      exact b_X2_isColumn_25 B h Z hS (lv_sub hl [0, 1] rfl)
set_option maxRecDepth 20000 in
theorem c_X2_isColumn (l : Launch) {D : va_G} {ad : Nat → Nat → Nat} {rd : Nat → Nat} {ca : Nat → ClassId} {A : Nat → Prop} {σ : wx_St}    {x1 : Int32} {r : Int32} (h : f_X2_isColumn x1 σ = some r) : wx_M l yX2_isColumn wsX2_isColumn 1 21 D ad rd ca A [.ref (ad 15 99), .int x1] σ (some (.int r)) σ := by
  refine Met.ofW (cc := cX2_isColumn) (maxL := 2) (ret := (some .boolean)) (by decide) rfl ?_
  intro p e s m args below meth c s₁ B0 hml hv
  obtain ⟨rfl, hC, Z, hA⟩ := hv
  have hl := lv_entry ([.ref (ad 15 99), .int x1]) (n := 2) (Nat.le_of_ble_eq_true rfl)
  rw [lg_entry_eq]
  generalize (lg_sl ([.ref (ad 15 99), .int x1]) ++ List.replicate (2 - (lg_sl ([.ref (ad 15 99), .int x1])).length) Slot.unset).toArray = ls at hl ⊢
  exact b_X2_isColumn_0 ⟨B0.exec, B0.bytes, hml, B0.returns, atoms_spec (ws := wsX2_isColumn) B0.pre, findClass_of_methodNamed B0.named, B0.notSynchronized, hC, hA⟩  h Z va_S.rf hl
set_option maxRecDepth 20000 in
set_option maxHeartbeats 4000000 in
theorem b_X2_isDigit_25 (B : wx_B p s m args meth c cX2_isDigit 2 (some .boolean) wsX2_isDigit RX2 D ad ca A)    {r : Int32} {σ : wx_St}  {x1 : Int32} {y0 : Int32}   (h : f_X2_isDigit_25 x1 y0 σ = some r) {H : Heap} {locs : List Loc} (Z : wx_Z D ad rd ca A σ H) (hS : va_S A s.heap H locs) {ls : Array Slot} (hl : lv_has ls 2 [(0, .ref (ad 15 99)), (1, .int x1)]) : W p l e ({ frames := 1, cells := 0, slots := 0, locals := 21 } : Room) s m args below meth c H locs 0 0 (MQ below (wx_Q D ad rd ca A (some (.int r)) σ) args s 0 0 A) (F0 m 25 ls [.int y0]) := by
  obtain ⟨hx, hb, hml, hr, hts, hown, hlk, hC, hA⟩ := id B
  unfold f_X2_isDigit_25 at h
  obtain ⟨hz, h⟩ := wx_z_ok h
  obtain rfl := Option.some.inj h
  exact W.zret hx hb hr (wx_nb hz) (fun t ht hW => ⟨rfl, by rw [ht]; exact Z, hS.F ht⟩) hS.2.2 dX2_isDigit_25
set_option maxRecDepth 20000 in
set_option maxHeartbeats 4000000 in
theorem b_X2_isDigit_24 (B : wx_B p s m args meth c cX2_isDigit 2 (some .boolean) wsX2_isDigit RX2 D ad ca A)    {r : Int32} {σ : wx_St}  {x1 : Int32}   (h : f_X2_isDigit_24 x1 σ = some r) {H : Heap} {locs : List Loc} (Z : wx_Z D ad rd ca A σ H) (hS : va_S A s.heap H locs) {ls : Array Slot} (hl : lv_has ls 2 [(0, .ref (ad 15 99)), (1, .int x1)]) : W p l e ({ frames := 1, cells := 0, slots := 0, locals := 21 } : Room) s m args below meth c H locs 0 0 (MQ below (wx_Q D ad rd ca A (some (.int r)) σ) args s 0 0 A) (F0 m 24 ls []) := by
  obtain ⟨hx, hb, hml, hr, hts, hown, hlk, hC, hA⟩ := id B
  unfold f_X2_isDigit_24 at h
  refine lv_iconst (v := 0) hx hb dX2_isDigit_24 (by decide) ?_
  exact b_X2_isDigit_25 B h Z hS (lv_sub hl [0, 1] rfl)
set_option maxRecDepth 20000 in
set_option maxHeartbeats 4000000 in
theorem b_X2_isDigit_0 (B : wx_B p s m args meth c cX2_isDigit 2 (some .boolean) wsX2_isDigit RX2 D ad ca A)    {r : Int32} {σ : wx_St}  {x1 : Int32}   (h : f_X2_isDigit x1 σ = some r) {H : Heap} {locs : List Loc} (Z : wx_Z D ad rd ca A σ H) (hS : va_S A s.heap H locs) {ls : Array Slot} (hl : lv_has ls 2 [(0, .ref (ad 15 99)), (1, .int x1)]) : W p l e ({ frames := 1, cells := 0, slots := 0, locals := 21 } : Room) s m args below meth c H locs 0 0 (MQ below (wx_Q D ad rd ca A (some (.int r)) σ) args s 0 0 A) (F0 m 0 ls []) := by
  obtain ⟨hx, hb, hml, hr, hts, hown, hlk, hC, hA⟩ := id B
  unfold f_X2_isDigit at h
  refine lv_aload_n hx hb dX2_isDigit_0 rfl (lv_at hl 0 rfl) ?_
  refine lv_iload_n hx hb dX2_isDigit_1 rfl (lv_at hl 1 rfl) ?_
  obtain ⟨v2, hc2, h⟩ := wx_o_ok h
  refine wx_call (va_runV (As := [.int x1]) (rest := []) ⟨hx, hb, hml, hown, hts⟩ (c_X2_codeAt l (D := D) (ad := ad) (rd := rd) (ca := ca) (A := A) (σ := σ) hc2) (cwV 1 hts gX2_isDigit_X2_codeAt rfl rfl rfl (by decide +kernel) ⟨Nat.le_of_ble_eq_true rfl, Nat.le_of_ble_eq_true rfl⟩) (wx_preV hC Z hS hA rfl (rfl : vwCl[2]? = some (RX2, TX2, 2))) rfl rfl hl.1 rfl (lv_room (Nat.le_of_ble_eq_true rfl)) dX2_isDigit_2 ⟨Nat.zero_le _, Nat.zero_le _⟩) hS (fun H locs Z hS => ?_)
  refine lv_bipush (v := 48) hx hb dX2_isDigit_5 (by decide) ?_
  refine lv_icmp_lt (tgt := 24) hx hb dX2_isDigit_7 (by decide) (fun c7 => ?_) (fun c7 => ?_)
  · replace h := wx_ift c7 h
    exact b_X2_isDigit_24 B h Z hS (lv_sub hl [0, 1] rfl)
  · replace h := wx_iff c7 h
    refine lv_aload_n hx hb dX2_isDigit_10 rfl (lv_at hl 0 rfl) ?_
    refine lv_iload_n hx hb dX2_isDigit_11 rfl (lv_at hl 1 rfl) ?_
    obtain ⟨v12, hc12, h⟩ := wx_o_ok h
    refine wx_call (va_runV (As := [.int x1]) (rest := []) ⟨hx, hb, hml, hown, hts⟩ (c_X2_codeAt l (D := D) (ad := ad) (rd := rd) (ca := ca) (A := A) (σ := σ) hc12) (cwV 1 hts gX2_isDigit_X2_codeAt rfl rfl rfl (by decide +kernel) ⟨Nat.le_of_ble_eq_true rfl, Nat.le_of_ble_eq_true rfl⟩) (wx_preV hC Z hS hA rfl (rfl : vwCl[2]? = some (RX2, TX2, 2))) rfl rfl hl.1 rfl (lv_room (Nat.le_of_ble_eq_true rfl)) dX2_isDigit_12 ⟨Nat.zero_le _, Nat.zero_le _⟩) hS (fun H locs Z hS => ?_)
    refine lv_bipush (v := 57) hx hb dX2_isDigit_15 (by decide) ?_
    refine lv_icmp_gt (tgt := 24) hx hb dX2_isDigit_17 (by decide) (fun c17 => ?_) (fun c17 => ?_)
    · replace h := wx_ift c17 h
      exact b_X2_isDigit_24 B h Z hS (lv_sub hl [0, 1] rfl)
    · replace h := wx_iff c17 h
      refine lv_iconst (v := 1) hx hb dX2_isDigit_20 (by decide) ?_
      refine lv_goto (tgt := 25) hx hb dX2_isDigit_21 (by decide) ?_
      exact b_X2_isDigit_25 B h Z hS (lv_sub hl [0, 1] rfl)
set_option maxRecDepth 20000 in
theorem c_X2_isDigit (l : Launch) {D : va_G} {ad : Nat → Nat → Nat} {rd : Nat → Nat} {ca : Nat → ClassId} {A : Nat → Prop} {σ : wx_St}    {x1 : Int32} {r : Int32} (h : f_X2_isDigit x1 σ = some r) : wx_M l yX2_isDigit wsX2_isDigit 1 21 D ad rd ca A [.ref (ad 15 99), .int x1] σ (some (.int r)) σ := by
  refine Met.ofW (cc := cX2_isDigit) (maxL := 2) (ret := (some .boolean)) (by decide) rfl ?_
  intro p e s m args below meth c s₁ B0 hml hv
  obtain ⟨rfl, hC, Z, hA⟩ := hv
  have hl := lv_entry ([.ref (ad 15 99), .int x1]) (n := 2) (Nat.le_of_ble_eq_true rfl)
  rw [lg_entry_eq]
  generalize (lg_sl ([.ref (ad 15 99), .int x1]) ++ List.replicate (2 - (lg_sl ([.ref (ad 15 99), .int x1])).length) Slot.unset).toArray = ls at hl ⊢
  exact b_X2_isDigit_0 ⟨B0.exec, B0.bytes, hml, B0.returns, atoms_spec (ws := wsX2_isDigit) B0.pre, findClass_of_methodNamed B0.named, B0.notSynchronized, hC, hA⟩  h Z va_S.rf hl
set_option maxRecDepth 20000 in
set_option maxHeartbeats 4000000 in
theorem b_X2_endOf_68 (B : wx_B p s m args meth c cX2_endOf 6 (some .int) wsX2_endOf RX2 D ad ca A) {i : Nat}  (hi : i < 5) {r : Int32} {σ : wx_St} {K2 : Int32 → Int32 → wx_St → Option Int32} (hK2 : ∀ {x2 : Int32} {x3 : Int32}   (h : K2 x2 x3 σ = some r) {H : Heap} {locs : List Loc} (Z : wx_Z D ad rd ca A σ H) (hS : va_S A s.heap H locs) {ls : Array Slot} (hl : lv_has ls 6 [(0, .ref (ad 15 99)), (1, .ref (ad 18 i)), (2, .int x2), (3, .int x3)]), W p l e ({ frames := 4, cells := 0, slots := 0, locals := 85 } : Room) s m args below meth c H locs 0 0 (MQ below (wx_Q D ad rd ca A (some (.int r)) σ) args s 0 0 A) (F0 m 2 ls [])) {x2 : Int32} {x3 : Int32} {x4 : Int32} {y0 : Int32}   (h : f_X2_endOf_68 i K2 x2 x3 x4 y0 σ = some r) {H : Heap} {locs : List Loc} (Z : wx_Z D ad rd ca A σ H) (hS : va_S A s.heap H locs) {ls : Array Slot} (hl : lv_has ls 6 [(0, .ref (ad 15 99)), (1, .ref (ad 18 i)), (2, .int x2), (3, .int x3), (4, .int x4)]) : W p l e ({ frames := 4, cells := 0, slots := 0, locals := 85 } : Room) s m args below meth c H locs 0 0 (MQ below (wx_Q D ad rd ca A (some (.int r)) σ) args s 0 0 A) (F0 m 68 ls [.int y0]) := by
  obtain ⟨hx, hb, hml, hr, hts, hown, hlk, hC, hA⟩ := id B
  unfold f_X2_endOf_68 at h
  refine lv_istore (lv' := [(5, .int y0), (0, .ref (ad 15 99)), (1, .ref (ad 18 i)), (2, .int x2), (3, .int x3), (4, .int x4)]) hx hb dX2_endOf_68 hl (by decide) rfl (fun ls hl => ?_)
  refine lv_iload hx hb dX2_endOf_70 (lv_at hl 0 rfl) ?_
  refine lv_if_ne (tgt := 81) hx hb dX2_endOf_72 (by decide) (fun c72 => ?_) (fun c72 => ?_)
  · replace h := wx_iff c72 h
    refine lv_iinc (v := x3 + 1) (lv' := [(3, .int (x3 + 1)), (5, .int y0), (0, .ref (ad 15 99)), (1, .ref (ad 18 i)), (2, .int x2), (4, .int x4)]) hx hb dX2_endOf_81 hl (k := 4) rfl rfl (by decide) rfl (fun ls hl => ?_)
    refine lv_goto (tgt := 2) hx hb dX2_endOf_84 (by decide) ?_
    exact hK2 h Z hS (lv_sub hl [2, 3, 4, 0] rfl)
  · replace h := wx_ift c72 h
    refine lv_iload_n hx hb dX2_endOf_75 rfl (lv_at hl 3 rfl) ?_
    refine lv_iload_n hx hb dX2_endOf_76 rfl (lv_at hl 4 rfl) ?_
    refine lv_iadd hx hb dX2_endOf_77 ?_
    refine lv_iconst (v := (-1)) hx hb dX2_endOf_78 (by decide) ?_
    refine lv_ixor hx hb dX2_endOf_79 ?_
    obtain rfl := Option.some.inj h
    exact W.iret hx hb hr (fun t ht hW => ⟨rfl, by rw [ht]; exact Z, hS.F ht⟩) hS.2.2 dX2_endOf_80
set_option maxRecDepth 20000 in
set_option maxHeartbeats 4000000 in
theorem b_X2_endOf_2 (B : wx_B p s m args meth c cX2_endOf 6 (some .int) wsX2_endOf RX2 D ad ca A) {i : Nat}  (hi : i < 5) {r : Int32} {σ : wx_St}   :
    ∀ {n : Nat} {x2 : Int32} {x3 : Int32}   (h : f_X2_endOf_2 i n x2 x3 σ = some r) {H : Heap} {locs : List Loc} (Z : wx_Z D ad rd ca A σ H) (hS : va_S A s.heap H locs) {ls : Array Slot} (hl : lv_has ls 6 [(0, .ref (ad 15 99)), (1, .ref (ad 18 i)), (2, .int x2), (3, .int x3)]), W p l e ({ frames := 4, cells := 0, slots := 0, locals := 85 } : Room) s m args below meth c H locs 0 0 (MQ below (wx_Q D ad rd ca A (some (.int r)) σ) args s 0 0 A) (F0 m 2 ls []) := by
  obtain ⟨hx, hb, hml, hr, hts, hown, hlk, hC, hA⟩ := id B
  intro n
  induction n with
  | zero => intro x2 x3   h H locs Z hS ls hl; exact wx_no h
  | succ n ih =>
    intro x2 x3   h H locs Z hS ls hl
    rw [f_X2_endOf_2] at h
    refine lv_iload_n hx hb dX2_endOf_2 rfl (lv_at hl 3 rfl) ?_
    refine lv_aload_n hx hb dX2_endOf_3 rfl (lv_at hl 1 rfl) ?_
    obtain ⟨v4, hc4, h⟩ := wx_o_ok h
    refine wx_call (va_runV (As := []) (rest := [.int x3]) ⟨hx, hb, hml, hown, hts⟩ (c_J0_length_8abf5 l (D := D) (ad := ad) (rd := rd) (ca := ca) (A := A) (σ := σ) (i := i) hi hc4) (cwV 0 hts gX2_endOf_J0_length_8abf5 rfl rfl rfl (by decide +kernel) ⟨Nat.le_of_ble_eq_true rfl, Nat.le_of_ble_eq_true rfl⟩) (wx_preVS hC Z hS hA hi) rfl rfl hl.1 rfl (lv_room (Nat.le_of_ble_eq_true rfl)) dX2_endOf_4 ⟨Nat.zero_le _, Nat.zero_le _⟩) hS (fun H locs Z hS => ?_)
    refine lv_icmp_ge (tgt := 87) hx hb dX2_endOf_7 (by decide) (fun c7 => ?_) (fun c7 => ?_)
    · replace h := wx_ift c7 h
      refine lv_iload_n hx hb dX2_endOf_87 rfl (lv_at hl 2 rfl) ?_
      refine lv_aload_n hx hb dX2_endOf_88 rfl (lv_at hl 1 rfl) ?_
      obtain ⟨v89, hc89, h⟩ := wx_o_ok h
      refine wx_call (va_runV (As := []) (rest := [.int x2]) ⟨hx, hb, hml, hown, hts⟩ (c_J0_length_8abf5 l (D := D) (ad := ad) (rd := rd) (ca := ca) (A := A) (σ := σ) (i := i) hi hc89) (cwV 0 hts gX2_endOf_J0_length_8abf5 rfl rfl rfl (by decide +kernel) ⟨Nat.le_of_ble_eq_true rfl, Nat.le_of_ble_eq_true rfl⟩) (wx_preVS hC Z hS hA hi) rfl rfl hl.1 rfl (lv_room (Nat.le_of_ble_eq_true rfl)) dX2_endOf_89 ⟨Nat.zero_le _, Nat.zero_le _⟩) hS (fun H locs Z hS => ?_)
      refine lv_iadd hx hb dX2_endOf_92 ?_
      obtain rfl := Option.some.inj h
      exact W.iret hx hb hr (fun t ht hW => ⟨rfl, by rw [ht]; exact Z, hS.F ht⟩) hS.2.2 dX2_endOf_93
    · replace h := wx_iff c7 h
      refine lv_aload_n hx hb dX2_endOf_10 rfl (lv_at hl 1 rfl) ?_
      refine lv_iload_n hx hb dX2_endOf_11 rfl (lv_at hl 3 rfl) ?_
      obtain ⟨v12, hc12, h⟩ := wx_o_ok h
      refine wx_call (va_runV (As := [.int x3]) (rest := []) ⟨hx, hb, hml, hown, hts⟩ (c_J0_charAt_5068e l (D := D) (ad := ad) (rd := rd) (ca := ca) (A := A) (σ := σ) (i := i) hi hc12) (cwV 1 hts gX2_endOf_J0_charAt_5068e rfl rfl rfl (by decide +kernel) ⟨Nat.le_of_ble_eq_true rfl, Nat.le_of_ble_eq_true rfl⟩) (wx_preVS hC Z hS hA hi) rfl rfl hl.1 rfl (lv_room (Nat.le_of_ble_eq_true rfl)) dX2_endOf_12 ⟨Nat.zero_le _, Nat.zero_le _⟩) hS (fun H locs Z hS => ?_)
      refine lv_istore (lv' := [(4, .int v12), (0, .ref (ad 15 99)), (1, .ref (ad 18 i)), (2, .int x2), (3, .int x3)]) hx hb dX2_endOf_15 hl (by decide) rfl (fun ls hl => ?_)
      refine lv_iload hx hb dX2_endOf_17 (lv_at hl 0 rfl) ?_
      refine lv_bipush (v := 100) hx hb dX2_endOf_19 (by decide) ?_
      refine lv_icmp_ne (tgt := 34) hx hb dX2_endOf_21 (by decide) (fun c21 => ?_) (fun c21 => ?_)
      · replace h := wx_iff c21 h
        refine lv_iload hx hb dX2_endOf_34 (lv_at hl 0 rfl) ?_
        refine lv_bipush (v := 99) hx hb dX2_endOf_36 (by decide) ?_
        refine lv_icmp_ne (tgt := 51) hx hb dX2_endOf_38 (by decide) (fun c38 => ?_) (fun c38 => ?_)
        · replace h := wx_iff c38 h
          refine lv_aload_n hx hb dX2_endOf_51 rfl (lv_at hl 1 rfl) ?_
          refine lv_iload_n hx hb dX2_endOf_52 rfl (lv_at hl 3 rfl) ?_
          refine lv_iload_n hx hb dX2_endOf_53 rfl (lv_at hl 4 rfl) ?_
          refine lv_iadd hx hb dX2_endOf_54 ?_
          obtain ⟨v55, hc55, h⟩ := wx_o_ok h
          refine wx_call (va_runV (As := [.int (x2 + x3)]) (rest := []) ⟨hx, hb, hml, hown, hts⟩ (c_X2_codeAt l (D := D) (ad := ad) (rd := rd) (ca := ca) (A := A) (σ := σ) hc55) (cwV 1 hts gX2_endOf_X2_codeAt rfl rfl rfl (by decide +kernel) ⟨Nat.le_of_ble_eq_true rfl, Nat.le_of_ble_eq_true rfl⟩) (wx_preV hC Z hS hA rfl (rfl : vwCl[2]? = some (RX2, TX2, 2))) rfl rfl hl.1 rfl (lv_room (Nat.le_of_ble_eq_true rfl)) dX2_endOf_55 ⟨Nat.zero_le _, Nat.zero_le _⟩) hS (fun H locs Z hS => ?_)
          refine lv_iload hx hb dX2_endOf_58 (lv_at hl 0 rfl) ?_
          refine lv_icmp_ne (tgt := 67) hx hb dX2_endOf_60 (by decide) (fun c60 => ?_) (fun c60 => ?_)
          · replace h := wx_iff c60 h
            refine lv_iconst (v := 0) hx hb dX2_endOf_67 (by decide) ?_
            exact b_X2_endOf_68 B hi (K2 := (f_X2_endOf_2 i n)) @ih h Z hS (lv_sub hl [1, 2, 3, 4, 0] rfl)
          · replace h := wx_ift c60 h
            refine lv_iconst (v := 1) hx hb dX2_endOf_63 (by decide) ?_
            refine lv_goto (tgt := 68) hx hb dX2_endOf_64 (by decide) ?_
            exact b_X2_endOf_68 B hi (K2 := (f_X2_endOf_2 i n)) @ih h Z hS (lv_sub hl [1, 2, 3, 4, 0] rfl)
        · replace h := wx_ift c38 h
          refine lv_aload_n hx hb dX2_endOf_41 rfl (lv_at hl 1 rfl) ?_
          refine lv_iload_n hx hb dX2_endOf_42 rfl (lv_at hl 3 rfl) ?_
          refine lv_iload_n hx hb dX2_endOf_43 rfl (lv_at hl 4 rfl) ?_
          refine lv_iadd hx hb dX2_endOf_44 ?_
          obtain ⟨v45, hc45, h⟩ := wx_o_ok h
          refine wx_call (va_runV (As := [.int (x2 + x3)]) (rest := []) ⟨hx, hb, hml, hown, hts⟩ (c_X2_isColumn l (D := D) (ad := ad) (rd := rd) (ca := ca) (A := A) (σ := σ) hc45) (cwV 1 hts gX2_endOf_X2_isColumn rfl rfl rfl (by decide +kernel) ⟨Nat.le_of_ble_eq_true rfl, Nat.le_of_ble_eq_true rfl⟩) (wx_preV hC Z hS hA rfl (rfl : vwCl[2]? = some (RX2, TX2, 2))) rfl rfl hl.1 rfl (lv_room (Nat.le_of_ble_eq_true rfl)) dX2_endOf_45 ⟨Nat.zero_le _, Nat.zero_le _⟩) hS (fun H locs Z hS => ?_)
          refine lv_goto (tgt := 68) hx hb dX2_endOf_48 (by decide) ?_
          exact b_X2_endOf_68 B hi (K2 := (f_X2_endOf_2 i n)) @ih h Z hS (lv_sub hl [1, 2, 3, 4, 0] rfl)
      · replace h := wx_ift c21 h
        refine lv_aload_n hx hb dX2_endOf_24 rfl (lv_at hl 1 rfl) ?_
        refine lv_iload_n hx hb dX2_endOf_25 rfl (lv_at hl 3 rfl) ?_
        refine lv_iload_n hx hb dX2_endOf_26 rfl (lv_at hl 4 rfl) ?_
        refine lv_iadd hx hb dX2_endOf_27 ?_
        obtain ⟨v28, hc28, h⟩ := wx_o_ok h
        refine wx_call (va_runV (As := [.int (x2 + x3)]) (rest := []) ⟨hx, hb, hml, hown, hts⟩ (c_X2_isDigit l (D := D) (ad := ad) (rd := rd) (ca := ca) (A := A) (σ := σ) hc28) (cwV 1 hts gX2_endOf_X2_isDigit rfl rfl rfl (by decide +kernel) ⟨Nat.le_of_ble_eq_true rfl, Nat.le_of_ble_eq_true rfl⟩) (wx_preV hC Z hS hA rfl (rfl : vwCl[2]? = some (RX2, TX2, 2))) rfl rfl hl.1 rfl (lv_room (Nat.le_of_ble_eq_true rfl)) dX2_endOf_28 ⟨Nat.zero_le _, Nat.zero_le _⟩) hS (fun H locs Z hS => ?_)
        refine lv_goto (tgt := 68) hx hb dX2_endOf_31 (by decide) ?_
        exact b_X2_endOf_68 B hi (K2 := (f_X2_endOf_2 i n)) @ih h Z hS (lv_sub hl [1, 2, 3, 4, 0] rfl)
set_option maxRecDepth 20000 in
set_option maxHeartbeats 4000000 in
theorem b_X2_endOf_0 (B : wx_B p s m args meth c cX2_endOf 6 (some .int) wsX2_endOf RX2 D ad ca A) {i : Nat}  (hi : i < 5) {r : Int32} {σ : wx_St}  {x2 : Int32}   (h : f_X2_endOf i x2 σ = some r) {H : Heap} {locs : List Loc} (Z : wx_Z D ad rd ca A σ H) (hS : va_S A s.heap H locs) {ls : Array Slot} (hl : lv_has ls 6 [(0, .ref (ad 15 99)), (1, .ref (ad 18 i)), (2, .int x2)]) : W p l e ({ frames := 4, cells := 0, slots := 0, locals := 85 } : Room) s m args below meth c H locs 0 0 (MQ below (wx_Q D ad rd ca A (some (.int r)) σ) args s 0 0 A) (F0 m 0 ls []) := by
  obtain ⟨hx, hb, hml, hr, hts, hown, hlk, hC, hA⟩ := id B
  unfold f_X2_endOf at h
  refine lv_iconst (v := 0) hx hb dX2_endOf_0 (by decide) ?_
  refine lv_istore_n (lv' := [(3, .int 0), (0, .ref (ad 15 99)), (1, .ref (ad 18 i)), (2, .int x2)]) hx hb dX2_endOf_1 rfl hl (by decide) rfl (fun ls hl => ?_)
  exact b_X2_endOf_2 B hi h Z hS (lv_sub hl [1, 2, 3, 0] rfl)
set_option maxRecDepth 20000 in
theorem c_X2_endOf (l : Launch) {D : va_G} {ad : Nat → Nat → Nat} {rd : Nat → Nat} {ca : Nat → ClassId} {A : Nat → Prop} {σ : wx_St} {i : Nat}  (hi : i < 5) {x2 : Int32} {r : Int32} (h : f_X2_endOf i x2 σ = some r) : wx_M l yX2_endOf wsX2_endOf 4 85 D ad rd ca A [.ref (ad 15 99), .ref (ad 18 i), .int x2] σ (some (.int r)) σ := by
  refine Met.ofW (cc := cX2_endOf) (maxL := 6) (ret := (some .int)) (by decide) rfl ?_
  intro p e s m args below meth c s₁ B0 hml hv
  obtain ⟨rfl, hC, Z, hA⟩ := hv
  have hl := lv_entry ([.ref (ad 15 99), .ref (ad 18 i), .int x2]) (n := 6) (Nat.le_of_ble_eq_true rfl)
  rw [lg_entry_eq]
  generalize (lg_sl ([.ref (ad 15 99), .ref (ad 18 i), .int x2]) ++ List.replicate (6 - (lg_sl ([.ref (ad 15 99), .ref (ad 18 i), .int x2])).length) Slot.unset).toArray = ls at hl ⊢
  exact b_X2_endOf_0 ⟨B0.exec, B0.bytes, hml, B0.returns, atoms_spec (ws := wsX2_endOf) B0.pre, findClass_of_methodNamed B0.named, B0.notSynchronized, hC, hA⟩ hi h Z va_S.rf hl
theorem i_X0_beginRun_0 : ∀ w ∈ wsX00, w ∈ wsX0_beginRun := by decide +kernel
theorem k_X0_beginRun_w0 : Cond.fieldLink RX0 31 "WarmProbes$Board" "steps" "I" ∈ wsX0_beginRun := by decide +kernel
theorem k_X0_beginRun_w1 : Cond.fieldLink RX0 41 "WarmProbes$Board" "readings" "I" ∈ wsX0_beginRun := by decide +kernel
theorem k_X0_beginRun_w2 : Cond.fieldLink RX0 34 "WarmProbes$Board" "warmth" "[F" ∈ wsX0_beginRun := by decide +kernel
set_option maxRecDepth 20000 in
set_option maxHeartbeats 4000000 in
theorem b_X0_beginRun_12 (B : wx_B p s m args meth c cX0_beginRun 2 none wsX0_beginRun RX0 D ad ca A) {o : Nat}  (ho : o < 11)  {σ' : wx_St}   :
    ∀ {n : Nat} {x1 : Int32}  {σ : wx_St} (h : f_X0_beginRun_12 o n x1 σ = some ((), σ')) {H : Heap} {locs : List Loc} (Z : wx_Z D ad rd ca A σ H) (hS : va_S A s.heap H locs) {ls : Array Slot} (hl : lv_has ls 2 [(0, .ref (ad o 99)), (1, .int x1)]), W p l e ({ frames := 0, cells := 0, slots := 0, locals := 0 } : Room) s m args below meth c H locs 0 0 (MQ below (wx_Q D ad rd ca A none σ') args s 0 0 A) (F0 m 12 ls []) := by
  obtain ⟨hx, hb, hml, hr, hts, hown, hlk, hC, hA⟩ := id B
  intro n
  induction n with
  | zero => intro x1  σ h H locs Z hS ls hl; exact wx_no h
  | succ n ih =>
    intro x1  σ h H locs Z hS ls hl
    rw [f_X0_beginRun_12] at h
    refine lv_iload_n hx hb dX0_beginRun_12 rfl (lv_at hl 1 rfl) ?_
    refine lv_bipush (v := 64) hx hb dX0_beginRun_13 (by decide) ?_
    refine lv_icmp_ge (tgt := 31) hx hb dX0_beginRun_15 (by decide) (fun c15 => ?_) (fun c15 => ?_)
    · replace h := wx_ift c15 h
      obtain ⟨-, rfl⟩ := wx_ret_ok h
      exact W.vret hx hb hr (fun t ht hW => ⟨rfl, by rw [ht]; exact Z, hS.F ht⟩) hS.2.2 dX0_beginRun_31
    · replace h := wx_iff c15 h
      refine lv_aload_n hx hb dX0_beginRun_18 rfl (lv_at hl 0 rfl) ?_
      refine wx_get (own := RX0) hx hb hts i_X0_beginRun_0 hown hC.1 Z (o := o) (ci := 0) (wx_sbo ho 99) (rfl : vwCl[0]? = some (RX0, TX0, 13)) 7 (by decide) (hts _ k_X0_beginRun_w2) (fun _ h9 => h9) (f := 0) rfl rfl dX0_beginRun_19 ?_
      refine lv_iload_n hx hb dX0_beginRun_22 rfl (lv_at hl 1 rfl) ?_
      refine lv_fconst0 hx hb dX0_beginRun_23 ?_
      obtain ⟨σ24, e24, i24, h⟩ := wx_w_ok h
      refine wx_fast hx hb hC.1 Z hS (o := o) (k := 7) (n := 64) (wx_sbo ho 7) rfl i24 dX0_beginRun_24 e24 (fun H locs Z hS => ?_)
      refine lv_iinc (v := x1 + 1) (lv' := [(1, .int (x1 + 1)), (0, .ref (ad o 99))]) hx hb dX0_beginRun_25 hl (k := 1) rfl rfl (by decide) rfl (fun ls hl => ?_)
      refine lv_goto (tgt := 12) hx hb dX0_beginRun_28 (by decide) ?_
      exact ih h Z hS (lv_sub hl [1, 0] rfl)
set_option maxRecDepth 20000 in
set_option maxHeartbeats 4000000 in
theorem b_X0_beginRun_0 (B : wx_B p s m args meth c cX0_beginRun 2 none wsX0_beginRun RX0 D ad ca A) {o : Nat}  (ho : o < 11)  {σ' : wx_St}    {σ : wx_St} (h : f_X0_beginRun o σ = some ((), σ')) {H : Heap} {locs : List Loc} (Z : wx_Z D ad rd ca A σ H) (hS : va_S A s.heap H locs) {ls : Array Slot} (hl : lv_has ls 2 [(0, .ref (ad o 99))]) : W p l e ({ frames := 0, cells := 0, slots := 0, locals := 0 } : Room) s m args below meth c H locs 0 0 (MQ below (wx_Q D ad rd ca A none σ') args s 0 0 A) (F0 m 0 ls []) := by
  obtain ⟨hx, hb, hml, hr, hts, hown, hlk, hC, hA⟩ := id B
  unfold f_X0_beginRun at h
  refine lv_aload_n hx hb dX0_beginRun_0 rfl (lv_at hl 0 rfl) ?_
  refine lv_iconst (v := 0) hx hb dX0_beginRun_1 (by decide) ?_
  obtain ⟨σ2, e2, h⟩ := wx_l_ok h
  refine wx_put (own := RX0) hx hb hts i_X0_beginRun_0 tyX0 tyX0_ok nmX0 hown hC.1 Z hS (o := o) (ci := 0) (wx_sbo ho 99) (rfl : vwCl[0]? = some (RX0, TX0, 13)) 6 (by decide) (hts _ k_X0_beginRun_w0) (fun _ h9 => h9) rfl (by decide +kernel) rfl dX0_beginRun_2 e2 (fun H locs Z hS => ?_)
  refine lv_aload_n hx hb dX0_beginRun_5 rfl (lv_at hl 0 rfl) ?_
  refine lv_iconst (v := 0) hx hb dX0_beginRun_6 (by decide) ?_
  obtain ⟨σ7, e7, h⟩ := wx_l_ok h
  refine wx_put (own := RX0) hx hb hts i_X0_beginRun_0 tyX0 tyX0_ok nmX0 hown hC.1 Z hS (o := o) (ci := 0) (wx_sbo ho 99) (rfl : vwCl[0]? = some (RX0, TX0, 13)) 9 (by decide) (hts _ k_X0_beginRun_w1) (fun _ h9 => h9) rfl (by decide +kernel) rfl dX0_beginRun_7 e7 (fun H locs Z hS => ?_)
  refine lv_iconst (v := 0) hx hb dX0_beginRun_10 (by decide) ?_
  refine lv_istore_n (lv' := [(1, .int 0), (0, .ref (ad o 99))]) hx hb dX0_beginRun_11 rfl hl (by decide) rfl (fun ls hl => ?_)
  exact b_X0_beginRun_12 B ho h Z hS (lv_sub hl [1, 0] rfl)
set_option maxRecDepth 20000 in
theorem c_X0_beginRun (l : Launch) {D : va_G} {ad : Nat → Nat → Nat} {rd : Nat → Nat} {ca : Nat → ClassId} {A : Nat → Prop} {σ : wx_St} {o : Nat}  (ho : o < 11)   {σ' : wx_St} (h : f_X0_beginRun o σ = some ((), σ')) : wx_M l yX0_beginRun wsX0_beginRun 0 0 D ad rd ca A [.ref (ad o 99)] σ none σ' := by
  refine Met.ofW (cc := cX0_beginRun) (maxL := 2) (ret := none) (by decide) rfl ?_
  intro p e s m args below meth c s₁ B0 hml hv
  obtain ⟨rfl, hC, Z, hA⟩ := hv
  have hl := lv_entry ([.ref (ad o 99)]) (n := 2) (Nat.le_of_ble_eq_true rfl)
  rw [lg_entry_eq]
  generalize (lg_sl ([.ref (ad o 99)]) ++ List.replicate (2 - (lg_sl ([.ref (ad o 99)])).length) Slot.unset).toArray = ls at hl ⊢
  exact b_X0_beginRun_0 ⟨B0.exec, B0.bytes, hml, B0.returns, atoms_spec (ws := wsX0_beginRun) B0.pre, findClass_of_methodNamed B0.named, B0.notSynchronized, hC, hA⟩ ho h Z va_S.rf hl
set_option maxRecDepth 20000 in
set_option maxHeartbeats 4000000 in
theorem b_X5_neighbourOf_43 (B : wx_B p s m args meth c cX5_neighbourOf 2 (some .int) wsX5_neighbourOf RX5 D ad ca A)    {r : Int32} {σ : wx_St}  {x0 : Int32} {x1 : Int32} {y0 : Int32}   (h : f_X5_neighbourOf_43 x0 x1 y0 = some r) {H : Heap} {locs : List Loc} (Z : wx_Z D ad rd ca A σ H) (hS : va_S A s.heap H locs) {ls : Array Slot} (hl : lv_has ls 2 [(0, .int x0), (1, .int x1)]) : W p l e ({ frames := 0, cells := 0, slots := 0, locals := 0 } : Room) s m args below meth c H locs 0 0 (MQ below (wx_Q D ad rd ca A (some (.int r)) σ) args s 0 0 A) (F0 m 43 ls [.int y0]) := by
  obtain ⟨hx, hb, hml, hr, hts, hown, hlk, hC, hA⟩ := id B
  unfold f_X5_neighbourOf_43 at h
  obtain rfl := Option.some.inj h
  exact W.iret hx hb hr (fun t ht hW => ⟨rfl, by rw [ht]; exact Z, hS.F ht⟩) hS.2.2 dX5_neighbourOf_43
set_option maxRecDepth 20000 in
set_option maxHeartbeats 4000000 in
theorem b_X5_neighbourOf_59 (B : wx_B p s m args meth c cX5_neighbourOf 2 (some .int) wsX5_neighbourOf RX5 D ad ca A)    {r : Int32} {σ : wx_St}  {x0 : Int32} {x1 : Int32} {y0 : Int32}   (h : f_X5_neighbourOf_59 x0 x1 y0 = some r) {H : Heap} {locs : List Loc} (Z : wx_Z D ad rd ca A σ H) (hS : va_S A s.heap H locs) {ls : Array Slot} (hl : lv_has ls 2 [(0, .int x0), (1, .int x1)]) : W p l e ({ frames := 0, cells := 0, slots := 0, locals := 0 } : Room) s m args below meth c H locs 0 0 (MQ below (wx_Q D ad rd ca A (some (.int r)) σ) args s 0 0 A) (F0 m 59 ls [.int y0]) := by
  obtain ⟨hx, hb, hml, hr, hts, hown, hlk, hC, hA⟩ := id B
  unfold f_X5_neighbourOf_59 at h
  obtain rfl := Option.some.inj h
  exact W.iret hx hb hr (fun t ht hW => ⟨rfl, by rw [ht]; exact Z, hS.F ht⟩) hS.2.2 dX5_neighbourOf_59
set_option maxRecDepth 20000 in
set_option maxHeartbeats 4000000 in
theorem b_X5_neighbourOf_75 (B : wx_B p s m args meth c cX5_neighbourOf 2 (some .int) wsX5_neighbourOf RX5 D ad ca A)    {r : Int32} {σ : wx_St}  {x0 : Int32} {x1 : Int32} {y0 : Int32}   (h : f_X5_neighbourOf_75 x0 x1 y0 = some r) {H : Heap} {locs : List Loc} (Z : wx_Z D ad rd ca A σ H) (hS : va_S A s.heap H locs) {ls : Array Slot} (hl : lv_has ls 2 [(0, .int x0), (1, .int x1)]) : W p l e ({ frames := 0, cells := 0, slots := 0, locals := 0 } : Room) s m args below meth c H locs 0 0 (MQ below (wx_Q D ad rd ca A (some (.int r)) σ) args s 0 0 A) (F0 m 75 ls [.int y0]) := by
  obtain ⟨hx, hb, hml, hr, hts, hown, hlk, hC, hA⟩ := id B
  unfold f_X5_neighbourOf_75 at h
  obtain rfl := Option.some.inj h
  exact W.iret hx hb hr (fun t ht hW => ⟨rfl, by rw [ht]; exact Z, hS.F ht⟩) hS.2.2 dX5_neighbourOf_75
set_option maxRecDepth 20000 in
set_option maxHeartbeats 4000000 in
theorem b_X5_neighbourOf_93 (B : wx_B p s m args meth c cX5_neighbourOf 2 (some .int) wsX5_neighbourOf RX5 D ad ca A)    {r : Int32} {σ : wx_St}  {x0 : Int32} {x1 : Int32} {y0 : Int32}   (h : f_X5_neighbourOf_93 x0 x1 y0 = some r) {H : Heap} {locs : List Loc} (Z : wx_Z D ad rd ca A σ H) (hS : va_S A s.heap H locs) {ls : Array Slot} (hl : lv_has ls 2 [(0, .int x0), (1, .int x1)]) : W p l e ({ frames := 0, cells := 0, slots := 0, locals := 0 } : Room) s m args below meth c H locs 0 0 (MQ below (wx_Q D ad rd ca A (some (.int r)) σ) args s 0 0 A) (F0 m 93 ls [.int y0]) := by
  obtain ⟨hx, hb, hml, hr, hts, hown, hlk, hC, hA⟩ := id B
  unfold f_X5_neighbourOf_93 at h
  obtain rfl := Option.some.inj h
  exact W.iret hx hb hr (fun t ht hW => ⟨rfl, by rw [ht]; exact Z, hS.F ht⟩) hS.2.2 dX5_neighbourOf_93
set_option maxRecDepth 20000 in
set_option maxHeartbeats 4000000 in
theorem b_X5_neighbourOf_0 (B : wx_B p s m args meth c cX5_neighbourOf 2 (some .int) wsX5_neighbourOf RX5 D ad ca A)    {r : Int32} {σ : wx_St}  {x0 : Int32} {x1 : Int32}   (h : f_X5_neighbourOf x0 x1 = some r) {H : Heap} {locs : List Loc} (Z : wx_Z D ad rd ca A σ H) (hS : va_S A s.heap H locs) {ls : Array Slot} (hl : lv_has ls 2 [(0, .int x0), (1, .int x1)]) : W p l e ({ frames := 0, cells := 0, slots := 0, locals := 0 } : Room) s m args below meth c H locs 0 0 (MQ below (wx_Q D ad rd ca A (some (.int r)) σ) args s 0 0 A) (F0 m 0 ls []) := by
  obtain ⟨hx, hb, hml, hr, hts, hown, hlk, hC, hA⟩ := id B
  unfold f_X5_neighbourOf at h
  refine lv_iload_n hx hb dX5_neighbourOf_0 rfl (lv_at hl 1 rfl) ?_
  by_cases c1_0 : x1 = 0
  · replace h := wx_ift c1_0 h
    refine lv_tableIn (off := 27) (tgt := 28) hx hb dX5_neighbourOf_1 (by rw [c1_0]; decide) (by rw [c1_0]; decide) (by rw [c1_0]; rfl) (by decide) ?_
    refine lv_iload_n hx hb dX5_neighbourOf_28 rfl (lv_at hl 0 rfl) ?_
    refine lv_bipush (v := 8) hx hb dX5_neighbourOf_29 (by decide) ?_
    refine lv_icmp_lt (tgt := 41) hx hb dX5_neighbourOf_31 (by decide) (fun c31 => ?_) (fun c31 => ?_)
    · replace h := wx_ift c31 h
      refine lv_bipush (v := (-6)) hx hb dX5_neighbourOf_41 (by decide) ?_
      exact b_X5_neighbourOf_43 B h Z hS (lv_sub hl [0, 1] rfl)
    · replace h := wx_iff c31 h
      refine lv_iload_n hx hb dX5_neighbourOf_34 rfl (lv_at hl 0 rfl) ?_
      refine lv_bipush (v := 8) hx hb dX5_neighbourOf_35 (by decide) ?_
      refine lv_isub hx hb dX5_neighbourOf_37 ?_
      refine lv_goto (tgt := 43) hx hb dX5_neighbourOf_38 (by decide) ?_
      exact b_X5_neighbourOf_43 B h Z hS (lv_sub hl [0, 1] rfl)
  · replace h := wx_iff c1_0 h
    by_cases c1_1 : x1 = 1
    · replace h := wx_ift c1_1 h
      refine lv_tableIn (off := 43) (tgt := 44) hx hb dX5_neighbourOf_1 (by rw [c1_1]; decide) (by rw [c1_1]; decide) (by rw [c1_1]; rfl) (by decide) ?_
      refine lv_iload_n hx hb dX5_neighbourOf_44 rfl (lv_at hl 0 rfl) ?_
      refine lv_bipush (v := 56) hx hb dX5_neighbourOf_45 (by decide) ?_
      refine lv_icmp_ge (tgt := 57) hx hb dX5_neighbourOf_47 (by decide) (fun c47 => ?_) (fun c47 => ?_)
      · replace h := wx_ift c47 h
        refine lv_bipush (v := (-6)) hx hb dX5_neighbourOf_57 (by decide) ?_
        exact b_X5_neighbourOf_59 B h Z hS (lv_sub hl [0, 1] rfl)
      · replace h := wx_iff c47 h
        refine lv_iload_n hx hb dX5_neighbourOf_50 rfl (lv_at hl 0 rfl) ?_
        refine lv_bipush (v := 8) hx hb dX5_neighbourOf_51 (by decide) ?_
        refine lv_iadd hx hb dX5_neighbourOf_53 ?_
        refine lv_goto (tgt := 59) hx hb dX5_neighbourOf_54 (by decide) ?_
        exact b_X5_neighbourOf_59 B h Z hS (lv_sub hl [0, 1] rfl)
    · replace h := wx_iff c1_1 h
      by_cases c1_2 : x1 = 2
      · replace h := wx_ift c1_2 h
        refine lv_tableIn (off := 59) (tgt := 60) hx hb dX5_neighbourOf_1 (by rw [c1_2]; decide) (by rw [c1_2]; decide) (by rw [c1_2]; rfl) (by decide) ?_
        refine lv_iload_n hx hb dX5_neighbourOf_60 rfl (lv_at hl 0 rfl) ?_
        refine lv_bipush (v := 8) hx hb dX5_neighbourOf_61 (by decide) ?_
        refine lv_irem hx hb dX5_neighbourOf_63 (by decide) ?_
        refine lv_if_le (tgt := 73) hx hb dX5_neighbourOf_64 (by decide) (fun c64 => ?_) (fun c64 => ?_)
        · replace h := wx_ift c64 h
          refine lv_bipush (v := (-6)) hx hb dX5_neighbourOf_73 (by decide) ?_
          exact b_X5_neighbourOf_75 B h Z hS (lv_sub hl [0, 1] rfl)
        · replace h := wx_iff c64 h
          refine lv_iload_n hx hb dX5_neighbourOf_67 rfl (lv_at hl 0 rfl) ?_
          refine lv_iconst (v := 1) hx hb dX5_neighbourOf_68 (by decide) ?_
          refine lv_isub hx hb dX5_neighbourOf_69 ?_
          refine lv_goto (tgt := 75) hx hb dX5_neighbourOf_70 (by decide) ?_
          exact b_X5_neighbourOf_75 B h Z hS (lv_sub hl [0, 1] rfl)
      · replace h := wx_iff c1_2 h
        have n1_0 := wx_ni c1_0
        have n1_1 := wx_ni c1_1
        have n1_2 := wx_ni c1_2
        rw [show (0 : Int32).toInt = 0 from by decide] at n1_0
        rw [show (1 : Int32).toInt = 1 from by decide] at n1_1
        rw [show (2 : Int32).toInt = 2 from by decide] at n1_2
        refine lv_tableOut (tgt := 76) hx hb dX5_neighbourOf_1 (by omega) (by decide) ?_
        refine lv_iload_n hx hb dX5_neighbourOf_76 rfl (lv_at hl 0 rfl) ?_
        refine lv_bipush (v := 8) hx hb dX5_neighbourOf_77 (by decide) ?_
        refine lv_irem hx hb dX5_neighbourOf_79 (by decide) ?_
        refine lv_bipush (v := 7) hx hb dX5_neighbourOf_80 (by decide) ?_
        refine lv_icmp_ge (tgt := 91) hx hb dX5_neighbourOf_82 (by decide) (fun c82 => ?_) (fun c82 => ?_)
        · replace h := wx_ift c82 h
          refine lv_bipush (v := (-6)) hx hb dX5_neighbourOf_91 (by decide) ?_
          exact b_X5_neighbourOf_93 B h Z hS (lv_sub hl [0, 1] rfl)
        · replace h := wx_iff c82 h
          refine lv_iload_n hx hb dX5_neighbourOf_85 rfl (lv_at hl 0 rfl) ?_
          refine lv_iconst (v := 1) hx hb dX5_neighbourOf_86 (by decide) ?_
          refine lv_iadd hx hb dX5_neighbourOf_87 ?_
          refine lv_goto (tgt := 93) hx hb dX5_neighbourOf_88 (by decide) ?_
          exact b_X5_neighbourOf_93 B h Z hS (lv_sub hl [0, 1] rfl)
set_option maxRecDepth 20000 in
theorem c_X5_neighbourOf (l : Launch) {D : va_G} {ad : Nat → Nat → Nat} {rd : Nat → Nat} {ca : Nat → ClassId} {A : Nat → Prop} {σ : wx_St}    {x0 : Int32} {x1 : Int32} {r : Int32} (h : f_X5_neighbourOf x0 x1 = some r) : wx_M l yX5_neighbourOf wsX5_neighbourOf 0 0 D ad rd ca A [.int x0, .int x1] σ (some (.int r)) σ := by
  refine Met.ofW (cc := cX5_neighbourOf) (maxL := 2) (ret := (some .int)) (by decide) rfl ?_
  intro p e s m args below meth c s₁ B0 hml hv
  obtain ⟨rfl, hC, Z, hA⟩ := hv
  have hl := lv_entry ([.int x0, .int x1]) (n := 2) (Nat.le_of_ble_eq_true rfl)
  rw [lg_entry_eq]
  generalize (lg_sl ([.int x0, .int x1]) ++ List.replicate (2 - (lg_sl ([.int x0, .int x1])).length) Slot.unset).toArray = ls at hl ⊢
  exact b_X5_neighbourOf_0 ⟨B0.exec, B0.bytes, hml, B0.returns, atoms_spec (ws := wsX5_neighbourOf) B0.pre, findClass_of_methodNamed B0.named, B0.notSynchronized, hC, hA⟩  h Z va_S.rf hl
theorem i_X0_hasNeighbourOf_0 : ∀ w ∈ wsX00, w ∈ wsX0_hasNeighbourOf := by decide +kernel
theorem k_X0_hasNeighbourOf_w0 : Cond.initialized RX5 ∈ wsX0_hasNeighbourOf := by decide +kernel
theorem k_X0_hasNeighbourOf_w1 : Cond.static yX5_neighbourOf ∈ wsX0_hasNeighbourOf := by decide +kernel
theorem k_X0_hasNeighbourOf_w2 : Cond.fieldLink RX0 15 "WarmProbes$Board" "nets" "[I" ∈ wsX0_hasNeighbourOf := by decide +kernel
set_option maxRecDepth 20000 in
set_option maxHeartbeats 4000000 in
theorem b_X0_hasNeighbourOf_32 (B : wx_B p s m args meth c cX0_hasNeighbourOf 5 (some .boolean) wsX0_hasNeighbourOf RX0 D ad ca A) {o : Nat}  (ho : o < 11) {r : Int32} {σ : wx_St} {K2 : Int32 → Int32 → Int32 → wx_St → Option Int32} (hK2 : ∀ {x1 : Int32} {x2 : Int32} {x3 : Int32}   (h : K2 x1 x2 x3 σ = some r) {H : Heap} {locs : List Loc} (Z : wx_Z D ad rd ca A σ H) (hS : va_S A s.heap H locs) {ls : Array Slot} (hl : lv_has ls 5 [(0, .ref (ad o 99)), (1, .int x1), (2, .int x2), (3, .int x3)]), W p l e ({ frames := 1, cells := 0, slots := 0, locals := 21 } : Room) s m args below meth c H locs 0 0 (MQ below (wx_Q D ad rd ca A (some (.int r)) σ) args s 0 0 A) (F0 m 2 ls [])) {x1 : Int32} {x2 : Int32} {x3 : Int32} {x4 : Int32}   (h : f_X0_hasNeighbourOf_32 o K2 x1 x2 x3 x4 σ = some r) {H : Heap} {locs : List Loc} (Z : wx_Z D ad rd ca A σ H) (hS : va_S A s.heap H locs) {ls : Array Slot} (hl : lv_has ls 5 [(0, .ref (ad o 99)), (1, .int x1), (2, .int x2), (3, .int x3), (4, .int x4)]) : W p l e ({ frames := 1, cells := 0, slots := 0, locals := 21 } : Room) s m args below meth c H locs 0 0 (MQ below (wx_Q D ad rd ca A (some (.int r)) σ) args s 0 0 A) (F0 m 32 ls []) := by
  obtain ⟨hx, hb, hml, hr, hts, hown, hlk, hC, hA⟩ := id B
  unfold f_X0_hasNeighbourOf_32 at h
  refine lv_iinc (v := x3 + 1) (lv' := [(3, .int (x3 + 1)), (0, .ref (ad o 99)), (1, .int x1), (2, .int x2), (4, .int x4)]) hx hb dX0_hasNeighbourOf_32 hl (k := 3) rfl rfl (by decide) rfl (fun ls hl => ?_)
  refine lv_goto (tgt := 2) hx hb dX0_hasNeighbourOf_35 (by decide) ?_
  exact hK2 h Z hS (lv_sub hl [1, 2, 3, 0] rfl)
set_option maxRecDepth 20000 in
set_option maxHeartbeats 4000000 in
theorem b_X0_hasNeighbourOf_2 (B : wx_B p s m args meth c cX0_hasNeighbourOf 5 (some .boolean) wsX0_hasNeighbourOf RX0 D ad ca A) {o : Nat}  (ho : o < 11) {r : Int32} {σ : wx_St}   :
    ∀ {n : Nat} {x1 : Int32} {x2 : Int32} {x3 : Int32}   (h : f_X0_hasNeighbourOf_2 o n x1 x2 x3 σ = some r) {H : Heap} {locs : List Loc} (Z : wx_Z D ad rd ca A σ H) (hS : va_S A s.heap H locs) {ls : Array Slot} (hl : lv_has ls 5 [(0, .ref (ad o 99)), (1, .int x1), (2, .int x2), (3, .int x3)]), W p l e ({ frames := 1, cells := 0, slots := 0, locals := 21 } : Room) s m args below meth c H locs 0 0 (MQ below (wx_Q D ad rd ca A (some (.int r)) σ) args s 0 0 A) (F0 m 2 ls []) := by
  obtain ⟨hx, hb, hml, hr, hts, hown, hlk, hC, hA⟩ := id B
  intro n
  induction n with
  | zero => intro x1 x2 x3   h H locs Z hS ls hl; exact wx_no h
  | succ n ih =>
    intro x1 x2 x3   h H locs Z hS ls hl
    rw [f_X0_hasNeighbourOf_2] at h
    refine lv_iload_n hx hb dX0_hasNeighbourOf_2 rfl (lv_at hl 3 rfl) ?_
    refine lv_iconst (v := 4) hx hb dX0_hasNeighbourOf_3 (by decide) ?_
    refine lv_icmp_ge (tgt := 38) hx hb dX0_hasNeighbourOf_4 (by decide) (fun c4 => ?_) (fun c4 => ?_)
    · replace h := wx_ift c4 h
      refine lv_iconst (v := 0) hx hb dX0_hasNeighbourOf_38 (by decide) ?_
      obtain rfl := Option.some.inj h
      exact W.zret hx hb hr rfl (fun t ht hW => ⟨rfl, by rw [ht]; exact Z, hS.F ht⟩) hS.2.2 dX0_hasNeighbourOf_39
    · replace h := wx_iff c4 h
      refine lv_iload_n hx hb dX0_hasNeighbourOf_7 rfl (lv_at hl 1 rfl) ?_
      refine lv_iload_n hx hb dX0_hasNeighbourOf_8 rfl (lv_at hl 3 rfl) ?_
      obtain ⟨v9, hc9, h⟩ := wx_o_ok h
      refine wx_call (va_runSN (As := [.int x1, .int x3]) (rest := []) ⟨hx, hb, hml, hown, hts⟩ (c_X5_neighbourOf l (D := D) (ad := ad) (rd := rd) (ca := ca) (A := A) (σ := σ) hc9) ⟨va_cnB 2 hts gX0_hasNeighbourOf_X5_neighbourOf_n93 rfl rfl rfl (hC.1.2 _ (List.mem_of_getElem? (i := 38) rfl)) (hts _ k_X0_hasNeighbourOf_w0) (by decide +kernel) ⟨Nat.le_of_ble_eq_true rfl, Nat.le_of_ble_eq_true rfl⟩, hts _ k_X0_hasNeighbourOf_w1, trivial⟩ (wx_preS hC Z hS hA) rfl rfl hl.1 rfl (lv_room (Nat.le_of_ble_eq_true rfl)) dX0_hasNeighbourOf_9 ⟨Nat.zero_le _, Nat.zero_le _⟩) hS (fun H locs Z hS => ?_)
      refine lv_istore (lv' := [(4, .int v9), (0, .ref (ad o 99)), (1, .int x1), (2, .int x2), (3, .int x3)]) hx hb dX0_hasNeighbourOf_12 hl (by decide) rfl (fun ls hl => ?_)
      refine lv_iload hx hb dX0_hasNeighbourOf_14 (lv_at hl 0 rfl) ?_
      refine lv_if_lt (tgt := 32) hx hb dX0_hasNeighbourOf_16 (by decide) (fun c16 => ?_) (fun c16 => ?_)
      · replace h := wx_ift c16 h
        exact b_X0_hasNeighbourOf_32 B ho (K2 := (f_X0_hasNeighbourOf_2 o n)) @ih h Z hS (lv_sub hl [1, 2, 3, 4, 0] rfl)
      · replace h := wx_iff c16 h
        refine lv_aload_n hx hb dX0_hasNeighbourOf_19 rfl (lv_at hl 1 rfl) ?_
        refine wx_get (own := RX0) hx hb hts i_X0_hasNeighbourOf_0 hown hC.1 Z (o := o) (ci := 0) (wx_sbo ho 99) (rfl : vwCl[0]? = some (RX0, TX0, 13)) 1 (by decide) (hts _ k_X0_hasNeighbourOf_w2) (fun _ h9 => h9) (f := 0) rfl rfl dX0_hasNeighbourOf_20 ?_
        refine lv_iload hx hb dX0_hasNeighbourOf_23 (lv_at hl 0 rfl) ?_
        obtain ⟨v25, ev25, iv25, h⟩ := wx_rI_ok h
        refine wx_iald hx hb hC.1 Z (o := o) (k := 1) (n := 64) (wx_sbo ho 1) rfl iv25 dX0_hasNeighbourOf_25 ev25 ?_
        refine lv_iload_n hx hb dX0_hasNeighbourOf_26 rfl (lv_at hl 3 rfl) ?_
        refine lv_icmp_ne (tgt := 32) hx hb dX0_hasNeighbourOf_27 (by decide) (fun c27 => ?_) (fun c27 => ?_)
        · replace h := wx_iff c27 h
          exact b_X0_hasNeighbourOf_32 B ho (K2 := (f_X0_hasNeighbourOf_2 o n)) @ih h Z hS (lv_sub hl [1, 2, 3, 4, 0] rfl)
        · replace h := wx_ift c27 h
          refine lv_iconst (v := 1) hx hb dX0_hasNeighbourOf_30 (by decide) ?_
          obtain rfl := Option.some.inj h
          exact W.zret hx hb hr rfl (fun t ht hW => ⟨rfl, by rw [ht]; exact Z, hS.F ht⟩) hS.2.2 dX0_hasNeighbourOf_31
set_option maxRecDepth 20000 in
set_option maxHeartbeats 4000000 in
theorem b_X0_hasNeighbourOf_0 (B : wx_B p s m args meth c cX0_hasNeighbourOf 5 (some .boolean) wsX0_hasNeighbourOf RX0 D ad ca A) {o : Nat}  (ho : o < 11) {r : Int32} {σ : wx_St}  {x1 : Int32} {x2 : Int32}   (h : f_X0_hasNeighbourOf o x1 x2 σ = some r) {H : Heap} {locs : List Loc} (Z : wx_Z D ad rd ca A σ H) (hS : va_S A s.heap H locs) {ls : Array Slot} (hl : lv_has ls 5 [(0, .ref (ad o 99)), (1, .int x1), (2, .int x2)]) : W p l e ({ frames := 1, cells := 0, slots := 0, locals := 21 } : Room) s m args below meth c H locs 0 0 (MQ below (wx_Q D ad rd ca A (some (.int r)) σ) args s 0 0 A) (F0 m 0 ls []) := by
  obtain ⟨hx, hb, hml, hr, hts, hown, hlk, hC, hA⟩ := id B
  unfold f_X0_hasNeighbourOf at h
  refine lv_iconst (v := 0) hx hb dX0_hasNeighbourOf_0 (by decide) ?_
  refine lv_istore_n (lv' := [(3, .int 0), (0, .ref (ad o 99)), (1, .int x1), (2, .int x2)]) hx hb dX0_hasNeighbourOf_1 rfl hl (by decide) rfl (fun ls hl => ?_)
  exact b_X0_hasNeighbourOf_2 B ho h Z hS (lv_sub hl [1, 2, 3, 0] rfl)
set_option maxRecDepth 20000 in
theorem c_X0_hasNeighbourOf (l : Launch) {D : va_G} {ad : Nat → Nat → Nat} {rd : Nat → Nat} {ca : Nat → ClassId} {A : Nat → Prop} {σ : wx_St} {o : Nat}  (ho : o < 11) {x1 : Int32} {x2 : Int32} {r : Int32} (h : f_X0_hasNeighbourOf o x1 x2 σ = some r) : wx_M l yX0_hasNeighbourOf wsX0_hasNeighbourOf 1 21 D ad rd ca A [.ref (ad o 99), .int x1, .int x2] σ (some (.int r)) σ := by
  refine Met.ofW (cc := cX0_hasNeighbourOf) (maxL := 5) (ret := (some .boolean)) (by decide) rfl ?_
  intro p e s m args below meth c s₁ B0 hml hv
  obtain ⟨rfl, hC, Z, hA⟩ := hv
  have hl := lv_entry ([.ref (ad o 99), .int x1, .int x2]) (n := 5) (Nat.le_of_ble_eq_true rfl)
  rw [lg_entry_eq]
  generalize (lg_sl ([.ref (ad o 99), .int x1, .int x2]) ++ List.replicate (5 - (lg_sl ([.ref (ad o 99), .int x1, .int x2])).length) Slot.unset).toArray = ls at hl ⊢
  exact b_X0_hasNeighbourOf_0 ⟨B0.exec, B0.bytes, hml, B0.returns, atoms_spec (ws := wsX0_hasNeighbourOf) B0.pre, findClass_of_methodNamed B0.named, B0.notSynchronized, hC, hA⟩ ho h Z va_S.rf hl
theorem i_X0_touchAt_0 : ∀ w ∈ wsX00, w ∈ wsX0_touchAt := by decide +kernel
theorem k_X0_touchAt_w0 : Cond.fieldLink RX0 21 "WarmProbes$Board" "touches" "I" ∈ wsX0_touchAt := by decide +kernel
theorem k_X0_touchAt_w1 : Cond.fieldLink RX0 25 "WarmProbes$Board" "touchPlaces" "[I" ∈ wsX0_touchAt := by decide +kernel
set_option maxRecDepth 20000 in
set_option maxHeartbeats 4000000 in
theorem b_X0_touchAt_2 (B : wx_B p s m args meth c cX0_touchAt 3 (some .int) wsX0_touchAt RX0 D ad ca A) {o : Nat}  (ho : o < 11) {r : Int32} {σ : wx_St}   :
    ∀ {n : Nat} {x1 : Int32} {x2 : Int32}   (h : f_X0_touchAt_2 o n x1 x2 σ = some r) {H : Heap} {locs : List Loc} (Z : wx_Z D ad rd ca A σ H) (hS : va_S A s.heap H locs) {ls : Array Slot} (hl : lv_has ls 3 [(0, .ref (ad o 99)), (1, .int x1), (2, .int x2)]), W p l e ({ frames := 0, cells := 0, slots := 0, locals := 0 } : Room) s m args below meth c H locs 0 0 (MQ below (wx_Q D ad rd ca A (some (.int r)) σ) args s 0 0 A) (F0 m 2 ls []) := by
  obtain ⟨hx, hb, hml, hr, hts, hown, hlk, hC, hA⟩ := id B
  intro n
  induction n with
  | zero => intro x1 x2   h H locs Z hS ls hl; exact wx_no h
  | succ n ih =>
    intro x1 x2   h H locs Z hS ls hl
    rw [f_X0_touchAt_2] at h
    refine lv_iload_n hx hb dX0_touchAt_2 rfl (lv_at hl 2 rfl) ?_
    refine lv_aload_n hx hb dX0_touchAt_3 rfl (lv_at hl 0 rfl) ?_
    refine wx_get (own := RX0) hx hb hts i_X0_touchAt_0 hown hC.1 Z (o := o) (ci := 0) (wx_sbo ho 99) (rfl : vwCl[0]? = some (RX0, TX0, 13)) 3 (by decide) (hts _ k_X0_touchAt_w0) (fun _ h9 => h9) (f := 1) rfl rfl dX0_touchAt_4 ?_
    refine lv_icmp_ge (tgt := 28) hx hb dX0_touchAt_7 (by decide) (fun c7 => ?_) (fun c7 => ?_)
    · replace h := wx_ift c7 h
      refine lv_bipush (v := (-6)) hx hb dX0_touchAt_28 (by decide) ?_
      obtain rfl := Option.some.inj h
      exact W.iret hx hb hr (fun t ht hW => ⟨rfl, by rw [ht]; exact Z, hS.F ht⟩) hS.2.2 dX0_touchAt_30
    · replace h := wx_iff c7 h
      refine lv_aload_n hx hb dX0_touchAt_10 rfl (lv_at hl 0 rfl) ?_
      refine wx_get (own := RX0) hx hb hts i_X0_touchAt_0 hown hC.1 Z (o := o) (ci := 0) (wx_sbo ho 99) (rfl : vwCl[0]? = some (RX0, TX0, 13)) 4 (by decide) (hts _ k_X0_touchAt_w1) (fun _ h9 => h9) (f := 0) rfl rfl dX0_touchAt_11 ?_
      refine lv_iload_n hx hb dX0_touchAt_14 rfl (lv_at hl 2 rfl) ?_
      obtain ⟨v15, ev15, iv15, h⟩ := wx_rI_ok h
      refine wx_iald hx hb hC.1 Z (o := o) (k := 4) (n := 3) (wx_sbo ho 4) rfl iv15 dX0_touchAt_15 ev15 ?_
      refine lv_iload_n hx hb dX0_touchAt_16 rfl (lv_at hl 1 rfl) ?_
      refine lv_icmp_ne (tgt := 22) hx hb dX0_touchAt_17 (by decide) (fun c17 => ?_) (fun c17 => ?_)
      · replace h := wx_iff c17 h
        refine lv_iinc (v := x2 + 1) (lv' := [(2, .int (x2 + 1)), (0, .ref (ad o 99)), (1, .int x1)]) hx hb dX0_touchAt_22 hl (k := 2) rfl rfl (by decide) rfl (fun ls hl => ?_)
        refine lv_goto (tgt := 2) hx hb dX0_touchAt_25 (by decide) ?_
        exact ih h Z hS (lv_sub hl [1, 2, 0] rfl)
      · replace h := wx_ift c17 h
        refine lv_iload_n hx hb dX0_touchAt_20 rfl (lv_at hl 2 rfl) ?_
        obtain rfl := Option.some.inj h
        exact W.iret hx hb hr (fun t ht hW => ⟨rfl, by rw [ht]; exact Z, hS.F ht⟩) hS.2.2 dX0_touchAt_21
set_option maxRecDepth 20000 in
set_option maxHeartbeats 4000000 in
theorem b_X0_touchAt_0 (B : wx_B p s m args meth c cX0_touchAt 3 (some .int) wsX0_touchAt RX0 D ad ca A) {o : Nat}  (ho : o < 11) {r : Int32} {σ : wx_St}  {x1 : Int32}   (h : f_X0_touchAt o x1 σ = some r) {H : Heap} {locs : List Loc} (Z : wx_Z D ad rd ca A σ H) (hS : va_S A s.heap H locs) {ls : Array Slot} (hl : lv_has ls 3 [(0, .ref (ad o 99)), (1, .int x1)]) : W p l e ({ frames := 0, cells := 0, slots := 0, locals := 0 } : Room) s m args below meth c H locs 0 0 (MQ below (wx_Q D ad rd ca A (some (.int r)) σ) args s 0 0 A) (F0 m 0 ls []) := by
  obtain ⟨hx, hb, hml, hr, hts, hown, hlk, hC, hA⟩ := id B
  unfold f_X0_touchAt at h
  refine lv_iconst (v := 0) hx hb dX0_touchAt_0 (by decide) ?_
  refine lv_istore_n (lv' := [(2, .int 0), (0, .ref (ad o 99)), (1, .int x1)]) hx hb dX0_touchAt_1 rfl hl (by decide) rfl (fun ls hl => ?_)
  exact b_X0_touchAt_2 B ho h Z hS (lv_sub hl [1, 2, 0] rfl)
set_option maxRecDepth 20000 in
theorem c_X0_touchAt (l : Launch) {D : va_G} {ad : Nat → Nat → Nat} {rd : Nat → Nat} {ca : Nat → ClassId} {A : Nat → Prop} {σ : wx_St} {o : Nat}  (ho : o < 11) {x1 : Int32} {r : Int32} (h : f_X0_touchAt o x1 σ = some r) : wx_M l yX0_touchAt wsX0_touchAt 0 0 D ad rd ca A [.ref (ad o 99), .int x1] σ (some (.int r)) σ := by
  refine Met.ofW (cc := cX0_touchAt) (maxL := 3) (ret := (some .int)) (by decide) rfl ?_
  intro p e s m args below meth c s₁ B0 hml hv
  obtain ⟨rfl, hC, Z, hA⟩ := hv
  have hl := lv_entry ([.ref (ad o 99), .int x1]) (n := 3) (Nat.le_of_ble_eq_true rfl)
  rw [lg_entry_eq]
  generalize (lg_sl ([.ref (ad o 99), .int x1]) ++ List.replicate (3 - (lg_sl ([.ref (ad o 99), .int x1])).length) Slot.unset).toArray = ls at hl ⊢
  exact b_X0_touchAt_0 ⟨B0.exec, B0.bytes, hml, B0.returns, atoms_spec (ws := wsX0_touchAt) B0.pre, findClass_of_methodNamed B0.named, B0.notSynchronized, hC, hA⟩ ho h Z va_S.rf hl
set_option maxRecDepth 20000 in
set_option maxHeartbeats 4000000 in
theorem b_X5_isNet_16 (B : wx_B p s m args meth c cX5_isNet 1 (some .boolean) wsX5_isNet RX5 D ad ca A)    {r : Int32} {σ : wx_St}  {x0 : Int32} {y0 : Int32}   (h : f_X5_isNet_16 x0 y0 = some r) {H : Heap} {locs : List Loc} (Z : wx_Z D ad rd ca A σ H) (hS : va_S A s.heap H locs) {ls : Array Slot} (hl : lv_has ls 1 [(0, .int x0)]) : W p l e ({ frames := 0, cells := 0, slots := 0, locals := 0 } : Room) s m args below meth c H locs 0 0 (MQ below (wx_Q D ad rd ca A (some (.int r)) σ) args s 0 0 A) (F0 m 16 ls [.int y0]) := by
  obtain ⟨hx, hb, hml, hr, hts, hown, hlk, hC, hA⟩ := id B
  unfold f_X5_isNet_16 at h
  obtain ⟨hz, h⟩ := wx_z_ok h
  obtain rfl := Option.some.inj h
  exact W.zret hx hb hr (wx_nb hz) (fun t ht hW => ⟨rfl, by rw [ht]; exact Z, hS.F ht⟩) hS.2.2 dX5_isNet_16
set_option maxRecDepth 20000 in
set_option maxHeartbeats 4000000 in
theorem b_X5_isNet_15 (B : wx_B p s m args meth c cX5_isNet 1 (some .boolean) wsX5_isNet RX5 D ad ca A)    {r : Int32} {σ : wx_St}  {x0 : Int32}   (h : f_X5_isNet_15 x0 = some r) {H : Heap} {locs : List Loc} (Z : wx_Z D ad rd ca A σ H) (hS : va_S A s.heap H locs) {ls : Array Slot} (hl : lv_has ls 1 [(0, .int x0)]) : W p l e ({ frames := 0, cells := 0, slots := 0, locals := 0 } : Room) s m args below meth c H locs 0 0 (MQ below (wx_Q D ad rd ca A (some (.int r)) σ) args s 0 0 A) (F0 m 15 ls []) := by
  obtain ⟨hx, hb, hml, hr, hts, hown, hlk, hC, hA⟩ := id B
  unfold f_X5_isNet_15 at h
  refine lv_iconst (v := 0) hx hb dX5_isNet_15 (by decide) ?_
  exact b_X5_isNet_16 B h Z hS (lv_sub hl [0] rfl)
set_option maxRecDepth 20000 in
set_option maxHeartbeats 4000000 in
theorem b_X5_isNet_0 (B : wx_B p s m args meth c cX5_isNet 1 (some .boolean) wsX5_isNet RX5 D ad ca A)    {r : Int32} {σ : wx_St}  {x0 : Int32}   (h : f_X5_isNet x0 = some r) {H : Heap} {locs : List Loc} (Z : wx_Z D ad rd ca A σ H) (hS : va_S A s.heap H locs) {ls : Array Slot} (hl : lv_has ls 1 [(0, .int x0)]) : W p l e ({ frames := 0, cells := 0, slots := 0, locals := 0 } : Room) s m args below meth c H locs 0 0 (MQ below (wx_Q D ad rd ca A (some (.int r)) σ) args s 0 0 A) (F0 m 0 ls []) := by
  obtain ⟨hx, hb, hml, hr, hts, hown, hlk, hC, hA⟩ := id B
  unfold f_X5_isNet at h
  refine lv_iload_n hx hb dX5_isNet_0 rfl (lv_at hl 0 rfl) ?_
  refine lv_iconst (v := 1) hx hb dX5_isNet_1 (by decide) ?_
  refine lv_icmp_lt (tgt := 15) hx hb dX5_isNet_2 (by decide) (fun c2 => ?_) (fun c2 => ?_)
  · replace h := wx_ift c2 h
    exact b_X5_isNet_15 B h Z hS (lv_sub hl [0] rfl)
  · replace h := wx_iff c2 h
    refine lv_iload_n hx hb dX5_isNet_5 rfl (lv_at hl 0 rfl) ?_
    refine lv_bipush (v := 7) hx hb dX5_isNet_6 (by decide) ?_
    refine lv_icmp_gt (tgt := 15) hx hb dX5_isNet_8 (by decide) (fun c8 => ?_) (fun c8 => ?_)
    · replace h := wx_ift c8 h
      exact b_X5_isNet_15 B h Z hS (lv_sub hl [0] rfl)
    · replace h := wx_iff c8 h
      refine lv_iconst (v := 1) hx hb dX5_isNet_11 (by decide) ?_
      refine lv_goto (tgt := 16) hx hb dX5_isNet_12 (by decide) ?_
      exact b_X5_isNet_16 B h Z hS (lv_sub hl [0] rfl)
set_option maxRecDepth 20000 in
theorem c_X5_isNet (l : Launch) {D : va_G} {ad : Nat → Nat → Nat} {rd : Nat → Nat} {ca : Nat → ClassId} {A : Nat → Prop} {σ : wx_St}    {x0 : Int32} {r : Int32} (h : f_X5_isNet x0 = some r) : wx_M l yX5_isNet wsX5_isNet 0 0 D ad rd ca A [.int x0] σ (some (.int r)) σ := by
  refine Met.ofW (cc := cX5_isNet) (maxL := 1) (ret := (some .boolean)) (by decide) rfl ?_
  intro p e s m args below meth c s₁ B0 hml hv
  obtain ⟨rfl, hC, Z, hA⟩ := hv
  have hl := lv_entry ([.int x0]) (n := 1) (Nat.le_of_ble_eq_true rfl)
  rw [lg_entry_eq]
  generalize (lg_sl ([.int x0]) ++ List.replicate (1 - (lg_sl ([.int x0])).length) Slot.unset).toArray = ls at hl ⊢
  exact b_X5_isNet_0 ⟨B0.exec, B0.bytes, hml, B0.returns, atoms_spec (ws := wsX5_isNet) B0.pre, findClass_of_methodNamed B0.named, B0.notSynchronized, hC, hA⟩  h Z va_S.rf hl
set_option maxRecDepth 20000 in
set_option maxHeartbeats 4000000 in
theorem b_X5_placeOf_30 (B : wx_B p s m args meth c cX5_placeOf 2 (some .int) wsX5_placeOf RX5 D ad ca A)    {r : Int32} {σ : wx_St}  {x0 : Int32} {x1 : Int32} {y0 : Int32}   (h : f_X5_placeOf_30 x0 x1 y0 = some r) {H : Heap} {locs : List Loc} (Z : wx_Z D ad rd ca A σ H) (hS : va_S A s.heap H locs) {ls : Array Slot} (hl : lv_has ls 2 [(0, .int x0), (1, .int x1)]) : W p l e ({ frames := 0, cells := 0, slots := 0, locals := 0 } : Room) s m args below meth c H locs 0 0 (MQ below (wx_Q D ad rd ca A (some (.int r)) σ) args s 0 0 A) (F0 m 30 ls [.int y0]) := by
  obtain ⟨hx, hb, hml, hr, hts, hown, hlk, hC, hA⟩ := id B
  unfold f_X5_placeOf_30 at h
  obtain rfl := Option.some.inj h
  exact W.iret hx hb hr (fun t ht hW => ⟨rfl, by rw [ht]; exact Z, hS.F ht⟩) hS.2.2 dX5_placeOf_30
set_option maxRecDepth 20000 in
set_option maxHeartbeats 4000000 in
theorem b_X5_placeOf_20 (B : wx_B p s m args meth c cX5_placeOf 2 (some .int) wsX5_placeOf RX5 D ad ca A)    {r : Int32} {σ : wx_St}  {x0 : Int32} {x1 : Int32}   (h : f_X5_placeOf_20 x0 x1 = some r) {H : Heap} {locs : List Loc} (Z : wx_Z D ad rd ca A σ H) (hS : va_S A s.heap H locs) {ls : Array Slot} (hl : lv_has ls 2 [(0, .int x0), (1, .int x1)]) : W p l e ({ frames := 0, cells := 0, slots := 0, locals := 0 } : Room) s m args below meth c H locs 0 0 (MQ below (wx_Q D ad rd ca A (some (.int r)) σ) args s 0 0 A) (F0 m 20 ls []) := by
  obtain ⟨hx, hb, hml, hr, hts, hown, hlk, hC, hA⟩ := id B
  unfold f_X5_placeOf_20 at h
  refine lv_iconst (v := (-1)) hx hb dX5_placeOf_20 (by decide) ?_
  refine lv_goto (tgt := 30) hx hb dX5_placeOf_21 (by decide) ?_
  exact b_X5_placeOf_30 B h Z hS (lv_sub hl [0, 1] rfl)
set_option maxRecDepth 20000 in
set_option maxHeartbeats 4000000 in
theorem b_X5_placeOf_0 (B : wx_B p s m args meth c cX5_placeOf 2 (some .int) wsX5_placeOf RX5 D ad ca A)    {r : Int32} {σ : wx_St}  {x0 : Int32} {x1 : Int32}   (h : f_X5_placeOf x0 x1 = some r) {H : Heap} {locs : List Loc} (Z : wx_Z D ad rd ca A σ H) (hS : va_S A s.heap H locs) {ls : Array Slot} (hl : lv_has ls 2 [(0, .int x0), (1, .int x1)]) : W p l e ({ frames := 0, cells := 0, slots := 0, locals := 0 } : Room) s m args below meth c H locs 0 0 (MQ below (wx_Q D ad rd ca A (some (.int r)) σ) args s 0 0 A) (F0 m 0 ls []) := by
  obtain ⟨hx, hb, hml, hr, hts, hown, hlk, hC, hA⟩ := id B
  unfold f_X5_placeOf at h
  refine lv_iload_n hx hb dX5_placeOf_0 rfl (lv_at hl 0 rfl) ?_
  refine lv_if_lt (tgt := 20) hx hb dX5_placeOf_1 (by decide) (fun c1 => ?_) (fun c1 => ?_)
  · replace h := wx_ift c1 h
    exact b_X5_placeOf_20 B h Z hS (lv_sub hl [0, 1] rfl)
  · replace h := wx_iff c1 h
    refine lv_iload_n hx hb dX5_placeOf_4 rfl (lv_at hl 0 rfl) ?_
    refine lv_bipush (v := 8) hx hb dX5_placeOf_5 (by decide) ?_
    refine lv_icmp_ge (tgt := 20) hx hb dX5_placeOf_7 (by decide) (fun c7 => ?_) (fun c7 => ?_)
    · replace h := wx_ift c7 h
      exact b_X5_placeOf_20 B h Z hS (lv_sub hl [0, 1] rfl)
    · replace h := wx_iff c7 h
      refine lv_iload_n hx hb dX5_placeOf_10 rfl (lv_at hl 1 rfl) ?_
      refine lv_if_lt (tgt := 20) hx hb dX5_placeOf_11 (by decide) (fun c11 => ?_) (fun c11 => ?_)
      · replace h := wx_ift c11 h
        exact b_X5_placeOf_20 B h Z hS (lv_sub hl [0, 1] rfl)
      · replace h := wx_iff c11 h
        refine lv_iload_n hx hb dX5_placeOf_14 rfl (lv_at hl 1 rfl) ?_
        refine lv_bipush (v := 8) hx hb dX5_placeOf_15 (by decide) ?_
        refine lv_icmp_lt (tgt := 24) hx hb dX5_placeOf_17 (by decide) (fun c17 => ?_) (fun c17 => ?_)
        · replace h := wx_ift c17 h
          refine lv_bipush (v := 8) hx hb dX5_placeOf_24 (by decide) ?_
          refine lv_iload_n hx hb dX5_placeOf_26 rfl (lv_at hl 0 rfl) ?_
          refine lv_imul hx hb dX5_placeOf_27 ?_
          refine lv_iload_n hx hb dX5_placeOf_28 rfl (lv_at hl 1 rfl) ?_
          refine lv_iadd hx hb dX5_placeOf_29 ?_
          exact b_X5_placeOf_30 B h Z hS (lv_sub hl [0, 1] rfl)
        · replace h := wx_iff c17 h
          exact b_X5_placeOf_20 B h Z hS (lv_sub hl [0, 1] rfl)
set_option maxRecDepth 20000 in
theorem c_X5_placeOf (l : Launch) {D : va_G} {ad : Nat → Nat → Nat} {rd : Nat → Nat} {ca : Nat → ClassId} {A : Nat → Prop} {σ : wx_St}    {x0 : Int32} {x1 : Int32} {r : Int32} (h : f_X5_placeOf x0 x1 = some r) : wx_M l yX5_placeOf wsX5_placeOf 0 0 D ad rd ca A [.int x0, .int x1] σ (some (.int r)) σ := by
  refine Met.ofW (cc := cX5_placeOf) (maxL := 2) (ret := (some .int)) (by decide) rfl ?_
  intro p e s m args below meth c s₁ B0 hml hv
  obtain ⟨rfl, hC, Z, hA⟩ := hv
  have hl := lv_entry ([.int x0, .int x1]) (n := 2) (Nat.le_of_ble_eq_true rfl)
  rw [lg_entry_eq]
  generalize (lg_sl ([.int x0, .int x1]) ++ List.replicate (2 - (lg_sl ([.int x0, .int x1])).length) Slot.unset).toArray = ls at hl ⊢
  exact b_X5_placeOf_0 ⟨B0.exec, B0.bytes, hml, B0.returns, atoms_spec (ws := wsX5_placeOf) B0.pre, findClass_of_methodNamed B0.named, B0.notSynchronized, hC, hA⟩  h Z va_S.rf hl
theorem i_X0_join_0 : ∀ w ∈ wsX00, w ∈ wsX0_join := by decide +kernel
theorem k_X0_join_w0 : Cond.initialized RX5 ∈ wsX0_join := by decide +kernel
theorem k_X0_join_w1 : Cond.static yX5_placeOf ∈ wsX0_join := by decide +kernel
theorem k_X0_join_w2 : Cond.static yX5_isNet ∈ wsX0_join := by decide +kernel
theorem k_X0_join_w3 : Cond.fieldLink RX0 15 "WarmProbes$Board" "nets" "[I" ∈ wsX0_join := by decide +kernel
theorem k_X0_join_w4 : Cond.fieldLink RX0 21 "WarmProbes$Board" "touches" "I" ∈ wsX0_join := by decide +kernel
theorem k_X0_join_w5 : Cond.fieldLink RX0 25 "WarmProbes$Board" "touchPlaces" "[I" ∈ wsX0_join := by decide +kernel
theorem k_X0_join_w6 : Cond.fieldLink RX0 28 "WarmProbes$Board" "touchOthers" "[I" ∈ wsX0_join := by decide +kernel
set_option maxRecDepth 20000 in
set_option maxHeartbeats 4000000 in
theorem b_X0_join_66 (B : wx_B p s m args meth c cX0_join 5 (some .int) wsX0_join RX0 D ad ca A) {o : Nat}  (ho : o < 11) {r : Int32} {σ' : wx_St}  {x1 : Int32} {x2 : Int32} {x3 : Int32} {x4 : Int32}  {σ : wx_St} (h : f_X0_join_66 o x1 x2 x3 x4 σ = some (r, σ')) {H : Heap} {locs : List Loc} (Z : wx_Z D ad rd ca A σ H) (hS : va_S A s.heap H locs) {ls : Array Slot} (hl : lv_has ls 5 [(0, .ref (ad o 99)), (1, .int x1), (2, .int x2), (3, .int x3), (4, .int x4)]) : W p l e ({ frames := 2, cells := 0, slots := 0, locals := 45 } : Room) s m args below meth c H locs 0 0 (MQ below (wx_Q D ad rd ca A (some (.int r)) σ') args s 0 0 A) (F0 m 66 ls []) := by
  obtain ⟨hx, hb, hml, hr, hts, hown, hlk, hC, hA⟩ := id B
  unfold f_X0_join_66 at h
  refine lv_bipush (v := (-5)) hx hb dX0_join_66 (by decide) ?_
  obtain ⟨rfl, rfl⟩ := wx_ret_ok h
  exact W.iret hx hb hr (fun t ht hW => ⟨rfl, by rw [ht]; exact Z, hS.F ht⟩) hS.2.2 dX0_join_68
set_option maxRecDepth 20000 in
set_option maxHeartbeats 4000000 in
theorem b_X0_join_0 (B : wx_B p s m args meth c cX0_join 5 (some .int) wsX0_join RX0 D ad ca A) {o : Nat}  (ho : o < 11) {r : Int32} {σ' : wx_St}  {x1 : Int32} {x2 : Int32} {x3 : Int32}  {σ : wx_St} (h : f_X0_join o x1 x2 x3 σ = some (r, σ')) {H : Heap} {locs : List Loc} (Z : wx_Z D ad rd ca A σ H) (hS : va_S A s.heap H locs) {ls : Array Slot} (hl : lv_has ls 5 [(0, .ref (ad o 99)), (1, .int x1), (2, .int x2), (3, .int x3)]) : W p l e ({ frames := 2, cells := 0, slots := 0, locals := 45 } : Room) s m args below meth c H locs 0 0 (MQ below (wx_Q D ad rd ca A (some (.int r)) σ') args s 0 0 A) (F0 m 0 ls []) := by
  obtain ⟨hx, hb, hml, hr, hts, hown, hlk, hC, hA⟩ := id B
  unfold f_X0_join at h
  refine lv_iload_n hx hb dX0_join_0 rfl (lv_at hl 1 rfl) ?_
  refine lv_iload_n hx hb dX0_join_1 rfl (lv_at hl 2 rfl) ?_
  obtain ⟨v2, hc2, h⟩ := wx_o_ok h
  refine wx_call (va_runSN (As := [.int x1, .int x2]) (rest := []) ⟨hx, hb, hml, hown, hts⟩ (c_X5_placeOf l (D := D) (ad := ad) (rd := rd) (ca := ca) (A := A) (σ := σ) hc2) ⟨va_cnB 2 hts gX0_join_X5_placeOf_n71 rfl rfl rfl (hC.1.2 _ (List.mem_of_getElem? (i := 34) rfl)) (hts _ k_X0_join_w0) (by decide +kernel) ⟨Nat.le_of_ble_eq_true rfl, Nat.le_of_ble_eq_true rfl⟩, hts _ k_X0_join_w1, trivial⟩ (wx_preS hC Z hS hA) rfl rfl hl.1 rfl (lv_room (Nat.le_of_ble_eq_true rfl)) dX0_join_2 ⟨Nat.zero_le _, Nat.zero_le _⟩) hS (fun H locs Z hS => ?_)
  refine lv_istore (lv' := [(4, .int v2), (0, .ref (ad o 99)), (1, .int x1), (2, .int x2), (3, .int x3)]) hx hb dX0_join_5 hl (by decide) rfl (fun ls hl => ?_)
  refine lv_iload hx hb dX0_join_7 (lv_at hl 0 rfl) ?_
  refine lv_if_ge (tgt := 14) hx hb dX0_join_9 (by decide) (fun c9 => ?_) (fun c9 => ?_)
  · replace h := wx_ift c9 h
    refine lv_iload_n hx hb dX0_join_14 rfl (lv_at hl 4 rfl) ?_
    obtain ⟨v15, hc15, h⟩ := wx_o_ok h
    refine wx_call (va_runSN (As := [.int x3]) (rest := []) ⟨hx, hb, hml, hown, hts⟩ (c_X5_isNet l (D := D) (ad := ad) (rd := rd) (ca := ca) (A := A) (σ := σ) hc15) ⟨va_cnB 1 hts gX0_join_X5_isNet_n75 rfl rfl rfl (hC.1.2 _ (List.mem_of_getElem? (i := 35) rfl)) (hts _ k_X0_join_w0) (by decide +kernel) ⟨Nat.le_of_ble_eq_true rfl, Nat.le_of_ble_eq_true rfl⟩, hts _ k_X0_join_w2, trivial⟩ (wx_preS hC Z hS hA) rfl rfl hl.1 rfl (lv_room (Nat.le_of_ble_eq_true rfl)) dX0_join_15 ⟨Nat.zero_le _, Nat.zero_le _⟩) hS (fun H locs Z hS => ?_)
    refine lv_if_ne (tgt := 24) hx hb dX0_join_18 (by decide) (fun c18 => ?_) (fun c18 => ?_)
    · replace h := wx_iff c18 h
      refine lv_aload_n hx hb dX0_join_24 rfl (lv_at hl 1 rfl) ?_
      refine wx_get (own := RX0) hx hb hts i_X0_join_0 hown hC.1 Z (o := o) (ci := 0) (wx_sbo ho 99) (rfl : vwCl[0]? = some (RX0, TX0, 13)) 1 (by decide) (hts _ k_X0_join_w3) (fun _ h9 => h9) (f := 0) rfl rfl dX0_join_25 ?_
      refine lv_iload hx hb dX0_join_28 (lv_at hl 0 rfl) ?_
      obtain ⟨v30, ev30, iv30, h⟩ := wx_rI_ok h
      refine wx_iald hx hb hC.1 Z (o := o) (k := 1) (n := 64) (wx_sbo ho 1) rfl iv30 dX0_join_30 ev30 ?_
      refine lv_if_eq (tgt := 66) hx hb dX0_join_31 (by decide) (fun c31 => ?_) (fun c31 => ?_)
      · replace h := wx_ift c31 h
        exact b_X0_join_66 B ho h Z hS (lv_sub hl [1, 2, 3, 4, 0] rfl)
      · replace h := wx_iff c31 h
        refine lv_aload_n hx hb dX0_join_34 rfl (lv_at hl 1 rfl) ?_
        refine wx_get (own := RX0) hx hb hts i_X0_join_0 hown hC.1 Z (o := o) (ci := 0) (wx_sbo ho 99) (rfl : vwCl[0]? = some (RX0, TX0, 13)) 1 (by decide) (hts _ k_X0_join_w3) (fun _ h9 => h9) (f := 0) rfl rfl dX0_join_35 ?_
        refine lv_iload hx hb dX0_join_38 (lv_at hl 0 rfl) ?_
        obtain ⟨v40, ev40, iv40, h⟩ := wx_rI_ok h
        refine wx_iald hx hb hC.1 Z (o := o) (k := 1) (n := 64) (wx_sbo ho 1) rfl iv40 dX0_join_40 ev40 ?_
        refine lv_iload_n hx hb dX0_join_41 rfl (lv_at hl 4 rfl) ?_
        refine lv_icmp_eq (tgt := 66) hx hb dX0_join_42 (by decide) (fun c42 => ?_) (fun c42 => ?_)
        · replace h := wx_ift c42 h
          exact b_X0_join_66 B ho h Z hS (lv_sub hl [1, 2, 3, 4, 0] rfl)
        · replace h := wx_iff c42 h
          refine lv_aload_n hx hb dX0_join_45 rfl (lv_at hl 1 rfl) ?_
          refine lv_iload hx hb dX0_join_46 (lv_at hl 0 rfl) ?_
          obtain ⟨v48, hc48, h⟩ := wx_o_ok h
          refine wx_call (va_runV (As := [.int v2]) (rest := []) ⟨hx, hb, hml, hown, hts⟩ (c_X0_touchAt l (D := D) (ad := ad) (rd := rd) (ca := ca) (A := A) (σ := σ) (o := o) ho hc48) (cwV 1 hts gX0_join_X0_touchAt rfl rfl rfl (by decide +kernel) ⟨Nat.le_of_ble_eq_true rfl, Nat.le_of_ble_eq_true rfl⟩) (wx_preV hC Z hS hA (wx_sbo ho 99) (rfl : vwCl[0]? = some (RX0, TX0, 13))) rfl rfl hl.1 rfl (lv_room (Nat.le_of_ble_eq_true rfl)) dX0_join_48 ⟨Nat.zero_le _, Nat.zero_le _⟩) hS (fun H locs Z hS => ?_)
          refine lv_bipush (v := (-6)) hx hb dX0_join_51 (by decide) ?_
          refine lv_icmp_ne (tgt := 66) hx hb dX0_join_53 (by decide) (fun c53 => ?_) (fun c53 => ?_)
          · replace h := wx_iff c53 h
            exact b_X0_join_66 B ho h Z hS (lv_sub hl [1, 2, 3, 4, 0] rfl)
          · replace h := wx_ift c53 h
            refine lv_aload_n hx hb dX0_join_56 rfl (lv_at hl 1 rfl) ?_
            refine lv_iload hx hb dX0_join_57 (lv_at hl 0 rfl) ?_
            refine lv_iload_n hx hb dX0_join_59 rfl (lv_at hl 4 rfl) ?_
            obtain ⟨v60, hc60, h⟩ := wx_o_ok h
            refine wx_call (va_runV (As := [.int v2, .int x3]) (rest := []) ⟨hx, hb, hml, hown, hts⟩ (c_X0_hasNeighbourOf l (D := D) (ad := ad) (rd := rd) (ca := ca) (A := A) (σ := σ) (o := o) ho hc60) (cwV 2 hts gX0_join_X0_hasNeighbourOf rfl rfl rfl (by decide +kernel) ⟨Nat.le_of_ble_eq_true rfl, Nat.le_of_ble_eq_true rfl⟩) (wx_preV hC Z hS hA (wx_sbo ho 99) (rfl : vwCl[0]? = some (RX0, TX0, 13))) rfl rfl hl.1 rfl (lv_room (Nat.le_of_ble_eq_true rfl)) dX0_join_60 ⟨Nat.zero_le _, Nat.zero_le _⟩) hS (fun H locs Z hS => ?_)
            refine lv_if_ne (tgt := 69) hx hb dX0_join_63 (by decide) (fun c63 => ?_) (fun c63 => ?_)
            · replace h := wx_iff c63 h
              refine lv_aload_n hx hb dX0_join_69 rfl (lv_at hl 1 rfl) ?_
              refine wx_get (own := RX0) hx hb hts i_X0_join_0 hown hC.1 Z (o := o) (ci := 0) (wx_sbo ho 99) (rfl : vwCl[0]? = some (RX0, TX0, 13)) 3 (by decide) (hts _ k_X0_join_w4) (fun _ h9 => h9) (f := 1) rfl rfl dX0_join_70 ?_
              refine lv_iconst (v := 3) hx hb dX0_join_73 (by decide) ?_
              refine lv_icmp_lt (tgt := 80) hx hb dX0_join_74 (by decide) (fun c74 => ?_) (fun c74 => ?_)
              · replace h := wx_ift c74 h
                refine lv_aload_n hx hb dX0_join_80 rfl (lv_at hl 1 rfl) ?_
                refine wx_get (own := RX0) hx hb hts i_X0_join_0 hown hC.1 Z (o := o) (ci := 0) (wx_sbo ho 99) (rfl : vwCl[0]? = some (RX0, TX0, 13)) 4 (by decide) (hts _ k_X0_join_w5) (fun _ h9 => h9) (f := 0) rfl rfl dX0_join_81 ?_
                refine lv_aload_n hx hb dX0_join_84 rfl (lv_at hl 1 rfl) ?_
                refine wx_get (own := RX0) hx hb hts i_X0_join_0 hown hC.1 Z (o := o) (ci := 0) (wx_sbo ho 99) (rfl : vwCl[0]? = some (RX0, TX0, 13)) 3 (by decide) (hts _ k_X0_join_w4) (fun _ h9 => h9) (f := 1) rfl rfl dX0_join_85 ?_
                refine lv_iload hx hb dX0_join_88 (lv_at hl 0 rfl) ?_
                obtain ⟨σ90, e90, i90, h⟩ := wx_w_ok h
                refine wx_iast hx hb hC.1 Z hS (o := o) (k := 4) (n := 3) (wx_sbo ho 4) rfl i90 dX0_join_90 e90 (fun H locs Z hS => ?_)
                refine lv_aload_n hx hb dX0_join_91 rfl (lv_at hl 1 rfl) ?_
                refine wx_get (own := RX0) hx hb hts i_X0_join_0 hown hC.1 Z (o := o) (ci := 0) (wx_sbo ho 99) (rfl : vwCl[0]? = some (RX0, TX0, 13)) 5 (by decide) (hts _ k_X0_join_w6) (fun _ h9 => h9) (f := 0) rfl rfl dX0_join_92 ?_
                refine lv_aload_n hx hb dX0_join_95 rfl (lv_at hl 1 rfl) ?_
                refine wx_get (own := RX0) hx hb hts i_X0_join_0 hown hC.1 Z (o := o) (ci := 0) (wx_sbo ho 99) (rfl : vwCl[0]? = some (RX0, TX0, 13)) 3 (by decide) (hts _ k_X0_join_w4) (fun _ h9 => h9) (f := 1) rfl rfl dX0_join_96 ?_
                refine lv_iload_n hx hb dX0_join_99 rfl (lv_at hl 4 rfl) ?_
                obtain ⟨σ100, e100, i100, h⟩ := wx_w_ok h
                refine wx_iast hx hb hC.1 Z hS (o := o) (k := 5) (n := 3) (wx_sbo ho 5) rfl i100 dX0_join_100 e100 (fun H locs Z hS => ?_)
                refine lv_aload_n hx hb dX0_join_101 rfl (lv_at hl 1 rfl) ?_
                refine lv_dup hx hb dX0_join_102 rfl ?_
                refine wx_get (own := RX0) hx hb hts i_X0_join_0 hown hC.1 Z (o := o) (ci := 0) (wx_sbo ho 99) (rfl : vwCl[0]? = some (RX0, TX0, 13)) 3 (by decide) (hts _ k_X0_join_w4) (fun _ h9 => h9) (f := 1) rfl rfl dX0_join_103 ?_
                refine lv_iconst (v := 1) hx hb dX0_join_106 (by decide) ?_
                refine lv_iadd hx hb dX0_join_107 ?_
                obtain ⟨σ108, e108, h⟩ := wx_l_ok h
                refine wx_put (own := RX0) hx hb hts i_X0_join_0 tyX0 tyX0_ok nmX0 hown hC.1 Z hS (o := o) (ci := 0) (wx_sbo ho 99) (rfl : vwCl[0]? = some (RX0, TX0, 13)) 3 (by decide) (hts _ k_X0_join_w4) (fun _ h9 => h9) rfl (by decide +kernel) rfl dX0_join_108 e108 (fun H locs Z hS => ?_)
                refine lv_aload_n hx hb dX0_join_111 rfl (lv_at hl 1 rfl) ?_
                obtain ⟨v112, σ112, hc112, h⟩ := wx_b_ok h
                refine wx_call (va_runV (As := []) (rest := []) ⟨hx, hb, hml, hown, hts⟩ (c_X0_beginRun l (D := D) (ad := ad) (rd := rd) (ca := ca) (A := A) (σ := σ108) (o := o) ho hc112) (cwV 0 hts gX0_join_X0_beginRun rfl rfl rfl (by decide +kernel) ⟨Nat.le_of_ble_eq_true rfl, Nat.le_of_ble_eq_true rfl⟩) (wx_preV hC Z hS hA (wx_sbo ho 99) (rfl : vwCl[0]? = some (RX0, TX0, 13))) rfl rfl hl.1 rfl (lv_room (Nat.le_of_ble_eq_true rfl)) dX0_join_112 ⟨Nat.zero_le _, Nat.zero_le _⟩) hS (fun H locs Z hS => ?_)
                refine lv_aload_n hx hb dX0_join_115 rfl (lv_at hl 1 rfl) ?_
                refine wx_get (own := RX0) hx hb hts i_X0_join_0 hown hC.1 Z (o := o) (ci := 0) (wx_sbo ho 99) (rfl : vwCl[0]? = some (RX0, TX0, 13)) 3 (by decide) (hts _ k_X0_join_w4) (fun _ h9 => h9) (f := 1) rfl rfl dX0_join_116 ?_
                refine lv_iconst (v := 1) hx hb dX0_join_119 (by decide) ?_
                refine lv_isub hx hb dX0_join_120 ?_
                obtain ⟨rfl, rfl⟩ := wx_ret_ok h
                exact W.iret hx hb hr (fun t ht hW => ⟨rfl, by rw [ht]; exact Z, hS.F ht⟩) hS.2.2 dX0_join_121
              · replace h := wx_iff c74 h
                refine lv_bipush (v := (-4)) hx hb dX0_join_77 (by decide) ?_
                obtain ⟨rfl, rfl⟩ := wx_ret_ok h
                exact W.iret hx hb hr (fun t ht hW => ⟨rfl, by rw [ht]; exact Z, hS.F ht⟩) hS.2.2 dX0_join_79
            · replace h := wx_ift c63 h
              exact b_X0_join_66 B ho h Z hS (lv_sub hl [1, 2, 3, 4, 0] rfl)
    · replace h := wx_ift c18 h
      refine lv_bipush (v := (-2)) hx hb dX0_join_21 (by decide) ?_
      obtain ⟨rfl, rfl⟩ := wx_ret_ok h
      exact W.iret hx hb hr (fun t ht hW => ⟨rfl, by rw [ht]; exact Z, hS.F ht⟩) hS.2.2 dX0_join_23
  · replace h := wx_iff c9 h
    refine lv_iconst (v := (-1)) hx hb dX0_join_12 (by decide) ?_
    obtain ⟨rfl, rfl⟩ := wx_ret_ok h
    exact W.iret hx hb hr (fun t ht hW => ⟨rfl, by rw [ht]; exact Z, hS.F ht⟩) hS.2.2 dX0_join_13
set_option maxRecDepth 20000 in
theorem c_X0_join (l : Launch) {D : va_G} {ad : Nat → Nat → Nat} {rd : Nat → Nat} {ca : Nat → ClassId} {A : Nat → Prop} {σ : wx_St} {o : Nat}  (ho : o < 11) {x1 : Int32} {x2 : Int32} {x3 : Int32} {r : Int32} {σ' : wx_St} (h : f_X0_join o x1 x2 x3 σ = some (r, σ')) : wx_M l yX0_join wsX0_join 2 45 D ad rd ca A [.ref (ad o 99), .int x1, .int x2, .int x3] σ (some (.int r)) σ' := by
  refine Met.ofW (cc := cX0_join) (maxL := 5) (ret := (some .int)) (by decide) rfl ?_
  intro p e s m args below meth c s₁ B0 hml hv
  obtain ⟨rfl, hC, Z, hA⟩ := hv
  have hl := lv_entry ([.ref (ad o 99), .int x1, .int x2, .int x3]) (n := 5) (Nat.le_of_ble_eq_true rfl)
  rw [lg_entry_eq]
  generalize (lg_sl ([.ref (ad o 99), .int x1, .int x2, .int x3]) ++ List.replicate (5 - (lg_sl ([.ref (ad o 99), .int x1, .int x2, .int x3])).length) Slot.unset).toArray = ls at hl ⊢
  exact b_X0_join_0 ⟨B0.exec, B0.bytes, hml, B0.returns, atoms_spec (ws := wsX0_join) B0.pre, findClass_of_methodNamed B0.named, B0.notSynchronized, hC, hA⟩ ho h Z va_S.rf hl
set_option maxRecDepth 20000 in
set_option maxHeartbeats 4000000 in
theorem b_X5_areNeighbours_2 (B : wx_B p s m args meth c cX5_areNeighbours 3 (some .boolean) wsX5_areNeighbours RX5 D ad ca A)    {r : Int32} {σ : wx_St}   :
    ∀ {n : Nat} {x0 : Int32} {x1 : Int32} {x2 : Int32}   (h : f_X5_areNeighbours_2 n x0 x1 x2 = some r) {H : Heap} {locs : List Loc} (Z : wx_Z D ad rd ca A σ H) (hS : va_S A s.heap H locs) {ls : Array Slot} (hl : lv_has ls 3 [(0, .int x0), (1, .int x1), (2, .int x2)]), W p l e ({ frames := 1, cells := 0, slots := 0, locals := 21 } : Room) s m args below meth c H locs 0 0 (MQ below (wx_Q D ad rd ca A (some (.int r)) σ) args s 0 0 A) (F0 m 2 ls []) := by
  obtain ⟨hx, hb, hml, hr, hts, hown, hlk, hC, hA⟩ := id B
  intro n
  induction n with
  | zero => intro x0 x1 x2   h H locs Z hS ls hl; exact wx_no h
  | succ n ih =>
    intro x0 x1 x2   h H locs Z hS ls hl
    rw [f_X5_areNeighbours_2] at h
    refine lv_iload_n hx hb dX5_areNeighbours_2 rfl (lv_at hl 2 rfl) ?_
    refine lv_iconst (v := 4) hx hb dX5_areNeighbours_3 (by decide) ?_
    refine lv_icmp_ge (tgt := 24) hx hb dX5_areNeighbours_4 (by decide) (fun c4 => ?_) (fun c4 => ?_)
    · replace h := wx_ift c4 h
      refine lv_iconst (v := 0) hx hb dX5_areNeighbours_24 (by decide) ?_
      obtain rfl := Option.some.inj h
      exact W.zret hx hb hr rfl (fun t ht hW => ⟨rfl, by rw [ht]; exact Z, hS.F ht⟩) hS.2.2 dX5_areNeighbours_25
    · replace h := wx_iff c4 h
      refine lv_iload_n hx hb dX5_areNeighbours_7 rfl (lv_at hl 0 rfl) ?_
      refine lv_iload_n hx hb dX5_areNeighbours_8 rfl (lv_at hl 2 rfl) ?_
      obtain ⟨v9, hc9, h⟩ := wx_o_ok h
      refine wx_call (va_runS (As := [.int x0, .int x2]) (rest := []) ⟨hx, hb, hml, hown, hts⟩ (c_X5_neighbourOf l (D := D) (ad := ad) (rd := rd) (ca := ca) (A := A) (σ := σ) hc9) (va_cwS 2 hts gX5_areNeighbours_X5_neighbourOf rfl rfl rfl (by decide +kernel) ⟨Nat.le_of_ble_eq_true rfl, Nat.le_of_ble_eq_true rfl⟩) (wx_preS hC Z hS hA) rfl rfl hl.1 rfl (lv_room (Nat.le_of_ble_eq_true rfl)) dX5_areNeighbours_9 ⟨Nat.zero_le _, Nat.zero_le _⟩) hS (fun H locs Z hS => ?_)
      refine lv_iload_n hx hb dX5_areNeighbours_12 rfl (lv_at hl 1 rfl) ?_
      refine lv_icmp_ne (tgt := 18) hx hb dX5_areNeighbours_13 (by decide) (fun c13 => ?_) (fun c13 => ?_)
      · replace h := wx_iff c13 h
        refine lv_iinc (v := x2 + 1) (lv' := [(2, .int (x2 + 1)), (0, .int x0), (1, .int x1)]) hx hb dX5_areNeighbours_18 hl (k := 2) rfl rfl (by decide) rfl (fun ls hl => ?_)
        refine lv_goto (tgt := 2) hx hb dX5_areNeighbours_21 (by decide) ?_
        exact ih h Z hS (lv_sub hl [1, 2, 0] rfl)
      · replace h := wx_ift c13 h
        refine lv_iconst (v := 1) hx hb dX5_areNeighbours_16 (by decide) ?_
        obtain rfl := Option.some.inj h
        exact W.zret hx hb hr rfl (fun t ht hW => ⟨rfl, by rw [ht]; exact Z, hS.F ht⟩) hS.2.2 dX5_areNeighbours_17
set_option maxRecDepth 20000 in
set_option maxHeartbeats 4000000 in
theorem b_X5_areNeighbours_0 (B : wx_B p s m args meth c cX5_areNeighbours 3 (some .boolean) wsX5_areNeighbours RX5 D ad ca A)    {r : Int32} {σ : wx_St}  {x0 : Int32} {x1 : Int32}   (h : f_X5_areNeighbours x0 x1 = some r) {H : Heap} {locs : List Loc} (Z : wx_Z D ad rd ca A σ H) (hS : va_S A s.heap H locs) {ls : Array Slot} (hl : lv_has ls 3 [(0, .int x0), (1, .int x1)]) : W p l e ({ frames := 1, cells := 0, slots := 0, locals := 21 } : Room) s m args below meth c H locs 0 0 (MQ below (wx_Q D ad rd ca A (some (.int r)) σ) args s 0 0 A) (F0 m 0 ls []) := by
  obtain ⟨hx, hb, hml, hr, hts, hown, hlk, hC, hA⟩ := id B
  unfold f_X5_areNeighbours at h
  refine lv_iconst (v := 0) hx hb dX5_areNeighbours_0 (by decide) ?_
  refine lv_istore_n (lv' := [(2, .int 0), (0, .int x0), (1, .int x1)]) hx hb dX5_areNeighbours_1 rfl hl (by decide) rfl (fun ls hl => ?_)
  exact b_X5_areNeighbours_2 B h Z hS (lv_sub hl [1, 2, 0] rfl)
set_option maxRecDepth 20000 in
theorem c_X5_areNeighbours (l : Launch) {D : va_G} {ad : Nat → Nat → Nat} {rd : Nat → Nat} {ca : Nat → ClassId} {A : Nat → Prop} {σ : wx_St}    {x0 : Int32} {x1 : Int32} {r : Int32} (h : f_X5_areNeighbours x0 x1 = some r) : wx_M l yX5_areNeighbours wsX5_areNeighbours 1 21 D ad rd ca A [.int x0, .int x1] σ (some (.int r)) σ := by
  refine Met.ofW (cc := cX5_areNeighbours) (maxL := 3) (ret := (some .boolean)) (by decide) rfl ?_
  intro p e s m args below meth c s₁ B0 hml hv
  obtain ⟨rfl, hC, Z, hA⟩ := hv
  have hl := lv_entry ([.int x0, .int x1]) (n := 3) (Nat.le_of_ble_eq_true rfl)
  rw [lg_entry_eq]
  generalize (lg_sl ([.int x0, .int x1]) ++ List.replicate (3 - (lg_sl ([.int x0, .int x1])).length) Slot.unset).toArray = ls at hl ⊢
  exact b_X5_areNeighbours_0 ⟨B0.exec, B0.bytes, hml, B0.returns, atoms_spec (ws := wsX5_areNeighbours) B0.pre, findClass_of_methodNamed B0.named, B0.notSynchronized, hC, hA⟩  h Z va_S.rf hl
theorem i_X0_isNeededByTouch_0 : ∀ w ∈ wsX00, w ∈ wsX0_isNeededByTouch := by decide +kernel
theorem k_X0_isNeededByTouch_w0 : Cond.fieldLink RX0 21 "WarmProbes$Board" "touches" "I" ∈ wsX0_isNeededByTouch := by decide +kernel
theorem k_X0_isNeededByTouch_w1 : Cond.fieldLink RX0 25 "WarmProbes$Board" "touchPlaces" "[I" ∈ wsX0_isNeededByTouch := by decide +kernel
theorem k_X0_isNeededByTouch_w2 : Cond.initialized RX5 ∈ wsX0_isNeededByTouch := by decide +kernel
theorem k_X0_isNeededByTouch_w3 : Cond.static yX5_areNeighbours ∈ wsX0_isNeededByTouch := by decide +kernel
theorem k_X0_isNeededByTouch_w4 : Cond.fieldLink RX0 28 "WarmProbes$Board" "touchOthers" "[I" ∈ wsX0_isNeededByTouch := by decide +kernel
theorem k_X0_isNeededByTouch_w5 : Cond.fieldLink RX0 15 "WarmProbes$Board" "nets" "[I" ∈ wsX0_isNeededByTouch := by decide +kernel
set_option maxRecDepth 20000 in
set_option maxHeartbeats 4000000 in
theorem b_X0_isNeededByTouch_52 (B : wx_B p s m args meth c cX0_isNeededByTouch 3 (some .boolean) wsX0_isNeededByTouch RX0 D ad ca A) {o : Nat}  (ho : o < 11) {r : Int32} {σ : wx_St} {K2 : Int32 → Int32 → wx_St → Option Int32} (hK2 : ∀ {x1 : Int32} {x2 : Int32}   (h : K2 x1 x2 σ = some r) {H : Heap} {locs : List Loc} (Z : wx_Z D ad rd ca A σ H) (hS : va_S A s.heap H locs) {ls : Array Slot} (hl : lv_has ls 3 [(0, .ref (ad o 99)), (1, .int x1), (2, .int x2)]), W p l e ({ frames := 2, cells := 0, slots := 0, locals := 43 } : Room) s m args below meth c H locs 0 0 (MQ below (wx_Q D ad rd ca A (some (.int r)) σ) args s 0 0 A) (F0 m 2 ls [])) {x1 : Int32} {x2 : Int32}   (h : f_X0_isNeededByTouch_52 o K2 x1 x2 σ = some r) {H : Heap} {locs : List Loc} (Z : wx_Z D ad rd ca A σ H) (hS : va_S A s.heap H locs) {ls : Array Slot} (hl : lv_has ls 3 [(0, .ref (ad o 99)), (1, .int x1), (2, .int x2)]) : W p l e ({ frames := 2, cells := 0, slots := 0, locals := 43 } : Room) s m args below meth c H locs 0 0 (MQ below (wx_Q D ad rd ca A (some (.int r)) σ) args s 0 0 A) (F0 m 52 ls []) := by
  obtain ⟨hx, hb, hml, hr, hts, hown, hlk, hC, hA⟩ := id B
  unfold f_X0_isNeededByTouch_52 at h
  refine lv_iinc (v := x2 + 1) (lv' := [(2, .int (x2 + 1)), (0, .ref (ad o 99)), (1, .int x1)]) hx hb dX0_isNeededByTouch_52 hl (k := 2) rfl rfl (by decide) rfl (fun ls hl => ?_)
  refine lv_goto (tgt := 2) hx hb dX0_isNeededByTouch_55 (by decide) ?_
  exact hK2 h Z hS (lv_sub hl [1, 2, 0] rfl)
set_option maxRecDepth 20000 in
set_option maxHeartbeats 4000000 in
theorem b_X0_isNeededByTouch_2 (B : wx_B p s m args meth c cX0_isNeededByTouch 3 (some .boolean) wsX0_isNeededByTouch RX0 D ad ca A) {o : Nat}  (ho : o < 11) {r : Int32} {σ : wx_St}   :
    ∀ {n : Nat} {x1 : Int32} {x2 : Int32}   (h : f_X0_isNeededByTouch_2 o n x1 x2 σ = some r) {H : Heap} {locs : List Loc} (Z : wx_Z D ad rd ca A σ H) (hS : va_S A s.heap H locs) {ls : Array Slot} (hl : lv_has ls 3 [(0, .ref (ad o 99)), (1, .int x1), (2, .int x2)]), W p l e ({ frames := 2, cells := 0, slots := 0, locals := 43 } : Room) s m args below meth c H locs 0 0 (MQ below (wx_Q D ad rd ca A (some (.int r)) σ) args s 0 0 A) (F0 m 2 ls []) := by
  obtain ⟨hx, hb, hml, hr, hts, hown, hlk, hC, hA⟩ := id B
  intro n
  induction n with
  | zero => intro x1 x2   h H locs Z hS ls hl; exact wx_no h
  | succ n ih =>
    intro x1 x2   h H locs Z hS ls hl
    rw [f_X0_isNeededByTouch_2] at h
    refine lv_iload_n hx hb dX0_isNeededByTouch_2 rfl (lv_at hl 2 rfl) ?_
    refine lv_aload_n hx hb dX0_isNeededByTouch_3 rfl (lv_at hl 0 rfl) ?_
    refine wx_get (own := RX0) hx hb hts i_X0_isNeededByTouch_0 hown hC.1 Z (o := o) (ci := 0) (wx_sbo ho 99) (rfl : vwCl[0]? = some (RX0, TX0, 13)) 3 (by decide) (hts _ k_X0_isNeededByTouch_w0) (fun _ h9 => h9) (f := 1) rfl rfl dX0_isNeededByTouch_4 ?_
    refine lv_icmp_ge (tgt := 58) hx hb dX0_isNeededByTouch_7 (by decide) (fun c7 => ?_) (fun c7 => ?_)
    · replace h := wx_ift c7 h
      refine lv_iconst (v := 0) hx hb dX0_isNeededByTouch_58 (by decide) ?_
      obtain rfl := Option.some.inj h
      exact W.zret hx hb hr rfl (fun t ht hW => ⟨rfl, by rw [ht]; exact Z, hS.F ht⟩) hS.2.2 dX0_isNeededByTouch_59
    · replace h := wx_iff c7 h
      refine lv_aload_n hx hb dX0_isNeededByTouch_10 rfl (lv_at hl 0 rfl) ?_
      refine wx_get (own := RX0) hx hb hts i_X0_isNeededByTouch_0 hown hC.1 Z (o := o) (ci := 0) (wx_sbo ho 99) (rfl : vwCl[0]? = some (RX0, TX0, 13)) 4 (by decide) (hts _ k_X0_isNeededByTouch_w1) (fun _ h9 => h9) (f := 0) rfl rfl dX0_isNeededByTouch_11 ?_
      refine lv_iload_n hx hb dX0_isNeededByTouch_14 rfl (lv_at hl 2 rfl) ?_
      obtain ⟨v15, ev15, iv15, h⟩ := wx_rI_ok h
      refine wx_iald hx hb hC.1 Z (o := o) (k := 4) (n := 3) (wx_sbo ho 4) rfl iv15 dX0_isNeededByTouch_15 ev15 ?_
      refine lv_iload_n hx hb dX0_isNeededByTouch_16 rfl (lv_at hl 1 rfl) ?_
      refine lv_icmp_ne (tgt := 22) hx hb dX0_isNeededByTouch_17 (by decide) (fun c17 => ?_) (fun c17 => ?_)
      · replace h := wx_iff c17 h
        refine lv_aload_n hx hb dX0_isNeededByTouch_22 rfl (lv_at hl 0 rfl) ?_
        refine wx_get (own := RX0) hx hb hts i_X0_isNeededByTouch_0 hown hC.1 Z (o := o) (ci := 0) (wx_sbo ho 99) (rfl : vwCl[0]? = some (RX0, TX0, 13)) 4 (by decide) (hts _ k_X0_isNeededByTouch_w1) (fun _ h9 => h9) (f := 0) rfl rfl dX0_isNeededByTouch_23 ?_
        refine lv_iload_n hx hb dX0_isNeededByTouch_26 rfl (lv_at hl 2 rfl) ?_
        obtain ⟨v27, ev27, iv27, h⟩ := wx_rI_ok h
        refine wx_iald hx hb hC.1 Z (o := o) (k := 4) (n := 3) (wx_sbo ho 4) rfl iv27 dX0_isNeededByTouch_27 ev27 ?_
        refine lv_iload_n hx hb dX0_isNeededByTouch_28 rfl (lv_at hl 1 rfl) ?_
        obtain ⟨v29, hc29, h⟩ := wx_o_ok h
        refine wx_call (va_runSN (As := [.int v27, .int x1]) (rest := []) ⟨hx, hb, hml, hown, hts⟩ (c_X5_areNeighbours l (D := D) (ad := ad) (rd := rd) (ca := ca) (A := A) (σ := σ) hc29) ⟨va_cnB 2 hts gX0_isNeededByTouch_X5_areNeighbours_n82 rfl rfl rfl (hC.1.2 _ (List.mem_of_getElem? (i := 36) rfl)) (hts _ k_X0_isNeededByTouch_w2) (by decide +kernel) ⟨Nat.le_of_ble_eq_true rfl, Nat.le_of_ble_eq_true rfl⟩, hts _ k_X0_isNeededByTouch_w3, trivial⟩ (wx_preS hC Z hS hA) rfl rfl hl.1 rfl (lv_room (Nat.le_of_ble_eq_true rfl)) dX0_isNeededByTouch_29 ⟨Nat.zero_le _, Nat.zero_le _⟩) hS (fun H locs Z hS => ?_)
        refine lv_if_eq (tgt := 52) hx hb dX0_isNeededByTouch_32 (by decide) (fun c32 => ?_) (fun c32 => ?_)
        · replace h := wx_ift c32 h
          exact b_X0_isNeededByTouch_52 B ho (K2 := (f_X0_isNeededByTouch_2 o n)) @ih h Z hS (lv_sub hl [0, 1, 2] rfl)
        · replace h := wx_iff c32 h
          refine lv_aload_n hx hb dX0_isNeededByTouch_35 rfl (lv_at hl 0 rfl) ?_
          refine wx_get (own := RX0) hx hb hts i_X0_isNeededByTouch_0 hown hC.1 Z (o := o) (ci := 0) (wx_sbo ho 99) (rfl : vwCl[0]? = some (RX0, TX0, 13)) 5 (by decide) (hts _ k_X0_isNeededByTouch_w4) (fun _ h9 => h9) (f := 0) rfl rfl dX0_isNeededByTouch_36 ?_
          refine lv_iload_n hx hb dX0_isNeededByTouch_39 rfl (lv_at hl 2 rfl) ?_
          obtain ⟨v40, ev40, iv40, h⟩ := wx_rI_ok h
          refine wx_iald hx hb hC.1 Z (o := o) (k := 5) (n := 3) (wx_sbo ho 5) rfl iv40 dX0_isNeededByTouch_40 ev40 ?_
          refine lv_aload_n hx hb dX0_isNeededByTouch_41 rfl (lv_at hl 0 rfl) ?_
          refine wx_get (own := RX0) hx hb hts i_X0_isNeededByTouch_0 hown hC.1 Z (o := o) (ci := 0) (wx_sbo ho 99) (rfl : vwCl[0]? = some (RX0, TX0, 13)) 1 (by decide) (hts _ k_X0_isNeededByTouch_w5) (fun _ h9 => h9) (f := 0) rfl rfl dX0_isNeededByTouch_42 ?_
          refine lv_iload_n hx hb dX0_isNeededByTouch_45 rfl (lv_at hl 1 rfl) ?_
          obtain ⟨v46, ev46, iv46, h⟩ := wx_rI_ok h
          refine wx_iald hx hb hC.1 Z (o := o) (k := 1) (n := 64) (wx_sbo ho 1) rfl iv46 dX0_isNeededByTouch_46 ev46 ?_
          refine lv_icmp_ne (tgt := 52) hx hb dX0_isNeededByTouch_47 (by decide) (fun c47 => ?_) (fun c47 => ?_)
          · replace h := wx_iff c47 h
            exact b_X0_isNeededByTouch_52 B ho (K2 := (f_X0_isNeededByTouch_2 o n)) @ih h Z hS (lv_sub hl [0, 1, 2] rfl)
          · replace h := wx_ift c47 h
            refine lv_iconst (v := 1) hx hb dX0_isNeededByTouch_50 (by decide) ?_
            obtain rfl := Option.some.inj h
            exact W.zret hx hb hr rfl (fun t ht hW => ⟨rfl, by rw [ht]; exact Z, hS.F ht⟩) hS.2.2 dX0_isNeededByTouch_51
      · replace h := wx_ift c17 h
        refine lv_iconst (v := 1) hx hb dX0_isNeededByTouch_20 (by decide) ?_
        obtain rfl := Option.some.inj h
        exact W.zret hx hb hr rfl (fun t ht hW => ⟨rfl, by rw [ht]; exact Z, hS.F ht⟩) hS.2.2 dX0_isNeededByTouch_21
set_option maxRecDepth 20000 in
set_option maxHeartbeats 4000000 in
theorem b_X0_isNeededByTouch_0 (B : wx_B p s m args meth c cX0_isNeededByTouch 3 (some .boolean) wsX0_isNeededByTouch RX0 D ad ca A) {o : Nat}  (ho : o < 11) {r : Int32} {σ : wx_St}  {x1 : Int32}   (h : f_X0_isNeededByTouch o x1 σ = some r) {H : Heap} {locs : List Loc} (Z : wx_Z D ad rd ca A σ H) (hS : va_S A s.heap H locs) {ls : Array Slot} (hl : lv_has ls 3 [(0, .ref (ad o 99)), (1, .int x1)]) : W p l e ({ frames := 2, cells := 0, slots := 0, locals := 43 } : Room) s m args below meth c H locs 0 0 (MQ below (wx_Q D ad rd ca A (some (.int r)) σ) args s 0 0 A) (F0 m 0 ls []) := by
  obtain ⟨hx, hb, hml, hr, hts, hown, hlk, hC, hA⟩ := id B
  unfold f_X0_isNeededByTouch at h
  refine lv_iconst (v := 0) hx hb dX0_isNeededByTouch_0 (by decide) ?_
  refine lv_istore_n (lv' := [(2, .int 0), (0, .ref (ad o 99)), (1, .int x1)]) hx hb dX0_isNeededByTouch_1 rfl hl (by decide) rfl (fun ls hl => ?_)
  exact b_X0_isNeededByTouch_2 B ho h Z hS (lv_sub hl [1, 2, 0] rfl)
set_option maxRecDepth 20000 in
theorem c_X0_isNeededByTouch (l : Launch) {D : va_G} {ad : Nat → Nat → Nat} {rd : Nat → Nat} {ca : Nat → ClassId} {A : Nat → Prop} {σ : wx_St} {o : Nat}  (ho : o < 11) {x1 : Int32} {r : Int32} (h : f_X0_isNeededByTouch o x1 σ = some r) : wx_M l yX0_isNeededByTouch wsX0_isNeededByTouch 2 43 D ad rd ca A [.ref (ad o 99), .int x1] σ (some (.int r)) σ := by
  refine Met.ofW (cc := cX0_isNeededByTouch) (maxL := 3) (ret := (some .boolean)) (by decide) rfl ?_
  intro p e s m args below meth c s₁ B0 hml hv
  obtain ⟨rfl, hC, Z, hA⟩ := hv
  have hl := lv_entry ([.ref (ad o 99), .int x1]) (n := 3) (Nat.le_of_ble_eq_true rfl)
  rw [lg_entry_eq]
  generalize (lg_sl ([.ref (ad o 99), .int x1]) ++ List.replicate (3 - (lg_sl ([.ref (ad o 99), .int x1])).length) Slot.unset).toArray = ls at hl ⊢
  exact b_X0_isNeededByTouch_0 ⟨B0.exec, B0.bytes, hml, B0.returns, atoms_spec (ws := wsX0_isNeededByTouch) B0.pre, findClass_of_methodNamed B0.named, B0.notSynchronized, hC, hA⟩ ho h Z va_S.rf hl
theorem i_X0_lay_0 : ∀ w ∈ wsX00, w ∈ wsX0_lay := by decide +kernel
theorem k_X0_lay_w0 : Cond.initialized RX5 ∈ wsX0_lay := by decide +kernel
theorem k_X0_lay_w1 : Cond.static yX5_placeOf ∈ wsX0_lay := by decide +kernel
theorem k_X0_lay_w2 : Cond.static yX5_isNet ∈ wsX0_lay := by decide +kernel
theorem k_X0_lay_w3 : Cond.fieldLink RX0 15 "WarmProbes$Board" "nets" "[I" ∈ wsX0_lay := by decide +kernel
set_option maxRecDepth 20000 in
set_option maxHeartbeats 4000000 in
theorem b_X0_lay_28 (B : wx_B p s m args meth c cX0_lay 6 (some .int) wsX0_lay RX0 D ad ca A) {o : Nat}  (ho : o < 11) {r : Int32} {σ' : wx_St}  {x1 : Int32} {x2 : Int32} {x3 : Int32} {x4 : Int32}  {σ : wx_St} (h : f_X0_lay_28 o x1 x2 x3 x4 σ = some (r, σ')) {H : Heap} {locs : List Loc} (Z : wx_Z D ad rd ca A σ H) (hS : va_S A s.heap H locs) {ls : Array Slot} (hl : lv_has ls 6 [(0, .ref (ad o 99)), (1, .int x1), (2, .int x2), (3, .int x3), (4, .int x4)]) : W p l e ({ frames := 3, cells := 0, slots := 0, locals := 65 } : Room) s m args below meth c H locs 0 0 (MQ below (wx_Q D ad rd ca A (some (.int r)) σ') args s 0 0 A) (F0 m 28 ls []) := by
  obtain ⟨hx, hb, hml, hr, hts, hown, hlk, hC, hA⟩ := id B
  unfold f_X0_lay_28 at h
  refine lv_aload_n hx hb dX0_lay_28 rfl (lv_at hl 0 rfl) ?_
  refine lv_iload hx hb dX0_lay_29 (lv_at hl 4 rfl) ?_
  obtain ⟨v31, hc31, h⟩ := wx_o_ok h
  refine wx_call (va_runV (As := [.int x4]) (rest := []) ⟨hx, hb, hml, hown, hts⟩ (c_X0_isNeededByTouch l (D := D) (ad := ad) (rd := rd) (ca := ca) (A := A) (σ := σ) (o := o) ho hc31) (cwV 1 hts gX0_lay_X0_isNeededByTouch rfl rfl rfl (by decide +kernel) ⟨Nat.le_of_ble_eq_true rfl, Nat.le_of_ble_eq_true rfl⟩) (wx_preV hC Z hS hA (wx_sbo ho 99) (rfl : vwCl[0]? = some (RX0, TX0, 13))) rfl rfl hl.1 rfl (lv_room (Nat.le_of_ble_eq_true rfl)) dX0_lay_31 ⟨Nat.zero_le _, Nat.zero_le _⟩) hS (fun H locs Z hS => ?_)
  refine lv_if_eq (tgt := 40) hx hb dX0_lay_34 (by decide) (fun c34 => ?_) (fun c34 => ?_)
  · replace h := wx_ift c34 h
    refine lv_aload_n hx hb dX0_lay_40 rfl (lv_at hl 0 rfl) ?_
    refine wx_get (own := RX0) hx hb hts i_X0_lay_0 hown hC.1 Z (o := o) (ci := 0) (wx_sbo ho 99) (rfl : vwCl[0]? = some (RX0, TX0, 13)) 1 (by decide) (hts _ k_X0_lay_w3) (fun _ h9 => h9) (f := 0) rfl rfl dX0_lay_41 ?_
    refine lv_iload hx hb dX0_lay_44 (lv_at hl 4 rfl) ?_
    obtain ⟨v46, ev46, iv46, h⟩ := wx_rI_ok h
    refine wx_iald hx hb hC.1 Z (o := o) (k := 1) (n := 64) (wx_sbo ho 1) rfl iv46 dX0_lay_46 ev46 ?_
    refine lv_istore (lv' := [(5, .int v46), (0, .ref (ad o 99)), (1, .int x1), (2, .int x2), (3, .int x3), (4, .int x4)]) hx hb dX0_lay_47 hl (by decide) rfl (fun ls hl => ?_)
    refine lv_aload_n hx hb dX0_lay_49 rfl (lv_at hl 1 rfl) ?_
    refine wx_get (own := RX0) hx hb hts i_X0_lay_0 hown hC.1 Z (o := o) (ci := 0) (wx_sbo ho 99) (rfl : vwCl[0]? = some (RX0, TX0, 13)) 1 (by decide) (hts _ k_X0_lay_w3) (fun _ h9 => h9) (f := 0) rfl rfl dX0_lay_50 ?_
    refine lv_iload hx hb dX0_lay_53 (lv_at hl 5 rfl) ?_
    refine lv_iload_n hx hb dX0_lay_55 rfl (lv_at hl 4 rfl) ?_
    obtain ⟨σ56, e56, i56, h⟩ := wx_w_ok h
    refine wx_iast hx hb hC.1 Z hS (o := o) (k := 1) (n := 64) (wx_sbo ho 1) rfl i56 dX0_lay_56 e56 (fun H locs Z hS => ?_)
    refine lv_aload_n hx hb dX0_lay_57 rfl (lv_at hl 1 rfl) ?_
    obtain ⟨v58, σ58, hc58, h⟩ := wx_b_ok h
    refine wx_call (va_runV (As := []) (rest := []) ⟨hx, hb, hml, hown, hts⟩ (c_X0_beginRun l (D := D) (ad := ad) (rd := rd) (ca := ca) (A := A) (σ := σ56) (o := o) ho hc58) (cwV 0 hts gX0_lay_X0_beginRun rfl rfl rfl (by decide +kernel) ⟨Nat.le_of_ble_eq_true rfl, Nat.le_of_ble_eq_true rfl⟩) (wx_preV hC Z hS hA (wx_sbo ho 99) (rfl : vwCl[0]? = some (RX0, TX0, 13))) rfl rfl hl.1 rfl (lv_room (Nat.le_of_ble_eq_true rfl)) dX0_lay_58 ⟨Nat.zero_le _, Nat.zero_le _⟩) hS (fun H locs Z hS => ?_)
    refine lv_iload hx hb dX0_lay_61 (lv_at hl 0 rfl) ?_
    obtain ⟨rfl, rfl⟩ := wx_ret_ok h
    exact W.iret hx hb hr (fun t ht hW => ⟨rfl, by rw [ht]; exact Z, hS.F ht⟩) hS.2.2 dX0_lay_63
  · replace h := wx_iff c34 h
    refine lv_bipush (v := (-5)) hx hb dX0_lay_37 (by decide) ?_
    obtain ⟨rfl, rfl⟩ := wx_ret_ok h
    exact W.iret hx hb hr (fun t ht hW => ⟨rfl, by rw [ht]; exact Z, hS.F ht⟩) hS.2.2 dX0_lay_39
set_option maxRecDepth 20000 in
set_option maxHeartbeats 4000000 in
theorem b_X0_lay_0 (B : wx_B p s m args meth c cX0_lay 6 (some .int) wsX0_lay RX0 D ad ca A) {o : Nat}  (ho : o < 11) {r : Int32} {σ' : wx_St}  {x1 : Int32} {x2 : Int32} {x3 : Int32}  {σ : wx_St} (h : f_X0_lay o x1 x2 x3 σ = some (r, σ')) {H : Heap} {locs : List Loc} (Z : wx_Z D ad rd ca A σ H) (hS : va_S A s.heap H locs) {ls : Array Slot} (hl : lv_has ls 6 [(0, .ref (ad o 99)), (1, .int x1), (2, .int x2), (3, .int x3)]) : W p l e ({ frames := 3, cells := 0, slots := 0, locals := 65 } : Room) s m args below meth c H locs 0 0 (MQ below (wx_Q D ad rd ca A (some (.int r)) σ') args s 0 0 A) (F0 m 0 ls []) := by
  obtain ⟨hx, hb, hml, hr, hts, hown, hlk, hC, hA⟩ := id B
  unfold f_X0_lay at h
  refine lv_iload_n hx hb dX0_lay_0 rfl (lv_at hl 1 rfl) ?_
  refine lv_iload_n hx hb dX0_lay_1 rfl (lv_at hl 2 rfl) ?_
  obtain ⟨v2, hc2, h⟩ := wx_o_ok h
  refine wx_call (va_runSN (As := [.int x1, .int x2]) (rest := []) ⟨hx, hb, hml, hown, hts⟩ (c_X5_placeOf l (D := D) (ad := ad) (rd := rd) (ca := ca) (A := A) (σ := σ) hc2) ⟨va_cnB 2 hts gX0_lay_X5_placeOf_n71 rfl rfl rfl (hC.1.2 _ (List.mem_of_getElem? (i := 34) rfl)) (hts _ k_X0_lay_w0) (by decide +kernel) ⟨Nat.le_of_ble_eq_true rfl, Nat.le_of_ble_eq_true rfl⟩, hts _ k_X0_lay_w1, trivial⟩ (wx_preS hC Z hS hA) rfl rfl hl.1 rfl (lv_room (Nat.le_of_ble_eq_true rfl)) dX0_lay_2 ⟨Nat.zero_le _, Nat.zero_le _⟩) hS (fun H locs Z hS => ?_)
  refine lv_istore (lv' := [(4, .int v2), (0, .ref (ad o 99)), (1, .int x1), (2, .int x2), (3, .int x3)]) hx hb dX0_lay_5 hl (by decide) rfl (fun ls hl => ?_)
  refine lv_iload hx hb dX0_lay_7 (lv_at hl 0 rfl) ?_
  refine lv_if_ge (tgt := 14) hx hb dX0_lay_9 (by decide) (fun c9 => ?_) (fun c9 => ?_)
  · replace h := wx_ift c9 h
    refine lv_iload_n hx hb dX0_lay_14 rfl (lv_at hl 4 rfl) ?_
    refine lv_if_eq (tgt := 28) hx hb dX0_lay_15 (by decide) (fun c15 => ?_) (fun c15 => ?_)
    · replace h := wx_ift c15 h
      exact b_X0_lay_28 B ho h Z hS (lv_sub hl [1, 2, 3, 4, 0] rfl)
    · replace h := wx_iff c15 h
      refine lv_iload_n hx hb dX0_lay_18 rfl (lv_at hl 4 rfl) ?_
      obtain ⟨v19, hc19, h⟩ := wx_o_ok h
      refine wx_call (va_runSN (As := [.int x3]) (rest := []) ⟨hx, hb, hml, hown, hts⟩ (c_X5_isNet l (D := D) (ad := ad) (rd := rd) (ca := ca) (A := A) (σ := σ) hc19) ⟨va_cnB 1 hts gX0_lay_X5_isNet_n75 rfl rfl rfl (hC.1.2 _ (List.mem_of_getElem? (i := 35) rfl)) (hts _ k_X0_lay_w0) (by decide +kernel) ⟨Nat.le_of_ble_eq_true rfl, Nat.le_of_ble_eq_true rfl⟩, hts _ k_X0_lay_w2, trivial⟩ (wx_preS hC Z hS hA) rfl rfl hl.1 rfl (lv_room (Nat.le_of_ble_eq_true rfl)) dX0_lay_19 ⟨Nat.zero_le _, Nat.zero_le _⟩) hS (fun H locs Z hS => ?_)
      refine lv_if_ne (tgt := 28) hx hb dX0_lay_22 (by decide) (fun c22 => ?_) (fun c22 => ?_)
      · replace h := wx_iff c22 h
        exact b_X0_lay_28 B ho h Z hS (lv_sub hl [1, 2, 3, 4, 0] rfl)
      · replace h := wx_ift c22 h
        refine lv_bipush (v := (-2)) hx hb dX0_lay_25 (by decide) ?_
        obtain ⟨rfl, rfl⟩ := wx_ret_ok h
        exact W.iret hx hb hr (fun t ht hW => ⟨rfl, by rw [ht]; exact Z, hS.F ht⟩) hS.2.2 dX0_lay_27
  · replace h := wx_iff c9 h
    refine lv_iconst (v := (-1)) hx hb dX0_lay_12 (by decide) ?_
    obtain ⟨rfl, rfl⟩ := wx_ret_ok h
    exact W.iret hx hb hr (fun t ht hW => ⟨rfl, by rw [ht]; exact Z, hS.F ht⟩) hS.2.2 dX0_lay_13
set_option maxRecDepth 20000 in
theorem c_X0_lay (l : Launch) {D : va_G} {ad : Nat → Nat → Nat} {rd : Nat → Nat} {ca : Nat → ClassId} {A : Nat → Prop} {σ : wx_St} {o : Nat}  (ho : o < 11) {x1 : Int32} {x2 : Int32} {x3 : Int32} {r : Int32} {σ' : wx_St} (h : f_X0_lay o x1 x2 x3 σ = some (r, σ')) : wx_M l yX0_lay wsX0_lay 3 65 D ad rd ca A [.ref (ad o 99), .int x1, .int x2, .int x3] σ (some (.int r)) σ' := by
  refine Met.ofW (cc := cX0_lay) (maxL := 6) (ret := (some .int)) (by decide) rfl ?_
  intro p e s m args below meth c s₁ B0 hml hv
  obtain ⟨rfl, hC, Z, hA⟩ := hv
  have hl := lv_entry ([.ref (ad o 99), .int x1, .int x2, .int x3]) (n := 6) (Nat.le_of_ble_eq_true rfl)
  rw [lg_entry_eq]
  generalize (lg_sl ([.ref (ad o 99), .int x1, .int x2, .int x3]) ++ List.replicate (6 - (lg_sl ([.ref (ad o 99), .int x1, .int x2, .int x3])).length) Slot.unset).toArray = ls at hl ⊢
  exact b_X0_lay_0 ⟨B0.exec, B0.bytes, hml, B0.returns, atoms_spec (ws := wsX0_lay) B0.pre, findClass_of_methodNamed B0.named, B0.notSynchronized, hC, hA⟩ ho h Z va_S.rf hl
theorem i_X0_isFed_0 : ∀ w ∈ wsX00, w ∈ wsX0_isFed := by decide +kernel
theorem k_X0_isFed_w0 : Cond.fieldLink RX0 18 "WarmProbes$Board" "fed" "[I" ∈ wsX0_isFed := by decide +kernel
set_option maxRecDepth 20000 in
set_option maxHeartbeats 4000000 in
theorem b_X0_isFed_18 (B : wx_B p s m args meth c cX0_isFed 3 (some .boolean) wsX0_isFed RX0 D ad ca A) {o : Nat}  (ho : o < 11) {r : Int32} {σ : wx_St}  {x1 : Int32} {x2 : Int32} {y0 : Int32}   (h : f_X0_isFed_18 o x1 x2 y0 σ = some r) {H : Heap} {locs : List Loc} (Z : wx_Z D ad rd ca A σ H) (hS : va_S A s.heap H locs) {ls : Array Slot} (hl : lv_has ls 3 [(0, .ref (ad o 99)), (1, .int x1), (2, .int x2)]) : W p l e ({ frames := 0, cells := 0, slots := 0, locals := 0 } : Room) s m args below meth c H locs 0 0 (MQ below (wx_Q D ad rd ca A (some (.int r)) σ) args s 0 0 A) (F0 m 18 ls [.int y0]) := by
  obtain ⟨hx, hb, hml, hr, hts, hown, hlk, hC, hA⟩ := id B
  unfold f_X0_isFed_18 at h
  obtain ⟨hz, h⟩ := wx_z_ok h
  obtain rfl := Option.some.inj h
  exact W.zret hx hb hr (wx_nb hz) (fun t ht hW => ⟨rfl, by rw [ht]; exact Z, hS.F ht⟩) hS.2.2 dX0_isFed_18
set_option maxRecDepth 20000 in
set_option maxHeartbeats 4000000 in
theorem b_X0_isFed_0 (B : wx_B p s m args meth c cX0_isFed 3 (some .boolean) wsX0_isFed RX0 D ad ca A) {o : Nat}  (ho : o < 11) {r : Int32} {σ : wx_St}  {x1 : Int32} {x2 : Int32}   (h : f_X0_isFed o x1 x2 σ = some r) {H : Heap} {locs : List Loc} (Z : wx_Z D ad rd ca A σ H) (hS : va_S A s.heap H locs) {ls : Array Slot} (hl : lv_has ls 3 [(0, .ref (ad o 99)), (1, .int x1), (2, .int x2)]) : W p l e ({ frames := 0, cells := 0, slots := 0, locals := 0 } : Room) s m args below meth c H locs 0 0 (MQ below (wx_Q D ad rd ca A (some (.int r)) σ) args s 0 0 A) (F0 m 0 ls []) := by
  obtain ⟨hx, hb, hml, hr, hts, hown, hlk, hC, hA⟩ := id B
  unfold f_X0_isFed at h
  refine lv_aload_n hx hb dX0_isFed_0 rfl (lv_at hl 0 rfl) ?_
  refine wx_get (own := RX0) hx hb hts i_X0_isFed_0 hown hC.1 Z (o := o) (ci := 0) (wx_sbo ho 99) (rfl : vwCl[0]? = some (RX0, TX0, 13)) 2 (by decide) (hts _ k_X0_isFed_w0) (fun _ h9 => h9) (f := 0) rfl rfl dX0_isFed_1 ?_
  refine lv_iload_n hx hb dX0_isFed_4 rfl (lv_at hl 1 rfl) ?_
  obtain ⟨v5, ev5, iv5, h⟩ := wx_rI_ok h
  refine wx_iald hx hb hC.1 Z (o := o) (k := 2) (n := 8) (wx_sbo ho 2) rfl iv5 dX0_isFed_5 ev5 ?_
  refine lv_iload_n hx hb dX0_isFed_6 rfl (lv_at hl 2 rfl) ?_
  refine lv_iushr (v := (v5.toUInt32 >>> (x2.toUInt32 &&& Int32.toUInt32 31)).toInt32) hx hb dX0_isFed_7 rfl ?_
  refine lv_iconst (v := 1) hx hb dX0_isFed_8 (by decide) ?_
  refine lv_iand hx hb dX0_isFed_9 ?_
  refine lv_if_eq (tgt := 17) hx hb dX0_isFed_10 (by decide) (fun c10 => ?_) (fun c10 => ?_)
  · replace h := wx_ift c10 h
    refine lv_iconst (v := 0) hx hb dX0_isFed_17 (by decide) ?_
    exact b_X0_isFed_18 B ho h Z hS (lv_sub hl [0, 1, 2] rfl)
  · replace h := wx_iff c10 h
    refine lv_iconst (v := 1) hx hb dX0_isFed_13 (by decide) ?_
    refine lv_goto (tgt := 18) hx hb dX0_isFed_14 (by decide) ?_
    exact b_X0_isFed_18 B ho h Z hS (lv_sub hl [0, 1, 2] rfl)
set_option maxRecDepth 20000 in
theorem c_X0_isFed (l : Launch) {D : va_G} {ad : Nat → Nat → Nat} {rd : Nat → Nat} {ca : Nat → ClassId} {A : Nat → Prop} {σ : wx_St} {o : Nat}  (ho : o < 11) {x1 : Int32} {x2 : Int32} {r : Int32} (h : f_X0_isFed o x1 x2 σ = some r) : wx_M l yX0_isFed wsX0_isFed 0 0 D ad rd ca A [.ref (ad o 99), .int x1, .int x2] σ (some (.int r)) σ := by
  refine Met.ofW (cc := cX0_isFed) (maxL := 3) (ret := (some .boolean)) (by decide) rfl ?_
  intro p e s m args below meth c s₁ B0 hml hv
  obtain ⟨rfl, hC, Z, hA⟩ := hv
  have hl := lv_entry ([.ref (ad o 99), .int x1, .int x2]) (n := 3) (Nat.le_of_ble_eq_true rfl)
  rw [lg_entry_eq]
  generalize (lg_sl ([.ref (ad o 99), .int x1, .int x2]) ++ List.replicate (3 - (lg_sl ([.ref (ad o 99), .int x1, .int x2])).length) Slot.unset).toArray = ls at hl ⊢
  exact b_X0_isFed_0 ⟨B0.exec, B0.bytes, hml, B0.returns, atoms_spec (ws := wsX0_isFed) B0.pre, findClass_of_methodNamed B0.named, B0.notSynchronized, hC, hA⟩ ho h Z va_S.rf hl
theorem i_X0_isLive_0 : ∀ w ∈ wsX00, w ∈ wsX0_isLive := by decide +kernel
theorem k_X0_isLive_w0 : Cond.fieldLink RX0 15 "WarmProbes$Board" "nets" "[I" ∈ wsX0_isLive := by decide +kernel
theorem k_X0_isLive_w1 : Cond.fieldLink RX0 25 "WarmProbes$Board" "touchPlaces" "[I" ∈ wsX0_isLive := by decide +kernel
theorem k_X0_isLive_w2 : Cond.fieldLink RX0 28 "WarmProbes$Board" "touchOthers" "[I" ∈ wsX0_isLive := by decide +kernel
set_option maxRecDepth 20000 in
set_option maxHeartbeats 4000000 in
theorem b_X0_isLive_0 (B : wx_B p s m args meth c cX0_isLive 2 (some .boolean) wsX0_isLive RX0 D ad ca A) {o : Nat}  (ho : o < 11) {r : Int32} {σ : wx_St}  {x1 : Int32}   (h : f_X0_isLive o x1 σ = some r) {H : Heap} {locs : List Loc} (Z : wx_Z D ad rd ca A σ H) (hS : va_S A s.heap H locs) {ls : Array Slot} (hl : lv_has ls 2 [(0, .ref (ad o 99)), (1, .int x1)]) : W p l e ({ frames := 1, cells := 0, slots := 0, locals := 22 } : Room) s m args below meth c H locs 0 0 (MQ below (wx_Q D ad rd ca A (some (.int r)) σ) args s 0 0 A) (F0 m 0 ls []) := by
  obtain ⟨hx, hb, hml, hr, hts, hown, hlk, hC, hA⟩ := id B
  unfold f_X0_isLive at h
  refine lv_aload_n hx hb dX0_isLive_0 rfl (lv_at hl 0 rfl) ?_
  refine lv_aload_n hx hb dX0_isLive_1 rfl (lv_at hl 0 rfl) ?_
  refine wx_get (own := RX0) hx hb hts i_X0_isLive_0 hown hC.1 Z (o := o) (ci := 0) (wx_sbo ho 99) (rfl : vwCl[0]? = some (RX0, TX0, 13)) 1 (by decide) (hts _ k_X0_isLive_w0) (fun _ h9 => h9) (f := 0) rfl rfl dX0_isLive_2 ?_
  refine lv_aload_n hx hb dX0_isLive_5 rfl (lv_at hl 0 rfl) ?_
  refine wx_get (own := RX0) hx hb hts i_X0_isLive_0 hown hC.1 Z (o := o) (ci := 0) (wx_sbo ho 99) (rfl : vwCl[0]? = some (RX0, TX0, 13)) 4 (by decide) (hts _ k_X0_isLive_w1) (fun _ h9 => h9) (f := 0) rfl rfl dX0_isLive_6 ?_
  refine lv_iload_n hx hb dX0_isLive_9 rfl (lv_at hl 1 rfl) ?_
  obtain ⟨v10, ev10, iv10, h⟩ := wx_rI_ok h
  refine wx_iald hx hb hC.1 Z (o := o) (k := 4) (n := 3) (wx_sbo ho 4) rfl iv10 dX0_isLive_10 ev10 ?_
  obtain ⟨v11, ev11, iv11, h⟩ := wx_rI_ok h
  refine wx_iald hx hb hC.1 Z (o := o) (k := 1) (n := 64) (wx_sbo ho 1) rfl iv11 dX0_isLive_11 ev11 ?_
  refine lv_aload_n hx hb dX0_isLive_12 rfl (lv_at hl 0 rfl) ?_
  refine wx_get (own := RX0) hx hb hts i_X0_isLive_0 hown hC.1 Z (o := o) (ci := 0) (wx_sbo ho 99) (rfl : vwCl[0]? = some (RX0, TX0, 13)) 5 (by decide) (hts _ k_X0_isLive_w2) (fun _ h9 => h9) (f := 0) rfl rfl dX0_isLive_13 ?_
  refine lv_iload_n hx hb dX0_isLive_16 rfl (lv_at hl 1 rfl) ?_
  obtain ⟨v17, ev17, iv17, h⟩ := wx_rI_ok h
  refine wx_iald hx hb hC.1 Z (o := o) (k := 5) (n := 3) (wx_sbo ho 5) rfl iv17 dX0_isLive_17 ev17 ?_
  obtain ⟨v18, hc18, h⟩ := wx_o_ok h
  refine wx_call (va_runV (As := [.int v11, .int v17]) (rest := []) ⟨hx, hb, hml, hown, hts⟩ (c_X0_isFed l (D := D) (ad := ad) (rd := rd) (ca := ca) (A := A) (σ := σ) (o := o) ho hc18) (cwV 2 hts gX0_isLive_X0_isFed rfl rfl rfl (by decide +kernel) ⟨Nat.le_of_ble_eq_true rfl, Nat.le_of_ble_eq_true rfl⟩) (wx_preV hC Z hS hA (wx_sbo ho 99) (rfl : vwCl[0]? = some (RX0, TX0, 13))) rfl rfl hl.1 rfl (lv_room (Nat.le_of_ble_eq_true rfl)) dX0_isLive_18 ⟨Nat.zero_le _, Nat.zero_le _⟩) hS (fun H locs Z hS => ?_)
  obtain ⟨hz, h⟩ := wx_z_ok h
  obtain rfl := Option.some.inj h
  exact W.zret hx hb hr (wx_nb hz) (fun t ht hW => ⟨rfl, by rw [ht]; exact Z, hS.F ht⟩) hS.2.2 dX0_isLive_21
set_option maxRecDepth 20000 in
theorem c_X0_isLive (l : Launch) {D : va_G} {ad : Nat → Nat → Nat} {rd : Nat → Nat} {ca : Nat → ClassId} {A : Nat → Prop} {σ : wx_St} {o : Nat}  (ho : o < 11) {x1 : Int32} {r : Int32} (h : f_X0_isLive o x1 σ = some r) : wx_M l yX0_isLive wsX0_isLive 1 22 D ad rd ca A [.ref (ad o 99), .int x1] σ (some (.int r)) σ := by
  refine Met.ofW (cc := cX0_isLive) (maxL := 2) (ret := (some .boolean)) (by decide) rfl ?_
  intro p e s m args below meth c s₁ B0 hml hv
  obtain ⟨rfl, hC, Z, hA⟩ := hv
  have hl := lv_entry ([.ref (ad o 99), .int x1]) (n := 2) (Nat.le_of_ble_eq_true rfl)
  rw [lg_entry_eq]
  generalize (lg_sl ([.ref (ad o 99), .int x1]) ++ List.replicate (2 - (lg_sl ([.ref (ad o 99), .int x1])).length) Slot.unset).toArray = ls at hl ⊢
  exact b_X0_isLive_0 ⟨B0.exec, B0.bytes, hml, B0.returns, atoms_spec (ws := wsX0_isLive) B0.pre, findClass_of_methodNamed B0.named, B0.notSynchronized, hC, hA⟩ ho h Z va_S.rf hl
theorem i_X0_heated_0 : ∀ w ∈ wsX00, w ∈ wsX0_heated := by decide +kernel
theorem k_X0_heated_w0 : Cond.fieldLink RX0 21 "WarmProbes$Board" "touches" "I" ∈ wsX0_heated := by decide +kernel
theorem k_X0_heated_w1 : Cond.fieldLink RX0 25 "WarmProbes$Board" "touchPlaces" "[I" ∈ wsX0_heated := by decide +kernel
set_option maxRecDepth 20000 in
set_option maxHeartbeats 4000000 in
theorem b_X0_heated_31 (B : wx_B p s m args meth c cX0_heated 4 (some .long) wsX0_heated RX0 D ad ca A) {o : Nat}  (ho : o < 11) {r : Int64} {σ : wx_St} {K4 : Int64 → Int32 → wx_St → Option Int64} (hK4 : ∀ {x1 : Int64} {x3 : Int32}   (h : K4 x1 x3 σ = some r) {H : Heap} {locs : List Loc} (Z : wx_Z D ad rd ca A σ H) (hS : va_S A s.heap H locs) {ls : Array Slot} (hl : lv_has ls 4 [(0, .ref (ad o 99)), (1, .long x1), (3, .int x3)]), W p l e ({ frames := 2, cells := 0, slots := 0, locals := 43 } : Room) s m args below meth c H locs 0 0 (MQ below (wx_Q D ad rd ca A (some (.long r)) σ) args s 0 0 A) (F0 m 4 ls [])) {x1 : Int64} {x3 : Int32}   (h : f_X0_heated_31 o K4 x1 x3 σ = some r) {H : Heap} {locs : List Loc} (Z : wx_Z D ad rd ca A σ H) (hS : va_S A s.heap H locs) {ls : Array Slot} (hl : lv_has ls 4 [(0, .ref (ad o 99)), (1, .long x1), (3, .int x3)]) : W p l e ({ frames := 2, cells := 0, slots := 0, locals := 43 } : Room) s m args below meth c H locs 0 0 (MQ below (wx_Q D ad rd ca A (some (.long r)) σ) args s 0 0 A) (F0 m 31 ls []) := by
  obtain ⟨hx, hb, hml, hr, hts, hown, hlk, hC, hA⟩ := id B
  unfold f_X0_heated_31 at h
  refine lv_iinc (v := x3 + 1) (lv' := [(3, .int (x3 + 1)), (0, .ref (ad o 99)), (1, .long x1)]) hx hb dX0_heated_31 hl (k := 2) rfl rfl (by decide) rfl (fun ls hl => ?_)
  refine lv_goto (tgt := 4) hx hb dX0_heated_34 (by decide) ?_
  exact hK4 h Z hS (lv_sub hl [1, 2, 0] rfl)
set_option maxRecDepth 20000 in
set_option maxHeartbeats 4000000 in
theorem b_X0_heated_4 (B : wx_B p s m args meth c cX0_heated 4 (some .long) wsX0_heated RX0 D ad ca A) {o : Nat}  (ho : o < 11) {r : Int64} {σ : wx_St}   :
    ∀ {n : Nat} {x1 : Int64} {x3 : Int32}   (h : f_X0_heated_4 o n x1 x3 σ = some r) {H : Heap} {locs : List Loc} (Z : wx_Z D ad rd ca A σ H) (hS : va_S A s.heap H locs) {ls : Array Slot} (hl : lv_has ls 4 [(0, .ref (ad o 99)), (1, .long x1), (3, .int x3)]), W p l e ({ frames := 2, cells := 0, slots := 0, locals := 43 } : Room) s m args below meth c H locs 0 0 (MQ below (wx_Q D ad rd ca A (some (.long r)) σ) args s 0 0 A) (F0 m 4 ls []) := by
  obtain ⟨hx, hb, hml, hr, hts, hown, hlk, hC, hA⟩ := id B
  intro n
  induction n with
  | zero => intro x1 x3   h H locs Z hS ls hl; exact wx_no h
  | succ n ih =>
    intro x1 x3   h H locs Z hS ls hl
    rw [f_X0_heated_4] at h
    refine lv_iload_n hx hb dX0_heated_4 rfl (lv_at hl 2 rfl) ?_
    refine lv_aload_n hx hb dX0_heated_5 rfl (lv_at hl 0 rfl) ?_
    refine wx_get (own := RX0) hx hb hts i_X0_heated_0 hown hC.1 Z (o := o) (ci := 0) (wx_sbo ho 99) (rfl : vwCl[0]? = some (RX0, TX0, 13)) 3 (by decide) (hts _ k_X0_heated_w0) (fun _ h9 => h9) (f := 1) rfl rfl dX0_heated_6 ?_
    refine lv_icmp_ge (tgt := 37) hx hb dX0_heated_9 (by decide) (fun c9 => ?_) (fun c9 => ?_)
    · replace h := wx_ift c9 h
      refine lv_lload_n hx hb dX0_heated_37 rfl (lv_at hl 1 rfl) ?_
      obtain rfl := Option.some.inj h
      exact W.lret hx hb hr (fun t ht hW => ⟨rfl, by rw [ht]; exact Z, hS.F ht⟩) hS.2.2 dX0_heated_38
    · replace h := wx_iff c9 h
      refine lv_aload_n hx hb dX0_heated_12 rfl (lv_at hl 0 rfl) ?_
      refine lv_iload_n hx hb dX0_heated_13 rfl (lv_at hl 2 rfl) ?_
      obtain ⟨v14, hc14, h⟩ := wx_o_ok h
      refine wx_call (va_runV (As := [.int x3]) (rest := []) ⟨hx, hb, hml, hown, hts⟩ (c_X0_isLive l (D := D) (ad := ad) (rd := rd) (ca := ca) (A := A) (σ := σ) (o := o) ho hc14) (cwV 1 hts gX0_heated_X0_isLive rfl rfl rfl (by decide +kernel) ⟨Nat.le_of_ble_eq_true rfl, Nat.le_of_ble_eq_true rfl⟩) (wx_preV hC Z hS hA (wx_sbo ho 99) (rfl : vwCl[0]? = some (RX0, TX0, 13))) rfl rfl hl.1 rfl (lv_room (Nat.le_of_ble_eq_true rfl)) dX0_heated_14 ⟨Nat.zero_le _, Nat.zero_le _⟩) hS (fun H locs Z hS => ?_)
      refine lv_if_eq (tgt := 31) hx hb dX0_heated_17 (by decide) (fun c17 => ?_) (fun c17 => ?_)
      · replace h := wx_ift c17 h
        exact b_X0_heated_31 B ho (K4 := (f_X0_heated_4 o n)) @ih h Z hS (lv_sub hl [0, 1, 2] rfl)
      · replace h := wx_iff c17 h
        refine lv_lload_n hx hb dX0_heated_20 rfl (lv_at hl 1 rfl) ?_
        refine lv_lconst (v := 1) hx hb dX0_heated_21 (by decide) ?_
        refine lv_aload_n hx hb dX0_heated_22 rfl (lv_at hl 0 rfl) ?_
        refine wx_get (own := RX0) hx hb hts i_X0_heated_0 hown hC.1 Z (o := o) (ci := 0) (wx_sbo ho 99) (rfl : vwCl[0]? = some (RX0, TX0, 13)) 4 (by decide) (hts _ k_X0_heated_w1) (fun _ h9 => h9) (f := 0) rfl rfl dX0_heated_23 ?_
        refine lv_iload_n hx hb dX0_heated_26 rfl (lv_at hl 2 rfl) ?_
        obtain ⟨v27, ev27, iv27, h⟩ := wx_rI_ok h
        refine wx_iald hx hb hC.1 Z (o := o) (k := 4) (n := 3) (wx_sbo ho 4) rfl iv27 dX0_heated_27 ev27 ?_
        refine lv_lshl (v := ((1 : Int64) <<< (v27.toInt64 &&& 63))) hx hb dX0_heated_28 rfl ?_
        refine lv_lor hx hb dX0_heated_29 ?_
        refine lv_lstore_n (lv' := [(1, .long (x1 ||| ((1 : Int64) <<< (v27.toInt64 &&& 63)))), (0, .ref (ad o 99)), (3, .int x3)]) hx hb dX0_heated_30 rfl hl (by decide) rfl (fun ls hl => ?_)
        exact b_X0_heated_31 B ho (K4 := (f_X0_heated_4 o n)) @ih h Z hS (lv_sub hl [1, 0, 2] rfl)
set_option maxRecDepth 20000 in
set_option maxHeartbeats 4000000 in
theorem b_X0_heated_0 (B : wx_B p s m args meth c cX0_heated 4 (some .long) wsX0_heated RX0 D ad ca A) {o : Nat}  (ho : o < 11) {r : Int64} {σ : wx_St}     (h : f_X0_heated o σ = some r) {H : Heap} {locs : List Loc} (Z : wx_Z D ad rd ca A σ H) (hS : va_S A s.heap H locs) {ls : Array Slot} (hl : lv_has ls 4 [(0, .ref (ad o 99))]) : W p l e ({ frames := 2, cells := 0, slots := 0, locals := 43 } : Room) s m args below meth c H locs 0 0 (MQ below (wx_Q D ad rd ca A (some (.long r)) σ) args s 0 0 A) (F0 m 0 ls []) := by
  obtain ⟨hx, hb, hml, hr, hts, hown, hlk, hC, hA⟩ := id B
  unfold f_X0_heated at h
  refine lv_lconst (v := 0) hx hb dX0_heated_0 (by decide) ?_
  refine lv_lstore_n (lv' := [(1, .long (0 : Int64)), (0, .ref (ad o 99))]) hx hb dX0_heated_1 rfl hl (by decide) rfl (fun ls hl => ?_)
  refine lv_iconst (v := 0) hx hb dX0_heated_2 (by decide) ?_
  refine lv_istore_n (lv' := [(3, .int 0), (1, .long (0 : Int64)), (0, .ref (ad o 99))]) hx hb dX0_heated_3 rfl hl (by decide) rfl (fun ls hl => ?_)
  exact b_X0_heated_4 B ho h Z hS (lv_sub hl [2, 1, 0] rfl)
set_option maxRecDepth 20000 in
theorem c_X0_heated (l : Launch) {D : va_G} {ad : Nat → Nat → Nat} {rd : Nat → Nat} {ca : Nat → ClassId} {A : Nat → Prop} {σ : wx_St} {o : Nat}  (ho : o < 11)  {r : Int64} (h : f_X0_heated o σ = some r) : wx_M l yX0_heated wsX0_heated 2 43 D ad rd ca A [.ref (ad o 99)] σ (some (.long r)) σ := by
  refine Met.ofW (cc := cX0_heated) (maxL := 4) (ret := (some .long)) (by decide) rfl ?_
  intro p e s m args below meth c s₁ B0 hml hv
  obtain ⟨rfl, hC, Z, hA⟩ := hv
  have hl := lv_entry ([.ref (ad o 99)]) (n := 4) (Nat.le_of_ble_eq_true rfl)
  rw [lg_entry_eq]
  generalize (lg_sl ([.ref (ad o 99)]) ++ List.replicate (4 - (lg_sl ([.ref (ad o 99)])).length) Slot.unset).toArray = ls at hl ⊢
  exact b_X0_heated_0 ⟨B0.exec, B0.bytes, hml, B0.returns, atoms_spec (ws := wsX0_heated) B0.pre, findClass_of_methodNamed B0.named, B0.notSynchronized, hC, hA⟩ ho h Z va_S.rf hl
set_option maxRecDepth 20000 in
set_option maxHeartbeats 4000000 in
theorem b_X5_isIn_15 (B : wx_B p s m args meth c cX5_isIn 3 (some .boolean) wsX5_isIn RX5 D ad ca A)    {r : Int32} {σ : wx_St}  {x0 : Int64} {x2 : Int32} {y0 : Int32}   (h : f_X5_isIn_15 x0 x2 y0 = some r) {H : Heap} {locs : List Loc} (Z : wx_Z D ad rd ca A σ H) (hS : va_S A s.heap H locs) {ls : Array Slot} (hl : lv_has ls 3 [(0, .long x0), (2, .int x2)]) : W p l e ({ frames := 0, cells := 0, slots := 0, locals := 0 } : Room) s m args below meth c H locs 0 0 (MQ below (wx_Q D ad rd ca A (some (.int r)) σ) args s 0 0 A) (F0 m 15 ls [.int y0]) := by
  obtain ⟨hx, hb, hml, hr, hts, hown, hlk, hC, hA⟩ := id B
  unfold f_X5_isIn_15 at h
  obtain ⟨hz, h⟩ := wx_z_ok h
  obtain rfl := Option.some.inj h
  exact W.zret hx hb hr (wx_nb hz) (fun t ht hW => ⟨rfl, by rw [ht]; exact Z, hS.F ht⟩) hS.2.2 dX5_isIn_15
set_option maxRecDepth 20000 in
set_option maxHeartbeats 4000000 in
theorem b_X5_isIn_0 (B : wx_B p s m args meth c cX5_isIn 3 (some .boolean) wsX5_isIn RX5 D ad ca A)    {r : Int32} {σ : wx_St}  {x0 : Int64} {x2 : Int32}   (h : f_X5_isIn x0 x2 = some r) {H : Heap} {locs : List Loc} (Z : wx_Z D ad rd ca A σ H) (hS : va_S A s.heap H locs) {ls : Array Slot} (hl : lv_has ls 3 [(0, .long x0), (2, .int x2)]) : W p l e ({ frames := 0, cells := 0, slots := 0, locals := 0 } : Room) s m args below meth c H locs 0 0 (MQ below (wx_Q D ad rd ca A (some (.int r)) σ) args s 0 0 A) (F0 m 0 ls []) := by
  obtain ⟨hx, hb, hml, hr, hts, hown, hlk, hC, hA⟩ := id B
  unfold f_X5_isIn at h
  refine lv_lload_n hx hb dX5_isIn_0 rfl (lv_at hl 0 rfl) ?_
  refine lv_iload_n hx hb dX5_isIn_1 rfl (lv_at hl 1 rfl) ?_
  refine lv_lushr (v := (x0.toUInt64 >>> (x2.toInt64.toUInt64 &&& Int64.toUInt64 63)).toInt64) hx hb dX5_isIn_2 rfl ?_
  refine lv_lconst (v := 1) hx hb dX5_isIn_3 (by decide) ?_
  refine lv_land hx hb dX5_isIn_4 ?_
  refine lv_lconst (v := 0) hx hb dX5_isIn_5 (by decide) ?_
  refine W.lcmp hx hb dX5_isIn_6 ?_
  refine lv_if_eq (tgt := 14) hx hb dX5_isIn_7 (by decide) (fun c7 => ?_) (fun c7 => ?_)
  · replace h := wx_ift c7 h
    refine lv_iconst (v := 0) hx hb dX5_isIn_14 (by decide) ?_
    exact b_X5_isIn_15 B h Z hS (lv_sub hl [0, 1] rfl)
  · replace h := wx_iff c7 h
    refine lv_iconst (v := 1) hx hb dX5_isIn_10 (by decide) ?_
    refine lv_goto (tgt := 15) hx hb dX5_isIn_11 (by decide) ?_
    exact b_X5_isIn_15 B h Z hS (lv_sub hl [0, 1] rfl)
set_option maxRecDepth 20000 in
theorem c_X5_isIn (l : Launch) {D : va_G} {ad : Nat → Nat → Nat} {rd : Nat → Nat} {ca : Nat → ClassId} {A : Nat → Prop} {σ : wx_St}    {x0 : Int64} {x2 : Int32} {r : Int32} (h : f_X5_isIn x0 x2 = some r) : wx_M l yX5_isIn wsX5_isIn 0 0 D ad rd ca A [.long x0, .int x2] σ (some (.int r)) σ := by
  refine Met.ofW (cc := cX5_isIn) (maxL := 3) (ret := (some .boolean)) (by decide) rfl ?_
  intro p e s m args below meth c s₁ B0 hml hv
  obtain ⟨rfl, hC, Z, hA⟩ := hv
  have hl := lv_entry ([.long x0, .int x2]) (n := 3) (Nat.le_of_ble_eq_true rfl)
  rw [lg_entry_eq]
  generalize (lg_sl ([.long x0, .int x2]) ++ List.replicate (3 - (lg_sl ([.long x0, .int x2])).length) Slot.unset).toArray = ls at hl ⊢
  exact b_X5_isIn_0 ⟨B0.exec, B0.bytes, hml, B0.returns, atoms_spec (ws := wsX5_isIn) B0.pre, findClass_of_methodNamed B0.named, B0.notSynchronized, hC, hA⟩  h Z va_S.rf hl
theorem k_X5_step_w0 : Cond.constantFloat RX5 259 (1120403456) ∈ wsX5_step := by decide +kernel
set_option maxRecDepth 20000 in
set_option maxHeartbeats 4000000 in
theorem b_X5_step_206 (B : wx_B p s m args meth c cX5_step 15 none wsX5_step RX5 D ad ca A) {o0 : Nat} {k0 : Nat} {n0 : Nat} {o2 : Nat} {k2 : Nat} {n2 : Nat} {o6 : Nat} {k6 : Nat} {al : Nat → Bool} (hs0 : wx_sh al o0 k0 = (2, n0)) (hs2 : wx_sh al o2 k2 = (2, n2)) (hs6 : wx_sh al o6 k6 = (1, 4))  {σ' : wx_St} {K27 : Int32 → Int32 → Int64 → UInt32 → UInt32 → UInt32 → Int32 → wx_St → Option (Unit × wx_St)} (hK27 : ∀ {x1 : Int32} {x3 : Int32} {x4 : Int64} {x7 : UInt32} {x8 : UInt32} {x9 : UInt32} {x10 : Int32}  {σ : wx_St} (h : K27 x1 x3 x4 x7 x8 x9 x10 σ = some ((), σ')) {H : Heap} {locs : List Loc} (Z : wx_Z D ad rd ca A σ H) (hS : va_S A s.heap H locs) {ls : Array Slot} (hl : lv_has ls 15 [(0, .ref (wx_ad ad rd o0 k0)), (1, .int x1), (2, .ref (wx_ad ad rd o2 k2)), (3, .int x3), (4, .long x4), (6, .ref (wx_ad ad rd o6 k6)), (7, .float x7), (8, .float x8), (9, .float x9), (10, .int x10)]) (hal : σ.2.2.2.2 = al), W p l e ({ frames := 1, cells := 0, slots := 0, locals := 22 } : Room) s m args below meth c H locs 0 0 (MQ below (wx_Q D ad rd ca A none σ') args s 0 0 A) (F0 m 27 ls [])) {x1 : Int32} {x3 : Int32} {x4 : Int64} {x7 : UInt32} {x8 : UInt32} {x9 : UInt32} {x10 : Int32} {x11 : Int32} {x12 : UInt32} {x13 : UInt32} {x14 : UInt32} {y1 : Int32} {y2 : UInt32}  {σ : wx_St} (h : f_X5_step_206 o0 k0 n0 o2 k2 n2 o6 k6 K27 x1 x3 x4 x7 x8 x9 x10 x11 x12 x13 x14 y1 y2 σ = some ((), σ')) {H : Heap} {locs : List Loc} (Z : wx_Z D ad rd ca A σ H) (hS : va_S A s.heap H locs) {ls : Array Slot} (hl : lv_has ls 15 [(0, .ref (wx_ad ad rd o0 k0)), (1, .int x1), (2, .ref (wx_ad ad rd o2 k2)), (3, .int x3), (4, .long x4), (6, .ref (wx_ad ad rd o6 k6)), (7, .float x7), (8, .float x8), (9, .float x9), (10, .int x10), (11, .int x11), (12, .float x12), (13, .float x13), (14, .float x14)]) (hal : σ.2.2.2.2 = al) : W p l e ({ frames := 1, cells := 0, slots := 0, locals := 22 } : Room) s m args below meth c H locs 0 0 (MQ below (wx_Q D ad rd ca A none σ') args s 0 0 A) (F0 m 206 ls [.float y2, .int y1, .ref (wx_ad ad rd o2 k2)]) := by
  obtain ⟨hx, hb, hml, hr, hts, hown, hlk, hC, hA⟩ := id B
  unfold f_X5_step_206 at h
  obtain ⟨σ206, e206, i206, h⟩ := wx_w_ok h
  refine wx_fast hx hb hC.1 Z hS (o := o2) (k := k2) (n := n2) (wx_hal hal hs2) rfl i206 dX5_step_206 e206 (fun H locs Z hS => ?_)
  replace hal := (congrArg (fun z : wx_St => z.2.2.2.2) e206).trans hal
  refine lv_iinc (v := x10 + 1) (lv' := [(10, .int (x10 + 1)), (0, .ref (wx_ad ad rd o0 k0)), (1, .int x1), (2, .ref (wx_ad ad rd o2 k2)), (3, .int x3), (4, .long x4), (6, .ref (wx_ad ad rd o6 k6)), (7, .float x7), (8, .float x8), (9, .float x9), (11, .int x11), (12, .float x12), (13, .float x13), (14, .float x14)]) hx hb dX5_step_207 hl (k := 9) rfl rfl (by decide) rfl (fun ls hl => ?_)
  refine lv_goto (tgt := 27) hx hb dX5_step_210 (by decide) ?_
  exact hK27 h Z hS (lv_sub hl [1, 2, 3, 4, 5, 6, 7, 8, 9, 0] rfl) hal
set_option maxRecDepth 20000 in
set_option maxHeartbeats 4000000 in
theorem b_X5_step_167 (B : wx_B p s m args meth c cX5_step 15 none wsX5_step RX5 D ad ca A) {o0 : Nat} {k0 : Nat} {n0 : Nat} {o2 : Nat} {k2 : Nat} {n2 : Nat} {o6 : Nat} {k6 : Nat} {al : Nat → Bool} (hs0 : wx_sh al o0 k0 = (2, n0)) (hs2 : wx_sh al o2 k2 = (2, n2)) (hs6 : wx_sh al o6 k6 = (1, 4))  {σ' : wx_St} {K27 : Int32 → Int32 → Int64 → UInt32 → UInt32 → UInt32 → Int32 → wx_St → Option (Unit × wx_St)} (hK27 : ∀ {x1 : Int32} {x3 : Int32} {x4 : Int64} {x7 : UInt32} {x8 : UInt32} {x9 : UInt32} {x10 : Int32}  {σ : wx_St} (h : K27 x1 x3 x4 x7 x8 x9 x10 σ = some ((), σ')) {H : Heap} {locs : List Loc} (Z : wx_Z D ad rd ca A σ H) (hS : va_S A s.heap H locs) {ls : Array Slot} (hl : lv_has ls 15 [(0, .ref (wx_ad ad rd o0 k0)), (1, .int x1), (2, .ref (wx_ad ad rd o2 k2)), (3, .int x3), (4, .long x4), (6, .ref (wx_ad ad rd o6 k6)), (7, .float x7), (8, .float x8), (9, .float x9), (10, .int x10)]) (hal : σ.2.2.2.2 = al), W p l e ({ frames := 1, cells := 0, slots := 0, locals := 22 } : Room) s m args below meth c H locs 0 0 (MQ below (wx_Q D ad rd ca A none σ') args s 0 0 A) (F0 m 27 ls [])) {x1 : Int32} {x3 : Int32} {x4 : Int64} {x7 : UInt32} {x8 : UInt32} {x9 : UInt32} {x10 : Int32} {x11 : Int32} {x12 : UInt32} {x13 : UInt32}  {σ : wx_St} (h : f_X5_step_167 o0 k0 n0 o2 k2 n2 o6 k6 K27 x1 x3 x4 x7 x8 x9 x10 x11 x12 x13 σ = some ((), σ')) {H : Heap} {locs : List Loc} (Z : wx_Z D ad rd ca A σ H) (hS : va_S A s.heap H locs) {ls : Array Slot} (hl : lv_has ls 15 [(0, .ref (wx_ad ad rd o0 k0)), (1, .int x1), (2, .ref (wx_ad ad rd o2 k2)), (3, .int x3), (4, .long x4), (6, .ref (wx_ad ad rd o6 k6)), (7, .float x7), (8, .float x8), (9, .float x9), (10, .int x10), (11, .int x11), (12, .float x12), (13, .float x13)]) (hal : σ.2.2.2.2 = al) : W p l e ({ frames := 1, cells := 0, slots := 0, locals := 22 } : Room) s m args below meth c H locs 0 0 (MQ below (wx_Q D ad rd ca A none σ') args s 0 0 A) (F0 m 167 ls []) := by
  obtain ⟨hx, hb, hml, hr, hts, hown, hlk, hC, hA⟩ := id B
  unfold f_X5_step_167 at h
  refine lv_fload hx hb dX5_step_167 (lv_at hl 11 rfl) ?_
  refine lv_fload hx hb dX5_step_169 (lv_at hl 12 rfl) ?_
  obtain ⟨v171, ev171, nv171, h⟩ := wx_f_ok h
  refine wx_fadd hx hb dX5_step_171 ev171 nv171 ?_
  refine lv_fload hx hb dX5_step_172 (lv_at hl 7 rfl) ?_
  obtain ⟨v174, ev174, nv174, h⟩ := wx_f_ok h
  refine wx_fmul hx hb dX5_step_174 ev174 nv174 ?_
  refine wx_ldcwF hx hb hown (hts _ k_X5_step_w0) dX5_step_175 ?_
  obtain ⟨v178, ev178, nv178, h⟩ := wx_f_ok h
  refine wx_fdiv hx hb dX5_step_178 ev178 nv178 ?_
  refine lv_fstore (lv' := [(14, .float v178), (0, .ref (wx_ad ad rd o0 k0)), (1, .int x1), (2, .ref (wx_ad ad rd o2 k2)), (3, .int x3), (4, .long x4), (6, .ref (wx_ad ad rd o6 k6)), (7, .float x7), (8, .float x8), (9, .float x9), (10, .int x10), (11, .int x11), (12, .float x12), (13, .float x13)]) hx hb dX5_step_179 hl (by decide) rfl (fun ls hl => ?_)
  refine lv_aload_n hx hb dX5_step_181 rfl (lv_at hl 3 rfl) ?_
  refine lv_iload_n hx hb dX5_step_182 rfl (lv_at hl 4 rfl) ?_
  refine lv_iload hx hb dX5_step_183 (lv_at hl 10 rfl) ?_
  refine lv_iadd hx hb dX5_step_185 ?_
  refine lv_lload hx hb dX5_step_186 (lv_at hl 5 rfl) ?_
  refine lv_iload hx hb dX5_step_188 (lv_at hl 10 rfl) ?_
  obtain ⟨v190, hc190, h⟩ := wx_o_ok h
  refine wx_call (va_runS (As := [.long x4, .int x10]) (rest := [.int (x3 + x10), .ref (wx_ad ad rd o2 k2)]) ⟨hx, hb, hml, hown, hts⟩ (c_X5_isIn l (D := D) (ad := ad) (rd := rd) (ca := ca) (A := A) (σ := σ) hc190) (va_cwS 2 hts gX5_step_X5_isIn rfl rfl rfl (by decide +kernel) ⟨Nat.le_of_ble_eq_true rfl, Nat.le_of_ble_eq_true rfl⟩) (wx_preS hC Z hS hA) rfl rfl hl.1 rfl (lv_room (Nat.le_of_ble_eq_true rfl)) dX5_step_190 ⟨Nat.zero_le _, Nat.zero_le _⟩) hS (fun H locs Z hS => ?_)
  refine lv_if_eq (tgt := 204) hx hb dX5_step_193 (by decide) (fun c193 => ?_) (fun c193 => ?_)
  · replace h := wx_ift c193 h
    refine lv_fload hx hb dX5_step_204 (lv_at hl 0 rfl) ?_
    exact b_X5_step_206 B hs0 hs2 hs6 (K27 := K27) @hK27 h Z hS (lv_sub hl [1, 2, 3, 4, 5, 6, 7, 8, 9, 10, 11, 12, 13, 0] rfl) hal
  · replace h := wx_iff c193 h
    refine lv_fload hx hb dX5_step_196 (lv_at hl 0 rfl) ?_
    refine lv_fload hx hb dX5_step_198 (lv_at hl 9 rfl) ?_
    obtain ⟨v200, ev200, nv200, h⟩ := wx_f_ok h
    refine wx_fadd hx hb dX5_step_200 ev200 nv200 ?_
    refine lv_goto (tgt := 206) hx hb dX5_step_201 (by decide) ?_
    exact b_X5_step_206 B hs0 hs2 hs6 (K27 := K27) @hK27 h Z hS (lv_sub hl [1, 2, 3, 4, 5, 6, 7, 8, 9, 10, 11, 12, 13, 0] rfl) hal
set_option maxRecDepth 20000 in
set_option maxHeartbeats 4000000 in
theorem b_X5_step_136 (B : wx_B p s m args meth c cX5_step 15 none wsX5_step RX5 D ad ca A) {o0 : Nat} {k0 : Nat} {n0 : Nat} {o2 : Nat} {k2 : Nat} {n2 : Nat} {o6 : Nat} {k6 : Nat} {al : Nat → Bool} (hs0 : wx_sh al o0 k0 = (2, n0)) (hs2 : wx_sh al o2 k2 = (2, n2)) (hs6 : wx_sh al o6 k6 = (1, 4))  {σ' : wx_St} {K27 : Int32 → Int32 → Int64 → UInt32 → UInt32 → UInt32 → Int32 → wx_St → Option (Unit × wx_St)} (hK27 : ∀ {x1 : Int32} {x3 : Int32} {x4 : Int64} {x7 : UInt32} {x8 : UInt32} {x9 : UInt32} {x10 : Int32}  {σ : wx_St} (h : K27 x1 x3 x4 x7 x8 x9 x10 σ = some ((), σ')) {H : Heap} {locs : List Loc} (Z : wx_Z D ad rd ca A σ H) (hS : va_S A s.heap H locs) {ls : Array Slot} (hl : lv_has ls 15 [(0, .ref (wx_ad ad rd o0 k0)), (1, .int x1), (2, .ref (wx_ad ad rd o2 k2)), (3, .int x3), (4, .long x4), (6, .ref (wx_ad ad rd o6 k6)), (7, .float x7), (8, .float x8), (9, .float x9), (10, .int x10)]) (hal : σ.2.2.2.2 = al), W p l e ({ frames := 1, cells := 0, slots := 0, locals := 22 } : Room) s m args below meth c H locs 0 0 (MQ below (wx_Q D ad rd ca A none σ') args s 0 0 A) (F0 m 27 ls [])) {x1 : Int32} {x3 : Int32} {x4 : Int64} {x7 : UInt32} {x8 : UInt32} {x9 : UInt32} {x10 : Int32} {x11 : Int32} {x12 : UInt32} {x13 : UInt32}  {σ : wx_St} (h : f_X5_step_136 o0 k0 n0 o2 k2 n2 o6 k6 K27 x1 x3 x4 x7 x8 x9 x10 x11 x12 x13 σ = some ((), σ')) {H : Heap} {locs : List Loc} (Z : wx_Z D ad rd ca A σ H) (hS : va_S A s.heap H locs) {ls : Array Slot} (hl : lv_has ls 15 [(0, .ref (wx_ad ad rd o0 k0)), (1, .int x1), (2, .ref (wx_ad ad rd o2 k2)), (3, .int x3), (4, .long x4), (6, .ref (wx_ad ad rd o6 k6)), (7, .float x7), (8, .float x8), (9, .float x9), (10, .int x10), (11, .int x11), (12, .float x12), (13, .float x13)]) (hal : σ.2.2.2.2 = al) : W p l e ({ frames := 1, cells := 0, slots := 0, locals := 22 } : Room) s m args below meth c H locs 0 0 (MQ below (wx_Q D ad rd ca A none σ') args s 0 0 A) (F0 m 136 ls []) := by
  obtain ⟨hx, hb, hml, hr, hts, hown, hlk, hC, hA⟩ := id B
  unfold f_X5_step_136 at h
  refine lv_iload hx hb dX5_step_136 (lv_at hl 9 rfl) ?_
  refine lv_bipush (v := 8) hx hb dX5_step_138 (by decide) ?_
  refine lv_irem hx hb dX5_step_140 (by decide) ?_
  refine lv_bipush (v := 7) hx hb dX5_step_141 (by decide) ?_
  refine lv_icmp_ge (tgt := 167) hx hb dX5_step_143 (by decide) (fun c143 => ?_) (fun c143 => ?_)
  · replace h := wx_ift c143 h
    exact b_X5_step_167 B hs0 hs2 hs6 (K27 := K27) @hK27 h Z hS (lv_sub hl [0, 1, 2, 3, 4, 5, 6, 7, 8, 9, 10, 11, 12] rfl) hal
  · replace h := wx_iff c143 h
    refine lv_fload hx hb dX5_step_146 (lv_at hl 12 rfl) ?_
    refine lv_aload_n hx hb dX5_step_148 rfl (lv_at hl 0 rfl) ?_
    refine lv_iload hx hb dX5_step_149 (lv_at hl 10 rfl) ?_
    refine lv_iconst (v := 1) hx hb dX5_step_151 (by decide) ?_
    refine lv_iadd hx hb dX5_step_152 ?_
    obtain ⟨v153, ev153, iv153, h⟩ := wx_rF_ok h
    refine wx_fald hx hb hC.1 Z (o := o0) (k := k0) (n := n0) (wx_hal hal hs0) rfl iv153 dX5_step_153 ev153 ?_
    refine lv_fload hx hb dX5_step_154 (lv_at hl 11 rfl) ?_
    obtain ⟨v156, ev156, nv156, h⟩ := wx_f_ok h
    refine wx_fsub hx hb dX5_step_156 ev156 nv156 ?_
    refine lv_fload hx hb dX5_step_157 (lv_at hl 6 rfl) ?_
    obtain ⟨v159, ev159, nv159, h⟩ := wx_f_ok h
    refine wx_fmul hx hb dX5_step_159 ev159 nv159 ?_
    refine wx_ldcwF hx hb hown (hts _ k_X5_step_w0) dX5_step_160 ?_
    obtain ⟨v163, ev163, nv163, h⟩ := wx_f_ok h
    refine wx_fdiv hx hb dX5_step_163 ev163 nv163 ?_
    obtain ⟨v164, ev164, nv164, h⟩ := wx_f_ok h
    refine wx_fadd hx hb dX5_step_164 ev164 nv164 ?_
    refine lv_fstore (lv' := [(13, .float v164), (0, .ref (wx_ad ad rd o0 k0)), (1, .int x1), (2, .ref (wx_ad ad rd o2 k2)), (3, .int x3), (4, .long x4), (6, .ref (wx_ad ad rd o6 k6)), (7, .float x7), (8, .float x8), (9, .float x9), (10, .int x10), (11, .int x11), (12, .float x12)]) hx hb dX5_step_165 hl (by decide) rfl (fun ls hl => ?_)
    exact b_X5_step_167 B hs0 hs2 hs6 (K27 := K27) @hK27 h Z hS (lv_sub hl [1, 2, 3, 4, 5, 6, 7, 8, 9, 10, 11, 12, 0] rfl) hal
set_option maxRecDepth 20000 in
set_option maxHeartbeats 4000000 in
theorem b_X5_step_107 (B : wx_B p s m args meth c cX5_step 15 none wsX5_step RX5 D ad ca A) {o0 : Nat} {k0 : Nat} {n0 : Nat} {o2 : Nat} {k2 : Nat} {n2 : Nat} {o6 : Nat} {k6 : Nat} {al : Nat → Bool} (hs0 : wx_sh al o0 k0 = (2, n0)) (hs2 : wx_sh al o2 k2 = (2, n2)) (hs6 : wx_sh al o6 k6 = (1, 4))  {σ' : wx_St} {K27 : Int32 → Int32 → Int64 → UInt32 → UInt32 → UInt32 → Int32 → wx_St → Option (Unit × wx_St)} (hK27 : ∀ {x1 : Int32} {x3 : Int32} {x4 : Int64} {x7 : UInt32} {x8 : UInt32} {x9 : UInt32} {x10 : Int32}  {σ : wx_St} (h : K27 x1 x3 x4 x7 x8 x9 x10 σ = some ((), σ')) {H : Heap} {locs : List Loc} (Z : wx_Z D ad rd ca A σ H) (hS : va_S A s.heap H locs) {ls : Array Slot} (hl : lv_has ls 15 [(0, .ref (wx_ad ad rd o0 k0)), (1, .int x1), (2, .ref (wx_ad ad rd o2 k2)), (3, .int x3), (4, .long x4), (6, .ref (wx_ad ad rd o6 k6)), (7, .float x7), (8, .float x8), (9, .float x9), (10, .int x10)]) (hal : σ.2.2.2.2 = al), W p l e ({ frames := 1, cells := 0, slots := 0, locals := 22 } : Room) s m args below meth c H locs 0 0 (MQ below (wx_Q D ad rd ca A none σ') args s 0 0 A) (F0 m 27 ls [])) {x1 : Int32} {x3 : Int32} {x4 : Int64} {x7 : UInt32} {x8 : UInt32} {x9 : UInt32} {x10 : Int32} {x11 : Int32} {x12 : UInt32} {x13 : UInt32}  {σ : wx_St} (h : f_X5_step_107 o0 k0 n0 o2 k2 n2 o6 k6 K27 x1 x3 x4 x7 x8 x9 x10 x11 x12 x13 σ = some ((), σ')) {H : Heap} {locs : List Loc} (Z : wx_Z D ad rd ca A σ H) (hS : va_S A s.heap H locs) {ls : Array Slot} (hl : lv_has ls 15 [(0, .ref (wx_ad ad rd o0 k0)), (1, .int x1), (2, .ref (wx_ad ad rd o2 k2)), (3, .int x3), (4, .long x4), (6, .ref (wx_ad ad rd o6 k6)), (7, .float x7), (8, .float x8), (9, .float x9), (10, .int x10), (11, .int x11), (12, .float x12), (13, .float x13)]) (hal : σ.2.2.2.2 = al) : W p l e ({ frames := 1, cells := 0, slots := 0, locals := 22 } : Room) s m args below meth c H locs 0 0 (MQ below (wx_Q D ad rd ca A none σ') args s 0 0 A) (F0 m 107 ls []) := by
  obtain ⟨hx, hb, hml, hr, hts, hown, hlk, hC, hA⟩ := id B
  unfold f_X5_step_107 at h
  refine lv_iload hx hb dX5_step_107 (lv_at hl 9 rfl) ?_
  refine lv_bipush (v := 8) hx hb dX5_step_109 (by decide) ?_
  refine lv_irem hx hb dX5_step_111 (by decide) ?_
  refine lv_if_le (tgt := 136) hx hb dX5_step_112 (by decide) (fun c112 => ?_) (fun c112 => ?_)
  · replace h := wx_ift c112 h
    exact b_X5_step_136 B hs0 hs2 hs6 (K27 := K27) @hK27 h Z hS (lv_sub hl [0, 1, 2, 3, 4, 5, 6, 7, 8, 9, 10, 11, 12] rfl) hal
  · replace h := wx_iff c112 h
    refine lv_fload hx hb dX5_step_115 (lv_at hl 12 rfl) ?_
    refine lv_aload_n hx hb dX5_step_117 rfl (lv_at hl 0 rfl) ?_
    refine lv_iload hx hb dX5_step_118 (lv_at hl 10 rfl) ?_
    refine lv_iconst (v := 1) hx hb dX5_step_120 (by decide) ?_
    refine lv_isub hx hb dX5_step_121 ?_
    obtain ⟨v122, ev122, iv122, h⟩ := wx_rF_ok h
    refine wx_fald hx hb hC.1 Z (o := o0) (k := k0) (n := n0) (wx_hal hal hs0) rfl iv122 dX5_step_122 ev122 ?_
    refine lv_fload hx hb dX5_step_123 (lv_at hl 11 rfl) ?_
    obtain ⟨v125, ev125, nv125, h⟩ := wx_f_ok h
    refine wx_fsub hx hb dX5_step_125 ev125 nv125 ?_
    refine lv_fload hx hb dX5_step_126 (lv_at hl 6 rfl) ?_
    obtain ⟨v128, ev128, nv128, h⟩ := wx_f_ok h
    refine wx_fmul hx hb dX5_step_128 ev128 nv128 ?_
    refine wx_ldcwF hx hb hown (hts _ k_X5_step_w0) dX5_step_129 ?_
    obtain ⟨v132, ev132, nv132, h⟩ := wx_f_ok h
    refine wx_fdiv hx hb dX5_step_132 ev132 nv132 ?_
    obtain ⟨v133, ev133, nv133, h⟩ := wx_f_ok h
    refine wx_fadd hx hb dX5_step_133 ev133 nv133 ?_
    refine lv_fstore (lv' := [(13, .float v133), (0, .ref (wx_ad ad rd o0 k0)), (1, .int x1), (2, .ref (wx_ad ad rd o2 k2)), (3, .int x3), (4, .long x4), (6, .ref (wx_ad ad rd o6 k6)), (7, .float x7), (8, .float x8), (9, .float x9), (10, .int x10), (11, .int x11), (12, .float x12)]) hx hb dX5_step_134 hl (by decide) rfl (fun ls hl => ?_)
    exact b_X5_step_136 B hs0 hs2 hs6 (K27 := K27) @hK27 h Z hS (lv_sub hl [1, 2, 3, 4, 5, 6, 7, 8, 9, 10, 11, 12, 0] rfl) hal
set_option maxRecDepth 20000 in
set_option maxHeartbeats 4000000 in
theorem b_X5_step_78 (B : wx_B p s m args meth c cX5_step 15 none wsX5_step RX5 D ad ca A) {o0 : Nat} {k0 : Nat} {n0 : Nat} {o2 : Nat} {k2 : Nat} {n2 : Nat} {o6 : Nat} {k6 : Nat} {al : Nat → Bool} (hs0 : wx_sh al o0 k0 = (2, n0)) (hs2 : wx_sh al o2 k2 = (2, n2)) (hs6 : wx_sh al o6 k6 = (1, 4))  {σ' : wx_St} {K27 : Int32 → Int32 → Int64 → UInt32 → UInt32 → UInt32 → Int32 → wx_St → Option (Unit × wx_St)} (hK27 : ∀ {x1 : Int32} {x3 : Int32} {x4 : Int64} {x7 : UInt32} {x8 : UInt32} {x9 : UInt32} {x10 : Int32}  {σ : wx_St} (h : K27 x1 x3 x4 x7 x8 x9 x10 σ = some ((), σ')) {H : Heap} {locs : List Loc} (Z : wx_Z D ad rd ca A σ H) (hS : va_S A s.heap H locs) {ls : Array Slot} (hl : lv_has ls 15 [(0, .ref (wx_ad ad rd o0 k0)), (1, .int x1), (2, .ref (wx_ad ad rd o2 k2)), (3, .int x3), (4, .long x4), (6, .ref (wx_ad ad rd o6 k6)), (7, .float x7), (8, .float x8), (9, .float x9), (10, .int x10)]) (hal : σ.2.2.2.2 = al), W p l e ({ frames := 1, cells := 0, slots := 0, locals := 22 } : Room) s m args below meth c H locs 0 0 (MQ below (wx_Q D ad rd ca A none σ') args s 0 0 A) (F0 m 27 ls [])) {x1 : Int32} {x3 : Int32} {x4 : Int64} {x7 : UInt32} {x8 : UInt32} {x9 : UInt32} {x10 : Int32} {x11 : Int32} {x12 : UInt32} {x13 : UInt32}  {σ : wx_St} (h : f_X5_step_78 o0 k0 n0 o2 k2 n2 o6 k6 K27 x1 x3 x4 x7 x8 x9 x10 x11 x12 x13 σ = some ((), σ')) {H : Heap} {locs : List Loc} (Z : wx_Z D ad rd ca A σ H) (hS : va_S A s.heap H locs) {ls : Array Slot} (hl : lv_has ls 15 [(0, .ref (wx_ad ad rd o0 k0)), (1, .int x1), (2, .ref (wx_ad ad rd o2 k2)), (3, .int x3), (4, .long x4), (6, .ref (wx_ad ad rd o6 k6)), (7, .float x7), (8, .float x8), (9, .float x9), (10, .int x10), (11, .int x11), (12, .float x12), (13, .float x13)]) (hal : σ.2.2.2.2 = al) : W p l e ({ frames := 1, cells := 0, slots := 0, locals := 22 } : Room) s m args below meth c H locs 0 0 (MQ below (wx_Q D ad rd ca A none σ') args s 0 0 A) (F0 m 78 ls []) := by
  obtain ⟨hx, hb, hml, hr, hts, hown, hlk, hC, hA⟩ := id B
  unfold f_X5_step_78 at h
  refine lv_iload hx hb dX5_step_78 (lv_at hl 9 rfl) ?_
  refine lv_bipush (v := 56) hx hb dX5_step_80 (by decide) ?_
  refine lv_icmp_ge (tgt := 107) hx hb dX5_step_82 (by decide) (fun c82 => ?_) (fun c82 => ?_)
  · replace h := wx_ift c82 h
    exact b_X5_step_107 B hs0 hs2 hs6 (K27 := K27) @hK27 h Z hS (lv_sub hl [0, 1, 2, 3, 4, 5, 6, 7, 8, 9, 10, 11, 12] rfl) hal
  · replace h := wx_iff c82 h
    refine lv_fload hx hb dX5_step_85 (lv_at hl 12 rfl) ?_
    refine lv_aload_n hx hb dX5_step_87 rfl (lv_at hl 0 rfl) ?_
    refine lv_iload hx hb dX5_step_88 (lv_at hl 10 rfl) ?_
    refine lv_bipush (v := 8) hx hb dX5_step_90 (by decide) ?_
    refine lv_iadd hx hb dX5_step_92 ?_
    obtain ⟨v93, ev93, iv93, h⟩ := wx_rF_ok h
    refine wx_fald hx hb hC.1 Z (o := o0) (k := k0) (n := n0) (wx_hal hal hs0) rfl iv93 dX5_step_93 ev93 ?_
    refine lv_fload hx hb dX5_step_94 (lv_at hl 11 rfl) ?_
    obtain ⟨v96, ev96, nv96, h⟩ := wx_f_ok h
    refine wx_fsub hx hb dX5_step_96 ev96 nv96 ?_
    refine lv_fload hx hb dX5_step_97 (lv_at hl 6 rfl) ?_
    obtain ⟨v99, ev99, nv99, h⟩ := wx_f_ok h
    refine wx_fmul hx hb dX5_step_99 ev99 nv99 ?_
    refine wx_ldcwF hx hb hown (hts _ k_X5_step_w0) dX5_step_100 ?_
    obtain ⟨v103, ev103, nv103, h⟩ := wx_f_ok h
    refine wx_fdiv hx hb dX5_step_103 ev103 nv103 ?_
    obtain ⟨v104, ev104, nv104, h⟩ := wx_f_ok h
    refine wx_fadd hx hb dX5_step_104 ev104 nv104 ?_
    refine lv_fstore (lv' := [(13, .float v104), (0, .ref (wx_ad ad rd o0 k0)), (1, .int x1), (2, .ref (wx_ad ad rd o2 k2)), (3, .int x3), (4, .long x4), (6, .ref (wx_ad ad rd o6 k6)), (7, .float x7), (8, .float x8), (9, .float x9), (10, .int x10), (11, .int x11), (12, .float x12)]) hx hb dX5_step_105 hl (by decide) rfl (fun ls hl => ?_)
    exact b_X5_step_107 B hs0 hs2 hs6 (K27 := K27) @hK27 h Z hS (lv_sub hl [1, 2, 3, 4, 5, 6, 7, 8, 9, 10, 11, 12, 0] rfl) hal
set_option maxRecDepth 20000 in
set_option maxHeartbeats 4000000 in
theorem b_X5_step_27 (B : wx_B p s m args meth c cX5_step 15 none wsX5_step RX5 D ad ca A) {o0 : Nat} {k0 : Nat} {n0 : Nat} {o2 : Nat} {k2 : Nat} {n2 : Nat} {o6 : Nat} {k6 : Nat} {al : Nat → Bool} (hs0 : wx_sh al o0 k0 = (2, n0)) (hs2 : wx_sh al o2 k2 = (2, n2)) (hs6 : wx_sh al o6 k6 = (1, 4))  {σ' : wx_St}   :
    ∀ {n : Nat} {x1 : Int32} {x3 : Int32} {x4 : Int64} {x7 : UInt32} {x8 : UInt32} {x9 : UInt32} {x10 : Int32}  {σ : wx_St} (h : f_X5_step_27 o0 k0 n0 o2 k2 n2 o6 k6 n x1 x3 x4 x7 x8 x9 x10 σ = some ((), σ')) {H : Heap} {locs : List Loc} (Z : wx_Z D ad rd ca A σ H) (hS : va_S A s.heap H locs) {ls : Array Slot} (hl : lv_has ls 15 [(0, .ref (wx_ad ad rd o0 k0)), (1, .int x1), (2, .ref (wx_ad ad rd o2 k2)), (3, .int x3), (4, .long x4), (6, .ref (wx_ad ad rd o6 k6)), (7, .float x7), (8, .float x8), (9, .float x9), (10, .int x10)]) (hal : σ.2.2.2.2 = al), W p l e ({ frames := 1, cells := 0, slots := 0, locals := 22 } : Room) s m args below meth c H locs 0 0 (MQ below (wx_Q D ad rd ca A none σ') args s 0 0 A) (F0 m 27 ls []) := by
  obtain ⟨hx, hb, hml, hr, hts, hown, hlk, hC, hA⟩ := id B
  intro n
  induction n with
  | zero => intro x1 x3 x4 x7 x8 x9 x10  σ h H locs Z hS ls hl hal; exact wx_no h
  | succ n ih =>
    intro x1 x3 x4 x7 x8 x9 x10  σ h H locs Z hS ls hl hal
    rw [f_X5_step_27] at h
    refine lv_iload hx hb dX5_step_27 (lv_at hl 9 rfl) ?_
    refine lv_bipush (v := 64) hx hb dX5_step_29 (by decide) ?_
    refine lv_icmp_ge (tgt := 213) hx hb dX5_step_31 (by decide) (fun c31 => ?_) (fun c31 => ?_)
    · replace h := wx_ift c31 h
      obtain ⟨-, rfl⟩ := wx_ret_ok h
      exact W.vret hx hb hr (fun t ht hW => ⟨rfl, by rw [ht]; exact Z, hS.F ht⟩) hS.2.2 dX5_step_213
    · replace h := wx_iff c31 h
      refine lv_iload_n hx hb dX5_step_34 rfl (lv_at hl 1 rfl) ?_
      refine lv_iload hx hb dX5_step_35 (lv_at hl 9 rfl) ?_
      refine lv_iadd hx hb dX5_step_37 ?_
      refine lv_istore (lv' := [(11, .int (x1 + x10)), (0, .ref (wx_ad ad rd o0 k0)), (1, .int x1), (2, .ref (wx_ad ad rd o2 k2)), (3, .int x3), (4, .long x4), (6, .ref (wx_ad ad rd o6 k6)), (7, .float x7), (8, .float x8), (9, .float x9), (10, .int x10)]) hx hb dX5_step_38 hl (by decide) rfl (fun ls hl => ?_)
      refine lv_aload_n hx hb dX5_step_40 rfl (lv_at hl 1 rfl) ?_
      refine lv_iload hx hb dX5_step_41 (lv_at hl 0 rfl) ?_
      obtain ⟨v43, ev43, iv43, h⟩ := wx_rF_ok h
      refine wx_fald hx hb hC.1 Z (o := o0) (k := k0) (n := n0) (wx_hal hal hs0) rfl iv43 dX5_step_43 ev43 ?_
      refine lv_fstore (lv' := [(12, .float v43), (11, .int (x1 + x10)), (0, .ref (wx_ad ad rd o0 k0)), (1, .int x1), (2, .ref (wx_ad ad rd o2 k2)), (3, .int x3), (4, .long x4), (6, .ref (wx_ad ad rd o6 k6)), (7, .float x7), (8, .float x8), (9, .float x9), (10, .int x10)]) hx hb dX5_step_44 hl (by decide) rfl (fun ls hl => ?_)
      refine lv_fconst0 hx hb dX5_step_46 ?_
      refine lv_fstore (lv' := [(13, .float FP.fconst0), (12, .float v43), (11, .int (x1 + x10)), (0, .ref (wx_ad ad rd o0 k0)), (1, .int x1), (2, .ref (wx_ad ad rd o2 k2)), (3, .int x3), (4, .long x4), (6, .ref (wx_ad ad rd o6 k6)), (7, .float x7), (8, .float x8), (9, .float x9), (10, .int x10)]) hx hb dX5_step_47 hl (by decide) rfl (fun ls hl => ?_)
      refine lv_iload hx hb dX5_step_49 (lv_at hl 12 rfl) ?_
      refine lv_bipush (v := 8) hx hb dX5_step_51 (by decide) ?_
      refine lv_icmp_lt (tgt := 78) hx hb dX5_step_53 (by decide) (fun c53 => ?_) (fun c53 => ?_)
      · replace h := wx_ift c53 h
        exact b_X5_step_78 B hs0 hs2 hs6 (K27 := (f_X5_step_27 o0 k0 n0 o2 k2 n2 o6 k6 n)) @ih h Z hS (lv_sub hl [3, 4, 5, 6, 7, 8, 9, 10, 11, 12, 2, 1, 0] rfl) hal
      · replace h := wx_iff c53 h
        refine lv_fload hx hb dX5_step_56 (lv_at hl 0 rfl) ?_
        refine lv_aload_n hx hb dX5_step_58 rfl (lv_at hl 3 rfl) ?_
        refine lv_iload hx hb dX5_step_59 (lv_at hl 2 rfl) ?_
        refine lv_bipush (v := 8) hx hb dX5_step_61 (by decide) ?_
        refine lv_isub hx hb dX5_step_63 ?_
        obtain ⟨v64, ev64, iv64, h⟩ := wx_rF_ok h
        refine wx_fald hx hb hC.1 Z (o := o0) (k := k0) (n := n0) (wx_hal hal hs0) rfl iv64 dX5_step_64 ev64 ?_
        refine lv_fload hx hb dX5_step_65 (lv_at hl 1 rfl) ?_
        obtain ⟨v67, ev67, nv67, h⟩ := wx_f_ok h
        refine wx_fsub hx hb dX5_step_67 ev67 nv67 ?_
        refine lv_fload hx hb dX5_step_68 (lv_at hl 9 rfl) ?_
        obtain ⟨v70, ev70, nv70, h⟩ := wx_f_ok h
        refine wx_fmul hx hb dX5_step_70 ev70 nv70 ?_
        refine wx_ldcwF hx hb hown (hts _ k_X5_step_w0) dX5_step_71 ?_
        obtain ⟨v74, ev74, nv74, h⟩ := wx_f_ok h
        refine wx_fdiv hx hb dX5_step_74 ev74 nv74 ?_
        obtain ⟨v75, ev75, nv75, h⟩ := wx_f_ok h
        refine wx_fadd hx hb dX5_step_75 ev75 nv75 ?_
        refine lv_fstore (lv' := [(13, .float v75), (12, .float v43), (11, .int (x1 + x10)), (0, .ref (wx_ad ad rd o0 k0)), (1, .int x1), (2, .ref (wx_ad ad rd o2 k2)), (3, .int x3), (4, .long x4), (6, .ref (wx_ad ad rd o6 k6)), (7, .float x7), (8, .float x8), (9, .float x9), (10, .int x10)]) hx hb dX5_step_76 hl (by decide) rfl (fun ls hl => ?_)
        exact b_X5_step_78 B hs0 hs2 hs6 (K27 := (f_X5_step_27 o0 k0 n0 o2 k2 n2 o6 k6 n)) @ih h Z hS (lv_sub hl [3, 4, 5, 6, 7, 8, 9, 10, 11, 12, 2, 1, 0] rfl) hal
set_option maxRecDepth 20000 in
set_option maxHeartbeats 4000000 in
theorem b_X5_step_0 (B : wx_B p s m args meth c cX5_step 15 none wsX5_step RX5 D ad ca A) {o0 : Nat} {k0 : Nat} {n0 : Nat} {o2 : Nat} {k2 : Nat} {n2 : Nat} {o6 : Nat} {k6 : Nat} {al : Nat → Bool} (hs0 : wx_sh al o0 k0 = (2, n0)) (hs2 : wx_sh al o2 k2 = (2, n2)) (hs6 : wx_sh al o6 k6 = (1, 4))  {σ' : wx_St}  {x1 : Int32} {x3 : Int32} {x4 : Int64}  {σ : wx_St} (h : f_X5_step o0 k0 n0 o2 k2 n2 o6 k6 x1 x3 x4 σ = some ((), σ')) {H : Heap} {locs : List Loc} (Z : wx_Z D ad rd ca A σ H) (hS : va_S A s.heap H locs) {ls : Array Slot} (hl : lv_has ls 15 [(0, .ref (wx_ad ad rd o0 k0)), (1, .int x1), (2, .ref (wx_ad ad rd o2 k2)), (3, .int x3), (4, .long x4), (6, .ref (wx_ad ad rd o6 k6))]) (hal : σ.2.2.2.2 = al) : W p l e ({ frames := 1, cells := 0, slots := 0, locals := 22 } : Room) s m args below meth c H locs 0 0 (MQ below (wx_Q D ad rd ca A none σ') args s 0 0 A) (F0 m 0 ls []) := by
  obtain ⟨hx, hb, hml, hr, hts, hown, hlk, hC, hA⟩ := id B
  unfold f_X5_step at h
  refine lv_aload hx hb dX5_step_0 (lv_at hl 5 rfl) ?_
  refine lv_iconst (v := 0) hx hb dX5_step_2 (by decide) ?_
  obtain ⟨v3, ev3, iv3, h⟩ := wx_rI_ok h
  refine wx_iald hx hb hC.1 Z (o := o6) (k := k6) (n := 4) (wx_hal hal hs6) rfl iv3 dX5_step_3 ev3 ?_
  refine lv_i2f hx hb dX5_step_4 ?_
  refine lv_fstore (lv' := [(7, .float (FP.i2f v3)), (0, .ref (wx_ad ad rd o0 k0)), (1, .int x1), (2, .ref (wx_ad ad rd o2 k2)), (3, .int x3), (4, .long x4), (6, .ref (wx_ad ad rd o6 k6))]) hx hb dX5_step_5 hl (by decide) rfl (fun ls hl => ?_)
  refine lv_bipush (v := 100) hx hb dX5_step_7 (by decide) ?_
  refine lv_aload hx hb dX5_step_9 (lv_at hl 6 rfl) ?_
  refine lv_iconst (v := 1) hx hb dX5_step_11 (by decide) ?_
  obtain ⟨v12, ev12, iv12, h⟩ := wx_rI_ok h
  refine wx_iald hx hb hC.1 Z (o := o6) (k := k6) (n := 4) (wx_hal hal hs6) rfl iv12 dX5_step_12 ev12 ?_
  refine lv_isub hx hb dX5_step_13 ?_
  refine lv_i2f hx hb dX5_step_14 ?_
  refine lv_fstore (lv' := [(8, .float (FP.i2f (100 - v12))), (7, .float (FP.i2f v3)), (0, .ref (wx_ad ad rd o0 k0)), (1, .int x1), (2, .ref (wx_ad ad rd o2 k2)), (3, .int x3), (4, .long x4), (6, .ref (wx_ad ad rd o6 k6))]) hx hb dX5_step_15 hl (by decide) rfl (fun ls hl => ?_)
  refine lv_aload hx hb dX5_step_17 (lv_at hl 7 rfl) ?_
  refine lv_iconst (v := 2) hx hb dX5_step_19 (by decide) ?_
  obtain ⟨v20, ev20, iv20, h⟩ := wx_rI_ok h
  refine wx_iald hx hb hC.1 Z (o := o6) (k := k6) (n := 4) (wx_hal hal hs6) rfl iv20 dX5_step_20 ev20 ?_
  refine lv_i2f hx hb dX5_step_21 ?_
  refine lv_fstore (lv' := [(9, .float (FP.i2f v20)), (8, .float (FP.i2f (100 - v12))), (7, .float (FP.i2f v3)), (0, .ref (wx_ad ad rd o0 k0)), (1, .int x1), (2, .ref (wx_ad ad rd o2 k2)), (3, .int x3), (4, .long x4), (6, .ref (wx_ad ad rd o6 k6))]) hx hb dX5_step_22 hl (by decide) rfl (fun ls hl => ?_)
  refine lv_iconst (v := 0) hx hb dX5_step_24 (by decide) ?_
  refine lv_istore (lv' := [(10, .int 0), (9, .float (FP.i2f v20)), (8, .float (FP.i2f (100 - v12))), (7, .float (FP.i2f v3)), (0, .ref (wx_ad ad rd o0 k0)), (1, .int x1), (2, .ref (wx_ad ad rd o2 k2)), (3, .int x3), (4, .long x4), (6, .ref (wx_ad ad rd o6 k6))]) hx hb dX5_step_25 hl (by decide) rfl (fun ls hl => ?_)
  exact b_X5_step_27 B hs0 hs2 hs6 h Z hS (lv_sub hl [4, 5, 6, 7, 8, 9, 3, 2, 1, 0] rfl) hal
set_option maxRecDepth 20000 in
theorem c_X5_step (l : Launch) {D : va_G} {ad : Nat → Nat → Nat} {rd : Nat → Nat} {ca : Nat → ClassId} {A : Nat → Prop} {σ : wx_St} {o0 : Nat} {k0 : Nat} {n0 : Nat} {o2 : Nat} {k2 : Nat} {n2 : Nat} {o6 : Nat} {k6 : Nat} {al : Nat → Bool} (hs0 : wx_sh al o0 k0 = (2, n0)) (hs2 : wx_sh al o2 k2 = (2, n2)) (hs6 : wx_sh al o6 k6 = (1, 4)) (hal : σ.2.2.2.2 = al) {x1 : Int32} {x3 : Int32} {x4 : Int64}  {σ' : wx_St} (h : f_X5_step o0 k0 n0 o2 k2 n2 o6 k6 x1 x3 x4 σ = some ((), σ')) : wx_M l yX5_step wsX5_step 1 22 D ad rd ca A [.ref (wx_ad ad rd o0 k0), .int x1, .ref (wx_ad ad rd o2 k2), .int x3, .long x4, .ref (wx_ad ad rd o6 k6)] σ none σ' := by
  refine Met.ofW (cc := cX5_step) (maxL := 15) (ret := none) (by decide) rfl ?_
  intro p e s m args below meth c s₁ B0 hml hv
  obtain ⟨rfl, hC, Z, hA⟩ := hv
  have hl := lv_entry ([.ref (wx_ad ad rd o0 k0), .int x1, .ref (wx_ad ad rd o2 k2), .int x3, .long x4, .ref (wx_ad ad rd o6 k6)]) (n := 15) (Nat.le_of_ble_eq_true rfl)
  rw [lg_entry_eq]
  generalize (lg_sl ([.ref (wx_ad ad rd o0 k0), .int x1, .ref (wx_ad ad rd o2 k2), .int x3, .long x4, .ref (wx_ad ad rd o6 k6)]) ++ List.replicate (15 - (lg_sl ([.ref (wx_ad ad rd o0 k0), .int x1, .ref (wx_ad ad rd o2 k2), .int x3, .long x4, .ref (wx_ad ad rd o6 k6)])).length) Slot.unset).toArray = ls at hl ⊢
  exact b_X5_step_0 ⟨B0.exec, B0.bytes, hml, B0.returns, atoms_spec (ws := wsX5_step) B0.pre, findClass_of_methodNamed B0.named, B0.notSynchronized, hC, hA⟩ hs0 hs2 hs6 h Z va_S.rf hl hal
theorem i_X0_passOne_0 : ∀ w ∈ wsX00, w ∈ wsX0_passOne := by decide +kernel
theorem k_X0_passOne_w0 : Cond.fieldLink RX0 34 "WarmProbes$Board" "warmth" "[F" ∈ wsX0_passOne := by decide +kernel
theorem k_X0_passOne_w1 : Cond.fieldLink RX0 38 "WarmProbes$Board" "nextWarmth" "[F" ∈ wsX0_passOne := by decide +kernel
theorem k_X0_passOne_w2 : Cond.fieldLink RX0 9 "WarmProbes$Board" "settings" "[I" ∈ wsX0_passOne := by decide +kernel
theorem k_X0_passOne_w3 : Cond.initialized RX5 ∈ wsX0_passOne := by decide +kernel
theorem k_X0_passOne_w4 : Cond.static yX5_step ∈ wsX0_passOne := by decide +kernel
theorem k_X0_passOne_w5 : Cond.methodLink RX0 56 arraycopyName ∈ wsX0_passOne := by decide +kernel
theorem k_X0_passOne_w6 : Cond.native arraycopyName ∈ wsX0_passOne := by decide +kernel
theorem k_X0_passOne_w7 : Cond.static arraycopyName ∈ wsX0_passOne := by decide +kernel
theorem k_X0_passOne_w8 : Cond.initialized "java/lang/System" ∈ wsX0_passOne := by decide +kernel
set_option maxRecDepth 20000 in
set_option maxHeartbeats 4000000 in
theorem b_X0_passOne_0 (B : wx_B p s m args meth c cX0_passOne 3 none wsX0_passOne RX0 D ad ca A) {o : Nat}  (ho : o < 11)  {σ' : wx_St}  {x1 : Int64}  {σ : wx_St} (h : f_X0_passOne o x1 σ = some ((), σ')) {H : Heap} {locs : List Loc} (Z : wx_Z D ad rd ca A σ H) (hS : va_S A s.heap H locs) {ls : Array Slot} (hl : lv_has ls 3 [(0, .ref (ad o 99)), (1, .long x1)]) : W p l e ({ frames := 2, cells := 0, slots := 0, locals := 56 } : Room) s m args below meth c H locs 0 0 (MQ below (wx_Q D ad rd ca A none σ') args s 0 0 A) (F0 m 0 ls []) := by
  obtain ⟨hx, hb, hml, hr, hts, hown, hlk, hC, hA⟩ := id B
  unfold f_X0_passOne at h
  refine lv_aload_n hx hb dX0_passOne_0 rfl (lv_at hl 0 rfl) ?_
  refine wx_get (own := RX0) hx hb hts i_X0_passOne_0 hown hC.1 Z (o := o) (ci := 0) (wx_sbo ho 99) (rfl : vwCl[0]? = some (RX0, TX0, 13)) 7 (by decide) (hts _ k_X0_passOne_w0) (fun _ h9 => h9) (f := 0) rfl rfl dX0_passOne_1 ?_
  refine lv_iconst (v := 0) hx hb dX0_passOne_4 (by decide) ?_
  refine lv_aload_n hx hb dX0_passOne_5 rfl (lv_at hl 0 rfl) ?_
  refine wx_get (own := RX0) hx hb hts i_X0_passOne_0 hown hC.1 Z (o := o) (ci := 0) (wx_sbo ho 99) (rfl : vwCl[0]? = some (RX0, TX0, 13)) 8 (by decide) (hts _ k_X0_passOne_w1) (fun _ h9 => h9) (f := 0) rfl rfl dX0_passOne_6 ?_
  refine lv_iconst (v := 0) hx hb dX0_passOne_9 (by decide) ?_
  refine lv_lload_n hx hb dX0_passOne_10 rfl (lv_at hl 1 rfl) ?_
  refine lv_aload_n hx hb dX0_passOne_11 rfl (lv_at hl 0 rfl) ?_
  refine wx_get (own := RX0) hx hb hts i_X0_passOne_0 hown hC.1 Z (o := o) (ci := 0) (wx_sbo ho 99) (rfl : vwCl[0]? = some (RX0, TX0, 13)) 0 (by decide) (hts _ k_X0_passOne_w2) (fun _ h9 => h9) (f := 0) rfl rfl dX0_passOne_12 ?_
  obtain ⟨v15, σ15, hc15, h⟩ := wx_b_ok h
  refine wx_call (va_runSN (As := [.ref (ad o 7), .int 0, .ref (ad o 8), .int 0, .long x1, .ref (ad o 0)]) (rest := []) ⟨hx, hb, hml, hown, hts⟩ (c_X5_step l (D := D) (ad := ad) (rd := rd) (ca := ca) (A := A) (σ := σ) (o0 := o) (k0 := 7) (n0 := 64) (o2 := o) (k2 := 8) (n2 := 64) (o6 := o) (k6 := 0) (al := σ.2.2.2.2) (wx_sbo ho 7) (wx_sbo ho 8) (wx_sbo ho 0) rfl hc15) ⟨va_cnB 6 hts gX0_passOne_X5_step_n107 rfl rfl rfl (hC.1.2 _ (List.mem_of_getElem? (i := 43) rfl)) (hts _ k_X0_passOne_w3) (by decide +kernel) ⟨Nat.le_of_ble_eq_true rfl, Nat.le_of_ble_eq_true rfl⟩, hts _ k_X0_passOne_w4, trivial⟩ (wx_preS hC Z hS hA) rfl rfl hl.1 rfl (lv_room (Nat.le_of_ble_eq_true rfl)) dX0_passOne_15 ⟨Nat.zero_le _, Nat.zero_le _⟩) hS (fun H locs Z hS => ?_)
  refine lv_aload_n hx hb dX0_passOne_18 rfl (lv_at hl 0 rfl) ?_
  refine wx_get (own := RX0) hx hb hts i_X0_passOne_0 hown hC.1 Z (o := o) (ci := 0) (wx_sbo ho 99) (rfl : vwCl[0]? = some (RX0, TX0, 13)) 8 (by decide) (hts _ k_X0_passOne_w1) (fun _ h9 => h9) (f := 0) rfl rfl dX0_passOne_19 ?_
  refine lv_iconst (v := 0) hx hb dX0_passOne_22 (by decide) ?_
  refine lv_aload_n hx hb dX0_passOne_23 rfl (lv_at hl 0 rfl) ?_
  refine wx_get (own := RX0) hx hb hts i_X0_passOne_0 hown hC.1 Z (o := o) (ci := 0) (wx_sbo ho 99) (rfl : vwCl[0]? = some (RX0, TX0, 13)) 7 (by decide) (hts _ k_X0_passOne_w0) (fun _ h9 => h9) (f := 0) rfl rfl dX0_passOne_24 ?_
  refine lv_iconst (v := 0) hx hb dX0_passOne_27 (by decide) ?_
  refine lv_bipush (v := 64) hx hb dX0_passOne_28 (by decide) ?_
  obtain ⟨σ30, e30, h⟩ := wx_l_ok h
  refine wx_copyf (own := RX0) hx hb (hml.trans hl.1.symm) hown (hts _ k_X0_passOne_w5) (hts _ k_X0_passOne_w6) (hts _ k_X0_passOne_w7) (hts _ k_X0_passOne_w8) hC.1 Z hS (o := o) (k := 8) (n := 64) (o' := o) (k' := 7) (n' := 64) (wx_sbo ho 8) (wx_sbo ho 7) rfl rfl (by decide) (by decide) (by decide) (by decide) (by decide) (Nat.le_of_ble_eq_true rfl) (Nat.le_of_ble_eq_true rfl) dX0_passOne_30 e30 (fun H locs Z hS => ?_)
  obtain ⟨-, rfl⟩ := wx_ret_ok h
  exact W.vret hx hb hr (fun t ht hW => ⟨rfl, by rw [ht]; exact Z, hS.F ht⟩) hS.2.2 dX0_passOne_33
set_option maxRecDepth 20000 in
theorem c_X0_passOne (l : Launch) {D : va_G} {ad : Nat → Nat → Nat} {rd : Nat → Nat} {ca : Nat → ClassId} {A : Nat → Prop} {σ : wx_St} {o : Nat}  (ho : o < 11) {x1 : Int64}  {σ' : wx_St} (h : f_X0_passOne o x1 σ = some ((), σ')) : wx_M l yX0_passOne wsX0_passOne 2 56 D ad rd ca A [.ref (ad o 99), .long x1] σ none σ' := by
  refine Met.ofW (cc := cX0_passOne) (maxL := 3) (ret := none) (by decide) rfl ?_
  intro p e s m args below meth c s₁ B0 hml hv
  obtain ⟨rfl, hC, Z, hA⟩ := hv
  have hl := lv_entry ([.ref (ad o 99), .long x1]) (n := 3) (Nat.le_of_ble_eq_true rfl)
  rw [lg_entry_eq]
  generalize (lg_sl ([.ref (ad o 99), .long x1]) ++ List.replicate (3 - (lg_sl ([.ref (ad o 99), .long x1])).length) Slot.unset).toArray = ls at hl ⊢
  exact b_X0_passOne_0 ⟨B0.exec, B0.bytes, hml, B0.returns, atoms_spec (ws := wsX0_passOne) B0.pre, findClass_of_methodNamed B0.named, B0.notSynchronized, hC, hA⟩ ho h Z va_S.rf hl
theorem i_X0_letPass_0 : ∀ w ∈ wsX00, w ∈ wsX0_letPass := by decide +kernel
theorem k_X0_letPass_w0 : Cond.fieldLink RX0 31 "WarmProbes$Board" "steps" "I" ∈ wsX0_letPass := by decide +kernel
set_option maxRecDepth 20000 in
set_option maxHeartbeats 4000000 in
theorem b_X0_letPass_11 (B : wx_B p s m args meth c cX0_letPass 5 (some .int) wsX0_letPass RX0 D ad ca A) {o : Nat}  (ho : o < 11) {r : Int32} {σ' : wx_St}  {x1 : Int32}  {σ : wx_St} (h : f_X0_letPass_11 o x1 σ = some (r, σ')) {H : Heap} {locs : List Loc} (Z : wx_Z D ad rd ca A σ H) (hS : va_S A s.heap H locs) {ls : Array Slot} (hl : lv_has ls 5 [(0, .ref (ad o 99)), (1, .int x1)]) : W p l e ({ frames := 3, cells := 0, slots := 0, locals := 78 } : Room) s m args below meth c H locs 0 0 (MQ below (wx_Q D ad rd ca A (some (.int r)) σ') args s 0 0 A) (F0 m 11 ls []) := by
  obtain ⟨hx, hb, hml, hr, hts, hown, hlk, hC, hA⟩ := id B
  unfold f_X0_letPass_11 at h
  refine lv_bipush (v := (-2)) hx hb dX0_letPass_11 (by decide) ?_
  obtain ⟨rfl, rfl⟩ := wx_ret_ok h
  exact W.iret hx hb hr (fun t ht hW => ⟨rfl, by rw [ht]; exact Z, hS.F ht⟩) hS.2.2 dX0_letPass_13
set_option maxRecDepth 20000 in
set_option maxHeartbeats 4000000 in
theorem b_X0_letPass_36 (B : wx_B p s m args meth c cX0_letPass 5 (some .int) wsX0_letPass RX0 D ad ca A) {o : Nat}  (ho : o < 11) {r : Int32} {σ' : wx_St}   :
    ∀ {n : Nat} {x1 : Int32} {x2 : Int64} {x4 : Int32}  {σ : wx_St} (h : f_X0_letPass_36 o n x1 x2 x4 σ = some (r, σ')) {H : Heap} {locs : List Loc} (Z : wx_Z D ad rd ca A σ H) (hS : va_S A s.heap H locs) {ls : Array Slot} (hl : lv_has ls 5 [(0, .ref (ad o 99)), (1, .int x1), (2, .long x2), (4, .int x4)]), W p l e ({ frames := 3, cells := 0, slots := 0, locals := 78 } : Room) s m args below meth c H locs 0 0 (MQ below (wx_Q D ad rd ca A (some (.int r)) σ') args s 0 0 A) (F0 m 36 ls []) := by
  obtain ⟨hx, hb, hml, hr, hts, hown, hlk, hC, hA⟩ := id B
  intro n
  induction n with
  | zero => intro x1 x2 x4  σ h H locs Z hS ls hl; exact wx_no h
  | succ n ih =>
    intro x1 x2 x4  σ h H locs Z hS ls hl
    rw [f_X0_letPass_36] at h
    refine lv_iload hx hb dX0_letPass_36 (lv_at hl 3 rfl) ?_
    refine lv_iload_n hx hb dX0_letPass_38 rfl (lv_at hl 1 rfl) ?_
    refine lv_icmp_ge (tgt := 53) hx hb dX0_letPass_39 (by decide) (fun c39 => ?_) (fun c39 => ?_)
    · replace h := wx_ift c39 h
      refine lv_aload_n hx hb dX0_letPass_53 rfl (lv_at hl 0 rfl) ?_
      refine lv_aload_n hx hb dX0_letPass_54 rfl (lv_at hl 0 rfl) ?_
      refine wx_get (own := RX0) hx hb hts i_X0_letPass_0 hown hC.1 Z (o := o) (ci := 0) (wx_sbo ho 99) (rfl : vwCl[0]? = some (RX0, TX0, 13)) 6 (by decide) (hts _ k_X0_letPass_w0) (fun _ h9 => h9) (f := 1) rfl rfl dX0_letPass_55 ?_
      refine lv_iload_n hx hb dX0_letPass_58 rfl (lv_at hl 1 rfl) ?_
      refine lv_iadd hx hb dX0_letPass_59 ?_
      obtain ⟨σ60, e60, h⟩ := wx_l_ok h
      refine wx_put (own := RX0) hx hb hts i_X0_letPass_0 tyX0 tyX0_ok nmX0 hown hC.1 Z hS (o := o) (ci := 0) (wx_sbo ho 99) (rfl : vwCl[0]? = some (RX0, TX0, 13)) 6 (by decide) (hts _ k_X0_letPass_w0) (fun _ h9 => h9) rfl (by decide +kernel) rfl dX0_letPass_60 e60 (fun H locs Z hS => ?_)
      refine lv_aload_n hx hb dX0_letPass_63 rfl (lv_at hl 0 rfl) ?_
      refine wx_get (own := RX0) hx hb hts i_X0_letPass_0 hown hC.1 Z (o := o) (ci := 0) (wx_sbo ho 99) (rfl : vwCl[0]? = some (RX0, TX0, 13)) 6 (by decide) (hts _ k_X0_letPass_w0) (fun _ h9 => h9) (f := 1) rfl rfl dX0_letPass_64 ?_
      obtain ⟨rfl, rfl⟩ := wx_ret_ok h
      exact W.iret hx hb hr (fun t ht hW => ⟨rfl, by rw [ht]; exact Z, hS.F ht⟩) hS.2.2 dX0_letPass_67
    · replace h := wx_iff c39 h
      refine lv_aload_n hx hb dX0_letPass_42 rfl (lv_at hl 0 rfl) ?_
      refine lv_lload_n hx hb dX0_letPass_43 rfl (lv_at hl 2 rfl) ?_
      obtain ⟨v44, σ44, hc44, h⟩ := wx_b_ok h
      refine wx_call (va_runV (As := [.long x2]) (rest := []) ⟨hx, hb, hml, hown, hts⟩ (c_X0_passOne l (D := D) (ad := ad) (rd := rd) (ca := ca) (A := A) (σ := σ) (o := o) ho hc44) (cwV 1 hts gX0_letPass_X0_passOne rfl rfl rfl (by decide +kernel) ⟨Nat.le_of_ble_eq_true rfl, Nat.le_of_ble_eq_true rfl⟩) (wx_preV hC Z hS hA (wx_sbo ho 99) (rfl : vwCl[0]? = some (RX0, TX0, 13))) rfl rfl hl.1 rfl (lv_room (Nat.le_of_ble_eq_true rfl)) dX0_letPass_44 ⟨Nat.zero_le _, Nat.zero_le _⟩) hS (fun H locs Z hS => ?_)
      refine lv_iinc (v := x4 + 1) (lv' := [(4, .int (x4 + 1)), (0, .ref (ad o 99)), (1, .int x1), (2, .long x2)]) hx hb dX0_letPass_47 hl (k := 3) rfl rfl (by decide) rfl (fun ls hl => ?_)
      refine lv_goto (tgt := 36) hx hb dX0_letPass_50 (by decide) ?_
      exact ih h Z hS (lv_sub hl [1, 2, 3, 0] rfl)
set_option maxRecDepth 20000 in
set_option maxHeartbeats 4000000 in
theorem b_X0_letPass_0 (B : wx_B p s m args meth c cX0_letPass 5 (some .int) wsX0_letPass RX0 D ad ca A) {o : Nat}  (ho : o < 11) {r : Int32} {σ' : wx_St}  {x1 : Int32}  {σ : wx_St} (h : f_X0_letPass o x1 σ = some (r, σ')) {H : Heap} {locs : List Loc} (Z : wx_Z D ad rd ca A σ H) (hS : va_S A s.heap H locs) {ls : Array Slot} (hl : lv_has ls 5 [(0, .ref (ad o 99)), (1, .int x1)]) : W p l e ({ frames := 3, cells := 0, slots := 0, locals := 78 } : Room) s m args below meth c H locs 0 0 (MQ below (wx_Q D ad rd ca A (some (.int r)) σ') args s 0 0 A) (F0 m 0 ls []) := by
  obtain ⟨hx, hb, hml, hr, hts, hown, hlk, hC, hA⟩ := id B
  unfold f_X0_letPass at h
  refine lv_iload_n hx hb dX0_letPass_0 rfl (lv_at hl 1 rfl) ?_
  refine lv_iconst (v := 1) hx hb dX0_letPass_1 (by decide) ?_
  refine lv_icmp_lt (tgt := 11) hx hb dX0_letPass_2 (by decide) (fun c2 => ?_) (fun c2 => ?_)
  · replace h := wx_ift c2 h
    exact b_X0_letPass_11 B ho h Z hS (lv_sub hl [0, 1] rfl)
  · replace h := wx_iff c2 h
    refine lv_iload_n hx hb dX0_letPass_5 rfl (lv_at hl 1 rfl) ?_
    refine lv_bipush (v := 50) hx hb dX0_letPass_6 (by decide) ?_
    refine lv_icmp_le (tgt := 14) hx hb dX0_letPass_8 (by decide) (fun c8 => ?_) (fun c8 => ?_)
    · replace h := wx_ift c8 h
      refine lv_aload_n hx hb dX0_letPass_14 rfl (lv_at hl 0 rfl) ?_
      refine wx_get (own := RX0) hx hb hts i_X0_letPass_0 hown hC.1 Z (o := o) (ci := 0) (wx_sbo ho 99) (rfl : vwCl[0]? = some (RX0, TX0, 13)) 6 (by decide) (hts _ k_X0_letPass_w0) (fun _ h9 => h9) (f := 1) rfl rfl dX0_letPass_15 ?_
      refine lv_iload_n hx hb dX0_letPass_18 rfl (lv_at hl 1 rfl) ?_
      refine lv_iadd hx hb dX0_letPass_19 ?_
      refine lv_bipush (v := 100) hx hb dX0_letPass_20 (by decide) ?_
      refine lv_icmp_le (tgt := 28) hx hb dX0_letPass_22 (by decide) (fun c22 => ?_) (fun c22 => ?_)
      · replace h := wx_ift c22 h
        refine lv_aload_n hx hb dX0_letPass_28 rfl (lv_at hl 0 rfl) ?_
        obtain ⟨v29, hc29, h⟩ := wx_o_ok h
        refine wx_call (va_runV (As := []) (rest := []) ⟨hx, hb, hml, hown, hts⟩ (c_X0_heated l (D := D) (ad := ad) (rd := rd) (ca := ca) (A := A) (σ := σ) (o := o) ho hc29) (cwV 0 hts gX0_letPass_X0_heated rfl rfl rfl (by decide +kernel) ⟨Nat.le_of_ble_eq_true rfl, Nat.le_of_ble_eq_true rfl⟩) (wx_preV hC Z hS hA (wx_sbo ho 99) (rfl : vwCl[0]? = some (RX0, TX0, 13))) rfl rfl hl.1 rfl (lv_room (Nat.le_of_ble_eq_true rfl)) dX0_letPass_29 ⟨Nat.zero_le _, Nat.zero_le _⟩) hS (fun H locs Z hS => ?_)
        refine lv_lstore_n (lv' := [(2, .long v29), (0, .ref (ad o 99)), (1, .int x1)]) hx hb dX0_letPass_32 rfl hl (by decide) rfl (fun ls hl => ?_)
        refine lv_iconst (v := 0) hx hb dX0_letPass_33 (by decide) ?_
        refine lv_istore (lv' := [(4, .int 0), (2, .long v29), (0, .ref (ad o 99)), (1, .int x1)]) hx hb dX0_letPass_34 hl (by decide) rfl (fun ls hl => ?_)
        exact b_X0_letPass_36 B ho h Z hS (lv_sub hl [2, 3, 1, 0] rfl)
      · replace h := wx_iff c22 h
        refine lv_bipush (v := (-5)) hx hb dX0_letPass_25 (by decide) ?_
        obtain ⟨rfl, rfl⟩ := wx_ret_ok h
        exact W.iret hx hb hr (fun t ht hW => ⟨rfl, by rw [ht]; exact Z, hS.F ht⟩) hS.2.2 dX0_letPass_27
    · replace h := wx_iff c8 h
      exact b_X0_letPass_11 B ho h Z hS (lv_sub hl [0, 1] rfl)
set_option maxRecDepth 20000 in
theorem c_X0_letPass (l : Launch) {D : va_G} {ad : Nat → Nat → Nat} {rd : Nat → Nat} {ca : Nat → ClassId} {A : Nat → Prop} {σ : wx_St} {o : Nat}  (ho : o < 11) {x1 : Int32} {r : Int32} {σ' : wx_St} (h : f_X0_letPass o x1 σ = some (r, σ')) : wx_M l yX0_letPass wsX0_letPass 3 78 D ad rd ca A [.ref (ad o 99), .int x1] σ (some (.int r)) σ' := by
  refine Met.ofW (cc := cX0_letPass) (maxL := 5) (ret := (some .int)) (by decide) rfl ?_
  intro p e s m args below meth c s₁ B0 hml hv
  obtain ⟨rfl, hC, Z, hA⟩ := hv
  have hl := lv_entry ([.ref (ad o 99), .int x1]) (n := 5) (Nat.le_of_ble_eq_true rfl)
  rw [lg_entry_eq]
  generalize (lg_sl ([.ref (ad o 99), .int x1]) ++ List.replicate (5 - (lg_sl ([.ref (ad o 99), .int x1])).length) Slot.unset).toArray = ls at hl ⊢
  exact b_X0_letPass_0 ⟨B0.exec, B0.bytes, hml, B0.returns, atoms_spec (ws := wsX0_letPass) B0.pre, findClass_of_methodNamed B0.named, B0.notSynchronized, hC, hA⟩ ho h Z va_S.rf hl
theorem k_X5_readOf_w0 : Cond.constantFloat RX5 258 (1092616192) ∈ wsX5_readOf := by decide +kernel
set_option maxRecDepth 20000 in
set_option maxHeartbeats 4000000 in
theorem b_X5_readOf_0 (B : wx_B p s m args meth c cX5_readOf 1 (some .int) wsX5_readOf RX5 D ad ca A)    {r : Int32} {σ : wx_St}  {x0 : UInt32}   (h : f_X5_readOf x0 = some r) {H : Heap} {locs : List Loc} (Z : wx_Z D ad rd ca A σ H) (hS : va_S A s.heap H locs) {ls : Array Slot} (hl : lv_has ls 1 [(0, .float x0)]) : W p l e ({ frames := 0, cells := 0, slots := 0, locals := 0 } : Room) s m args below meth c H locs 0 0 (MQ below (wx_Q D ad rd ca A (some (.int r)) σ) args s 0 0 A) (F0 m 0 ls []) := by
  obtain ⟨hx, hb, hml, hr, hts, hown, hlk, hC, hA⟩ := id B
  unfold f_X5_readOf at h
  refine lv_fload_n hx hb dX5_readOf_0 rfl (lv_at hl 0 rfl) ?_
  refine wx_ldcwF hx hb hown (hts _ k_X5_readOf_w0) dX5_readOf_1 ?_
  obtain ⟨v4, ev4, nv4, h⟩ := wx_f_ok h
  refine wx_fmul hx hb dX5_readOf_4 ev4 nv4 ?_
  refine lv_f2i hx hb dX5_readOf_5 ?_
  obtain rfl := Option.some.inj h
  exact W.iret hx hb hr (fun t ht hW => ⟨rfl, by rw [ht]; exact Z, hS.F ht⟩) hS.2.2 dX5_readOf_6
set_option maxRecDepth 20000 in
theorem c_X5_readOf (l : Launch) {D : va_G} {ad : Nat → Nat → Nat} {rd : Nat → Nat} {ca : Nat → ClassId} {A : Nat → Prop} {σ : wx_St}    {x0 : UInt32} {r : Int32} (h : f_X5_readOf x0 = some r) : wx_M l yX5_readOf wsX5_readOf 0 0 D ad rd ca A [.float x0] σ (some (.int r)) σ := by
  refine Met.ofW (cc := cX5_readOf) (maxL := 1) (ret := (some .int)) (by decide) rfl ?_
  intro p e s m args below meth c s₁ B0 hml hv
  obtain ⟨rfl, hC, Z, hA⟩ := hv
  have hl := lv_entry ([.float x0]) (n := 1) (Nat.le_of_ble_eq_true rfl)
  rw [lg_entry_eq]
  generalize (lg_sl ([.float x0]) ++ List.replicate (1 - (lg_sl ([.float x0])).length) Slot.unset).toArray = ls at hl ⊢
  exact b_X5_readOf_0 ⟨B0.exec, B0.bytes, hml, B0.returns, atoms_spec (ws := wsX5_readOf) B0.pre, findClass_of_methodNamed B0.named, B0.notSynchronized, hC, hA⟩  h Z va_S.rf hl
theorem i_X0_measure_0 : ∀ w ∈ wsX00, w ∈ wsX0_measure := by decide +kernel
theorem k_X0_measure_w0 : Cond.initialized RX5 ∈ wsX0_measure := by decide +kernel
theorem k_X0_measure_w1 : Cond.static yX5_placeOf ∈ wsX0_measure := by decide +kernel
theorem k_X0_measure_w2 : Cond.fieldLink RX0 41 "WarmProbes$Board" "readings" "I" ∈ wsX0_measure := by decide +kernel
theorem k_X0_measure_w3 : Cond.fieldLink RX0 34 "WarmProbes$Board" "warmth" "[F" ∈ wsX0_measure := by decide +kernel
theorem k_X0_measure_w4 : Cond.static yX5_readOf ∈ wsX0_measure := by decide +kernel
theorem k_X0_measure_w5 : Cond.fieldLink RX0 44 "WarmProbes$Board" "readingPlaces" "[I" ∈ wsX0_measure := by decide +kernel
theorem k_X0_measure_w6 : Cond.fieldLink RX0 47 "WarmProbes$Board" "readingReads" "[I" ∈ wsX0_measure := by decide +kernel
theorem k_X0_measure_w7 : Cond.fieldLink RX0 50 "WarmProbes$Board" "readingSteps" "[I" ∈ wsX0_measure := by decide +kernel
theorem k_X0_measure_w8 : Cond.fieldLink RX0 31 "WarmProbes$Board" "steps" "I" ∈ wsX0_measure := by decide +kernel
set_option maxRecDepth 20000 in
set_option maxHeartbeats 4000000 in
theorem b_X0_measure_0 (B : wx_B p s m args meth c cX0_measure 5 (some .int) wsX0_measure RX0 D ad ca A) {o : Nat}  (ho : o < 11) {r : Int32} {σ' : wx_St}  {x1 : Int32} {x2 : Int32}  {σ : wx_St} (h : f_X0_measure o x1 x2 σ = some (r, σ')) {H : Heap} {locs : List Loc} (Z : wx_Z D ad rd ca A σ H) (hS : va_S A s.heap H locs) {ls : Array Slot} (hl : lv_has ls 5 [(0, .ref (ad o 99)), (1, .int x1), (2, .int x2)]) : W p l e ({ frames := 1, cells := 0, slots := 0, locals := 21 } : Room) s m args below meth c H locs 0 0 (MQ below (wx_Q D ad rd ca A (some (.int r)) σ') args s 0 0 A) (F0 m 0 ls []) := by
  obtain ⟨hx, hb, hml, hr, hts, hown, hlk, hC, hA⟩ := id B
  unfold f_X0_measure at h
  refine lv_iload_n hx hb dX0_measure_0 rfl (lv_at hl 1 rfl) ?_
  refine lv_iload_n hx hb dX0_measure_1 rfl (lv_at hl 2 rfl) ?_
  obtain ⟨v2, hc2, h⟩ := wx_o_ok h
  refine wx_call (va_runSN (As := [.int x1, .int x2]) (rest := []) ⟨hx, hb, hml, hown, hts⟩ (c_X5_placeOf l (D := D) (ad := ad) (rd := rd) (ca := ca) (A := A) (σ := σ) hc2) ⟨va_cnB 2 hts gX0_measure_X5_placeOf_n71 rfl rfl rfl (hC.1.2 _ (List.mem_of_getElem? (i := 34) rfl)) (hts _ k_X0_measure_w0) (by decide +kernel) ⟨Nat.le_of_ble_eq_true rfl, Nat.le_of_ble_eq_true rfl⟩, hts _ k_X0_measure_w1, trivial⟩ (wx_preS hC Z hS hA) rfl rfl hl.1 rfl (lv_room (Nat.le_of_ble_eq_true rfl)) dX0_measure_2 ⟨Nat.zero_le _, Nat.zero_le _⟩) hS (fun H locs Z hS => ?_)
  refine lv_istore_n (lv' := [(3, .int v2), (0, .ref (ad o 99)), (1, .int x1), (2, .int x2)]) hx hb dX0_measure_5 rfl hl (by decide) rfl (fun ls hl => ?_)
  refine lv_iload_n hx hb dX0_measure_6 rfl (lv_at hl 0 rfl) ?_
  refine lv_if_ge (tgt := 12) hx hb dX0_measure_7 (by decide) (fun c7 => ?_) (fun c7 => ?_)
  · replace h := wx_ift c7 h
    refine lv_aload_n hx hb dX0_measure_12 rfl (lv_at hl 1 rfl) ?_
    refine wx_get (own := RX0) hx hb hts i_X0_measure_0 hown hC.1 Z (o := o) (ci := 0) (wx_sbo ho 99) (rfl : vwCl[0]? = some (RX0, TX0, 13)) 9 (by decide) (hts _ k_X0_measure_w2) (fun _ h9 => h9) (f := 1) rfl rfl dX0_measure_13 ?_
    refine lv_bipush (v := 8) hx hb dX0_measure_16 (by decide) ?_
    refine lv_icmp_lt (tgt := 24) hx hb dX0_measure_18 (by decide) (fun c18 => ?_) (fun c18 => ?_)
    · replace h := wx_ift c18 h
      refine lv_aload_n hx hb dX0_measure_24 rfl (lv_at hl 1 rfl) ?_
      refine wx_get (own := RX0) hx hb hts i_X0_measure_0 hown hC.1 Z (o := o) (ci := 0) (wx_sbo ho 99) (rfl : vwCl[0]? = some (RX0, TX0, 13)) 7 (by decide) (hts _ k_X0_measure_w3) (fun _ h9 => h9) (f := 0) rfl rfl dX0_measure_25 ?_
      refine lv_iload_n hx hb dX0_measure_28 rfl (lv_at hl 0 rfl) ?_
      obtain ⟨v29, ev29, iv29, h⟩ := wx_rF_ok h
      refine wx_fald hx hb hC.1 Z (o := o) (k := 7) (n := 64) (wx_sbo ho 7) rfl iv29 dX0_measure_29 ev29 ?_
      obtain ⟨v30, hc30, h⟩ := wx_o_ok h
      refine wx_call (va_runSN (As := [.float v29]) (rest := []) ⟨hx, hb, hml, hown, hts⟩ (c_X5_readOf l (D := D) (ad := ad) (rd := rd) (ca := ca) (A := A) (σ := σ) hc30) ⟨va_cnB 1 hts gX0_measure_X5_readOf_n111 rfl rfl rfl (hC.1.2 _ (List.mem_of_getElem? (i := 45) rfl)) (hts _ k_X0_measure_w0) (by decide +kernel) ⟨Nat.le_of_ble_eq_true rfl, Nat.le_of_ble_eq_true rfl⟩, hts _ k_X0_measure_w4, trivial⟩ (wx_preS hC Z hS hA) rfl rfl hl.1 rfl (lv_room (Nat.le_of_ble_eq_true rfl)) dX0_measure_30 ⟨Nat.zero_le _, Nat.zero_le _⟩) hS (fun H locs Z hS => ?_)
      refine lv_istore (lv' := [(4, .int v30), (3, .int v2), (0, .ref (ad o 99)), (1, .int x1), (2, .int x2)]) hx hb dX0_measure_33 hl (by decide) rfl (fun ls hl => ?_)
      refine lv_aload_n hx hb dX0_measure_35 rfl (lv_at hl 2 rfl) ?_
      refine wx_get (own := RX0) hx hb hts i_X0_measure_0 hown hC.1 Z (o := o) (ci := 0) (wx_sbo ho 99) (rfl : vwCl[0]? = some (RX0, TX0, 13)) 10 (by decide) (hts _ k_X0_measure_w5) (fun _ h9 => h9) (f := 0) rfl rfl dX0_measure_36 ?_
      refine lv_aload_n hx hb dX0_measure_39 rfl (lv_at hl 2 rfl) ?_
      refine wx_get (own := RX0) hx hb hts i_X0_measure_0 hown hC.1 Z (o := o) (ci := 0) (wx_sbo ho 99) (rfl : vwCl[0]? = some (RX0, TX0, 13)) 9 (by decide) (hts _ k_X0_measure_w2) (fun _ h9 => h9) (f := 1) rfl rfl dX0_measure_40 ?_
      refine lv_iload_n hx hb dX0_measure_43 rfl (lv_at hl 1 rfl) ?_
      obtain ⟨σ44, e44, i44, h⟩ := wx_w_ok h
      refine wx_iast hx hb hC.1 Z hS (o := o) (k := 10) (n := 8) (wx_sbo ho 10) rfl i44 dX0_measure_44 e44 (fun H locs Z hS => ?_)
      refine lv_aload_n hx hb dX0_measure_45 rfl (lv_at hl 2 rfl) ?_
      refine wx_get (own := RX0) hx hb hts i_X0_measure_0 hown hC.1 Z (o := o) (ci := 0) (wx_sbo ho 99) (rfl : vwCl[0]? = some (RX0, TX0, 13)) 11 (by decide) (hts _ k_X0_measure_w6) (fun _ h9 => h9) (f := 0) rfl rfl dX0_measure_46 ?_
      refine lv_aload_n hx hb dX0_measure_49 rfl (lv_at hl 2 rfl) ?_
      refine wx_get (own := RX0) hx hb hts i_X0_measure_0 hown hC.1 Z (o := o) (ci := 0) (wx_sbo ho 99) (rfl : vwCl[0]? = some (RX0, TX0, 13)) 9 (by decide) (hts _ k_X0_measure_w2) (fun _ h9 => h9) (f := 1) rfl rfl dX0_measure_50 ?_
      refine lv_iload hx hb dX0_measure_53 (lv_at hl 0 rfl) ?_
      obtain ⟨σ55, e55, i55, h⟩ := wx_w_ok h
      refine wx_iast hx hb hC.1 Z hS (o := o) (k := 11) (n := 8) (wx_sbo ho 11) rfl i55 dX0_measure_55 e55 (fun H locs Z hS => ?_)
      refine lv_aload_n hx hb dX0_measure_56 rfl (lv_at hl 2 rfl) ?_
      refine wx_get (own := RX0) hx hb hts i_X0_measure_0 hown hC.1 Z (o := o) (ci := 0) (wx_sbo ho 99) (rfl : vwCl[0]? = some (RX0, TX0, 13)) 12 (by decide) (hts _ k_X0_measure_w7) (fun _ h9 => h9) (f := 0) rfl rfl dX0_measure_57 ?_
      refine lv_aload_n hx hb dX0_measure_60 rfl (lv_at hl 2 rfl) ?_
      refine wx_get (own := RX0) hx hb hts i_X0_measure_0 hown hC.1 Z (o := o) (ci := 0) (wx_sbo ho 99) (rfl : vwCl[0]? = some (RX0, TX0, 13)) 9 (by decide) (hts _ k_X0_measure_w2) (fun _ h9 => h9) (f := 1) rfl rfl dX0_measure_61 ?_
      refine lv_aload_n hx hb dX0_measure_64 rfl (lv_at hl 2 rfl) ?_
      refine wx_get (own := RX0) hx hb hts i_X0_measure_0 hown hC.1 Z (o := o) (ci := 0) (wx_sbo ho 99) (rfl : vwCl[0]? = some (RX0, TX0, 13)) 6 (by decide) (hts _ k_X0_measure_w8) (fun _ h9 => h9) (f := 1) rfl rfl dX0_measure_65 ?_
      obtain ⟨σ68, e68, i68, h⟩ := wx_w_ok h
      refine wx_iast hx hb hC.1 Z hS (o := o) (k := 12) (n := 8) (wx_sbo ho 12) rfl i68 dX0_measure_68 e68 (fun H locs Z hS => ?_)
      refine lv_aload_n hx hb dX0_measure_69 rfl (lv_at hl 2 rfl) ?_
      refine lv_dup hx hb dX0_measure_70 rfl ?_
      refine wx_get (own := RX0) hx hb hts i_X0_measure_0 hown hC.1 Z (o := o) (ci := 0) (wx_sbo ho 99) (rfl : vwCl[0]? = some (RX0, TX0, 13)) 9 (by decide) (hts _ k_X0_measure_w2) (fun _ h9 => h9) (f := 1) rfl rfl dX0_measure_71 ?_
      refine lv_iconst (v := 1) hx hb dX0_measure_74 (by decide) ?_
      refine lv_iadd hx hb dX0_measure_75 ?_
      obtain ⟨σ76, e76, h⟩ := wx_l_ok h
      refine wx_put (own := RX0) hx hb hts i_X0_measure_0 tyX0 tyX0_ok nmX0 hown hC.1 Z hS (o := o) (ci := 0) (wx_sbo ho 99) (rfl : vwCl[0]? = some (RX0, TX0, 13)) 9 (by decide) (hts _ k_X0_measure_w2) (fun _ h9 => h9) rfl (by decide +kernel) rfl dX0_measure_76 e76 (fun H locs Z hS => ?_)
      refine lv_iload hx hb dX0_measure_79 (lv_at hl 0 rfl) ?_
      obtain ⟨rfl, rfl⟩ := wx_ret_ok h
      exact W.iret hx hb hr (fun t ht hW => ⟨rfl, by rw [ht]; exact Z, hS.F ht⟩) hS.2.2 dX0_measure_81
    · replace h := wx_iff c18 h
      refine lv_bipush (v := (-4)) hx hb dX0_measure_21 (by decide) ?_
      obtain ⟨rfl, rfl⟩ := wx_ret_ok h
      exact W.iret hx hb hr (fun t ht hW => ⟨rfl, by rw [ht]; exact Z, hS.F ht⟩) hS.2.2 dX0_measure_23
  · replace h := wx_iff c7 h
    refine lv_iconst (v := (-1)) hx hb dX0_measure_10 (by decide) ?_
    obtain ⟨rfl, rfl⟩ := wx_ret_ok h
    exact W.iret hx hb hr (fun t ht hW => ⟨rfl, by rw [ht]; exact Z, hS.F ht⟩) hS.2.2 dX0_measure_11
set_option maxRecDepth 20000 in
theorem c_X0_measure (l : Launch) {D : va_G} {ad : Nat → Nat → Nat} {rd : Nat → Nat} {ca : Nat → ClassId} {A : Nat → Prop} {σ : wx_St} {o : Nat}  (ho : o < 11) {x1 : Int32} {x2 : Int32} {r : Int32} {σ' : wx_St} (h : f_X0_measure o x1 x2 σ = some (r, σ')) : wx_M l yX0_measure wsX0_measure 1 21 D ad rd ca A [.ref (ad o 99), .int x1, .int x2] σ (some (.int r)) σ' := by
  refine Met.ofW (cc := cX0_measure) (maxL := 5) (ret := (some .int)) (by decide) rfl ?_
  intro p e s m args below meth c s₁ B0 hml hv
  obtain ⟨rfl, hC, Z, hA⟩ := hv
  have hl := lv_entry ([.ref (ad o 99), .int x1, .int x2]) (n := 5) (Nat.le_of_ble_eq_true rfl)
  rw [lg_entry_eq]
  generalize (lg_sl ([.ref (ad o 99), .int x1, .int x2]) ++ List.replicate (5 - (lg_sl ([.ref (ad o 99), .int x1, .int x2])).length) Slot.unset).toArray = ls at hl ⊢
  exact b_X0_measure_0 ⟨B0.exec, B0.bytes, hml, B0.returns, atoms_spec (ws := wsX0_measure) B0.pre, findClass_of_methodNamed B0.named, B0.notSynchronized, hC, hA⟩ ho h Z va_S.rf hl
theorem i_X0_part_0 : ∀ w ∈ wsX00, w ∈ wsX0_part := by decide +kernel
theorem k_X0_part_w0 : Cond.fieldLink RX0 21 "WarmProbes$Board" "touches" "I" ∈ wsX0_part := by decide +kernel
theorem k_X0_part_w1 : Cond.fieldLink RX0 25 "WarmProbes$Board" "touchPlaces" "[I" ∈ wsX0_part := by decide +kernel
theorem k_X0_part_w2 : Cond.fieldLink RX0 28 "WarmProbes$Board" "touchOthers" "[I" ∈ wsX0_part := by decide +kernel
set_option maxRecDepth 20000 in
set_option maxHeartbeats 4000000 in
theorem b_X0_part_12 (B : wx_B p s m args meth c cX0_part 3 (some .int) wsX0_part RX0 D ad ca A) {o : Nat}  (ho : o < 11) {r : Int32} {σ' : wx_St}  {x1 : Int32}  {σ : wx_St} (h : f_X0_part_12 o x1 σ = some (r, σ')) {H : Heap} {locs : List Loc} (Z : wx_Z D ad rd ca A σ H) (hS : va_S A s.heap H locs) {ls : Array Slot} (hl : lv_has ls 3 [(0, .ref (ad o 99)), (1, .int x1)]) : W p l e ({ frames := 1, cells := 0, slots := 0, locals := 21 } : Room) s m args below meth c H locs 0 0 (MQ below (wx_Q D ad rd ca A (some (.int r)) σ') args s 0 0 A) (F0 m 12 ls []) := by
  obtain ⟨hx, hb, hml, hr, hts, hown, hlk, hC, hA⟩ := id B
  unfold f_X0_part_12 at h
  refine lv_iconst (v := (-1)) hx hb dX0_part_12 (by decide) ?_
  obtain ⟨rfl, rfl⟩ := wx_ret_ok h
  exact W.iret hx hb hr (fun t ht hW => ⟨rfl, by rw [ht]; exact Z, hS.F ht⟩) hS.2.2 dX0_part_13
set_option maxRecDepth 20000 in
set_option maxHeartbeats 4000000 in
theorem b_X0_part_16 (B : wx_B p s m args meth c cX0_part 3 (some .int) wsX0_part RX0 D ad ca A) {o : Nat}  (ho : o < 11) {r : Int32} {σ' : wx_St}   :
    ∀ {n : Nat} {x1 : Int32} {x2 : Int32}  {σ : wx_St} (h : f_X0_part_16 o n x1 x2 σ = some (r, σ')) {H : Heap} {locs : List Loc} (Z : wx_Z D ad rd ca A σ H) (hS : va_S A s.heap H locs) {ls : Array Slot} (hl : lv_has ls 3 [(0, .ref (ad o 99)), (1, .int x1), (2, .int x2)]), W p l e ({ frames := 1, cells := 0, slots := 0, locals := 21 } : Room) s m args below meth c H locs 0 0 (MQ below (wx_Q D ad rd ca A (some (.int r)) σ') args s 0 0 A) (F0 m 16 ls []) := by
  obtain ⟨hx, hb, hml, hr, hts, hown, hlk, hC, hA⟩ := id B
  intro n
  induction n with
  | zero => intro x1 x2  σ h H locs Z hS ls hl; exact wx_no h
  | succ n ih =>
    intro x1 x2  σ h H locs Z hS ls hl
    rw [f_X0_part_16] at h
    refine lv_iload_n hx hb dX0_part_16 rfl (lv_at hl 2 rfl) ?_
    refine lv_aload_n hx hb dX0_part_17 rfl (lv_at hl 0 rfl) ?_
    refine wx_get (own := RX0) hx hb hts i_X0_part_0 hown hC.1 Z (o := o) (ci := 0) (wx_sbo ho 99) (rfl : vwCl[0]? = some (RX0, TX0, 13)) 3 (by decide) (hts _ k_X0_part_w0) (fun _ h9 => h9) (f := 1) rfl rfl dX0_part_18 ?_
    refine lv_iconst (v := 1) hx hb dX0_part_21 (by decide) ?_
    refine lv_isub hx hb dX0_part_22 ?_
    refine lv_icmp_ge (tgt := 60) hx hb dX0_part_23 (by decide) (fun c23 => ?_) (fun c23 => ?_)
    · replace h := wx_ift c23 h
      refine lv_aload_n hx hb dX0_part_60 rfl (lv_at hl 0 rfl) ?_
      refine lv_dup hx hb dX0_part_61 rfl ?_
      refine wx_get (own := RX0) hx hb hts i_X0_part_0 hown hC.1 Z (o := o) (ci := 0) (wx_sbo ho 99) (rfl : vwCl[0]? = some (RX0, TX0, 13)) 3 (by decide) (hts _ k_X0_part_w0) (fun _ h9 => h9) (f := 1) rfl rfl dX0_part_62 ?_
      refine lv_iconst (v := 1) hx hb dX0_part_65 (by decide) ?_
      refine lv_isub hx hb dX0_part_66 ?_
      obtain ⟨σ67, e67, h⟩ := wx_l_ok h
      refine wx_put (own := RX0) hx hb hts i_X0_part_0 tyX0 tyX0_ok nmX0 hown hC.1 Z hS (o := o) (ci := 0) (wx_sbo ho 99) (rfl : vwCl[0]? = some (RX0, TX0, 13)) 3 (by decide) (hts _ k_X0_part_w0) (fun _ h9 => h9) rfl (by decide +kernel) rfl dX0_part_67 e67 (fun H locs Z hS => ?_)
      refine lv_aload_n hx hb dX0_part_70 rfl (lv_at hl 0 rfl) ?_
      obtain ⟨v71, σ71, hc71, h⟩ := wx_b_ok h
      refine wx_call (va_runV (As := []) (rest := []) ⟨hx, hb, hml, hown, hts⟩ (c_X0_beginRun l (D := D) (ad := ad) (rd := rd) (ca := ca) (A := A) (σ := σ67) (o := o) ho hc71) (cwV 0 hts gX0_part_X0_beginRun rfl rfl rfl (by decide +kernel) ⟨Nat.le_of_ble_eq_true rfl, Nat.le_of_ble_eq_true rfl⟩) (wx_preV hC Z hS hA (wx_sbo ho 99) (rfl : vwCl[0]? = some (RX0, TX0, 13))) rfl rfl hl.1 rfl (lv_room (Nat.le_of_ble_eq_true rfl)) dX0_part_71 ⟨Nat.zero_le _, Nat.zero_le _⟩) hS (fun H locs Z hS => ?_)
      refine lv_aload_n hx hb dX0_part_74 rfl (lv_at hl 0 rfl) ?_
      refine wx_get (own := RX0) hx hb hts i_X0_part_0 hown hC.1 Z (o := o) (ci := 0) (wx_sbo ho 99) (rfl : vwCl[0]? = some (RX0, TX0, 13)) 3 (by decide) (hts _ k_X0_part_w0) (fun _ h9 => h9) (f := 1) rfl rfl dX0_part_75 ?_
      obtain ⟨rfl, rfl⟩ := wx_ret_ok h
      exact W.iret hx hb hr (fun t ht hW => ⟨rfl, by rw [ht]; exact Z, hS.F ht⟩) hS.2.2 dX0_part_78
    · replace h := wx_iff c23 h
      refine lv_aload_n hx hb dX0_part_26 rfl (lv_at hl 0 rfl) ?_
      refine wx_get (own := RX0) hx hb hts i_X0_part_0 hown hC.1 Z (o := o) (ci := 0) (wx_sbo ho 99) (rfl : vwCl[0]? = some (RX0, TX0, 13)) 4 (by decide) (hts _ k_X0_part_w1) (fun _ h9 => h9) (f := 0) rfl rfl dX0_part_27 ?_
      refine lv_iload_n hx hb dX0_part_30 rfl (lv_at hl 2 rfl) ?_
      refine lv_aload_n hx hb dX0_part_31 rfl (lv_at hl 0 rfl) ?_
      refine wx_get (own := RX0) hx hb hts i_X0_part_0 hown hC.1 Z (o := o) (ci := 0) (wx_sbo ho 99) (rfl : vwCl[0]? = some (RX0, TX0, 13)) 4 (by decide) (hts _ k_X0_part_w1) (fun _ h9 => h9) (f := 0) rfl rfl dX0_part_32 ?_
      refine lv_iload_n hx hb dX0_part_35 rfl (lv_at hl 2 rfl) ?_
      refine lv_iconst (v := 1) hx hb dX0_part_36 (by decide) ?_
      refine lv_iadd hx hb dX0_part_37 ?_
      obtain ⟨v38, ev38, iv38, h⟩ := wx_rI_ok h
      refine wx_iald hx hb hC.1 Z (o := o) (k := 4) (n := 3) (wx_sbo ho 4) rfl iv38 dX0_part_38 ev38 ?_
      obtain ⟨σ39, e39, i39, h⟩ := wx_w_ok h
      refine wx_iast hx hb hC.1 Z hS (o := o) (k := 4) (n := 3) (wx_sbo ho 4) rfl i39 dX0_part_39 e39 (fun H locs Z hS => ?_)
      refine lv_aload_n hx hb dX0_part_40 rfl (lv_at hl 0 rfl) ?_
      refine wx_get (own := RX0) hx hb hts i_X0_part_0 hown hC.1 Z (o := o) (ci := 0) (wx_sbo ho 99) (rfl : vwCl[0]? = some (RX0, TX0, 13)) 5 (by decide) (hts _ k_X0_part_w2) (fun _ h9 => h9) (f := 0) rfl rfl dX0_part_41 ?_
      refine lv_iload_n hx hb dX0_part_44 rfl (lv_at hl 2 rfl) ?_
      refine lv_aload_n hx hb dX0_part_45 rfl (lv_at hl 0 rfl) ?_
      refine wx_get (own := RX0) hx hb hts i_X0_part_0 hown hC.1 Z (o := o) (ci := 0) (wx_sbo ho 99) (rfl : vwCl[0]? = some (RX0, TX0, 13)) 5 (by decide) (hts _ k_X0_part_w2) (fun _ h9 => h9) (f := 0) rfl rfl dX0_part_46 ?_
      refine lv_iload_n hx hb dX0_part_49 rfl (lv_at hl 2 rfl) ?_
      refine lv_iconst (v := 1) hx hb dX0_part_50 (by decide) ?_
      refine lv_iadd hx hb dX0_part_51 ?_
      obtain ⟨v52, ev52, iv52, h⟩ := wx_rI_ok h
      refine wx_iald hx hb hC.1 Z (o := o) (k := 5) (n := 3) (wx_sbo ho 5) rfl iv52 dX0_part_52 ev52 ?_
      obtain ⟨σ53, e53, i53, h⟩ := wx_w_ok h
      refine wx_iast hx hb hC.1 Z hS (o := o) (k := 5) (n := 3) (wx_sbo ho 5) rfl i53 dX0_part_53 e53 (fun H locs Z hS => ?_)
      refine lv_iinc (v := x2 + 1) (lv' := [(2, .int (x2 + 1)), (0, .ref (ad o 99)), (1, .int x1)]) hx hb dX0_part_54 hl (k := 2) rfl rfl (by decide) rfl (fun ls hl => ?_)
      refine lv_goto (tgt := 16) hx hb dX0_part_57 (by decide) ?_
      exact ih h Z hS (lv_sub hl [1, 2, 0] rfl)
set_option maxRecDepth 20000 in
set_option maxHeartbeats 4000000 in
theorem b_X0_part_0 (B : wx_B p s m args meth c cX0_part 3 (some .int) wsX0_part RX0 D ad ca A) {o : Nat}  (ho : o < 11) {r : Int32} {σ' : wx_St}  {x1 : Int32}  {σ : wx_St} (h : f_X0_part o x1 σ = some (r, σ')) {H : Heap} {locs : List Loc} (Z : wx_Z D ad rd ca A σ H) (hS : va_S A s.heap H locs) {ls : Array Slot} (hl : lv_has ls 3 [(0, .ref (ad o 99)), (1, .int x1)]) : W p l e ({ frames := 1, cells := 0, slots := 0, locals := 21 } : Room) s m args below meth c H locs 0 0 (MQ below (wx_Q D ad rd ca A (some (.int r)) σ') args s 0 0 A) (F0 m 0 ls []) := by
  obtain ⟨hx, hb, hml, hr, hts, hown, hlk, hC, hA⟩ := id B
  unfold f_X0_part at h
  refine lv_iload_n hx hb dX0_part_0 rfl (lv_at hl 1 rfl) ?_
  refine lv_if_lt (tgt := 12) hx hb dX0_part_1 (by decide) (fun c1 => ?_) (fun c1 => ?_)
  · replace h := wx_ift c1 h
    exact b_X0_part_12 B ho h Z hS (lv_sub hl [0, 1] rfl)
  · replace h := wx_iff c1 h
    refine lv_iload_n hx hb dX0_part_4 rfl (lv_at hl 1 rfl) ?_
    refine lv_aload_n hx hb dX0_part_5 rfl (lv_at hl 0 rfl) ?_
    refine wx_get (own := RX0) hx hb hts i_X0_part_0 hown hC.1 Z (o := o) (ci := 0) (wx_sbo ho 99) (rfl : vwCl[0]? = some (RX0, TX0, 13)) 3 (by decide) (hts _ k_X0_part_w0) (fun _ h9 => h9) (f := 1) rfl rfl dX0_part_6 ?_
    refine lv_icmp_lt (tgt := 14) hx hb dX0_part_9 (by decide) (fun c9 => ?_) (fun c9 => ?_)
    · replace h := wx_ift c9 h
      refine lv_iload_n hx hb dX0_part_14 rfl (lv_at hl 1 rfl) ?_
      refine lv_istore_n (lv' := [(2, .int x1), (0, .ref (ad o 99)), (1, .int x1)]) hx hb dX0_part_15 rfl hl (by decide) rfl (fun ls hl => ?_)
      exact b_X0_part_16 B ho h Z hS (lv_sub hl [1, 2, 0] rfl)
    · replace h := wx_iff c9 h
      exact b_X0_part_12 B ho h Z hS (lv_sub hl [0, 1] rfl)
set_option maxRecDepth 20000 in
theorem c_X0_part (l : Launch) {D : va_G} {ad : Nat → Nat → Nat} {rd : Nat → Nat} {ca : Nat → ClassId} {A : Nat → Prop} {σ : wx_St} {o : Nat}  (ho : o < 11) {x1 : Int32} {r : Int32} {σ' : wx_St} (h : f_X0_part o x1 σ = some (r, σ')) : wx_M l yX0_part wsX0_part 1 21 D ad rd ca A [.ref (ad o 99), .int x1] σ (some (.int r)) σ' := by
  refine Met.ofW (cc := cX0_part) (maxL := 3) (ret := (some .int)) (by decide) rfl ?_
  intro p e s m args below meth c s₁ B0 hml hv
  obtain ⟨rfl, hC, Z, hA⟩ := hv
  have hl := lv_entry ([.ref (ad o 99), .int x1]) (n := 3) (Nat.le_of_ble_eq_true rfl)
  rw [lg_entry_eq]
  generalize (lg_sl ([.ref (ad o 99), .int x1]) ++ List.replicate (3 - (lg_sl ([.ref (ad o 99), .int x1])).length) Slot.unset).toArray = ls at hl ⊢
  exact b_X0_part_0 ⟨B0.exec, B0.bytes, hml, B0.returns, atoms_spec (ws := wsX0_part) B0.pre, findClass_of_methodNamed B0.named, B0.notSynchronized, hC, hA⟩ ho h Z va_S.rf hl
theorem i_X0_turnPair_0 : ∀ w ∈ wsX00, w ∈ wsX0_turnPair := by decide +kernel
theorem k_X0_turnPair_w0 : Cond.initialized RX5 ∈ wsX0_turnPair := by decide +kernel
theorem k_X0_turnPair_w1 : Cond.static yX5_isNet ∈ wsX0_turnPair := by decide +kernel
theorem k_X0_turnPair_w2 : Cond.fieldLink RX0 18 "WarmProbes$Board" "fed" "[I" ∈ wsX0_turnPair := by decide +kernel
set_option maxRecDepth 20000 in
set_option maxHeartbeats 4000000 in
theorem b_X0_turnPair_14 (B : wx_B p s m args meth c cX0_turnPair 3 (some .int) wsX0_turnPair RX0 D ad ca A) {o : Nat}  (ho : o < 11) {r : Int32} {σ' : wx_St}  {x1 : Int32} {x2 : Int32}  {σ : wx_St} (h : f_X0_turnPair_14 o x1 x2 σ = some (r, σ')) {H : Heap} {locs : List Loc} (Z : wx_Z D ad rd ca A σ H) (hS : va_S A s.heap H locs) {ls : Array Slot} (hl : lv_has ls 3 [(0, .ref (ad o 99)), (1, .int x1), (2, .int x2)]) : W p l e ({ frames := 1, cells := 0, slots := 0, locals := 22 } : Room) s m args below meth c H locs 0 0 (MQ below (wx_Q D ad rd ca A (some (.int r)) σ') args s 0 0 A) (F0 m 14 ls []) := by
  obtain ⟨hx, hb, hml, hr, hts, hown, hlk, hC, hA⟩ := id B
  unfold f_X0_turnPair_14 at h
  refine lv_iconst (v := (-1)) hx hb dX0_turnPair_14 (by decide) ?_
  obtain ⟨rfl, rfl⟩ := wx_ret_ok h
  exact W.iret hx hb hr (fun t ht hW => ⟨rfl, by rw [ht]; exact Z, hS.F ht⟩) hS.2.2 dX0_turnPair_15
set_option maxRecDepth 20000 in
set_option maxHeartbeats 4000000 in
theorem b_X0_turnPair_74 (B : wx_B p s m args meth c cX0_turnPair 3 (some .int) wsX0_turnPair RX0 D ad ca A) {o : Nat}  (ho : o < 11) {r : Int32} {σ' : wx_St}  {x1 : Int32} {x2 : Int32} {y0 : Int32}  {σ : wx_St} (h : f_X0_turnPair_74 o x1 x2 y0 σ = some (r, σ')) {H : Heap} {locs : List Loc} (Z : wx_Z D ad rd ca A σ H) (hS : va_S A s.heap H locs) {ls : Array Slot} (hl : lv_has ls 3 [(0, .ref (ad o 99)), (1, .int x1), (2, .int x2)]) : W p l e ({ frames := 1, cells := 0, slots := 0, locals := 22 } : Room) s m args below meth c H locs 0 0 (MQ below (wx_Q D ad rd ca A (some (.int r)) σ') args s 0 0 A) (F0 m 74 ls [.int y0]) := by
  obtain ⟨hx, hb, hml, hr, hts, hown, hlk, hC, hA⟩ := id B
  unfold f_X0_turnPair_74 at h
  obtain ⟨rfl, rfl⟩ := wx_ret_ok h
  exact W.iret hx hb hr (fun t ht hW => ⟨rfl, by rw [ht]; exact Z, hS.F ht⟩) hS.2.2 dX0_turnPair_74
set_option maxRecDepth 20000 in
set_option maxHeartbeats 4000000 in
theorem b_X0_turnPair_0 (B : wx_B p s m args meth c cX0_turnPair 3 (some .int) wsX0_turnPair RX0 D ad ca A) {o : Nat}  (ho : o < 11) {r : Int32} {σ' : wx_St}  {x1 : Int32} {x2 : Int32}  {σ : wx_St} (h : f_X0_turnPair o x1 x2 σ = some (r, σ')) {H : Heap} {locs : List Loc} (Z : wx_Z D ad rd ca A σ H) (hS : va_S A s.heap H locs) {ls : Array Slot} (hl : lv_has ls 3 [(0, .ref (ad o 99)), (1, .int x1), (2, .int x2)]) : W p l e ({ frames := 1, cells := 0, slots := 0, locals := 22 } : Room) s m args below meth c H locs 0 0 (MQ below (wx_Q D ad rd ca A (some (.int r)) σ') args s 0 0 A) (F0 m 0 ls []) := by
  obtain ⟨hx, hb, hml, hr, hts, hown, hlk, hC, hA⟩ := id B
  unfold f_X0_turnPair at h
  refine lv_iload_n hx hb dX0_turnPair_0 rfl (lv_at hl 1 rfl) ?_
  obtain ⟨v1, hc1, h⟩ := wx_o_ok h
  refine wx_call (va_runSN (As := [.int x1]) (rest := []) ⟨hx, hb, hml, hown, hts⟩ (c_X5_isNet l (D := D) (ad := ad) (rd := rd) (ca := ca) (A := A) (σ := σ) hc1) ⟨va_cnB 1 hts gX0_turnPair_X5_isNet_n75 rfl rfl rfl (hC.1.2 _ (List.mem_of_getElem? (i := 35) rfl)) (hts _ k_X0_turnPair_w0) (by decide +kernel) ⟨Nat.le_of_ble_eq_true rfl, Nat.le_of_ble_eq_true rfl⟩, hts _ k_X0_turnPair_w1, trivial⟩ (wx_preS hC Z hS hA) rfl rfl hl.1 rfl (lv_room (Nat.le_of_ble_eq_true rfl)) dX0_turnPair_1 ⟨Nat.zero_le _, Nat.zero_le _⟩) hS (fun H locs Z hS => ?_)
  refine lv_if_eq (tgt := 14) hx hb dX0_turnPair_4 (by decide) (fun c4 => ?_) (fun c4 => ?_)
  · replace h := wx_ift c4 h
    exact b_X0_turnPair_14 B ho h Z hS (lv_sub hl [0, 1, 2] rfl)
  · replace h := wx_iff c4 h
    refine lv_iload_n hx hb dX0_turnPair_7 rfl (lv_at hl 2 rfl) ?_
    obtain ⟨v8, hc8, h⟩ := wx_o_ok h
    refine wx_call (va_runSN (As := [.int x2]) (rest := []) ⟨hx, hb, hml, hown, hts⟩ (c_X5_isNet l (D := D) (ad := ad) (rd := rd) (ca := ca) (A := A) (σ := σ) hc8) ⟨va_cnB 1 hts gX0_turnPair_X5_isNet_n75 rfl rfl rfl (hC.1.2 _ (List.mem_of_getElem? (i := 35) rfl)) (hts _ k_X0_turnPair_w0) (by decide +kernel) ⟨Nat.le_of_ble_eq_true rfl, Nat.le_of_ble_eq_true rfl⟩, hts _ k_X0_turnPair_w1, trivial⟩ (wx_preS hC Z hS hA) rfl rfl hl.1 rfl (lv_room (Nat.le_of_ble_eq_true rfl)) dX0_turnPair_8 ⟨Nat.zero_le _, Nat.zero_le _⟩) hS (fun H locs Z hS => ?_)
    refine lv_if_ne (tgt := 16) hx hb dX0_turnPair_11 (by decide) (fun c11 => ?_) (fun c11 => ?_)
    · replace h := wx_iff c11 h
      refine lv_iload_n hx hb dX0_turnPair_16 rfl (lv_at hl 1 rfl) ?_
      refine lv_iload_n hx hb dX0_turnPair_17 rfl (lv_at hl 2 rfl) ?_
      refine lv_icmp_ne (tgt := 24) hx hb dX0_turnPair_18 (by decide) (fun c18 => ?_) (fun c18 => ?_)
      · replace h := wx_iff c18 h
        refine lv_aload_n hx hb dX0_turnPair_24 rfl (lv_at hl 0 rfl) ?_
        refine wx_get (own := RX0) hx hb hts i_X0_turnPair_0 hown hC.1 Z (o := o) (ci := 0) (wx_sbo ho 99) (rfl : vwCl[0]? = some (RX0, TX0, 13)) 2 (by decide) (hts _ k_X0_turnPair_w2) (fun _ h9 => h9) (f := 0) rfl rfl dX0_turnPair_25 ?_
        refine lv_iload_n hx hb dX0_turnPair_28 rfl (lv_at hl 1 rfl) ?_
        refine lv_aload_n hx hb dX0_turnPair_29 rfl (lv_at hl 0 rfl) ?_
        refine wx_get (own := RX0) hx hb hts i_X0_turnPair_0 hown hC.1 Z (o := o) (ci := 0) (wx_sbo ho 99) (rfl : vwCl[0]? = some (RX0, TX0, 13)) 2 (by decide) (hts _ k_X0_turnPair_w2) (fun _ h9 => h9) (f := 0) rfl rfl dX0_turnPair_30 ?_
        refine lv_iload_n hx hb dX0_turnPair_33 rfl (lv_at hl 1 rfl) ?_
        obtain ⟨v34, ev34, iv34, h⟩ := wx_rI_ok h
        refine wx_iald hx hb hC.1 Z (o := o) (k := 2) (n := 8) (wx_sbo ho 2) rfl iv34 dX0_turnPair_34 ev34 ?_
        refine lv_iconst (v := 1) hx hb dX0_turnPair_35 (by decide) ?_
        refine lv_iload_n hx hb dX0_turnPair_36 rfl (lv_at hl 2 rfl) ?_
        refine lv_ishl hx hb dX0_turnPair_37 ?_
        refine lv_ixor hx hb dX0_turnPair_38 ?_
        obtain ⟨σ39, e39, i39, h⟩ := wx_w_ok h
        refine wx_iast hx hb hC.1 Z hS (o := o) (k := 2) (n := 8) (wx_sbo ho 2) rfl i39 dX0_turnPair_39 e39 (fun H locs Z hS => ?_)
        refine lv_aload_n hx hb dX0_turnPair_40 rfl (lv_at hl 0 rfl) ?_
        refine wx_get (own := RX0) hx hb hts i_X0_turnPair_0 hown hC.1 Z (o := o) (ci := 0) (wx_sbo ho 99) (rfl : vwCl[0]? = some (RX0, TX0, 13)) 2 (by decide) (hts _ k_X0_turnPair_w2) (fun _ h9 => h9) (f := 0) rfl rfl dX0_turnPair_41 ?_
        refine lv_iload_n hx hb dX0_turnPair_44 rfl (lv_at hl 2 rfl) ?_
        refine lv_aload_n hx hb dX0_turnPair_45 rfl (lv_at hl 0 rfl) ?_
        refine wx_get (own := RX0) hx hb hts i_X0_turnPair_0 hown hC.1 Z (o := o) (ci := 0) (wx_sbo ho 99) (rfl : vwCl[0]? = some (RX0, TX0, 13)) 2 (by decide) (hts _ k_X0_turnPair_w2) (fun _ h9 => h9) (f := 0) rfl rfl dX0_turnPair_46 ?_
        refine lv_iload_n hx hb dX0_turnPair_49 rfl (lv_at hl 2 rfl) ?_
        obtain ⟨v50, ev50, iv50, h⟩ := wx_rI_ok h
        refine wx_iald hx hb hC.1 Z (o := o) (k := 2) (n := 8) (wx_sbo ho 2) rfl iv50 dX0_turnPair_50 ev50 ?_
        refine lv_iconst (v := 1) hx hb dX0_turnPair_51 (by decide) ?_
        refine lv_iload_n hx hb dX0_turnPair_52 rfl (lv_at hl 1 rfl) ?_
        refine lv_ishl hx hb dX0_turnPair_53 ?_
        refine lv_ixor hx hb dX0_turnPair_54 ?_
        obtain ⟨σ55, e55, i55, h⟩ := wx_w_ok h
        refine wx_iast hx hb hC.1 Z hS (o := o) (k := 2) (n := 8) (wx_sbo ho 2) rfl i55 dX0_turnPair_55 e55 (fun H locs Z hS => ?_)
        refine lv_aload_n hx hb dX0_turnPair_56 rfl (lv_at hl 0 rfl) ?_
        obtain ⟨v57, σ57, hc57, h⟩ := wx_b_ok h
        refine wx_call (va_runV (As := []) (rest := []) ⟨hx, hb, hml, hown, hts⟩ (c_X0_beginRun l (D := D) (ad := ad) (rd := rd) (ca := ca) (A := A) (σ := σ55) (o := o) ho hc57) (cwV 0 hts gX0_turnPair_X0_beginRun rfl rfl rfl (by decide +kernel) ⟨Nat.le_of_ble_eq_true rfl, Nat.le_of_ble_eq_true rfl⟩) (wx_preV hC Z hS hA (wx_sbo ho 99) (rfl : vwCl[0]? = some (RX0, TX0, 13))) rfl rfl hl.1 rfl (lv_room (Nat.le_of_ble_eq_true rfl)) dX0_turnPair_57 ⟨Nat.zero_le _, Nat.zero_le _⟩) hS (fun H locs Z hS => ?_)
        refine lv_aload_n hx hb dX0_turnPair_60 rfl (lv_at hl 0 rfl) ?_
        refine lv_iload_n hx hb dX0_turnPair_61 rfl (lv_at hl 1 rfl) ?_
        refine lv_iload_n hx hb dX0_turnPair_62 rfl (lv_at hl 2 rfl) ?_
        obtain ⟨v63, hc63, h⟩ := wx_o_ok h
        refine wx_call (va_runV (As := [.int x1, .int x2]) (rest := []) ⟨hx, hb, hml, hown, hts⟩ (c_X0_isFed l (D := D) (ad := ad) (rd := rd) (ca := ca) (A := A) (σ := σ57) (o := o) ho hc63) (cwV 2 hts gX0_turnPair_X0_isFed rfl rfl rfl (by decide +kernel) ⟨Nat.le_of_ble_eq_true rfl, Nat.le_of_ble_eq_true rfl⟩) (wx_preV hC Z hS hA (wx_sbo ho 99) (rfl : vwCl[0]? = some (RX0, TX0, 13))) rfl rfl hl.1 rfl (lv_room (Nat.le_of_ble_eq_true rfl)) dX0_turnPair_63 ⟨Nat.zero_le _, Nat.zero_le _⟩) hS (fun H locs Z hS => ?_)
        refine lv_if_eq (tgt := 73) hx hb dX0_turnPair_66 (by decide) (fun c66 => ?_) (fun c66 => ?_)
        · replace h := wx_ift c66 h
          refine lv_iconst (v := 0) hx hb dX0_turnPair_73 (by decide) ?_
          exact b_X0_turnPair_74 B ho h Z hS (lv_sub hl [0, 1, 2] rfl)
        · replace h := wx_iff c66 h
          refine lv_iconst (v := 1) hx hb dX0_turnPair_69 (by decide) ?_
          refine lv_goto (tgt := 74) hx hb dX0_turnPair_70 (by decide) ?_
          exact b_X0_turnPair_74 B ho h Z hS (lv_sub hl [0, 1, 2] rfl)
      · replace h := wx_ift c18 h
        refine lv_bipush (v := (-2)) hx hb dX0_turnPair_21 (by decide) ?_
        obtain ⟨rfl, rfl⟩ := wx_ret_ok h
        exact W.iret hx hb hr (fun t ht hW => ⟨rfl, by rw [ht]; exact Z, hS.F ht⟩) hS.2.2 dX0_turnPair_23
    · replace h := wx_ift c11 h
      exact b_X0_turnPair_14 B ho h Z hS (lv_sub hl [0, 1, 2] rfl)
set_option maxRecDepth 20000 in
theorem c_X0_turnPair (l : Launch) {D : va_G} {ad : Nat → Nat → Nat} {rd : Nat → Nat} {ca : Nat → ClassId} {A : Nat → Prop} {σ : wx_St} {o : Nat}  (ho : o < 11) {x1 : Int32} {x2 : Int32} {r : Int32} {σ' : wx_St} (h : f_X0_turnPair o x1 x2 σ = some (r, σ')) : wx_M l yX0_turnPair wsX0_turnPair 1 22 D ad rd ca A [.ref (ad o 99), .int x1, .int x2] σ (some (.int r)) σ' := by
  refine Met.ofW (cc := cX0_turnPair) (maxL := 3) (ret := (some .int)) (by decide) rfl ?_
  intro p e s m args below meth c s₁ B0 hml hv
  obtain ⟨rfl, hC, Z, hA⟩ := hv
  have hl := lv_entry ([.ref (ad o 99), .int x1, .int x2]) (n := 3) (Nat.le_of_ble_eq_true rfl)
  rw [lg_entry_eq]
  generalize (lg_sl ([.ref (ad o 99), .int x1, .int x2]) ++ List.replicate (3 - (lg_sl ([.ref (ad o 99), .int x1, .int x2])).length) Slot.unset).toArray = ls at hl ⊢
  exact b_X0_turnPair_0 ⟨B0.exec, B0.bytes, hml, B0.returns, atoms_spec (ws := wsX0_turnPair) B0.pre, findClass_of_methodNamed B0.named, B0.notSynchronized, hC, hA⟩ ho h Z va_S.rf hl
set_option maxRecDepth 20000 in
set_option maxHeartbeats 4000000 in
theorem b_X2_columnAt_0 (B : wx_B p s m args meth c cX2_columnAt 2 (some .int) wsX2_columnAt RX2 D ad ca A)    {r : Int32} {σ : wx_St}  {x1 : Int32}   (h : f_X2_columnAt x1 σ = some r) {H : Heap} {locs : List Loc} (Z : wx_Z D ad rd ca A σ H) (hS : va_S A s.heap H locs) {ls : Array Slot} (hl : lv_has ls 2 [(0, .ref (ad 15 99)), (1, .int x1)]) : W p l e ({ frames := 1, cells := 0, slots := 0, locals := 21 } : Room) s m args below meth c H locs 0 0 (MQ below (wx_Q D ad rd ca A (some (.int r)) σ) args s 0 0 A) (F0 m 0 ls []) := by
  obtain ⟨hx, hb, hml, hr, hts, hown, hlk, hC, hA⟩ := id B
  unfold f_X2_columnAt at h
  refine lv_aload_n hx hb dX2_columnAt_0 rfl (lv_at hl 0 rfl) ?_
  refine lv_iload_n hx hb dX2_columnAt_1 rfl (lv_at hl 1 rfl) ?_
  obtain ⟨v2, hc2, h⟩ := wx_o_ok h
  refine wx_call (va_runV (As := [.int x1]) (rest := []) ⟨hx, hb, hml, hown, hts⟩ (c_X2_codeAt l (D := D) (ad := ad) (rd := rd) (ca := ca) (A := A) (σ := σ) hc2) (cwV 1 hts gX2_columnAt_X2_codeAt rfl rfl rfl (by decide +kernel) ⟨Nat.le_of_ble_eq_true rfl, Nat.le_of_ble_eq_true rfl⟩) (wx_preV hC Z hS hA rfl (rfl : vwCl[2]? = some (RX2, TX2, 2))) rfl rfl hl.1 rfl (lv_room (Nat.le_of_ble_eq_true rfl)) dX2_columnAt_2 ⟨Nat.zero_le _, Nat.zero_le _⟩) hS (fun H locs Z hS => ?_)
  refine lv_bipush (v := 97) hx hb dX2_columnAt_5 (by decide) ?_
  refine lv_isub hx hb dX2_columnAt_7 ?_
  obtain rfl := Option.some.inj h
  exact W.iret hx hb hr (fun t ht hW => ⟨rfl, by rw [ht]; exact Z, hS.F ht⟩) hS.2.2 dX2_columnAt_8
set_option maxRecDepth 20000 in
theorem c_X2_columnAt (l : Launch) {D : va_G} {ad : Nat → Nat → Nat} {rd : Nat → Nat} {ca : Nat → ClassId} {A : Nat → Prop} {σ : wx_St}    {x1 : Int32} {r : Int32} (h : f_X2_columnAt x1 σ = some r) : wx_M l yX2_columnAt wsX2_columnAt 1 21 D ad rd ca A [.ref (ad 15 99), .int x1] σ (some (.int r)) σ := by
  refine Met.ofW (cc := cX2_columnAt) (maxL := 2) (ret := (some .int)) (by decide) rfl ?_
  intro p e s m args below meth c s₁ B0 hml hv
  obtain ⟨rfl, hC, Z, hA⟩ := hv
  have hl := lv_entry ([.ref (ad 15 99), .int x1]) (n := 2) (Nat.le_of_ble_eq_true rfl)
  rw [lg_entry_eq]
  generalize (lg_sl ([.ref (ad 15 99), .int x1]) ++ List.replicate (2 - (lg_sl ([.ref (ad 15 99), .int x1])).length) Slot.unset).toArray = ls at hl ⊢
  exact b_X2_columnAt_0 ⟨B0.exec, B0.bytes, hml, B0.returns, atoms_spec (ws := wsX2_columnAt) B0.pre, findClass_of_methodNamed B0.named, B0.notSynchronized, hC, hA⟩  h Z va_S.rf hl
set_option maxRecDepth 20000 in
set_option maxHeartbeats 4000000 in
theorem b_X2_digitAt_0 (B : wx_B p s m args meth c cX2_digitAt 2 (some .int) wsX2_digitAt RX2 D ad ca A)    {r : Int32} {σ : wx_St}  {x1 : Int32}   (h : f_X2_digitAt x1 σ = some r) {H : Heap} {locs : List Loc} (Z : wx_Z D ad rd ca A σ H) (hS : va_S A s.heap H locs) {ls : Array Slot} (hl : lv_has ls 2 [(0, .ref (ad 15 99)), (1, .int x1)]) : W p l e ({ frames := 1, cells := 0, slots := 0, locals := 21 } : Room) s m args below meth c H locs 0 0 (MQ below (wx_Q D ad rd ca A (some (.int r)) σ) args s 0 0 A) (F0 m 0 ls []) := by
  obtain ⟨hx, hb, hml, hr, hts, hown, hlk, hC, hA⟩ := id B
  unfold f_X2_digitAt at h
  refine lv_aload_n hx hb dX2_digitAt_0 rfl (lv_at hl 0 rfl) ?_
  refine lv_iload_n hx hb dX2_digitAt_1 rfl (lv_at hl 1 rfl) ?_
  obtain ⟨v2, hc2, h⟩ := wx_o_ok h
  refine wx_call (va_runV (As := [.int x1]) (rest := []) ⟨hx, hb, hml, hown, hts⟩ (c_X2_codeAt l (D := D) (ad := ad) (rd := rd) (ca := ca) (A := A) (σ := σ) hc2) (cwV 1 hts gX2_digitAt_X2_codeAt rfl rfl rfl (by decide +kernel) ⟨Nat.le_of_ble_eq_true rfl, Nat.le_of_ble_eq_true rfl⟩) (wx_preV hC Z hS hA rfl (rfl : vwCl[2]? = some (RX2, TX2, 2))) rfl rfl hl.1 rfl (lv_room (Nat.le_of_ble_eq_true rfl)) dX2_digitAt_2 ⟨Nat.zero_le _, Nat.zero_le _⟩) hS (fun H locs Z hS => ?_)
  refine lv_bipush (v := 48) hx hb dX2_digitAt_5 (by decide) ?_
  refine lv_isub hx hb dX2_digitAt_7 ?_
  obtain rfl := Option.some.inj h
  exact W.iret hx hb hr (fun t ht hW => ⟨rfl, by rw [ht]; exact Z, hS.F ht⟩) hS.2.2 dX2_digitAt_8
set_option maxRecDepth 20000 in
theorem c_X2_digitAt (l : Launch) {D : va_G} {ad : Nat → Nat → Nat} {rd : Nat → Nat} {ca : Nat → ClassId} {A : Nat → Prop} {σ : wx_St}    {x1 : Int32} {r : Int32} (h : f_X2_digitAt x1 σ = some r) : wx_M l yX2_digitAt wsX2_digitAt 1 21 D ad rd ca A [.ref (ad 15 99), .int x1] σ (some (.int r)) σ := by
  refine Met.ofW (cc := cX2_digitAt) (maxL := 2) (ret := (some .int)) (by decide) rfl ?_
  intro p e s m args below meth c s₁ B0 hml hv
  obtain ⟨rfl, hC, Z, hA⟩ := hv
  have hl := lv_entry ([.ref (ad 15 99), .int x1]) (n := 2) (Nat.le_of_ble_eq_true rfl)
  rw [lg_entry_eq]
  generalize (lg_sl ([.ref (ad 15 99), .int x1]) ++ List.replicate (2 - (lg_sl ([.ref (ad 15 99), .int x1])).length) Slot.unset).toArray = ls at hl ⊢
  exact b_X2_digitAt_0 ⟨B0.exec, B0.bytes, hml, B0.returns, atoms_spec (ws := wsX2_digitAt) B0.pre, findClass_of_methodNamed B0.named, B0.notSynchronized, hC, hA⟩  h Z va_S.rf hl
set_option maxRecDepth 20000 in
set_option maxHeartbeats 4000000 in
theorem b_X2_numberIn_5 (B : wx_B p s m args meth c cX2_numberIn 5 (some .int) wsX2_numberIn RX2 D ad ca A)    {r : Int32} {σ : wx_St}   :
    ∀ {n : Nat} {x1 : Int32} {x2 : Int32} {x3 : Int32} {x4 : Int32}   (h : f_X2_numberIn_5 n x1 x2 x3 x4 σ = some r) {H : Heap} {locs : List Loc} (Z : wx_Z D ad rd ca A σ H) (hS : va_S A s.heap H locs) {ls : Array Slot} (hl : lv_has ls 5 [(0, .ref (ad 15 99)), (1, .int x1), (2, .int x2), (3, .int x3), (4, .int x4)]), W p l e ({ frames := 2, cells := 0, slots := 0, locals := 42 } : Room) s m args below meth c H locs 0 0 (MQ below (wx_Q D ad rd ca A (some (.int r)) σ) args s 0 0 A) (F0 m 5 ls []) := by
  obtain ⟨hx, hb, hml, hr, hts, hown, hlk, hC, hA⟩ := id B
  intro n
  induction n with
  | zero => intro x1 x2 x3 x4   h H locs Z hS ls hl; exact wx_no h
  | succ n ih =>
    intro x1 x2 x3 x4   h H locs Z hS ls hl
    rw [f_X2_numberIn_5] at h
    refine lv_iload hx hb dX2_numberIn_5 (lv_at hl 4 rfl) ?_
    refine lv_iload_n hx hb dX2_numberIn_7 rfl (lv_at hl 2 rfl) ?_
    refine lv_icmp_ge (tgt := 29) hx hb dX2_numberIn_8 (by decide) (fun c8 => ?_) (fun c8 => ?_)
    · replace h := wx_ift c8 h
      refine lv_iload_n hx hb dX2_numberIn_29 rfl (lv_at hl 3 rfl) ?_
      obtain rfl := Option.some.inj h
      exact W.iret hx hb hr (fun t ht hW => ⟨rfl, by rw [ht]; exact Z, hS.F ht⟩) hS.2.2 dX2_numberIn_30
    · replace h := wx_iff c8 h
      refine lv_bipush (v := 10) hx hb dX2_numberIn_11 (by decide) ?_
      refine lv_iload_n hx hb dX2_numberIn_13 rfl (lv_at hl 3 rfl) ?_
      refine lv_imul hx hb dX2_numberIn_14 ?_
      refine lv_aload_n hx hb dX2_numberIn_15 rfl (lv_at hl 0 rfl) ?_
      refine lv_iload hx hb dX2_numberIn_16 (lv_at hl 4 rfl) ?_
      obtain ⟨v18, hc18, h⟩ := wx_o_ok h
      refine wx_call (va_runV (As := [.int x4]) (rest := [.int (10 * x3)]) ⟨hx, hb, hml, hown, hts⟩ (c_X2_digitAt l (D := D) (ad := ad) (rd := rd) (ca := ca) (A := A) (σ := σ) hc18) (cwV 1 hts gX2_numberIn_X2_digitAt rfl rfl rfl (by decide +kernel) ⟨Nat.le_of_ble_eq_true rfl, Nat.le_of_ble_eq_true rfl⟩) (wx_preV hC Z hS hA rfl (rfl : vwCl[2]? = some (RX2, TX2, 2))) rfl rfl hl.1 rfl (lv_room (Nat.le_of_ble_eq_true rfl)) dX2_numberIn_18 ⟨Nat.zero_le _, Nat.zero_le _⟩) hS (fun H locs Z hS => ?_)
      refine lv_iadd hx hb dX2_numberIn_21 ?_
      refine lv_istore_n (lv' := [(3, .int ((10 * x3) + v18)), (0, .ref (ad 15 99)), (1, .int x1), (2, .int x2), (4, .int x4)]) hx hb dX2_numberIn_22 rfl hl (by decide) rfl (fun ls hl => ?_)
      refine lv_iinc (v := x4 + 1) (lv' := [(4, .int (x4 + 1)), (3, .int ((10 * x3) + v18)), (0, .ref (ad 15 99)), (1, .int x1), (2, .int x2)]) hx hb dX2_numberIn_23 hl (k := 4) rfl rfl (by decide) rfl (fun ls hl => ?_)
      refine lv_goto (tgt := 5) hx hb dX2_numberIn_26 (by decide) ?_
      exact ih h Z hS (lv_sub hl [2, 3, 4, 1, 0] rfl)
set_option maxRecDepth 20000 in
set_option maxHeartbeats 4000000 in
theorem b_X2_numberIn_0 (B : wx_B p s m args meth c cX2_numberIn 5 (some .int) wsX2_numberIn RX2 D ad ca A)    {r : Int32} {σ : wx_St}  {x1 : Int32} {x2 : Int32}   (h : f_X2_numberIn x1 x2 σ = some r) {H : Heap} {locs : List Loc} (Z : wx_Z D ad rd ca A σ H) (hS : va_S A s.heap H locs) {ls : Array Slot} (hl : lv_has ls 5 [(0, .ref (ad 15 99)), (1, .int x1), (2, .int x2)]) : W p l e ({ frames := 2, cells := 0, slots := 0, locals := 42 } : Room) s m args below meth c H locs 0 0 (MQ below (wx_Q D ad rd ca A (some (.int r)) σ) args s 0 0 A) (F0 m 0 ls []) := by
  obtain ⟨hx, hb, hml, hr, hts, hown, hlk, hC, hA⟩ := id B
  unfold f_X2_numberIn at h
  refine lv_iconst (v := 0) hx hb dX2_numberIn_0 (by decide) ?_
  refine lv_istore_n (lv' := [(3, .int 0), (0, .ref (ad 15 99)), (1, .int x1), (2, .int x2)]) hx hb dX2_numberIn_1 rfl hl (by decide) rfl (fun ls hl => ?_)
  refine lv_iload_n hx hb dX2_numberIn_2 rfl (lv_at hl 2 rfl) ?_
  refine lv_istore (lv' := [(4, .int x1), (3, .int 0), (0, .ref (ad 15 99)), (1, .int x1), (2, .int x2)]) hx hb dX2_numberIn_3 hl (by decide) rfl (fun ls hl => ?_)
  exact b_X2_numberIn_5 B h Z hS (lv_sub hl [2, 3, 4, 1, 0] rfl)
set_option maxRecDepth 20000 in
theorem c_X2_numberIn (l : Launch) {D : va_G} {ad : Nat → Nat → Nat} {rd : Nat → Nat} {ca : Nat → ClassId} {A : Nat → Prop} {σ : wx_St}    {x1 : Int32} {x2 : Int32} {r : Int32} (h : f_X2_numberIn x1 x2 σ = some r) : wx_M l yX2_numberIn wsX2_numberIn 2 42 D ad rd ca A [.ref (ad 15 99), .int x1, .int x2] σ (some (.int r)) σ := by
  refine Met.ofW (cc := cX2_numberIn) (maxL := 5) (ret := (some .int)) (by decide) rfl ?_
  intro p e s m args below meth c s₁ B0 hml hv
  obtain ⟨rfl, hC, Z, hA⟩ := hv
  have hl := lv_entry ([.ref (ad 15 99), .int x1, .int x2]) (n := 5) (Nat.le_of_ble_eq_true rfl)
  rw [lg_entry_eq]
  generalize (lg_sl ([.ref (ad 15 99), .int x1, .int x2]) ++ List.replicate (5 - (lg_sl ([.ref (ad 15 99), .int x1, .int x2])).length) Slot.unset).toArray = ls at hl ⊢
  exact b_X2_numberIn_0 ⟨B0.exec, B0.bytes, hml, B0.returns, atoms_spec (ws := wsX2_numberIn) B0.pre, findClass_of_methodNamed B0.named, B0.notSynchronized, hC, hA⟩  h Z va_S.rf hl
theorem i_X5_answerOf_5 : ∀ w ∈ wsX50, w ∈ wsX5_answerOf := by decide +kernel
theorem k_X5_answerOf_w0 : Cond.fieldLink RX5 36 "WarmProbes" "pad" "LWarmProbes$Pad;" ∈ wsX5_answerOf := by decide +kernel
theorem k_X5_answerOf_w1 : Cond.initialized RX2 ∈ wsX5_answerOf := by decide +kernel
theorem k_X5_answerOf_w2 : Cond.instanceMethod yX2_codeAt ∈ wsX5_answerOf := by decide +kernel
theorem k_X5_answerOf_w3 : Cond.selects RX2 yX2_codeAt yX2_codeAt ∈ wsX5_answerOf := by decide +kernel
theorem k_X5_answerOf_w4 : Cond.fieldLink RX5 10 "WarmProbes" "board" "LWarmProbes$Board;" ∈ wsX5_answerOf := by decide +kernel
theorem k_X5_answerOf_w5 : Cond.instanceMethod yX2_digitAt ∈ wsX5_answerOf := by decide +kernel
theorem k_X5_answerOf_w6 : Cond.selects RX2 yX2_digitAt yX2_digitAt ∈ wsX5_answerOf := by decide +kernel
theorem k_X5_answerOf_w7 : Cond.initialized RX0 ∈ wsX5_answerOf := by decide +kernel
theorem k_X5_answerOf_w8 : Cond.instanceMethod yX0_turnPair ∈ wsX5_answerOf := by decide +kernel
theorem k_X5_answerOf_w9 : Cond.selects RX0 yX0_turnPair yX0_turnPair ∈ wsX5_answerOf := by decide +kernel
theorem k_X5_answerOf_w10 : Cond.instanceMethod yX0_part ∈ wsX5_answerOf := by decide +kernel
theorem k_X5_answerOf_w11 : Cond.selects RX0 yX0_part yX0_part ∈ wsX5_answerOf := by decide +kernel
theorem k_X5_answerOf_w12 : Cond.instanceMethod yX2_columnAt ∈ wsX5_answerOf := by decide +kernel
theorem k_X5_answerOf_w13 : Cond.selects RX2 yX2_columnAt yX2_columnAt ∈ wsX5_answerOf := by decide +kernel
theorem k_X5_answerOf_w14 : Cond.instanceMethod yX0_join ∈ wsX5_answerOf := by decide +kernel
theorem k_X5_answerOf_w15 : Cond.selects RX0 yX0_join yX0_join ∈ wsX5_answerOf := by decide +kernel
theorem k_X5_answerOf_w16 : Cond.instanceMethod yX0_lay ∈ wsX5_answerOf := by decide +kernel
theorem k_X5_answerOf_w17 : Cond.selects RX0 yX0_lay yX0_lay ∈ wsX5_answerOf := by decide +kernel
theorem k_X5_answerOf_w18 : Cond.instanceMethod yX2_numberIn ∈ wsX5_answerOf := by decide +kernel
theorem k_X5_answerOf_w19 : Cond.selects RX2 yX2_numberIn yX2_numberIn ∈ wsX5_answerOf := by decide +kernel
theorem k_X5_answerOf_w20 : Cond.instanceMethod yX0_letPass ∈ wsX5_answerOf := by decide +kernel
theorem k_X5_answerOf_w21 : Cond.selects RX0 yX0_letPass yX0_letPass ∈ wsX5_answerOf := by decide +kernel
theorem k_X5_answerOf_w22 : Cond.instanceMethod yX0_measure ∈ wsX5_answerOf := by decide +kernel
theorem k_X5_answerOf_w23 : Cond.selects RX0 yX0_measure yX0_measure ∈ wsX5_answerOf := by decide +kernel
set_option maxRecDepth 20000 in
set_option maxHeartbeats 4000000 in
theorem b_X5_answerOf_0 (B : wx_B p s m args meth c cX5_answerOf 5 (some .int) wsX5_answerOf RX5 D ad ca A)    {r : Int32} {σ' : wx_St}  {x1 : Int32} {x2 : Int32} {x3 : Int32}  {σ : wx_St} (h : f_X5_answerOf x1 x2 x3 σ = some (r, σ')) {H : Heap} {locs : List Loc} (Z : wx_Z D ad rd ca A σ H) (hS : va_S A s.heap H locs) {ls : Array Slot} (hl : lv_has ls 5 [(0, .ref (ad 11 99)), (1, .int x1), (2, .int x2), (3, .int x3)]) : W p l e ({ frames := 4, cells := 0, slots := 0, locals := 102 } : Room) s m args below meth c H locs 0 0 (MQ below (wx_Q D ad rd ca A (some (.int r)) σ') args s 0 0 A) (F0 m 0 ls []) := by
  obtain ⟨hx, hb, hml, hr, hts, hown, hlk, hC, hA⟩ := id B
  unfold f_X5_answerOf at h
  refine lv_aload_n hx hb dX5_answerOf_0 rfl (lv_at hl 0 rfl) ?_
  refine wx_get (own := RX5) hx hb hts i_X5_answerOf_5 hown hC.1 Z (o := 11) (ci := 5) rfl (rfl : vwCl[5]? = some (RX5, TX5, 7)) 4 (by decide) (hts _ k_X5_answerOf_w0) (fun _ h9 => h9) (f := 115) rfl rfl dX5_answerOf_1 ?_
  refine lv_iload_n hx hb dX5_answerOf_4 rfl (lv_at hl 1 rfl) ?_
  obtain ⟨v5, hc5, h⟩ := wx_o_ok h
  refine wx_call (va_runVN (As := [.int x1]) (rest := []) ⟨hx, hb, hml, hown, hts⟩ (c_X2_codeAt l (D := D) (ad := ad) (rd := rd) (ca := ca) (A := A) (σ := σ) hc5) ⟨va_cnB 1 hts gX5_answerOf_X2_codeAt_n241 rfl rfl rfl (hC.1.2 _ (List.mem_of_getElem? (i := 75) rfl)) (hts _ k_X5_answerOf_w1) (by decide +kernel) ⟨Nat.le_of_ble_eq_true rfl, Nat.le_of_ble_eq_true rfl⟩, hts _ k_X5_answerOf_w2, hts _ k_X5_answerOf_w3⟩ (wx_preV hC Z hS hA rfl (rfl : vwCl[2]? = some (RX2, TX2, 2))) rfl rfl hl.1 rfl (lv_room (Nat.le_of_ble_eq_true rfl)) dX5_answerOf_5 ⟨Nat.zero_le _, Nat.zero_le _⟩) hS (fun H locs Z hS => ?_)
  by_cases c8_0 : v5 = 102
  · replace h := wx_ift c8_0 h
    refine lv_lookup (off := 99) (tgt := 107) hx hb dX5_answerOf_8 (by decide) (by rw [c8_0]; decide) (by decide) ?_
    refine lv_aload_n hx hb dX5_answerOf_107 rfl (lv_at hl 0 rfl) ?_
    refine wx_get (own := RX5) hx hb hts i_X5_answerOf_5 hown hC.1 Z (o := 11) (ci := 5) rfl (rfl : vwCl[5]? = some (RX5, TX5, 7)) 0 (by decide) (hts _ k_X5_answerOf_w4) (fun _ h9 => h9) (f := 107) rfl rfl dX5_answerOf_108 ?_
    refine lv_aload_n hx hb dX5_answerOf_111 rfl (lv_at hl 0 rfl) ?_
    refine wx_get (own := RX5) hx hb hts i_X5_answerOf_5 hown hC.1 Z (o := 11) (ci := 5) rfl (rfl : vwCl[5]? = some (RX5, TX5, 7)) 4 (by decide) (hts _ k_X5_answerOf_w0) (fun _ h9 => h9) (f := 115) rfl rfl dX5_answerOf_112 ?_
    refine lv_iload_n hx hb dX5_answerOf_115 rfl (lv_at hl 1 rfl) ?_
    refine lv_iconst (v := 1) hx hb dX5_answerOf_116 (by decide) ?_
    refine lv_iadd hx hb dX5_answerOf_117 ?_
    obtain ⟨v118, hc118, h⟩ := wx_o_ok h
    refine wx_call (va_runVN (As := [.int (x1 + 1)]) (rest := [.ref (ad 7 99)]) ⟨hx, hb, hml, hown, hts⟩ (c_X2_digitAt l (D := D) (ad := ad) (rd := rd) (ca := ca) (A := A) (σ := σ) hc118) ⟨va_cnB 1 hts gX5_answerOf_X2_digitAt_n244 rfl rfl rfl (hC.1.2 _ (List.mem_of_getElem? (i := 76) rfl)) (hts _ k_X5_answerOf_w1) (by decide +kernel) ⟨Nat.le_of_ble_eq_true rfl, Nat.le_of_ble_eq_true rfl⟩, hts _ k_X5_answerOf_w5, hts _ k_X5_answerOf_w6⟩ (wx_preV hC Z hS hA rfl (rfl : vwCl[2]? = some (RX2, TX2, 2))) rfl rfl hl.1 rfl (lv_room (Nat.le_of_ble_eq_true rfl)) dX5_answerOf_118 ⟨Nat.zero_le _, Nat.zero_le _⟩) hS (fun H locs Z hS => ?_)
    refine lv_aload_n hx hb dX5_answerOf_121 rfl (lv_at hl 0 rfl) ?_
    refine wx_get (own := RX5) hx hb hts i_X5_answerOf_5 hown hC.1 Z (o := 11) (ci := 5) rfl (rfl : vwCl[5]? = some (RX5, TX5, 7)) 4 (by decide) (hts _ k_X5_answerOf_w0) (fun _ h9 => h9) (f := 115) rfl rfl dX5_answerOf_122 ?_
    refine lv_iload_n hx hb dX5_answerOf_125 rfl (lv_at hl 1 rfl) ?_
    refine lv_iconst (v := 2) hx hb dX5_answerOf_126 (by decide) ?_
    refine lv_iadd hx hb dX5_answerOf_127 ?_
    obtain ⟨v128, hc128, h⟩ := wx_o_ok h
    refine wx_call (va_runVN (As := [.int (x1 + 2)]) (rest := [.int v118, .ref (ad 7 99)]) ⟨hx, hb, hml, hown, hts⟩ (c_X2_digitAt l (D := D) (ad := ad) (rd := rd) (ca := ca) (A := A) (σ := σ) hc128) ⟨va_cnB 1 hts gX5_answerOf_X2_digitAt_n244 rfl rfl rfl (hC.1.2 _ (List.mem_of_getElem? (i := 76) rfl)) (hts _ k_X5_answerOf_w1) (by decide +kernel) ⟨Nat.le_of_ble_eq_true rfl, Nat.le_of_ble_eq_true rfl⟩, hts _ k_X5_answerOf_w5, hts _ k_X5_answerOf_w6⟩ (wx_preV hC Z hS hA rfl (rfl : vwCl[2]? = some (RX2, TX2, 2))) rfl rfl hl.1 rfl (lv_room (Nat.le_of_ble_eq_true rfl)) dX5_answerOf_128 ⟨Nat.zero_le _, Nat.zero_le _⟩) hS (fun H locs Z hS => ?_)
    obtain ⟨v131, σ131, hc131, h⟩ := wx_b_ok h
    refine wx_call (va_runVN (As := [.int v118, .int v128]) (rest := []) ⟨hx, hb, hml, hown, hts⟩ (c_X0_turnPair l (D := D) (ad := ad) (rd := rd) (ca := ca) (A := A) (σ := σ) (o := 7) (by decide : 7 < 11) hc131) ⟨va_cnB 2 hts gX5_answerOf_X0_turnPair_n70 rfl rfl rfl (hC.1.2 _ (List.mem_of_getElem? (i := 40) rfl)) (hts _ k_X5_answerOf_w7) (by decide +kernel) ⟨Nat.le_of_ble_eq_true rfl, Nat.le_of_ble_eq_true rfl⟩, hts _ k_X5_answerOf_w8, hts _ k_X5_answerOf_w9⟩ (wx_preV hC Z hS hA rfl (rfl : vwCl[0]? = some (RX0, TX0, 13))) rfl rfl hl.1 rfl (lv_room (Nat.le_of_ble_eq_true rfl)) dX5_answerOf_131 ⟨Nat.zero_le _, Nat.zero_le _⟩) hS (fun H locs Z hS => ?_)
    obtain ⟨rfl, rfl⟩ := wx_ret_ok h
    exact W.iret hx hb hr (fun t ht hW => ⟨rfl, by rw [ht]; exact Z, hS.F ht⟩) hS.2.2 dX5_answerOf_134
  · replace h := wx_iff c8_0 h
    by_cases c8_1 : v5 = 109
    · replace h := wx_ift c8_1 h
      refine lv_lookup (off := 165) (tgt := 173) hx hb dX5_answerOf_8 (by decide) (by rw [c8_1]; decide) (by decide) ?_
      refine lv_aload_n hx hb dX5_answerOf_173 rfl (lv_at hl 0 rfl) ?_
      refine wx_get (own := RX5) hx hb hts i_X5_answerOf_5 hown hC.1 Z (o := 11) (ci := 5) rfl (rfl : vwCl[5]? = some (RX5, TX5, 7)) 0 (by decide) (hts _ k_X5_answerOf_w4) (fun _ h9 => h9) (f := 107) rfl rfl dX5_answerOf_174 ?_
      refine lv_aload_n hx hb dX5_answerOf_177 rfl (lv_at hl 0 rfl) ?_
      refine wx_get (own := RX5) hx hb hts i_X5_answerOf_5 hown hC.1 Z (o := 11) (ci := 5) rfl (rfl : vwCl[5]? = some (RX5, TX5, 7)) 4 (by decide) (hts _ k_X5_answerOf_w0) (fun _ h9 => h9) (f := 115) rfl rfl dX5_answerOf_178 ?_
      refine lv_iload_n hx hb dX5_answerOf_181 rfl (lv_at hl 1 rfl) ?_
      refine lv_iconst (v := 1) hx hb dX5_answerOf_182 (by decide) ?_
      refine lv_iadd hx hb dX5_answerOf_183 ?_
      obtain ⟨v184, hc184, h⟩ := wx_o_ok h
      refine wx_call (va_runVN (As := [.int (x1 + 1)]) (rest := [.ref (ad 7 99)]) ⟨hx, hb, hml, hown, hts⟩ (c_X2_digitAt l (D := D) (ad := ad) (rd := rd) (ca := ca) (A := A) (σ := σ) hc184) ⟨va_cnB 1 hts gX5_answerOf_X2_digitAt_n244 rfl rfl rfl (hC.1.2 _ (List.mem_of_getElem? (i := 76) rfl)) (hts _ k_X5_answerOf_w1) (by decide +kernel) ⟨Nat.le_of_ble_eq_true rfl, Nat.le_of_ble_eq_true rfl⟩, hts _ k_X5_answerOf_w5, hts _ k_X5_answerOf_w6⟩ (wx_preV hC Z hS hA rfl (rfl : vwCl[2]? = some (RX2, TX2, 2))) rfl rfl hl.1 rfl (lv_room (Nat.le_of_ble_eq_true rfl)) dX5_answerOf_184 ⟨Nat.zero_le _, Nat.zero_le _⟩) hS (fun H locs Z hS => ?_)
      obtain ⟨v187, σ187, hc187, h⟩ := wx_b_ok h
      refine wx_call (va_runVN (As := [.int v184]) (rest := []) ⟨hx, hb, hml, hown, hts⟩ (c_X0_part l (D := D) (ad := ad) (rd := rd) (ca := ca) (A := A) (σ := σ) (o := 7) (by decide : 7 < 11) hc187) ⟨va_cnB 1 hts gX5_answerOf_X0_part_n67 rfl rfl rfl (hC.1.2 _ (List.mem_of_getElem? (i := 39) rfl)) (hts _ k_X5_answerOf_w7) (by decide +kernel) ⟨Nat.le_of_ble_eq_true rfl, Nat.le_of_ble_eq_true rfl⟩, hts _ k_X5_answerOf_w10, hts _ k_X5_answerOf_w11⟩ (wx_preV hC Z hS hA rfl (rfl : vwCl[0]? = some (RX0, TX0, 13))) rfl rfl hl.1 rfl (lv_room (Nat.le_of_ble_eq_true rfl)) dX5_answerOf_187 ⟨Nat.zero_le _, Nat.zero_le _⟩) hS (fun H locs Z hS => ?_)
      obtain ⟨rfl, rfl⟩ := wx_ret_ok h
      exact W.iret hx hb hr (fun t ht hW => ⟨rfl, by rw [ht]; exact Z, hS.F ht⟩) hS.2.2 dX5_answerOf_190
    · replace h := wx_iff c8_1 h
      by_cases c8_2 : v5 = 115
      · replace h := wx_ift c8_2 h
        refine lv_lookup (off := 127) (tgt := 135) hx hb dX5_answerOf_8 (by decide) (by rw [c8_2]; decide) (by decide) ?_
        refine lv_aload_n hx hb dX5_answerOf_135 rfl (lv_at hl 0 rfl) ?_
        refine wx_get (own := RX5) hx hb hts i_X5_answerOf_5 hown hC.1 Z (o := 11) (ci := 5) rfl (rfl : vwCl[5]? = some (RX5, TX5, 7)) 0 (by decide) (hts _ k_X5_answerOf_w4) (fun _ h9 => h9) (f := 107) rfl rfl dX5_answerOf_136 ?_
        refine lv_aload_n hx hb dX5_answerOf_139 rfl (lv_at hl 0 rfl) ?_
        refine wx_get (own := RX5) hx hb hts i_X5_answerOf_5 hown hC.1 Z (o := 11) (ci := 5) rfl (rfl : vwCl[5]? = some (RX5, TX5, 7)) 4 (by decide) (hts _ k_X5_answerOf_w0) (fun _ h9 => h9) (f := 115) rfl rfl dX5_answerOf_140 ?_
        refine lv_iload_n hx hb dX5_answerOf_143 rfl (lv_at hl 1 rfl) ?_
        refine lv_iconst (v := 2) hx hb dX5_answerOf_144 (by decide) ?_
        refine lv_iadd hx hb dX5_answerOf_145 ?_
        obtain ⟨v146, hc146, h⟩ := wx_o_ok h
        refine wx_call (va_runVN (As := [.int (x1 + 2)]) (rest := [.ref (ad 7 99)]) ⟨hx, hb, hml, hown, hts⟩ (c_X2_digitAt l (D := D) (ad := ad) (rd := rd) (ca := ca) (A := A) (σ := σ) hc146) ⟨va_cnB 1 hts gX5_answerOf_X2_digitAt_n244 rfl rfl rfl (hC.1.2 _ (List.mem_of_getElem? (i := 76) rfl)) (hts _ k_X5_answerOf_w1) (by decide +kernel) ⟨Nat.le_of_ble_eq_true rfl, Nat.le_of_ble_eq_true rfl⟩, hts _ k_X5_answerOf_w5, hts _ k_X5_answerOf_w6⟩ (wx_preV hC Z hS hA rfl (rfl : vwCl[2]? = some (RX2, TX2, 2))) rfl rfl hl.1 rfl (lv_room (Nat.le_of_ble_eq_true rfl)) dX5_answerOf_146 ⟨Nat.zero_le _, Nat.zero_le _⟩) hS (fun H locs Z hS => ?_)
        refine lv_aload_n hx hb dX5_answerOf_149 rfl (lv_at hl 0 rfl) ?_
        refine wx_get (own := RX5) hx hb hts i_X5_answerOf_5 hown hC.1 Z (o := 11) (ci := 5) rfl (rfl : vwCl[5]? = some (RX5, TX5, 7)) 4 (by decide) (hts _ k_X5_answerOf_w0) (fun _ h9 => h9) (f := 115) rfl rfl dX5_answerOf_150 ?_
        refine lv_iload_n hx hb dX5_answerOf_153 rfl (lv_at hl 1 rfl) ?_
        refine lv_iconst (v := 1) hx hb dX5_answerOf_154 (by decide) ?_
        refine lv_iadd hx hb dX5_answerOf_155 ?_
        obtain ⟨v156, hc156, h⟩ := wx_o_ok h
        refine wx_call (va_runVN (As := [.int (x1 + 1)]) (rest := [.int v146, .ref (ad 7 99)]) ⟨hx, hb, hml, hown, hts⟩ (c_X2_columnAt l (D := D) (ad := ad) (rd := rd) (ca := ca) (A := A) (σ := σ) hc156) ⟨va_cnB 1 hts gX5_answerOf_X2_columnAt_n247 rfl rfl rfl (hC.1.2 _ (List.mem_of_getElem? (i := 77) rfl)) (hts _ k_X5_answerOf_w1) (by decide +kernel) ⟨Nat.le_of_ble_eq_true rfl, Nat.le_of_ble_eq_true rfl⟩, hts _ k_X5_answerOf_w12, hts _ k_X5_answerOf_w13⟩ (wx_preV hC Z hS hA rfl (rfl : vwCl[2]? = some (RX2, TX2, 2))) rfl rfl hl.1 rfl (lv_room (Nat.le_of_ble_eq_true rfl)) dX5_answerOf_156 ⟨Nat.zero_le _, Nat.zero_le _⟩) hS (fun H locs Z hS => ?_)
        refine lv_aload_n hx hb dX5_answerOf_159 rfl (lv_at hl 0 rfl) ?_
        refine wx_get (own := RX5) hx hb hts i_X5_answerOf_5 hown hC.1 Z (o := 11) (ci := 5) rfl (rfl : vwCl[5]? = some (RX5, TX5, 7)) 4 (by decide) (hts _ k_X5_answerOf_w0) (fun _ h9 => h9) (f := 115) rfl rfl dX5_answerOf_160 ?_
        refine lv_iload_n hx hb dX5_answerOf_163 rfl (lv_at hl 1 rfl) ?_
        refine lv_iconst (v := 4) hx hb dX5_answerOf_164 (by decide) ?_
        refine lv_iadd hx hb dX5_answerOf_165 ?_
        obtain ⟨v166, hc166, h⟩ := wx_o_ok h
        refine wx_call (va_runVN (As := [.int (x1 + 4)]) (rest := [.int v156, .int v146, .ref (ad 7 99)]) ⟨hx, hb, hml, hown, hts⟩ (c_X2_digitAt l (D := D) (ad := ad) (rd := rd) (ca := ca) (A := A) (σ := σ) hc166) ⟨va_cnB 1 hts gX5_answerOf_X2_digitAt_n244 rfl rfl rfl (hC.1.2 _ (List.mem_of_getElem? (i := 76) rfl)) (hts _ k_X5_answerOf_w1) (by decide +kernel) ⟨Nat.le_of_ble_eq_true rfl, Nat.le_of_ble_eq_true rfl⟩, hts _ k_X5_answerOf_w5, hts _ k_X5_answerOf_w6⟩ (wx_preV hC Z hS hA rfl (rfl : vwCl[2]? = some (RX2, TX2, 2))) rfl rfl hl.1 rfl (lv_room (Nat.le_of_ble_eq_true rfl)) dX5_answerOf_166 ⟨Nat.zero_le _, Nat.zero_le _⟩) hS (fun H locs Z hS => ?_)
        obtain ⟨v169, σ169, hc169, h⟩ := wx_b_ok h
        refine wx_call (va_runVN (As := [.int v146, .int v156, .int v166]) (rest := []) ⟨hx, hb, hml, hown, hts⟩ (c_X0_join l (D := D) (ad := ad) (rd := rd) (ca := ca) (A := A) (σ := σ) (o := 7) (by decide : 7 < 11) hc169) ⟨va_cnB 3 hts gX5_answerOf_X0_join_n64 rfl rfl rfl (hC.1.2 _ (List.mem_of_getElem? (i := 37) rfl)) (hts _ k_X5_answerOf_w7) (by decide +kernel) ⟨Nat.le_of_ble_eq_true rfl, Nat.le_of_ble_eq_true rfl⟩, hts _ k_X5_answerOf_w14, hts _ k_X5_answerOf_w15⟩ (wx_preV hC Z hS hA rfl (rfl : vwCl[0]? = some (RX0, TX0, 13))) rfl rfl hl.1 rfl (lv_room (Nat.le_of_ble_eq_true rfl)) dX5_answerOf_169 ⟨Nat.zero_le _, Nat.zero_le _⟩) hS (fun H locs Z hS => ?_)
        obtain ⟨rfl, rfl⟩ := wx_ret_ok h
        exact W.iret hx hb hr (fun t ht hW => ⟨rfl, by rw [ht]; exact Z, hS.F ht⟩) hS.2.2 dX5_answerOf_172
      · replace h := wx_iff c8_2 h
        by_cases c8_3 : v5 = 116
        · replace h := wx_ift c8_3 h
          refine lv_lookup (off := 52) (tgt := 60) hx hb dX5_answerOf_8 (by decide) (by rw [c8_3]; decide) (by decide) ?_
          refine lv_iload_n hx hb dX5_answerOf_60 rfl (lv_at hl 1 rfl) ?_
          refine lv_iconst (v := 2) hx hb dX5_answerOf_61 (by decide) ?_
          refine lv_iadd hx hb dX5_answerOf_62 ?_
          refine lv_iconst (v := 2) hx hb dX5_answerOf_63 (by decide) ?_
          refine lv_iload_n hx hb dX5_answerOf_64 rfl (lv_at hl 3 rfl) ?_
          refine lv_imul hx hb dX5_answerOf_65 ?_
          refine lv_iadd hx hb dX5_answerOf_66 ?_
          refine lv_istore (lv' := [(4, .int ((x1 + 2) + (2 * x3))), (0, .ref (ad 11 99)), (1, .int x1), (2, .int x2), (3, .int x3)]) hx hb dX5_answerOf_67 hl (by decide) rfl (fun ls hl => ?_)
          refine lv_aload_n hx hb dX5_answerOf_69 rfl (lv_at hl 1 rfl) ?_
          refine wx_get (own := RX5) hx hb hts i_X5_answerOf_5 hown hC.1 Z (o := 11) (ci := 5) rfl (rfl : vwCl[5]? = some (RX5, TX5, 7)) 0 (by decide) (hts _ k_X5_answerOf_w4) (fun _ h9 => h9) (f := 107) rfl rfl dX5_answerOf_70 ?_
          refine lv_aload_n hx hb dX5_answerOf_73 rfl (lv_at hl 1 rfl) ?_
          refine wx_get (own := RX5) hx hb hts i_X5_answerOf_5 hown hC.1 Z (o := 11) (ci := 5) rfl (rfl : vwCl[5]? = some (RX5, TX5, 7)) 4 (by decide) (hts _ k_X5_answerOf_w0) (fun _ h9 => h9) (f := 115) rfl rfl dX5_answerOf_74 ?_
          refine lv_iload hx hb dX5_answerOf_77 (lv_at hl 0 rfl) ?_
          refine lv_iconst (v := 1) hx hb dX5_answerOf_79 (by decide) ?_
          refine lv_iadd hx hb dX5_answerOf_80 ?_
          obtain ⟨v81, hc81, h⟩ := wx_o_ok h
          refine wx_call (va_runVN (As := [.int (((x1 + 2) + (2 * x3)) + 1)]) (rest := [.ref (ad 7 99)]) ⟨hx, hb, hml, hown, hts⟩ (c_X2_digitAt l (D := D) (ad := ad) (rd := rd) (ca := ca) (A := A) (σ := σ) hc81) ⟨va_cnB 1 hts gX5_answerOf_X2_digitAt_n244 rfl rfl rfl (hC.1.2 _ (List.mem_of_getElem? (i := 76) rfl)) (hts _ k_X5_answerOf_w1) (by decide +kernel) ⟨Nat.le_of_ble_eq_true rfl, Nat.le_of_ble_eq_true rfl⟩, hts _ k_X5_answerOf_w5, hts _ k_X5_answerOf_w6⟩ (wx_preV hC Z hS hA rfl (rfl : vwCl[2]? = some (RX2, TX2, 2))) rfl rfl hl.1 rfl (lv_room (Nat.le_of_ble_eq_true rfl)) dX5_answerOf_81 ⟨Nat.zero_le _, Nat.zero_le _⟩) hS (fun H locs Z hS => ?_)
          refine lv_aload_n hx hb dX5_answerOf_84 rfl (lv_at hl 1 rfl) ?_
          refine wx_get (own := RX5) hx hb hts i_X5_answerOf_5 hown hC.1 Z (o := 11) (ci := 5) rfl (rfl : vwCl[5]? = some (RX5, TX5, 7)) 4 (by decide) (hts _ k_X5_answerOf_w0) (fun _ h9 => h9) (f := 115) rfl rfl dX5_answerOf_85 ?_
          refine lv_iload hx hb dX5_answerOf_88 (lv_at hl 0 rfl) ?_
          obtain ⟨v90, hc90, h⟩ := wx_o_ok h
          refine wx_call (va_runVN (As := [.int ((x1 + 2) + (2 * x3))]) (rest := [.int v81, .ref (ad 7 99)]) ⟨hx, hb, hml, hown, hts⟩ (c_X2_columnAt l (D := D) (ad := ad) (rd := rd) (ca := ca) (A := A) (σ := σ) hc90) ⟨va_cnB 1 hts gX5_answerOf_X2_columnAt_n247 rfl rfl rfl (hC.1.2 _ (List.mem_of_getElem? (i := 77) rfl)) (hts _ k_X5_answerOf_w1) (by decide +kernel) ⟨Nat.le_of_ble_eq_true rfl, Nat.le_of_ble_eq_true rfl⟩, hts _ k_X5_answerOf_w12, hts _ k_X5_answerOf_w13⟩ (wx_preV hC Z hS hA rfl (rfl : vwCl[2]? = some (RX2, TX2, 2))) rfl rfl hl.1 rfl (lv_room (Nat.le_of_ble_eq_true rfl)) dX5_answerOf_90 ⟨Nat.zero_le _, Nat.zero_le _⟩) hS (fun H locs Z hS => ?_)
          refine lv_aload_n hx hb dX5_answerOf_93 rfl (lv_at hl 1 rfl) ?_
          refine wx_get (own := RX5) hx hb hts i_X5_answerOf_5 hown hC.1 Z (o := 11) (ci := 5) rfl (rfl : vwCl[5]? = some (RX5, TX5, 7)) 4 (by decide) (hts _ k_X5_answerOf_w0) (fun _ h9 => h9) (f := 115) rfl rfl dX5_answerOf_94 ?_
          refine lv_iload_n hx hb dX5_answerOf_97 rfl (lv_at hl 2 rfl) ?_
          refine lv_iconst (v := 1) hx hb dX5_answerOf_98 (by decide) ?_
          refine lv_iadd hx hb dX5_answerOf_99 ?_
          obtain ⟨v100, hc100, h⟩ := wx_o_ok h
          refine wx_call (va_runVN (As := [.int (x1 + 1)]) (rest := [.int v90, .int v81, .ref (ad 7 99)]) ⟨hx, hb, hml, hown, hts⟩ (c_X2_digitAt l (D := D) (ad := ad) (rd := rd) (ca := ca) (A := A) (σ := σ) hc100) ⟨va_cnB 1 hts gX5_answerOf_X2_digitAt_n244 rfl rfl rfl (hC.1.2 _ (List.mem_of_getElem? (i := 76) rfl)) (hts _ k_X5_answerOf_w1) (by decide +kernel) ⟨Nat.le_of_ble_eq_true rfl, Nat.le_of_ble_eq_true rfl⟩, hts _ k_X5_answerOf_w5, hts _ k_X5_answerOf_w6⟩ (wx_preV hC Z hS hA rfl (rfl : vwCl[2]? = some (RX2, TX2, 2))) rfl rfl hl.1 rfl (lv_room (Nat.le_of_ble_eq_true rfl)) dX5_answerOf_100 ⟨Nat.zero_le _, Nat.zero_le _⟩) hS (fun H locs Z hS => ?_)
          obtain ⟨v103, σ103, hc103, h⟩ := wx_b_ok h
          refine wx_call (va_runVN (As := [.int v81, .int v90, .int v100]) (rest := []) ⟨hx, hb, hml, hown, hts⟩ (c_X0_lay l (D := D) (ad := ad) (rd := rd) (ca := ca) (A := A) (σ := σ) (o := 7) (by decide : 7 < 11) hc103) ⟨va_cnB 3 hts gX5_answerOf_X0_lay_n60 rfl rfl rfl (hC.1.2 _ (List.mem_of_getElem? (i := 33) rfl)) (hts _ k_X5_answerOf_w7) (by decide +kernel) ⟨Nat.le_of_ble_eq_true rfl, Nat.le_of_ble_eq_true rfl⟩, hts _ k_X5_answerOf_w16, hts _ k_X5_answerOf_w17⟩ (wx_preV hC Z hS hA rfl (rfl : vwCl[0]? = some (RX0, TX0, 13))) rfl rfl hl.1 rfl (lv_room (Nat.le_of_ble_eq_true rfl)) dX5_answerOf_103 ⟨Nat.zero_le _, Nat.zero_le _⟩) hS (fun H locs Z hS => ?_)
          obtain ⟨rfl, rfl⟩ := wx_ret_ok h
          exact W.iret hx hb hr (fun t ht hW => ⟨rfl, by rw [ht]; exact Z, hS.F ht⟩) hS.2.2 dX5_answerOf_106
        · replace h := wx_iff c8_3 h
          by_cases c8_4 : v5 = 119
          · replace h := wx_ift c8_4 h
            refine lv_lookup (off := 183) (tgt := 191) hx hb dX5_answerOf_8 (by decide) (by rw [c8_4]; decide) (by decide) ?_
            refine lv_aload_n hx hb dX5_answerOf_191 rfl (lv_at hl 0 rfl) ?_
            refine wx_get (own := RX5) hx hb hts i_X5_answerOf_5 hown hC.1 Z (o := 11) (ci := 5) rfl (rfl : vwCl[5]? = some (RX5, TX5, 7)) 0 (by decide) (hts _ k_X5_answerOf_w4) (fun _ h9 => h9) (f := 107) rfl rfl dX5_answerOf_192 ?_
            refine lv_aload_n hx hb dX5_answerOf_195 rfl (lv_at hl 0 rfl) ?_
            refine wx_get (own := RX5) hx hb hts i_X5_answerOf_5 hown hC.1 Z (o := 11) (ci := 5) rfl (rfl : vwCl[5]? = some (RX5, TX5, 7)) 4 (by decide) (hts _ k_X5_answerOf_w0) (fun _ h9 => h9) (f := 115) rfl rfl dX5_answerOf_196 ?_
            refine lv_iload_n hx hb dX5_answerOf_199 rfl (lv_at hl 1 rfl) ?_
            refine lv_iconst (v := 1) hx hb dX5_answerOf_200 (by decide) ?_
            refine lv_iadd hx hb dX5_answerOf_201 ?_
            refine lv_iload_n hx hb dX5_answerOf_202 rfl (lv_at hl 2 rfl) ?_
            obtain ⟨v203, hc203, h⟩ := wx_o_ok h
            refine wx_call (va_runVN (As := [.int (x1 + 1), .int x2]) (rest := [.ref (ad 7 99)]) ⟨hx, hb, hml, hown, hts⟩ (c_X2_numberIn l (D := D) (ad := ad) (rd := rd) (ca := ca) (A := A) (σ := σ) hc203) ⟨va_cnB 2 hts gX5_answerOf_X2_numberIn_n250 rfl rfl rfl (hC.1.2 _ (List.mem_of_getElem? (i := 78) rfl)) (hts _ k_X5_answerOf_w1) (by decide +kernel) ⟨Nat.le_of_ble_eq_true rfl, Nat.le_of_ble_eq_true rfl⟩, hts _ k_X5_answerOf_w18, hts _ k_X5_answerOf_w19⟩ (wx_preV hC Z hS hA rfl (rfl : vwCl[2]? = some (RX2, TX2, 2))) rfl rfl hl.1 rfl (lv_room (Nat.le_of_ble_eq_true rfl)) dX5_answerOf_203 ⟨Nat.zero_le _, Nat.zero_le _⟩) hS (fun H locs Z hS => ?_)
            obtain ⟨v206, σ206, hc206, h⟩ := wx_b_ok h
            refine wx_call (va_runVN (As := [.int v203]) (rest := []) ⟨hx, hb, hml, hown, hts⟩ (c_X0_letPass l (D := D) (ad := ad) (rd := rd) (ca := ca) (A := A) (σ := σ) (o := 7) (by decide : 7 < 11) hc206) ⟨va_cnB 1 hts gX5_answerOf_X0_letPass_n80 rfl rfl rfl (hC.1.2 _ (List.mem_of_getElem? (i := 42) rfl)) (hts _ k_X5_answerOf_w7) (by decide +kernel) ⟨Nat.le_of_ble_eq_true rfl, Nat.le_of_ble_eq_true rfl⟩, hts _ k_X5_answerOf_w20, hts _ k_X5_answerOf_w21⟩ (wx_preV hC Z hS hA rfl (rfl : vwCl[0]? = some (RX0, TX0, 13))) rfl rfl hl.1 rfl (lv_room (Nat.le_of_ble_eq_true rfl)) dX5_answerOf_206 ⟨Nat.zero_le _, Nat.zero_le _⟩) hS (fun H locs Z hS => ?_)
            obtain ⟨rfl, rfl⟩ := wx_ret_ok h
            exact W.iret hx hb hr (fun t ht hW => ⟨rfl, by rw [ht]; exact Z, hS.F ht⟩) hS.2.2 dX5_answerOf_209
          · replace h := wx_iff c8_4 h
            refine lv_lookup (off := 202) (tgt := 210) hx hb dX5_answerOf_8 (by decide) (by have hz : ∀ v : Int32, ¬ v5 = v → ¬ v.toInt = (v5).toInt := fun v h1 h2 => h1 (Int32.toInt_inj.mp h2.symm); simp [Op.lookupswitch.offset, show ¬ (102 : Int) = (v5).toInt from hz 102 c8_0, show ¬ (109 : Int) = (v5).toInt from hz 109 c8_1, show ¬ (115 : Int) = (v5).toInt from hz 115 c8_2, show ¬ (116 : Int) = (v5).toInt from hz 116 c8_3, show ¬ (119 : Int) = (v5).toInt from hz 119 c8_4]) (by decide) ?_
            refine lv_aload_n hx hb dX5_answerOf_210 rfl (lv_at hl 0 rfl) ?_
            refine wx_get (own := RX5) hx hb hts i_X5_answerOf_5 hown hC.1 Z (o := 11) (ci := 5) rfl (rfl : vwCl[5]? = some (RX5, TX5, 7)) 0 (by decide) (hts _ k_X5_answerOf_w4) (fun _ h9 => h9) (f := 107) rfl rfl dX5_answerOf_211 ?_
            refine lv_aload_n hx hb dX5_answerOf_214 rfl (lv_at hl 0 rfl) ?_
            refine wx_get (own := RX5) hx hb hts i_X5_answerOf_5 hown hC.1 Z (o := 11) (ci := 5) rfl (rfl : vwCl[5]? = some (RX5, TX5, 7)) 4 (by decide) (hts _ k_X5_answerOf_w0) (fun _ h9 => h9) (f := 115) rfl rfl dX5_answerOf_215 ?_
            refine lv_iload_n hx hb dX5_answerOf_218 rfl (lv_at hl 1 rfl) ?_
            refine lv_iconst (v := 2) hx hb dX5_answerOf_219 (by decide) ?_
            refine lv_iadd hx hb dX5_answerOf_220 ?_
            obtain ⟨v221, hc221, h⟩ := wx_o_ok h
            refine wx_call (va_runVN (As := [.int (x1 + 2)]) (rest := [.ref (ad 7 99)]) ⟨hx, hb, hml, hown, hts⟩ (c_X2_digitAt l (D := D) (ad := ad) (rd := rd) (ca := ca) (A := A) (σ := σ) hc221) ⟨va_cnB 1 hts gX5_answerOf_X2_digitAt_n244 rfl rfl rfl (hC.1.2 _ (List.mem_of_getElem? (i := 76) rfl)) (hts _ k_X5_answerOf_w1) (by decide +kernel) ⟨Nat.le_of_ble_eq_true rfl, Nat.le_of_ble_eq_true rfl⟩, hts _ k_X5_answerOf_w5, hts _ k_X5_answerOf_w6⟩ (wx_preV hC Z hS hA rfl (rfl : vwCl[2]? = some (RX2, TX2, 2))) rfl rfl hl.1 rfl (lv_room (Nat.le_of_ble_eq_true rfl)) dX5_answerOf_221 ⟨Nat.zero_le _, Nat.zero_le _⟩) hS (fun H locs Z hS => ?_)
            refine lv_aload_n hx hb dX5_answerOf_224 rfl (lv_at hl 0 rfl) ?_
            refine wx_get (own := RX5) hx hb hts i_X5_answerOf_5 hown hC.1 Z (o := 11) (ci := 5) rfl (rfl : vwCl[5]? = some (RX5, TX5, 7)) 4 (by decide) (hts _ k_X5_answerOf_w0) (fun _ h9 => h9) (f := 115) rfl rfl dX5_answerOf_225 ?_
            refine lv_iload_n hx hb dX5_answerOf_228 rfl (lv_at hl 1 rfl) ?_
            refine lv_iconst (v := 1) hx hb dX5_answerOf_229 (by decide) ?_
            refine lv_iadd hx hb dX5_answerOf_230 ?_
            obtain ⟨v231, hc231, h⟩ := wx_o_ok h
            refine wx_call (va_runVN (As := [.int (x1 + 1)]) (rest := [.int v221, .ref (ad 7 99)]) ⟨hx, hb, hml, hown, hts⟩ (c_X2_columnAt l (D := D) (ad := ad) (rd := rd) (ca := ca) (A := A) (σ := σ) hc231) ⟨va_cnB 1 hts gX5_answerOf_X2_columnAt_n247 rfl rfl rfl (hC.1.2 _ (List.mem_of_getElem? (i := 77) rfl)) (hts _ k_X5_answerOf_w1) (by decide +kernel) ⟨Nat.le_of_ble_eq_true rfl, Nat.le_of_ble_eq_true rfl⟩, hts _ k_X5_answerOf_w12, hts _ k_X5_answerOf_w13⟩ (wx_preV hC Z hS hA rfl (rfl : vwCl[2]? = some (RX2, TX2, 2))) rfl rfl hl.1 rfl (lv_room (Nat.le_of_ble_eq_true rfl)) dX5_answerOf_231 ⟨Nat.zero_le _, Nat.zero_le _⟩) hS (fun H locs Z hS => ?_)
            obtain ⟨v234, σ234, hc234, h⟩ := wx_b_ok h
            refine wx_call (va_runVN (As := [.int v221, .int v231]) (rest := []) ⟨hx, hb, hml, hown, hts⟩ (c_X0_measure l (D := D) (ad := ad) (rd := rd) (ca := ca) (A := A) (σ := σ) (o := 7) (by decide : 7 < 11) hc234) ⟨va_cnB 2 hts gX5_answerOf_X0_measure_n83 rfl rfl rfl (hC.1.2 _ (List.mem_of_getElem? (i := 44) rfl)) (hts _ k_X5_answerOf_w7) (by decide +kernel) ⟨Nat.le_of_ble_eq_true rfl, Nat.le_of_ble_eq_true rfl⟩, hts _ k_X5_answerOf_w22, hts _ k_X5_answerOf_w23⟩ (wx_preV hC Z hS hA rfl (rfl : vwCl[0]? = some (RX0, TX0, 13))) rfl rfl hl.1 rfl (lv_room (Nat.le_of_ble_eq_true rfl)) dX5_answerOf_234 ⟨Nat.zero_le _, Nat.zero_le _⟩) hS (fun H locs Z hS => ?_)
            obtain ⟨rfl, rfl⟩ := wx_ret_ok h
            exact W.iret hx hb hr (fun t ht hW => ⟨rfl, by rw [ht]; exact Z, hS.F ht⟩) hS.2.2 dX5_answerOf_237
set_option maxRecDepth 20000 in
theorem c_X5_answerOf (l : Launch) {D : va_G} {ad : Nat → Nat → Nat} {rd : Nat → Nat} {ca : Nat → ClassId} {A : Nat → Prop} {σ : wx_St}    {x1 : Int32} {x2 : Int32} {x3 : Int32} {r : Int32} {σ' : wx_St} (h : f_X5_answerOf x1 x2 x3 σ = some (r, σ')) : wx_M l yX5_answerOf wsX5_answerOf 4 102 D ad rd ca A [.ref (ad 11 99), .int x1, .int x2, .int x3] σ (some (.int r)) σ' := by
  refine Met.ofW (cc := cX5_answerOf) (maxL := 5) (ret := (some .int)) (by decide) rfl ?_
  intro p e s m args below meth c s₁ B0 hml hv
  obtain ⟨rfl, hC, Z, hA⟩ := hv
  have hl := lv_entry ([.ref (ad 11 99), .int x1, .int x2, .int x3]) (n := 5) (Nat.le_of_ble_eq_true rfl)
  rw [lg_entry_eq]
  generalize (lg_sl ([.ref (ad 11 99), .int x1, .int x2, .int x3]) ++ List.replicate (5 - (lg_sl ([.ref (ad 11 99), .int x1, .int x2, .int x3])).length) Slot.unset).toArray = ls at hl ⊢
  exact b_X5_answerOf_0 ⟨B0.exec, B0.bytes, hml, B0.returns, atoms_spec (ws := wsX5_answerOf) B0.pre, findClass_of_methodNamed B0.named, B0.notSynchronized, hC, hA⟩  h Z va_S.rf hl
set_option maxRecDepth 20000 in
set_option maxHeartbeats 4000000 in
theorem b_X2_endOfNumber_41 (B : wx_B p s m args meth c cX2_endOfNumber 2 (some .int) wsX2_endOfNumber RX2 D ad ca A)    {r : Int32} {σ : wx_St}  {x1 : Int32} {y0 : Int32}   (h : f_X2_endOfNumber_41 x1 y0 σ = some r) {H : Heap} {locs : List Loc} (Z : wx_Z D ad rd ca A σ H) (hS : va_S A s.heap H locs) {ls : Array Slot} (hl : lv_has ls 2 [(0, .ref (ad 15 99)), (1, .int x1)]) : W p l e ({ frames := 2, cells := 0, slots := 0, locals := 42 } : Room) s m args below meth c H locs 0 0 (MQ below (wx_Q D ad rd ca A (some (.int r)) σ) args s 0 0 A) (F0 m 41 ls [.int y0]) := by
  obtain ⟨hx, hb, hml, hr, hts, hown, hlk, hC, hA⟩ := id B
  unfold f_X2_endOfNumber_41 at h
  obtain rfl := Option.some.inj h
  exact W.iret hx hb hr (fun t ht hW => ⟨rfl, by rw [ht]; exact Z, hS.F ht⟩) hS.2.2 dX2_endOfNumber_41
set_option maxRecDepth 20000 in
set_option maxHeartbeats 4000000 in
theorem b_X2_endOfNumber_38 (B : wx_B p s m args meth c cX2_endOfNumber 2 (some .int) wsX2_endOfNumber RX2 D ad ca A)    {r : Int32} {σ : wx_St}  {x1 : Int32}   (h : f_X2_endOfNumber_38 x1 σ = some r) {H : Heap} {locs : List Loc} (Z : wx_Z D ad rd ca A σ H) (hS : va_S A s.heap H locs) {ls : Array Slot} (hl : lv_has ls 2 [(0, .ref (ad 15 99)), (1, .int x1)]) : W p l e ({ frames := 2, cells := 0, slots := 0, locals := 42 } : Room) s m args below meth c H locs 0 0 (MQ below (wx_Q D ad rd ca A (some (.int r)) σ) args s 0 0 A) (F0 m 38 ls []) := by
  obtain ⟨hx, hb, hml, hr, hts, hown, hlk, hC, hA⟩ := id B
  unfold f_X2_endOfNumber_38 at h
  refine lv_iload_n hx hb dX2_endOfNumber_38 rfl (lv_at hl 1 rfl) ?_
  refine lv_iconst (v := 1) hx hb dX2_endOfNumber_39 (by decide) ?_
  refine lv_iadd hx hb dX2_endOfNumber_40 ?_
  exact b_X2_endOfNumber_41 B h Z hS (lv_sub hl [0, 1] rfl)
set_option maxRecDepth 20000 in
set_option maxHeartbeats 4000000 in
theorem b_X2_endOfNumber_0 (B : wx_B p s m args meth c cX2_endOfNumber 2 (some .int) wsX2_endOfNumber RX2 D ad ca A)    {r : Int32} {σ : wx_St}  {x1 : Int32}   (h : f_X2_endOfNumber x1 σ = some r) {H : Heap} {locs : List Loc} (Z : wx_Z D ad rd ca A σ H) (hS : va_S A s.heap H locs) {ls : Array Slot} (hl : lv_has ls 2 [(0, .ref (ad 15 99)), (1, .int x1)]) : W p l e ({ frames := 2, cells := 0, slots := 0, locals := 42 } : Room) s m args below meth c H locs 0 0 (MQ below (wx_Q D ad rd ca A (some (.int r)) σ) args s 0 0 A) (F0 m 0 ls []) := by
  obtain ⟨hx, hb, hml, hr, hts, hown, hlk, hC, hA⟩ := id B
  unfold f_X2_endOfNumber at h
  refine lv_aload_n hx hb dX2_endOfNumber_0 rfl (lv_at hl 0 rfl) ?_
  refine lv_iload_n hx hb dX2_endOfNumber_1 rfl (lv_at hl 1 rfl) ?_
  obtain ⟨v2, hc2, h⟩ := wx_o_ok h
  refine wx_call (va_runV (As := [.int x1]) (rest := []) ⟨hx, hb, hml, hown, hts⟩ (c_X2_isDigit l (D := D) (ad := ad) (rd := rd) (ca := ca) (A := A) (σ := σ) hc2) (cwV 1 hts gX2_endOfNumber_X2_isDigit rfl rfl rfl (by decide +kernel) ⟨Nat.le_of_ble_eq_true rfl, Nat.le_of_ble_eq_true rfl⟩) (wx_preV hC Z hS hA rfl (rfl : vwCl[2]? = some (RX2, TX2, 2))) rfl rfl hl.1 rfl (lv_room (Nat.le_of_ble_eq_true rfl)) dX2_endOfNumber_2 ⟨Nat.zero_le _, Nat.zero_le _⟩) hS (fun H locs Z hS => ?_)
  refine lv_if_ne (tgt := 12) hx hb dX2_endOfNumber_5 (by decide) (fun c5 => ?_) (fun c5 => ?_)
  · replace h := wx_iff c5 h
    refine lv_aload_n hx hb dX2_endOfNumber_12 rfl (lv_at hl 0 rfl) ?_
    refine lv_iload_n hx hb dX2_endOfNumber_13 rfl (lv_at hl 1 rfl) ?_
    obtain ⟨v14, hc14, h⟩ := wx_o_ok h
    refine wx_call (va_runV (As := [.int x1]) (rest := []) ⟨hx, hb, hml, hown, hts⟩ (c_X2_codeAt l (D := D) (ad := ad) (rd := rd) (ca := ca) (A := A) (σ := σ) hc14) (cwV 1 hts gX2_endOfNumber_X2_codeAt rfl rfl rfl (by decide +kernel) ⟨Nat.le_of_ble_eq_true rfl, Nat.le_of_ble_eq_true rfl⟩) (wx_preV hC Z hS hA rfl (rfl : vwCl[2]? = some (RX2, TX2, 2))) rfl rfl hl.1 rfl (lv_room (Nat.le_of_ble_eq_true rfl)) dX2_endOfNumber_14 ⟨Nat.zero_le _, Nat.zero_le _⟩) hS (fun H locs Z hS => ?_)
    refine lv_bipush (v := 48) hx hb dX2_endOfNumber_17 (by decide) ?_
    refine lv_icmp_eq (tgt := 38) hx hb dX2_endOfNumber_19 (by decide) (fun c19 => ?_) (fun c19 => ?_)
    · replace h := wx_ift c19 h
      exact b_X2_endOfNumber_38 B h Z hS (lv_sub hl [0, 1] rfl)
    · replace h := wx_iff c19 h
      refine lv_aload_n hx hb dX2_endOfNumber_22 rfl (lv_at hl 0 rfl) ?_
      refine lv_iload_n hx hb dX2_endOfNumber_23 rfl (lv_at hl 1 rfl) ?_
      refine lv_iconst (v := 1) hx hb dX2_endOfNumber_24 (by decide) ?_
      refine lv_iadd hx hb dX2_endOfNumber_25 ?_
      obtain ⟨v26, hc26, h⟩ := wx_o_ok h
      refine wx_call (va_runV (As := [.int (x1 + 1)]) (rest := []) ⟨hx, hb, hml, hown, hts⟩ (c_X2_isDigit l (D := D) (ad := ad) (rd := rd) (ca := ca) (A := A) (σ := σ) hc26) (cwV 1 hts gX2_endOfNumber_X2_isDigit rfl rfl rfl (by decide +kernel) ⟨Nat.le_of_ble_eq_true rfl, Nat.le_of_ble_eq_true rfl⟩) (wx_preV hC Z hS hA rfl (rfl : vwCl[2]? = some (RX2, TX2, 2))) rfl rfl hl.1 rfl (lv_room (Nat.le_of_ble_eq_true rfl)) dX2_endOfNumber_26 ⟨Nat.zero_le _, Nat.zero_le _⟩) hS (fun H locs Z hS => ?_)
      refine lv_if_eq (tgt := 38) hx hb dX2_endOfNumber_29 (by decide) (fun c29 => ?_) (fun c29 => ?_)
      · replace h := wx_ift c29 h
        exact b_X2_endOfNumber_38 B h Z hS (lv_sub hl [0, 1] rfl)
      · replace h := wx_iff c29 h
        refine lv_iload_n hx hb dX2_endOfNumber_32 rfl (lv_at hl 1 rfl) ?_
        refine lv_iconst (v := 2) hx hb dX2_endOfNumber_33 (by decide) ?_
        refine lv_iadd hx hb dX2_endOfNumber_34 ?_
        refine lv_goto (tgt := 41) hx hb dX2_endOfNumber_35 (by decide) ?_
        exact b_X2_endOfNumber_41 B h Z hS (lv_sub hl [0, 1] rfl)
  · replace h := wx_ift c5 h
    refine lv_iload_n hx hb dX2_endOfNumber_8 rfl (lv_at hl 1 rfl) ?_
    refine lv_iconst (v := (-1)) hx hb dX2_endOfNumber_9 (by decide) ?_
    refine lv_ixor hx hb dX2_endOfNumber_10 ?_
    obtain rfl := Option.some.inj h
    exact W.iret hx hb hr (fun t ht hW => ⟨rfl, by rw [ht]; exact Z, hS.F ht⟩) hS.2.2 dX2_endOfNumber_11
set_option maxRecDepth 20000 in
theorem c_X2_endOfNumber (l : Launch) {D : va_G} {ad : Nat → Nat → Nat} {rd : Nat → Nat} {ca : Nat → ClassId} {A : Nat → Prop} {σ : wx_St}    {x1 : Int32} {r : Int32} (h : f_X2_endOfNumber x1 σ = some r) : wx_M l yX2_endOfNumber wsX2_endOfNumber 2 42 D ad rd ca A [.ref (ad 15 99), .int x1] σ (some (.int r)) σ := by
  refine Met.ofW (cc := cX2_endOfNumber) (maxL := 2) (ret := (some .int)) (by decide) rfl ?_
  intro p e s m args below meth c s₁ B0 hml hv
  obtain ⟨rfl, hC, Z, hA⟩ := hv
  have hl := lv_entry ([.ref (ad 15 99), .int x1]) (n := 2) (Nat.le_of_ble_eq_true rfl)
  rw [lg_entry_eq]
  generalize (lg_sl ([.ref (ad 15 99), .int x1]) ++ List.replicate (2 - (lg_sl ([.ref (ad 15 99), .int x1])).length) Slot.unset).toArray = ls at hl ⊢
  exact b_X2_endOfNumber_0 ⟨B0.exec, B0.bytes, hml, B0.returns, atoms_spec (ws := wsX2_endOfNumber) B0.pre, findClass_of_methodNamed B0.named, B0.notSynchronized, hC, hA⟩  h Z va_S.rf hl
set_option maxRecDepth 20000 in
set_option maxHeartbeats 4000000 in
theorem b_X2_endOfPlaces_36 (B : wx_B p s m args meth c cX2_endOfPlaces 4 (some .int) wsX2_endOfPlaces RX2 D ad ca A)    {r : Int32} {σ : wx_St}  {x1 : Int32} {x2 : Int32} {x3 : Int32}   (h : f_X2_endOfPlaces_36 x1 x2 x3 σ = some r) {H : Heap} {locs : List Loc} (Z : wx_Z D ad rd ca A σ H) (hS : va_S A s.heap H locs) {ls : Array Slot} (hl : lv_has ls 4 [(0, .ref (ad 15 99)), (1, .int x1), (2, .int x2), (3, .int x3)]) : W p l e ({ frames := 5, cells := 0, slots := 0, locals := 110 } : Room) s m args below meth c H locs 0 0 (MQ below (wx_Q D ad rd ca A (some (.int r)) σ) args s 0 0 A) (F0 m 36 ls []) := by
  obtain ⟨hx, hb, hml, hr, hts, hown, hlk, hC, hA⟩ := id B
  unfold f_X2_endOfPlaces_36 at h
  refine lv_iload_n hx hb dX2_endOfPlaces_36 rfl (lv_at hl 2 rfl) ?_
  obtain rfl := Option.some.inj h
  exact W.iret hx hb hr (fun t ht hW => ⟨rfl, by rw [ht]; exact Z, hS.F ht⟩) hS.2.2 dX2_endOfPlaces_37
set_option maxRecDepth 20000 in
set_option maxHeartbeats 4000000 in
theorem b_X2_endOfPlaces_4 (B : wx_B p s m args meth c cX2_endOfPlaces 4 (some .int) wsX2_endOfPlaces RX2 D ad ca A)    {r : Int32} {σ : wx_St}   :
    ∀ {n : Nat} {x1 : Int32} {x2 : Int32} {x3 : Int32}   (h : f_X2_endOfPlaces_4 n x1 x2 x3 σ = some r) {H : Heap} {locs : List Loc} (Z : wx_Z D ad rd ca A σ H) (hS : va_S A s.heap H locs) {ls : Array Slot} (hl : lv_has ls 4 [(0, .ref (ad 15 99)), (1, .int x1), (2, .int x2), (3, .int x3)]), W p l e ({ frames := 5, cells := 0, slots := 0, locals := 110 } : Room) s m args below meth c H locs 0 0 (MQ below (wx_Q D ad rd ca A (some (.int r)) σ) args s 0 0 A) (F0 m 4 ls []) := by
  obtain ⟨hx, hb, hml, hr, hts, hown, hlk, hC, hA⟩ := id B
  intro n
  induction n with
  | zero => intro x1 x2 x3   h H locs Z hS ls hl; exact wx_no h
  | succ n ih =>
    intro x1 x2 x3   h H locs Z hS ls hl
    rw [f_X2_endOfPlaces_4] at h
    refine lv_iload_n hx hb dX2_endOfPlaces_4 rfl (lv_at hl 3 rfl) ?_
    refine lv_bipush (v := 80) hx hb dX2_endOfPlaces_5 (by decide) ?_
    refine lv_icmp_ge (tgt := 36) hx hb dX2_endOfPlaces_7 (by decide) (fun c7 => ?_) (fun c7 => ?_)
    · replace h := wx_ift c7 h
      exact b_X2_endOfPlaces_36 B h Z hS (lv_sub hl [0, 1, 2, 3] rfl)
    · replace h := wx_iff c7 h
      refine lv_iload_n hx hb dX2_endOfPlaces_10 rfl (lv_at hl 2 rfl) ?_
      refine lv_if_lt (tgt := 36) hx hb dX2_endOfPlaces_11 (by decide) (fun c11 => ?_) (fun c11 => ?_)
      · replace h := wx_ift c11 h
        exact b_X2_endOfPlaces_36 B h Z hS (lv_sub hl [0, 1, 2, 3] rfl)
      · replace h := wx_iff c11 h
        refine lv_aload_n hx hb dX2_endOfPlaces_14 rfl (lv_at hl 0 rfl) ?_
        refine lv_iload_n hx hb dX2_endOfPlaces_15 rfl (lv_at hl 2 rfl) ?_
        obtain ⟨v16, hc16, h⟩ := wx_o_ok h
        refine wx_call (va_runV (As := [.int x2]) (rest := []) ⟨hx, hb, hml, hown, hts⟩ (c_X2_isColumn l (D := D) (ad := ad) (rd := rd) (ca := ca) (A := A) (σ := σ) hc16) (cwV 1 hts gX2_endOfPlaces_X2_isColumn rfl rfl rfl (by decide +kernel) ⟨Nat.le_of_ble_eq_true rfl, Nat.le_of_ble_eq_true rfl⟩) (wx_preV hC Z hS hA rfl (rfl : vwCl[2]? = some (RX2, TX2, 2))) rfl rfl hl.1 rfl (lv_room (Nat.le_of_ble_eq_true rfl)) dX2_endOfPlaces_16 ⟨Nat.zero_le _, Nat.zero_le _⟩) hS (fun H locs Z hS => ?_)
        refine lv_if_eq (tgt := 36) hx hb dX2_endOfPlaces_19 (by decide) (fun c19 => ?_) (fun c19 => ?_)
        · replace h := wx_ift c19 h
          exact b_X2_endOfPlaces_36 B h Z hS (lv_sub hl [0, 1, 2, 3] rfl)
        · replace h := wx_iff c19 h
          refine lv_aload_n hx hb dX2_endOfPlaces_22 rfl (lv_at hl 0 rfl) ?_
          refine va_ldcS hx hb hown hC.2.2.2.1 dX2_endOfPlaces_23 ?_
          refine lv_iload_n hx hb dX2_endOfPlaces_25 rfl (lv_at hl 2 rfl) ?_
          obtain ⟨v26, hc26, h⟩ := wx_o_ok h
          refine wx_call (va_runV (As := [.ref (ad 18 1), .int x2]) (rest := []) ⟨hx, hb, hml, hown, hts⟩ (c_X2_endOf l (D := D) (ad := ad) (rd := rd) (ca := ca) (A := A) (σ := σ) (i := 1) (by decide : 1 < 5) hc26) (cwV 2 hts gX2_endOfPlaces_X2_endOf rfl rfl rfl (by decide +kernel) ⟨Nat.le_of_ble_eq_true rfl, Nat.le_of_ble_eq_true rfl⟩) (wx_preV hC Z hS hA rfl (rfl : vwCl[2]? = some (RX2, TX2, 2))) rfl rfl hl.1 rfl (lv_room (Nat.le_of_ble_eq_true rfl)) dX2_endOfPlaces_26 ⟨Nat.zero_le _, Nat.zero_le _⟩) hS (fun H locs Z hS => ?_)
          refine lv_istore_n (lv' := [(2, .int v26), (0, .ref (ad 15 99)), (1, .int x1), (3, .int x3)]) hx hb dX2_endOfPlaces_29 rfl hl (by decide) rfl (fun ls hl => ?_)
          refine lv_iinc (v := x3 + 1) (lv' := [(3, .int (x3 + 1)), (2, .int v26), (0, .ref (ad 15 99)), (1, .int x1)]) hx hb dX2_endOfPlaces_30 hl (k := 3) rfl rfl (by decide) rfl (fun ls hl => ?_)
          refine lv_goto (tgt := 4) hx hb dX2_endOfPlaces_33 (by decide) ?_
          exact ih h Z hS (lv_sub hl [2, 3, 1, 0] rfl)
set_option maxRecDepth 20000 in
set_option maxHeartbeats 4000000 in
theorem b_X2_endOfPlaces_0 (B : wx_B p s m args meth c cX2_endOfPlaces 4 (some .int) wsX2_endOfPlaces RX2 D ad ca A)    {r : Int32} {σ : wx_St}  {x1 : Int32}   (h : f_X2_endOfPlaces x1 σ = some r) {H : Heap} {locs : List Loc} (Z : wx_Z D ad rd ca A σ H) (hS : va_S A s.heap H locs) {ls : Array Slot} (hl : lv_has ls 4 [(0, .ref (ad 15 99)), (1, .int x1)]) : W p l e ({ frames := 5, cells := 0, slots := 0, locals := 110 } : Room) s m args below meth c H locs 0 0 (MQ below (wx_Q D ad rd ca A (some (.int r)) σ) args s 0 0 A) (F0 m 0 ls []) := by
  obtain ⟨hx, hb, hml, hr, hts, hown, hlk, hC, hA⟩ := id B
  unfold f_X2_endOfPlaces at h
  refine lv_iload_n hx hb dX2_endOfPlaces_0 rfl (lv_at hl 1 rfl) ?_
  refine lv_istore_n (lv' := [(2, .int x1), (0, .ref (ad 15 99)), (1, .int x1)]) hx hb dX2_endOfPlaces_1 rfl hl (by decide) rfl (fun ls hl => ?_)
  refine lv_iconst (v := 0) hx hb dX2_endOfPlaces_2 (by decide) ?_
  refine lv_istore_n (lv' := [(3, .int 0), (2, .int x1), (0, .ref (ad 15 99)), (1, .int x1)]) hx hb dX2_endOfPlaces_3 rfl hl (by decide) rfl (fun ls hl => ?_)
  exact b_X2_endOfPlaces_4 B h Z hS (lv_sub hl [2, 3, 1, 0] rfl)
set_option maxRecDepth 20000 in
theorem c_X2_endOfPlaces (l : Launch) {D : va_G} {ad : Nat → Nat → Nat} {rd : Nat → Nat} {ca : Nat → ClassId} {A : Nat → Prop} {σ : wx_St}    {x1 : Int32} {r : Int32} (h : f_X2_endOfPlaces x1 σ = some r) : wx_M l yX2_endOfPlaces wsX2_endOfPlaces 5 110 D ad rd ca A [.ref (ad 15 99), .int x1] σ (some (.int r)) σ := by
  refine Met.ofW (cc := cX2_endOfPlaces) (maxL := 4) (ret := (some .int)) (by decide) rfl ?_
  intro p e s m args below meth c s₁ B0 hml hv
  obtain ⟨rfl, hC, Z, hA⟩ := hv
  have hl := lv_entry ([.ref (ad 15 99), .int x1]) (n := 4) (Nat.le_of_ble_eq_true rfl)
  rw [lg_entry_eq]
  generalize (lg_sl ([.ref (ad 15 99), .int x1]) ++ List.replicate (4 - (lg_sl ([.ref (ad 15 99), .int x1])).length) Slot.unset).toArray = ls at hl ⊢
  exact b_X2_endOfPlaces_0 ⟨B0.exec, B0.bytes, hml, B0.returns, atoms_spec (ws := wsX2_endOfPlaces) B0.pre, findClass_of_methodNamed B0.named, B0.notSynchronized, hC, hA⟩  h Z va_S.rf hl
set_option maxRecDepth 20000 in
set_option maxHeartbeats 4000000 in
theorem b_X2_endOfOrder_0 (B : wx_B p s m args meth c cX2_endOfOrder 2 (some .int) wsX2_endOfOrder RX2 D ad ca A)    {r : Int32} {σ : wx_St}  {x1 : Int32}   (h : f_X2_endOfOrder x1 σ = some r) {H : Heap} {locs : List Loc} (Z : wx_Z D ad rd ca A σ H) (hS : va_S A s.heap H locs) {ls : Array Slot} (hl : lv_has ls 2 [(0, .ref (ad 15 99)), (1, .int x1)]) : W p l e ({ frames := 6, cells := 0, slots := 0, locals := 133 } : Room) s m args below meth c H locs 0 0 (MQ below (wx_Q D ad rd ca A (some (.int r)) σ) args s 0 0 A) (F0 m 0 ls []) := by
  obtain ⟨hx, hb, hml, hr, hts, hown, hlk, hC, hA⟩ := id B
  unfold f_X2_endOfOrder at h
  refine lv_aload_n hx hb dX2_endOfOrder_0 rfl (lv_at hl 0 rfl) ?_
  refine lv_iload_n hx hb dX2_endOfOrder_1 rfl (lv_at hl 1 rfl) ?_
  obtain ⟨v2, hc2, h⟩ := wx_o_ok h
  refine wx_call (va_runV (As := [.int x1]) (rest := []) ⟨hx, hb, hml, hown, hts⟩ (c_X2_codeAt l (D := D) (ad := ad) (rd := rd) (ca := ca) (A := A) (σ := σ) hc2) (cwV 1 hts gX2_endOfOrder_X2_codeAt rfl rfl rfl (by decide +kernel) ⟨Nat.le_of_ble_eq_true rfl, Nat.le_of_ble_eq_true rfl⟩) (wx_preV hC Z hS hA rfl (rfl : vwCl[2]? = some (RX2, TX2, 2))) rfl rfl hl.1 rfl (lv_room (Nat.le_of_ble_eq_true rfl)) dX2_endOfOrder_2 ⟨Nat.zero_le _, Nat.zero_le _⟩) hS (fun H locs Z hS => ?_)
  by_cases c5_0 : v2 = 102
  · replace h := wx_ift c5_0 h
    refine lv_tableIn (off := 101) (tgt := 106) hx hb dX2_endOfOrder_5 (by rw [c5_0]; decide) (by rw [c5_0]; decide) (by rw [c5_0]; rfl) (by decide) ?_
    refine lv_aload_n hx hb dX2_endOfOrder_106 rfl (lv_at hl 0 rfl) ?_
    refine va_ldcS hx hb hown hC.2.2.2.2.1 dX2_endOfOrder_107 ?_
    refine lv_iload_n hx hb dX2_endOfOrder_109 rfl (lv_at hl 1 rfl) ?_
    refine lv_iconst (v := 1) hx hb dX2_endOfOrder_110 (by decide) ?_
    refine lv_iadd hx hb dX2_endOfOrder_111 ?_
    obtain ⟨v112, hc112, h⟩ := wx_o_ok h
    refine wx_call (va_runV (As := [.ref (ad 18 2), .int (x1 + 1)]) (rest := []) ⟨hx, hb, hml, hown, hts⟩ (c_X2_endOf l (D := D) (ad := ad) (rd := rd) (ca := ca) (A := A) (σ := σ) (i := 2) (by decide : 2 < 5) hc112) (cwV 2 hts gX2_endOfOrder_X2_endOf rfl rfl rfl (by decide +kernel) ⟨Nat.le_of_ble_eq_true rfl, Nat.le_of_ble_eq_true rfl⟩) (wx_preV hC Z hS hA rfl (rfl : vwCl[2]? = some (RX2, TX2, 2))) rfl rfl hl.1 rfl (lv_room (Nat.le_of_ble_eq_true rfl)) dX2_endOfOrder_112 ⟨Nat.zero_le _, Nat.zero_le _⟩) hS (fun H locs Z hS => ?_)
    obtain rfl := Option.some.inj h
    exact W.iret hx hb hr (fun t ht hW => ⟨rfl, by rw [ht]; exact Z, hS.F ht⟩) hS.2.2 dX2_endOfOrder_115
  · replace h := wx_iff c5_0 h
    by_cases c5_1 : v2 = 103
    · replace h := wx_ift c5_1 h
      refine lv_tableIn (off := 149) (tgt := 154) hx hb dX2_endOfOrder_5 (by rw [c5_1]; decide) (by rw [c5_1]; decide) (by rw [c5_1]; rfl) (by decide) ?_
      refine lv_iload_n hx hb dX2_endOfOrder_154 rfl (lv_at hl 1 rfl) ?_
      refine lv_iconst (v := (-1)) hx hb dX2_endOfOrder_155 (by decide) ?_
      refine lv_ixor hx hb dX2_endOfOrder_156 ?_
      obtain rfl := Option.some.inj h
      exact W.iret hx hb hr (fun t ht hW => ⟨rfl, by rw [ht]; exact Z, hS.F ht⟩) hS.2.2 dX2_endOfOrder_157
    · replace h := wx_iff c5_1 h
      by_cases c5_2 : v2 = 104
      · replace h := wx_ift c5_2 h
        refine lv_tableIn (off := 149) (tgt := 154) hx hb dX2_endOfOrder_5 (by rw [c5_2]; decide) (by rw [c5_2]; decide) (by rw [c5_2]; rfl) (by decide) ?_
        refine lv_iload_n hx hb dX2_endOfOrder_154 rfl (lv_at hl 1 rfl) ?_
        refine lv_iconst (v := (-1)) hx hb dX2_endOfOrder_155 (by decide) ?_
        refine lv_ixor hx hb dX2_endOfOrder_156 ?_
        obtain rfl := Option.some.inj h
        exact W.iret hx hb hr (fun t ht hW => ⟨rfl, by rw [ht]; exact Z, hS.F ht⟩) hS.2.2 dX2_endOfOrder_157
      · replace h := wx_iff c5_2 h
        by_cases c5_3 : v2 = 105
        · replace h := wx_ift c5_3 h
          refine lv_tableIn (off := 149) (tgt := 154) hx hb dX2_endOfOrder_5 (by rw [c5_3]; decide) (by rw [c5_3]; decide) (by rw [c5_3]; rfl) (by decide) ?_
          refine lv_iload_n hx hb dX2_endOfOrder_154 rfl (lv_at hl 1 rfl) ?_
          refine lv_iconst (v := (-1)) hx hb dX2_endOfOrder_155 (by decide) ?_
          refine lv_ixor hx hb dX2_endOfOrder_156 ?_
          obtain rfl := Option.some.inj h
          exact W.iret hx hb hr (fun t ht hW => ⟨rfl, by rw [ht]; exact Z, hS.F ht⟩) hS.2.2 dX2_endOfOrder_157
        · replace h := wx_iff c5_3 h
          by_cases c5_4 : v2 = 106
          · replace h := wx_ift c5_4 h
            refine lv_tableIn (off := 149) (tgt := 154) hx hb dX2_endOfOrder_5 (by rw [c5_4]; decide) (by rw [c5_4]; decide) (by rw [c5_4]; rfl) (by decide) ?_
            refine lv_iload_n hx hb dX2_endOfOrder_154 rfl (lv_at hl 1 rfl) ?_
            refine lv_iconst (v := (-1)) hx hb dX2_endOfOrder_155 (by decide) ?_
            refine lv_ixor hx hb dX2_endOfOrder_156 ?_
            obtain rfl := Option.some.inj h
            exact W.iret hx hb hr (fun t ht hW => ⟨rfl, by rw [ht]; exact Z, hS.F ht⟩) hS.2.2 dX2_endOfOrder_157
          · replace h := wx_iff c5_4 h
            by_cases c5_5 : v2 = 107
            · replace h := wx_ift c5_5 h
              refine lv_tableIn (off := 149) (tgt := 154) hx hb dX2_endOfOrder_5 (by rw [c5_5]; decide) (by rw [c5_5]; decide) (by rw [c5_5]; rfl) (by decide) ?_
              refine lv_iload_n hx hb dX2_endOfOrder_154 rfl (lv_at hl 1 rfl) ?_
              refine lv_iconst (v := (-1)) hx hb dX2_endOfOrder_155 (by decide) ?_
              refine lv_ixor hx hb dX2_endOfOrder_156 ?_
              obtain rfl := Option.some.inj h
              exact W.iret hx hb hr (fun t ht hW => ⟨rfl, by rw [ht]; exact Z, hS.F ht⟩) hS.2.2 dX2_endOfOrder_157
            · replace h := wx_iff c5_5 h
              by_cases c5_6 : v2 = 108
              · replace h := wx_ift c5_6 h
                refine lv_tableIn (off := 149) (tgt := 154) hx hb dX2_endOfOrder_5 (by rw [c5_6]; decide) (by rw [c5_6]; decide) (by rw [c5_6]; rfl) (by decide) ?_
                refine lv_iload_n hx hb dX2_endOfOrder_154 rfl (lv_at hl 1 rfl) ?_
                refine lv_iconst (v := (-1)) hx hb dX2_endOfOrder_155 (by decide) ?_
                refine lv_ixor hx hb dX2_endOfOrder_156 ?_
                obtain rfl := Option.some.inj h
                exact W.iret hx hb hr (fun t ht hW => ⟨rfl, by rw [ht]; exact Z, hS.F ht⟩) hS.2.2 dX2_endOfOrder_157
              · replace h := wx_iff c5_6 h
                by_cases c5_7 : v2 = 109
                · replace h := wx_ift c5_7 h
                  refine lv_tableIn (off := 121) (tgt := 126) hx hb dX2_endOfOrder_5 (by rw [c5_7]; decide) (by rw [c5_7]; decide) (by rw [c5_7]; rfl) (by decide) ?_
                  refine lv_aload_n hx hb dX2_endOfOrder_126 rfl (lv_at hl 0 rfl) ?_
                  refine va_ldcS hx hb hown hC.2.2.2.2.2.2 dX2_endOfOrder_127 ?_
                  refine lv_iload_n hx hb dX2_endOfOrder_129 rfl (lv_at hl 1 rfl) ?_
                  refine lv_iconst (v := 1) hx hb dX2_endOfOrder_130 (by decide) ?_
                  refine lv_iadd hx hb dX2_endOfOrder_131 ?_
                  obtain ⟨v132, hc132, h⟩ := wx_o_ok h
                  refine wx_call (va_runV (As := [.ref (ad 18 4), .int (x1 + 1)]) (rest := []) ⟨hx, hb, hml, hown, hts⟩ (c_X2_endOf l (D := D) (ad := ad) (rd := rd) (ca := ca) (A := A) (σ := σ) (i := 4) (by decide : 4 < 5) hc132) (cwV 2 hts gX2_endOfOrder_X2_endOf rfl rfl rfl (by decide +kernel) ⟨Nat.le_of_ble_eq_true rfl, Nat.le_of_ble_eq_true rfl⟩) (wx_preV hC Z hS hA rfl (rfl : vwCl[2]? = some (RX2, TX2, 2))) rfl rfl hl.1 rfl (lv_room (Nat.le_of_ble_eq_true rfl)) dX2_endOfOrder_132 ⟨Nat.zero_le _, Nat.zero_le _⟩) hS (fun H locs Z hS => ?_)
                  obtain rfl := Option.some.inj h
                  exact W.iret hx hb hr (fun t ht hW => ⟨rfl, by rw [ht]; exact Z, hS.F ht⟩) hS.2.2 dX2_endOfOrder_135
                · replace h := wx_iff c5_7 h
                  by_cases c5_8 : v2 = 110
                  · replace h := wx_ift c5_8 h
                    refine lv_tableIn (off := 149) (tgt := 154) hx hb dX2_endOfOrder_5 (by rw [c5_8]; decide) (by rw [c5_8]; decide) (by rw [c5_8]; rfl) (by decide) ?_
                    refine lv_iload_n hx hb dX2_endOfOrder_154 rfl (lv_at hl 1 rfl) ?_
                    refine lv_iconst (v := (-1)) hx hb dX2_endOfOrder_155 (by decide) ?_
                    refine lv_ixor hx hb dX2_endOfOrder_156 ?_
                    obtain rfl := Option.some.inj h
                    exact W.iret hx hb hr (fun t ht hW => ⟨rfl, by rw [ht]; exact Z, hS.F ht⟩) hS.2.2 dX2_endOfOrder_157
                  · replace h := wx_iff c5_8 h
                    by_cases c5_9 : v2 = 111
                    · replace h := wx_ift c5_9 h
                      refine lv_tableIn (off := 149) (tgt := 154) hx hb dX2_endOfOrder_5 (by rw [c5_9]; decide) (by rw [c5_9]; decide) (by rw [c5_9]; rfl) (by decide) ?_
                      refine lv_iload_n hx hb dX2_endOfOrder_154 rfl (lv_at hl 1 rfl) ?_
                      refine lv_iconst (v := (-1)) hx hb dX2_endOfOrder_155 (by decide) ?_
                      refine lv_ixor hx hb dX2_endOfOrder_156 ?_
                      obtain rfl := Option.some.inj h
                      exact W.iret hx hb hr (fun t ht hW => ⟨rfl, by rw [ht]; exact Z, hS.F ht⟩) hS.2.2 dX2_endOfOrder_157
                    · replace h := wx_iff c5_9 h
                      by_cases c5_10 : v2 = 112
                      · replace h := wx_ift c5_10 h
                        refine lv_tableIn (off := 139) (tgt := 144) hx hb dX2_endOfOrder_5 (by rw [c5_10]; decide) (by rw [c5_10]; decide) (by rw [c5_10]; rfl) (by decide) ?_
                        refine lv_aload_n hx hb dX2_endOfOrder_144 rfl (lv_at hl 0 rfl) ?_
                        refine va_ldcS hx hb hown hC.2.2.2.1 dX2_endOfOrder_145 ?_
                        refine lv_iload_n hx hb dX2_endOfOrder_147 rfl (lv_at hl 1 rfl) ?_
                        refine lv_iconst (v := 1) hx hb dX2_endOfOrder_148 (by decide) ?_
                        refine lv_iadd hx hb dX2_endOfOrder_149 ?_
                        obtain ⟨v150, hc150, h⟩ := wx_o_ok h
                        refine wx_call (va_runV (As := [.ref (ad 18 1), .int (x1 + 1)]) (rest := []) ⟨hx, hb, hml, hown, hts⟩ (c_X2_endOf l (D := D) (ad := ad) (rd := rd) (ca := ca) (A := A) (σ := σ) (i := 1) (by decide : 1 < 5) hc150) (cwV 2 hts gX2_endOfOrder_X2_endOf rfl rfl rfl (by decide +kernel) ⟨Nat.le_of_ble_eq_true rfl, Nat.le_of_ble_eq_true rfl⟩) (wx_preV hC Z hS hA rfl (rfl : vwCl[2]? = some (RX2, TX2, 2))) rfl rfl hl.1 rfl (lv_room (Nat.le_of_ble_eq_true rfl)) dX2_endOfOrder_150 ⟨Nat.zero_le _, Nat.zero_le _⟩) hS (fun H locs Z hS => ?_)
                        obtain rfl := Option.some.inj h
                        exact W.iret hx hb hr (fun t ht hW => ⟨rfl, by rw [ht]; exact Z, hS.F ht⟩) hS.2.2 dX2_endOfOrder_153
                      · replace h := wx_iff c5_10 h
                        by_cases c5_11 : v2 = 113
                        · replace h := wx_ift c5_11 h
                          refine lv_tableIn (off := 149) (tgt := 154) hx hb dX2_endOfOrder_5 (by rw [c5_11]; decide) (by rw [c5_11]; decide) (by rw [c5_11]; rfl) (by decide) ?_
                          refine lv_iload_n hx hb dX2_endOfOrder_154 rfl (lv_at hl 1 rfl) ?_
                          refine lv_iconst (v := (-1)) hx hb dX2_endOfOrder_155 (by decide) ?_
                          refine lv_ixor hx hb dX2_endOfOrder_156 ?_
                          obtain rfl := Option.some.inj h
                          exact W.iret hx hb hr (fun t ht hW => ⟨rfl, by rw [ht]; exact Z, hS.F ht⟩) hS.2.2 dX2_endOfOrder_157
                        · replace h := wx_iff c5_11 h
                          by_cases c5_12 : v2 = 114
                          · replace h := wx_ift c5_12 h
                            refine lv_tableIn (off := 149) (tgt := 154) hx hb dX2_endOfOrder_5 (by rw [c5_12]; decide) (by rw [c5_12]; decide) (by rw [c5_12]; rfl) (by decide) ?_
                            refine lv_iload_n hx hb dX2_endOfOrder_154 rfl (lv_at hl 1 rfl) ?_
                            refine lv_iconst (v := (-1)) hx hb dX2_endOfOrder_155 (by decide) ?_
                            refine lv_ixor hx hb dX2_endOfOrder_156 ?_
                            obtain rfl := Option.some.inj h
                            exact W.iret hx hb hr (fun t ht hW => ⟨rfl, by rw [ht]; exact Z, hS.F ht⟩) hS.2.2 dX2_endOfOrder_157
                          · replace h := wx_iff c5_12 h
                            by_cases c5_13 : v2 = 115
                            · replace h := wx_ift c5_13 h
                              refine lv_tableIn (off := 111) (tgt := 116) hx hb dX2_endOfOrder_5 (by rw [c5_13]; decide) (by rw [c5_13]; decide) (by rw [c5_13]; rfl) (by decide) ?_
                              refine lv_aload_n hx hb dX2_endOfOrder_116 rfl (lv_at hl 0 rfl) ?_
                              refine va_ldcS hx hb hown hC.2.2.2.2.2.1 dX2_endOfOrder_117 ?_
                              refine lv_iload_n hx hb dX2_endOfOrder_119 rfl (lv_at hl 1 rfl) ?_
                              refine lv_iconst (v := 1) hx hb dX2_endOfOrder_120 (by decide) ?_
                              refine lv_iadd hx hb dX2_endOfOrder_121 ?_
                              obtain ⟨v122, hc122, h⟩ := wx_o_ok h
                              refine wx_call (va_runV (As := [.ref (ad 18 3), .int (x1 + 1)]) (rest := []) ⟨hx, hb, hml, hown, hts⟩ (c_X2_endOf l (D := D) (ad := ad) (rd := rd) (ca := ca) (A := A) (σ := σ) (i := 3) (by decide : 3 < 5) hc122) (cwV 2 hts gX2_endOfOrder_X2_endOf rfl rfl rfl (by decide +kernel) ⟨Nat.le_of_ble_eq_true rfl, Nat.le_of_ble_eq_true rfl⟩) (wx_preV hC Z hS hA rfl (rfl : vwCl[2]? = some (RX2, TX2, 2))) rfl rfl hl.1 rfl (lv_room (Nat.le_of_ble_eq_true rfl)) dX2_endOfOrder_122 ⟨Nat.zero_le _, Nat.zero_le _⟩) hS (fun H locs Z hS => ?_)
                              obtain rfl := Option.some.inj h
                              exact W.iret hx hb hr (fun t ht hW => ⟨rfl, by rw [ht]; exact Z, hS.F ht⟩) hS.2.2 dX2_endOfOrder_125
                            · replace h := wx_iff c5_13 h
                              by_cases c5_14 : v2 = 116
                              · replace h := wx_ift c5_14 h
                                refine lv_tableIn (off := 87) (tgt := 92) hx hb dX2_endOfOrder_5 (by rw [c5_14]; decide) (by rw [c5_14]; decide) (by rw [c5_14]; rfl) (by decide) ?_
                                refine lv_aload_n hx hb dX2_endOfOrder_92 rfl (lv_at hl 0 rfl) ?_
                                refine lv_aload_n hx hb dX2_endOfOrder_93 rfl (lv_at hl 0 rfl) ?_
                                refine va_ldcS hx hb hown hC.2.2.1 dX2_endOfOrder_94 ?_
                                refine lv_iload_n hx hb dX2_endOfOrder_96 rfl (lv_at hl 1 rfl) ?_
                                refine lv_iconst (v := 1) hx hb dX2_endOfOrder_97 (by decide) ?_
                                refine lv_iadd hx hb dX2_endOfOrder_98 ?_
                                obtain ⟨v99, hc99, h⟩ := wx_o_ok h
                                refine wx_call (va_runV (As := [.ref (ad 18 0), .int (x1 + 1)]) (rest := [.ref (ad 15 99)]) ⟨hx, hb, hml, hown, hts⟩ (c_X2_endOf l (D := D) (ad := ad) (rd := rd) (ca := ca) (A := A) (σ := σ) (i := 0) (by decide : 0 < 5) hc99) (cwV 2 hts gX2_endOfOrder_X2_endOf rfl rfl rfl (by decide +kernel) ⟨Nat.le_of_ble_eq_true rfl, Nat.le_of_ble_eq_true rfl⟩) (wx_preV hC Z hS hA rfl (rfl : vwCl[2]? = some (RX2, TX2, 2))) rfl rfl hl.1 rfl (lv_room (Nat.le_of_ble_eq_true rfl)) dX2_endOfOrder_99 ⟨Nat.zero_le _, Nat.zero_le _⟩) hS (fun H locs Z hS => ?_)
                                obtain ⟨v102, hc102, h⟩ := wx_o_ok h
                                refine wx_call (va_runV (As := [.int v99]) (rest := []) ⟨hx, hb, hml, hown, hts⟩ (c_X2_endOfPlaces l (D := D) (ad := ad) (rd := rd) (ca := ca) (A := A) (σ := σ) hc102) (cwV 1 hts gX2_endOfOrder_X2_endOfPlaces rfl rfl rfl (by decide +kernel) ⟨Nat.le_of_ble_eq_true rfl, Nat.le_of_ble_eq_true rfl⟩) (wx_preV hC Z hS hA rfl (rfl : vwCl[2]? = some (RX2, TX2, 2))) rfl rfl hl.1 rfl (lv_room (Nat.le_of_ble_eq_true rfl)) dX2_endOfOrder_102 ⟨Nat.zero_le _, Nat.zero_le _⟩) hS (fun H locs Z hS => ?_)
                                obtain rfl := Option.some.inj h
                                exact W.iret hx hb hr (fun t ht hW => ⟨rfl, by rw [ht]; exact Z, hS.F ht⟩) hS.2.2 dX2_endOfOrder_105
                              · replace h := wx_iff c5_14 h
                                by_cases c5_15 : v2 = 117
                                · replace h := wx_ift c5_15 h
                                  refine lv_tableIn (off := 149) (tgt := 154) hx hb dX2_endOfOrder_5 (by rw [c5_15]; decide) (by rw [c5_15]; decide) (by rw [c5_15]; rfl) (by decide) ?_
                                  refine lv_iload_n hx hb dX2_endOfOrder_154 rfl (lv_at hl 1 rfl) ?_
                                  refine lv_iconst (v := (-1)) hx hb dX2_endOfOrder_155 (by decide) ?_
                                  refine lv_ixor hx hb dX2_endOfOrder_156 ?_
                                  obtain rfl := Option.some.inj h
                                  exact W.iret hx hb hr (fun t ht hW => ⟨rfl, by rw [ht]; exact Z, hS.F ht⟩) hS.2.2 dX2_endOfOrder_157
                                · replace h := wx_iff c5_15 h
                                  by_cases c5_16 : v2 = 118
                                  · replace h := wx_ift c5_16 h
                                    refine lv_tableIn (off := 149) (tgt := 154) hx hb dX2_endOfOrder_5 (by rw [c5_16]; decide) (by rw [c5_16]; decide) (by rw [c5_16]; rfl) (by decide) ?_
                                    refine lv_iload_n hx hb dX2_endOfOrder_154 rfl (lv_at hl 1 rfl) ?_
                                    refine lv_iconst (v := (-1)) hx hb dX2_endOfOrder_155 (by decide) ?_
                                    refine lv_ixor hx hb dX2_endOfOrder_156 ?_
                                    obtain rfl := Option.some.inj h
                                    exact W.iret hx hb hr (fun t ht hW => ⟨rfl, by rw [ht]; exact Z, hS.F ht⟩) hS.2.2 dX2_endOfOrder_157
                                  · replace h := wx_iff c5_16 h
                                    by_cases c5_17 : v2 = 119
                                    · replace h := wx_ift c5_17 h
                                      refine lv_tableIn (off := 131) (tgt := 136) hx hb dX2_endOfOrder_5 (by rw [c5_17]; decide) (by rw [c5_17]; decide) (by rw [c5_17]; rfl) (by decide) ?_
                                      refine lv_aload_n hx hb dX2_endOfOrder_136 rfl (lv_at hl 0 rfl) ?_
                                      refine lv_iload_n hx hb dX2_endOfOrder_137 rfl (lv_at hl 1 rfl) ?_
                                      refine lv_iconst (v := 1) hx hb dX2_endOfOrder_138 (by decide) ?_
                                      refine lv_iadd hx hb dX2_endOfOrder_139 ?_
                                      obtain ⟨v140, hc140, h⟩ := wx_o_ok h
                                      refine wx_call (va_runV (As := [.int (x1 + 1)]) (rest := []) ⟨hx, hb, hml, hown, hts⟩ (c_X2_endOfNumber l (D := D) (ad := ad) (rd := rd) (ca := ca) (A := A) (σ := σ) hc140) (cwV 1 hts gX2_endOfOrder_X2_endOfNumber rfl rfl rfl (by decide +kernel) ⟨Nat.le_of_ble_eq_true rfl, Nat.le_of_ble_eq_true rfl⟩) (wx_preV hC Z hS hA rfl (rfl : vwCl[2]? = some (RX2, TX2, 2))) rfl rfl hl.1 rfl (lv_room (Nat.le_of_ble_eq_true rfl)) dX2_endOfOrder_140 ⟨Nat.zero_le _, Nat.zero_le _⟩) hS (fun H locs Z hS => ?_)
                                      obtain rfl := Option.some.inj h
                                      exact W.iret hx hb hr (fun t ht hW => ⟨rfl, by rw [ht]; exact Z, hS.F ht⟩) hS.2.2 dX2_endOfOrder_143
                                    · replace h := wx_iff c5_17 h
                                      have n5_0 := wx_ni c5_0
                                      have n5_1 := wx_ni c5_1
                                      have n5_2 := wx_ni c5_2
                                      have n5_3 := wx_ni c5_3
                                      have n5_4 := wx_ni c5_4
                                      have n5_5 := wx_ni c5_5
                                      have n5_6 := wx_ni c5_6
                                      have n5_7 := wx_ni c5_7
                                      have n5_8 := wx_ni c5_8
                                      have n5_9 := wx_ni c5_9
                                      have n5_10 := wx_ni c5_10
                                      have n5_11 := wx_ni c5_11
                                      have n5_12 := wx_ni c5_12
                                      have n5_13 := wx_ni c5_13
                                      have n5_14 := wx_ni c5_14
                                      have n5_15 := wx_ni c5_15
                                      have n5_16 := wx_ni c5_16
                                      have n5_17 := wx_ni c5_17
                                      rw [show (102 : Int32).toInt = 102 from by decide] at n5_0
                                      rw [show (103 : Int32).toInt = 103 from by decide] at n5_1
                                      rw [show (104 : Int32).toInt = 104 from by decide] at n5_2
                                      rw [show (105 : Int32).toInt = 105 from by decide] at n5_3
                                      rw [show (106 : Int32).toInt = 106 from by decide] at n5_4
                                      rw [show (107 : Int32).toInt = 107 from by decide] at n5_5
                                      rw [show (108 : Int32).toInt = 108 from by decide] at n5_6
                                      rw [show (109 : Int32).toInt = 109 from by decide] at n5_7
                                      rw [show (110 : Int32).toInt = 110 from by decide] at n5_8
                                      rw [show (111 : Int32).toInt = 111 from by decide] at n5_9
                                      rw [show (112 : Int32).toInt = 112 from by decide] at n5_10
                                      rw [show (113 : Int32).toInt = 113 from by decide] at n5_11
                                      rw [show (114 : Int32).toInt = 114 from by decide] at n5_12
                                      rw [show (115 : Int32).toInt = 115 from by decide] at n5_13
                                      rw [show (116 : Int32).toInt = 116 from by decide] at n5_14
                                      rw [show (117 : Int32).toInt = 117 from by decide] at n5_15
                                      rw [show (118 : Int32).toInt = 118 from by decide] at n5_16
                                      rw [show (119 : Int32).toInt = 119 from by decide] at n5_17
                                      refine lv_tableOut (tgt := 154) hx hb dX2_endOfOrder_5 (by omega) (by decide) ?_
                                      refine lv_iload_n hx hb dX2_endOfOrder_154 rfl (lv_at hl 1 rfl) ?_
                                      refine lv_iconst (v := (-1)) hx hb dX2_endOfOrder_155 (by decide) ?_
                                      refine lv_ixor hx hb dX2_endOfOrder_156 ?_
                                      obtain rfl := Option.some.inj h
                                      exact W.iret hx hb hr (fun t ht hW => ⟨rfl, by rw [ht]; exact Z, hS.F ht⟩) hS.2.2 dX2_endOfOrder_157
set_option maxRecDepth 20000 in
theorem c_X2_endOfOrder (l : Launch) {D : va_G} {ad : Nat → Nat → Nat} {rd : Nat → Nat} {ca : Nat → ClassId} {A : Nat → Prop} {σ : wx_St}    {x1 : Int32} {r : Int32} (h : f_X2_endOfOrder x1 σ = some r) : wx_M l yX2_endOfOrder wsX2_endOfOrder 6 133 D ad rd ca A [.ref (ad 15 99), .int x1] σ (some (.int r)) σ := by
  refine Met.ofW (cc := cX2_endOfOrder) (maxL := 2) (ret := (some .int)) (by decide) rfl ?_
  intro p e s m args below meth c s₁ B0 hml hv
  obtain ⟨rfl, hC, Z, hA⟩ := hv
  have hl := lv_entry ([.ref (ad 15 99), .int x1]) (n := 2) (Nat.le_of_ble_eq_true rfl)
  rw [lg_entry_eq]
  generalize (lg_sl ([.ref (ad 15 99), .int x1]) ++ List.replicate (2 - (lg_sl ([.ref (ad 15 99), .int x1])).length) Slot.unset).toArray = ls at hl ⊢
  exact b_X2_endOfOrder_0 ⟨B0.exec, B0.bytes, hml, B0.returns, atoms_spec (ws := wsX2_endOfOrder) B0.pre, findClass_of_methodNamed B0.named, B0.notSynchronized, hC, hA⟩  h Z va_S.rf hl
theorem i_X2_clear_2 : ∀ w ∈ wsX20, w ∈ wsX2_clear := by decide +kernel
theorem k_X2_clear_w0 : Cond.fieldLink RX2 15 "WarmProbes$Pad" "length" "I" ∈ wsX2_clear := by decide +kernel
set_option maxRecDepth 20000 in
set_option maxHeartbeats 4000000 in
theorem b_X2_clear_0 (B : wx_B p s m args meth c cX2_clear 2 (some .int) wsX2_clear RX2 D ad ca A)    {r : Int32} {σ' : wx_St}    {σ : wx_St} (h : f_X2_clear σ = some (r, σ')) {H : Heap} {locs : List Loc} (Z : wx_Z D ad rd ca A σ H) (hS : va_S A s.heap H locs) {ls : Array Slot} (hl : lv_has ls 2 [(0, .ref (ad 15 99))]) : W p l e ({ frames := 0, cells := 0, slots := 0, locals := 0 } : Room) s m args below meth c H locs 0 0 (MQ below (wx_Q D ad rd ca A (some (.int r)) σ') args s 0 0 A) (F0 m 0 ls []) := by
  obtain ⟨hx, hb, hml, hr, hts, hown, hlk, hC, hA⟩ := id B
  unfold f_X2_clear at h
  refine lv_aload_n hx hb dX2_clear_0 rfl (lv_at hl 0 rfl) ?_
  refine wx_get (own := RX2) hx hb hts i_X2_clear_2 hown hC.1 Z (o := 15) (ci := 2) rfl (rfl : vwCl[2]? = some (RX2, TX2, 2)) 1 (by decide) (hts _ k_X2_clear_w0) (fun _ h9 => h9) (f := 1) rfl rfl dX2_clear_1 ?_
  refine lv_istore_n (lv' := [(1, .int (σ.2.2.1 15 1)), (0, .ref (ad 15 99))]) hx hb dX2_clear_4 rfl hl (by decide) rfl (fun ls hl => ?_)
  refine lv_aload_n hx hb dX2_clear_5 rfl (lv_at hl 1 rfl) ?_
  refine lv_iconst (v := 0) hx hb dX2_clear_6 (by decide) ?_
  obtain ⟨σ7, e7, h⟩ := wx_l_ok h
  refine wx_put (own := RX2) hx hb hts i_X2_clear_2 tyX2 tyX2_ok nmX2 hown hC.1 Z hS (o := 15) (ci := 2) rfl (rfl : vwCl[2]? = some (RX2, TX2, 2)) 1 (by decide) (hts _ k_X2_clear_w0) (fun _ h9 => h9) rfl (by decide +kernel) rfl dX2_clear_7 e7 (fun H locs Z hS => ?_)
  refine lv_iload_n hx hb dX2_clear_10 rfl (lv_at hl 0 rfl) ?_
  obtain ⟨rfl, rfl⟩ := wx_ret_ok h
  exact W.iret hx hb hr (fun t ht hW => ⟨rfl, by rw [ht]; exact Z, hS.F ht⟩) hS.2.2 dX2_clear_11
set_option maxRecDepth 20000 in
theorem c_X2_clear (l : Launch) {D : va_G} {ad : Nat → Nat → Nat} {rd : Nat → Nat} {ca : Nat → ClassId} {A : Nat → Prop} {σ : wx_St}     {r : Int32} {σ' : wx_St} (h : f_X2_clear σ = some (r, σ')) : wx_M l yX2_clear wsX2_clear 0 0 D ad rd ca A [.ref (ad 15 99)] σ (some (.int r)) σ' := by
  refine Met.ofW (cc := cX2_clear) (maxL := 2) (ret := (some .int)) (by decide) rfl ?_
  intro p e s m args below meth c s₁ B0 hml hv
  obtain ⟨rfl, hC, Z, hA⟩ := hv
  have hl := lv_entry ([.ref (ad 15 99)]) (n := 2) (Nat.le_of_ble_eq_true rfl)
  rw [lg_entry_eq]
  generalize (lg_sl ([.ref (ad 15 99)]) ++ List.replicate (2 - (lg_sl ([.ref (ad 15 99)])).length) Slot.unset).toArray = ls at hl ⊢
  exact b_X2_clear_0 ⟨B0.exec, B0.bytes, hml, B0.returns, atoms_spec (ws := wsX2_clear) B0.pre, findClass_of_methodNamed B0.named, B0.notSynchronized, hC, hA⟩  h Z va_S.rf hl
theorem i_X2_firstFault_2 : ∀ w ∈ wsX20, w ∈ wsX2_firstFault := by decide +kernel
theorem k_X2_firstFault_w0 : Cond.fieldLink RX2 15 "WarmProbes$Pad" "length" "I" ∈ wsX2_firstFault := by decide +kernel
set_option maxRecDepth 20000 in
set_option maxHeartbeats 4000000 in
theorem b_X2_firstFault_4 (B : wx_B p s m args meth c cX2_firstFault 4 (some .int) wsX2_firstFault RX2 D ad ca A)    {r : Int32} {σ : wx_St}   :
    ∀ {n : Nat} {x1 : Int32} {x2 : Int32}   (h : f_X2_firstFault_4 n x1 x2 σ = some r) {H : Heap} {locs : List Loc} (Z : wx_Z D ad rd ca A σ H) (hS : va_S A s.heap H locs) {ls : Array Slot} (hl : lv_has ls 4 [(0, .ref (ad 15 99)), (1, .int x1), (2, .int x2)]), W p l e ({ frames := 7, cells := 0, slots := 0, locals := 154 } : Room) s m args below meth c H locs 0 0 (MQ below (wx_Q D ad rd ca A (some (.int r)) σ) args s 0 0 A) (F0 m 4 ls []) := by
  obtain ⟨hx, hb, hml, hr, hts, hown, hlk, hC, hA⟩ := id B
  intro n
  induction n with
  | zero => intro x1 x2   h H locs Z hS ls hl; exact wx_no h
  | succ n ih =>
    intro x1 x2   h H locs Z hS ls hl
    rw [f_X2_firstFault_4] at h
    refine lv_iload_n hx hb dX2_firstFault_4 rfl (lv_at hl 2 rfl) ?_
    refine lv_bipush (v := 80) hx hb dX2_firstFault_5 (by decide) ?_
    refine lv_icmp_ge (tgt := 57) hx hb dX2_firstFault_7 (by decide) (fun c7 => ?_) (fun c7 => ?_)
    · replace h := wx_ift c7 h
      refine lv_aload_n hx hb dX2_firstFault_57 rfl (lv_at hl 0 rfl) ?_
      refine wx_get (own := RX2) hx hb hts i_X2_firstFault_2 hown hC.1 Z (o := 15) (ci := 2) rfl (rfl : vwCl[2]? = some (RX2, TX2, 2)) 1 (by decide) (hts _ k_X2_firstFault_w0) (fun _ h9 => h9) (f := 1) rfl rfl dX2_firstFault_58 ?_
      obtain rfl := Option.some.inj h
      exact W.iret hx hb hr (fun t ht hW => ⟨rfl, by rw [ht]; exact Z, hS.F ht⟩) hS.2.2 dX2_firstFault_61
    · replace h := wx_iff c7 h
      refine lv_aload_n hx hb dX2_firstFault_10 rfl (lv_at hl 0 rfl) ?_
      refine lv_iload_n hx hb dX2_firstFault_11 rfl (lv_at hl 1 rfl) ?_
      obtain ⟨v12, hc12, h⟩ := wx_o_ok h
      refine wx_call (va_runV (As := [.int x1]) (rest := []) ⟨hx, hb, hml, hown, hts⟩ (c_X2_endOfOrder l (D := D) (ad := ad) (rd := rd) (ca := ca) (A := A) (σ := σ) hc12) (cwV 1 hts gX2_firstFault_X2_endOfOrder rfl rfl rfl (by decide +kernel) ⟨Nat.le_of_ble_eq_true rfl, Nat.le_of_ble_eq_true rfl⟩) (wx_preV hC Z hS hA rfl (rfl : vwCl[2]? = some (RX2, TX2, 2))) rfl rfl hl.1 rfl (lv_room (Nat.le_of_ble_eq_true rfl)) dX2_firstFault_12 ⟨Nat.zero_le _, Nat.zero_le _⟩) hS (fun H locs Z hS => ?_)
      refine lv_istore_n (lv' := [(3, .int v12), (0, .ref (ad 15 99)), (1, .int x1), (2, .int x2)]) hx hb dX2_firstFault_15 rfl hl (by decide) rfl (fun ls hl => ?_)
      refine lv_iload_n hx hb dX2_firstFault_16 rfl (lv_at hl 0 rfl) ?_
      refine lv_if_ge (tgt := 24) hx hb dX2_firstFault_17 (by decide) (fun c17 => ?_) (fun c17 => ?_)
      · replace h := wx_ift c17 h
        refine lv_iload_n hx hb dX2_firstFault_24 rfl (lv_at hl 0 rfl) ?_
        refine lv_aload_n hx hb dX2_firstFault_25 rfl (lv_at hl 1 rfl) ?_
        refine wx_get (own := RX2) hx hb hts i_X2_firstFault_2 hown hC.1 Z (o := 15) (ci := 2) rfl (rfl : vwCl[2]? = some (RX2, TX2, 2)) 1 (by decide) (hts _ k_X2_firstFault_w0) (fun _ h9 => h9) (f := 1) rfl rfl dX2_firstFault_26 ?_
        refine lv_icmp_lt (tgt := 35) hx hb dX2_firstFault_29 (by decide) (fun c29 => ?_) (fun c29 => ?_)
        · replace h := wx_ift c29 h
          refine lv_aload_n hx hb dX2_firstFault_35 rfl (lv_at hl 1 rfl) ?_
          refine lv_iload_n hx hb dX2_firstFault_36 rfl (lv_at hl 0 rfl) ?_
          obtain ⟨v37, hc37, h⟩ := wx_o_ok h
          refine wx_call (va_runV (As := [.int v12]) (rest := []) ⟨hx, hb, hml, hown, hts⟩ (c_X2_codeAt l (D := D) (ad := ad) (rd := rd) (ca := ca) (A := A) (σ := σ) hc37) (cwV 1 hts gX2_firstFault_X2_codeAt rfl rfl rfl (by decide +kernel) ⟨Nat.le_of_ble_eq_true rfl, Nat.le_of_ble_eq_true rfl⟩) (wx_preV hC Z hS hA rfl (rfl : vwCl[2]? = some (RX2, TX2, 2))) rfl rfl hl.1 rfl (lv_room (Nat.le_of_ble_eq_true rfl)) dX2_firstFault_37 ⟨Nat.zero_le _, Nat.zero_le _⟩) hS (fun H locs Z hS => ?_)
          refine lv_bipush (v := 59) hx hb dX2_firstFault_40 (by decide) ?_
          refine lv_icmp_eq (tgt := 47) hx hb dX2_firstFault_42 (by decide) (fun c42 => ?_) (fun c42 => ?_)
          · replace h := wx_ift c42 h
            refine lv_iload_n hx hb dX2_firstFault_47 rfl (lv_at hl 0 rfl) ?_
            refine lv_iconst (v := 1) hx hb dX2_firstFault_48 (by decide) ?_
            refine lv_iadd hx hb dX2_firstFault_49 ?_
            refine lv_istore_n (lv' := [(1, .int (v12 + 1)), (3, .int v12), (0, .ref (ad 15 99)), (2, .int x2)]) hx hb dX2_firstFault_50 rfl hl (by decide) rfl (fun ls hl => ?_)
            refine lv_iinc (v := x2 + 1) (lv' := [(2, .int (x2 + 1)), (1, .int (v12 + 1)), (3, .int v12), (0, .ref (ad 15 99))]) hx hb dX2_firstFault_51 hl (k := 3) rfl rfl (by decide) rfl (fun ls hl => ?_)
            refine lv_goto (tgt := 4) hx hb dX2_firstFault_54 (by decide) ?_
            exact ih h Z hS (lv_sub hl [3, 1, 0] rfl)
          · replace h := wx_iff c42 h
            refine lv_iload_n hx hb dX2_firstFault_45 rfl (lv_at hl 0 rfl) ?_
            obtain rfl := Option.some.inj h
            exact W.iret hx hb hr (fun t ht hW => ⟨rfl, by rw [ht]; exact Z, hS.F ht⟩) hS.2.2 dX2_firstFault_46
        · replace h := wx_iff c29 h
          refine lv_bipush (v := (-6)) hx hb dX2_firstFault_32 (by decide) ?_
          obtain rfl := Option.some.inj h
          exact W.iret hx hb hr (fun t ht hW => ⟨rfl, by rw [ht]; exact Z, hS.F ht⟩) hS.2.2 dX2_firstFault_34
      · replace h := wx_iff c17 h
        refine lv_iload_n hx hb dX2_firstFault_20 rfl (lv_at hl 0 rfl) ?_
        refine lv_iconst (v := (-1)) hx hb dX2_firstFault_21 (by decide) ?_
        refine lv_ixor hx hb dX2_firstFault_22 ?_
        obtain rfl := Option.some.inj h
        exact W.iret hx hb hr (fun t ht hW => ⟨rfl, by rw [ht]; exact Z, hS.F ht⟩) hS.2.2 dX2_firstFault_23
set_option maxRecDepth 20000 in
set_option maxHeartbeats 4000000 in
theorem b_X2_firstFault_0 (B : wx_B p s m args meth c cX2_firstFault 4 (some .int) wsX2_firstFault RX2 D ad ca A)    {r : Int32} {σ : wx_St}     (h : f_X2_firstFault σ = some r) {H : Heap} {locs : List Loc} (Z : wx_Z D ad rd ca A σ H) (hS : va_S A s.heap H locs) {ls : Array Slot} (hl : lv_has ls 4 [(0, .ref (ad 15 99))]) : W p l e ({ frames := 7, cells := 0, slots := 0, locals := 154 } : Room) s m args below meth c H locs 0 0 (MQ below (wx_Q D ad rd ca A (some (.int r)) σ) args s 0 0 A) (F0 m 0 ls []) := by
  obtain ⟨hx, hb, hml, hr, hts, hown, hlk, hC, hA⟩ := id B
  unfold f_X2_firstFault at h
  refine lv_iconst (v := 0) hx hb dX2_firstFault_0 (by decide) ?_
  refine lv_istore_n (lv' := [(1, .int 0), (0, .ref (ad 15 99))]) hx hb dX2_firstFault_1 rfl hl (by decide) rfl (fun ls hl => ?_)
  refine lv_iconst (v := 0) hx hb dX2_firstFault_2 (by decide) ?_
  refine lv_istore_n (lv' := [(2, .int 0), (1, .int 0), (0, .ref (ad 15 99))]) hx hb dX2_firstFault_3 rfl hl (by decide) rfl (fun ls hl => ?_)
  exact b_X2_firstFault_4 B h Z hS (lv_sub hl [2, 1, 0] rfl)
set_option maxRecDepth 20000 in
theorem c_X2_firstFault (l : Launch) {D : va_G} {ad : Nat → Nat → Nat} {rd : Nat → Nat} {ca : Nat → ClassId} {A : Nat → Prop} {σ : wx_St}     {r : Int32} (h : f_X2_firstFault σ = some r) : wx_M l yX2_firstFault wsX2_firstFault 7 154 D ad rd ca A [.ref (ad 15 99)] σ (some (.int r)) σ := by
  refine Met.ofW (cc := cX2_firstFault) (maxL := 4) (ret := (some .int)) (by decide) rfl ?_
  intro p e s m args below meth c s₁ B0 hml hv
  obtain ⟨rfl, hC, Z, hA⟩ := hv
  have hl := lv_entry ([.ref (ad 15 99)]) (n := 4) (Nat.le_of_ble_eq_true rfl)
  rw [lg_entry_eq]
  generalize (lg_sl ([.ref (ad 15 99)]) ++ List.replicate (4 - (lg_sl ([.ref (ad 15 99)])).length) Slot.unset).toArray = ls at hl ⊢
  exact b_X2_firstFault_0 ⟨B0.exec, B0.bytes, hml, B0.returns, atoms_spec (ws := wsX2_firstFault) B0.pre, findClass_of_methodNamed B0.named, B0.notSynchronized, hC, hA⟩  h Z va_S.rf hl
theorem i_X3_kept_3 : ∀ w ∈ wsX30, w ∈ wsX3_kept := by decide +kernel
theorem k_X3_kept_w0 : Cond.fieldLink RX3 17 "WarmProbes$Past" "size" "I" ∈ wsX3_kept := by decide +kernel
theorem k_X3_kept_w1 : Cond.fieldLink RX3 11 "WarmProbes$Past" "states" "[LWarmProbes$Board;" ∈ wsX3_kept := by decide +kernel
set_option maxRecDepth 20000 in
set_option maxHeartbeats 4000000 in
theorem b_X3_kept_36 (B : wx_B p s m args meth c cX3_kept 4 (some .int) wsX3_kept RX3 D ad ca A)    {r : Int32} {σ' : wx_St}   :
    ∀ {n : Nat} {x1 : Int32} {z2 : Nat} {x3 : Int32} (hz2 : z2 < 11) {σ : wx_St} (h : f_X3_kept_36 n x1 z2 x3 σ = some (r, σ')) {H : Heap} {locs : List Loc} (Z : wx_Z D ad rd ca A σ H) (hS : va_S A s.heap H locs) {ls : Array Slot} (hl : lv_has ls 4 [(0, .ref (ad 14 99)), (1, .int x1), (2, .ref (ad z2 99)), (3, .int x3)]), W p l e ({ frames := 0, cells := 0, slots := 0, locals := 0 } : Room) s m args below meth c H locs 0 0 (MQ below (wx_Q D ad rd ca A (some (.int r)) σ') args s 0 0 A) (F0 m 36 ls []) := by
  obtain ⟨hx, hb, hml, hr, hts, hown, hlk, hC, hA⟩ := id B
  intro n
  induction n with
  | zero => intro x1 z2 x3 hz2 σ h H locs Z hS ls hl; exact wx_no h
  | succ n ih =>
    intro x1 z2 x3 hz2 σ h H locs Z hS ls hl
    rw [f_X3_kept_36] at h
    refine lv_iload_n hx hb dX3_kept_36 rfl (lv_at hl 3 rfl) ?_
    refine lv_bipush (v := 6) hx hb dX3_kept_37 (by decide) ?_
    refine lv_icmp_ge (tgt := 62) hx hb dX3_kept_39 (by decide) (fun c39 => ?_) (fun c39 => ?_)
    · replace h := wx_ift c39 h
      refine lv_aload_n hx hb dX3_kept_62 rfl (lv_at hl 0 rfl) ?_
      refine wx_get (own := RX3) hx hb hts i_X3_kept_3 hown hC.1 Z (o := 14) (ci := 3) rfl (rfl : vwCl[3]? = some (RX3, TX3, 2)) 0 (by decide) (hts _ k_X3_kept_w1) (fun _ h9 => h9) (f := 0) rfl rfl dX3_kept_63 ?_
      refine lv_bipush (v := 6) hx hb dX3_kept_66 (by decide) ?_
      refine lv_aload_n hx hb dX3_kept_68 rfl (lv_at hl 2 rfl) ?_
      obtain ⟨σ69, e69, i69, h⟩ := wx_w_ok h
      refine wx_bast hx hb hC.1 Z hS hz2 i69 dX3_kept_69 e69 (fun H locs Z hS => ?_)
      refine lv_iload_n hx hb dX3_kept_70 rfl (lv_at hl 1 rfl) ?_
      obtain ⟨rfl, rfl⟩ := wx_ret_ok h
      exact W.iret hx hb hr (fun t ht hW => ⟨rfl, by rw [ht]; exact Z, hS.F ht⟩) hS.2.2 dX3_kept_71
    · replace h := wx_iff c39 h
      refine lv_aload_n hx hb dX3_kept_42 rfl (lv_at hl 0 rfl) ?_
      refine wx_get (own := RX3) hx hb hts i_X3_kept_3 hown hC.1 Z (o := 14) (ci := 3) rfl (rfl : vwCl[3]? = some (RX3, TX3, 2)) 0 (by decide) (hts _ k_X3_kept_w1) (fun _ h9 => h9) (f := 0) rfl rfl dX3_kept_43 ?_
      refine lv_iload_n hx hb dX3_kept_46 rfl (lv_at hl 3 rfl) ?_
      refine lv_aload_n hx hb dX3_kept_47 rfl (lv_at hl 0 rfl) ?_
      refine wx_get (own := RX3) hx hb hts i_X3_kept_3 hown hC.1 Z (o := 14) (ci := 3) rfl (rfl : vwCl[3]? = some (RX3, TX3, 2)) 0 (by decide) (hts _ k_X3_kept_w1) (fun _ h9 => h9) (f := 0) rfl rfl dX3_kept_48 ?_
      refine lv_iload_n hx hb dX3_kept_51 rfl (lv_at hl 3 rfl) ?_
      refine lv_iconst (v := 1) hx hb dX3_kept_52 (by decide) ?_
      refine lv_iadd hx hb dX3_kept_53 ?_
      obtain ⟨z54, ez54, hz54, iz54, h⟩ := wx_rR_ok h
      refine wx_bald hx hb hC.1 Z (o := 14) (k := 0) (n := 7) rfl rfl iz54 dX3_kept_54 ez54 ?_
      obtain ⟨σ55, e55, i55, h⟩ := wx_w_ok h
      refine wx_bast hx hb hC.1 Z hS hz54 i55 dX3_kept_55 e55 (fun H locs Z hS => ?_)
      refine lv_iinc (v := x3 + 1) (lv' := [(3, .int (x3 + 1)), (0, .ref (ad 14 99)), (1, .int x1), (2, .ref (ad z2 99))]) hx hb dX3_kept_56 hl (k := 3) rfl rfl (by decide) rfl (fun ls hl => ?_)
      refine lv_goto (tgt := 36) hx hb dX3_kept_59 (by decide) ?_
      exact ih hz2 h Z hS (lv_sub hl [1, 2, 3, 0] rfl)
set_option maxRecDepth 20000 in
set_option maxHeartbeats 4000000 in
theorem b_X3_kept_0 (B : wx_B p s m args meth c cX3_kept 4 (some .int) wsX3_kept RX3 D ad ca A)    {r : Int32} {σ' : wx_St}  {x1 : Int32}  {σ : wx_St} (h : f_X3_kept x1 σ = some (r, σ')) {H : Heap} {locs : List Loc} (Z : wx_Z D ad rd ca A σ H) (hS : va_S A s.heap H locs) {ls : Array Slot} (hl : lv_has ls 4 [(0, .ref (ad 14 99)), (1, .int x1)]) : W p l e ({ frames := 0, cells := 0, slots := 0, locals := 0 } : Room) s m args below meth c H locs 0 0 (MQ below (wx_Q D ad rd ca A (some (.int r)) σ') args s 0 0 A) (F0 m 0 ls []) := by
  obtain ⟨hx, hb, hml, hr, hts, hown, hlk, hC, hA⟩ := id B
  unfold f_X3_kept at h
  refine lv_iload_n hx hb dX3_kept_0 rfl (lv_at hl 1 rfl) ?_
  refine lv_if_ge (tgt := 6) hx hb dX3_kept_1 (by decide) (fun c1 => ?_) (fun c1 => ?_)
  · replace h := wx_ift c1 h
    refine lv_aload_n hx hb dX3_kept_6 rfl (lv_at hl 0 rfl) ?_
    refine wx_get (own := RX3) hx hb hts i_X3_kept_3 hown hC.1 Z (o := 14) (ci := 3) rfl (rfl : vwCl[3]? = some (RX3, TX3, 2)) 1 (by decide) (hts _ k_X3_kept_w0) (fun _ h9 => h9) (f := 1) rfl rfl dX3_kept_7 ?_
    refine lv_bipush (v := 6) hx hb dX3_kept_10 (by decide) ?_
    refine lv_icmp_ge (tgt := 27) hx hb dX3_kept_12 (by decide) (fun c12 => ?_) (fun c12 => ?_)
    · replace h := wx_ift c12 h
      refine lv_aload_n hx hb dX3_kept_27 rfl (lv_at hl 0 rfl) ?_
      refine wx_get (own := RX3) hx hb hts i_X3_kept_3 hown hC.1 Z (o := 14) (ci := 3) rfl (rfl : vwCl[3]? = some (RX3, TX3, 2)) 0 (by decide) (hts _ k_X3_kept_w1) (fun _ h9 => h9) (f := 0) rfl rfl dX3_kept_28 ?_
      refine lv_iconst (v := 0) hx hb dX3_kept_31 (by decide) ?_
      obtain ⟨z32, ez32, hz32, iz32, h⟩ := wx_rR_ok h
      refine wx_bald hx hb hC.1 Z (o := 14) (k := 0) (n := 7) rfl rfl iz32 dX3_kept_32 ez32 ?_
      refine lv_astore_n (lv' := [(2, .ref (ad z32 99)), (0, .ref (ad 14 99)), (1, .int x1)]) hx hb dX3_kept_33 rfl hl (by decide) rfl (fun ls hl => ?_)
      refine lv_iconst (v := 0) hx hb dX3_kept_34 (by decide) ?_
      refine lv_istore_n (lv' := [(3, .int 0), (2, .ref (ad z32 99)), (0, .ref (ad 14 99)), (1, .int x1)]) hx hb dX3_kept_35 rfl hl (by decide) rfl (fun ls hl => ?_)
      exact b_X3_kept_36 B hz32 h Z hS (lv_sub hl [2, 3, 1, 0] rfl)
    · replace h := wx_iff c12 h
      refine lv_aload_n hx hb dX3_kept_15 rfl (lv_at hl 0 rfl) ?_
      refine lv_dup hx hb dX3_kept_16 rfl ?_
      refine wx_get (own := RX3) hx hb hts i_X3_kept_3 hown hC.1 Z (o := 14) (ci := 3) rfl (rfl : vwCl[3]? = some (RX3, TX3, 2)) 1 (by decide) (hts _ k_X3_kept_w0) (fun _ h9 => h9) (f := 1) rfl rfl dX3_kept_17 ?_
      refine lv_iconst (v := 1) hx hb dX3_kept_20 (by decide) ?_
      refine lv_iadd hx hb dX3_kept_21 ?_
      obtain ⟨σ22, e22, h⟩ := wx_l_ok h
      refine wx_put (own := RX3) hx hb hts i_X3_kept_3 tyX3 tyX3_ok nmX3 hown hC.1 Z hS (o := 14) (ci := 3) rfl (rfl : vwCl[3]? = some (RX3, TX3, 2)) 1 (by decide) (hts _ k_X3_kept_w0) (fun _ h9 => h9) rfl (by decide +kernel) rfl dX3_kept_22 e22 (fun H locs Z hS => ?_)
      refine lv_iload_n hx hb dX3_kept_25 rfl (lv_at hl 1 rfl) ?_
      obtain ⟨rfl, rfl⟩ := wx_ret_ok h
      exact W.iret hx hb hr (fun t ht hW => ⟨rfl, by rw [ht]; exact Z, hS.F ht⟩) hS.2.2 dX3_kept_26
  · replace h := wx_iff c1 h
    refine lv_iload_n hx hb dX3_kept_4 rfl (lv_at hl 1 rfl) ?_
    obtain ⟨rfl, rfl⟩ := wx_ret_ok h
    exact W.iret hx hb hr (fun t ht hW => ⟨rfl, by rw [ht]; exact Z, hS.F ht⟩) hS.2.2 dX3_kept_5
set_option maxRecDepth 20000 in
theorem c_X3_kept (l : Launch) {D : va_G} {ad : Nat → Nat → Nat} {rd : Nat → Nat} {ca : Nat → ClassId} {A : Nat → Prop} {σ : wx_St}    {x1 : Int32} {r : Int32} {σ' : wx_St} (h : f_X3_kept x1 σ = some (r, σ')) : wx_M l yX3_kept wsX3_kept 0 0 D ad rd ca A [.ref (ad 14 99), .int x1] σ (some (.int r)) σ' := by
  refine Met.ofW (cc := cX3_kept) (maxL := 4) (ret := (some .int)) (by decide) rfl ?_
  intro p e s m args below meth c s₁ B0 hml hv
  obtain ⟨rfl, hC, Z, hA⟩ := hv
  have hl := lv_entry ([.ref (ad 14 99), .int x1]) (n := 4) (Nat.le_of_ble_eq_true rfl)
  rw [lg_entry_eq]
  generalize (lg_sl ([.ref (ad 14 99), .int x1]) ++ List.replicate (4 - (lg_sl ([.ref (ad 14 99), .int x1])).length) Slot.unset).toArray = ls at hl ⊢
  exact b_X3_kept_0 ⟨B0.exec, B0.bytes, hml, B0.returns, atoms_spec (ws := wsX3_kept) B0.pre, findClass_of_methodNamed B0.named, B0.notSynchronized, hC, hA⟩  h Z va_S.rf hl
theorem i_X0_takeOver_0 : ∀ w ∈ wsX00, w ∈ wsX0_takeOver := by decide +kernel
theorem k_X0_takeOver_w0 : Cond.fieldLink RX0 9 "WarmProbes$Board" "settings" "[I" ∈ wsX0_takeOver := by decide +kernel
theorem k_X0_takeOver_w1 : Cond.methodLink RX0 56 arraycopyName ∈ wsX0_takeOver := by decide +kernel
theorem k_X0_takeOver_w2 : Cond.native arraycopyName ∈ wsX0_takeOver := by decide +kernel
theorem k_X0_takeOver_w3 : Cond.static arraycopyName ∈ wsX0_takeOver := by decide +kernel
theorem k_X0_takeOver_w4 : Cond.initialized "java/lang/System" ∈ wsX0_takeOver := by decide +kernel
theorem k_X0_takeOver_w5 : Cond.fieldLink RX0 15 "WarmProbes$Board" "nets" "[I" ∈ wsX0_takeOver := by decide +kernel
theorem k_X0_takeOver_w6 : Cond.fieldLink RX0 18 "WarmProbes$Board" "fed" "[I" ∈ wsX0_takeOver := by decide +kernel
theorem k_X0_takeOver_w7 : Cond.fieldLink RX0 21 "WarmProbes$Board" "touches" "I" ∈ wsX0_takeOver := by decide +kernel
theorem k_X0_takeOver_w8 : Cond.fieldLink RX0 25 "WarmProbes$Board" "touchPlaces" "[I" ∈ wsX0_takeOver := by decide +kernel
theorem k_X0_takeOver_w9 : Cond.fieldLink RX0 28 "WarmProbes$Board" "touchOthers" "[I" ∈ wsX0_takeOver := by decide +kernel
theorem k_X0_takeOver_w10 : Cond.fieldLink RX0 31 "WarmProbes$Board" "steps" "I" ∈ wsX0_takeOver := by decide +kernel
theorem k_X0_takeOver_w11 : Cond.fieldLink RX0 34 "WarmProbes$Board" "warmth" "[F" ∈ wsX0_takeOver := by decide +kernel
theorem k_X0_takeOver_w12 : Cond.fieldLink RX0 41 "WarmProbes$Board" "readings" "I" ∈ wsX0_takeOver := by decide +kernel
theorem k_X0_takeOver_w13 : Cond.fieldLink RX0 44 "WarmProbes$Board" "readingPlaces" "[I" ∈ wsX0_takeOver := by decide +kernel
theorem k_X0_takeOver_w14 : Cond.fieldLink RX0 47 "WarmProbes$Board" "readingReads" "[I" ∈ wsX0_takeOver := by decide +kernel
theorem k_X0_takeOver_w15 : Cond.fieldLink RX0 50 "WarmProbes$Board" "readingSteps" "[I" ∈ wsX0_takeOver := by decide +kernel
set_option maxRecDepth 20000 in
set_option maxHeartbeats 4000000 in
theorem b_X0_takeOver_0 (B : wx_B p s m args meth c cX0_takeOver 2 none wsX0_takeOver RX0 D ad ca A) {o : Nat} {b1 : Nat}  (ho : o < 11) (hb1 : b1 < 11)  {σ' : wx_St}    {σ : wx_St} (h : f_X0_takeOver o b1 σ = some ((), σ')) {H : Heap} {locs : List Loc} (Z : wx_Z D ad rd ca A σ H) (hS : va_S A s.heap H locs) {ls : Array Slot} (hl : lv_has ls 2 [(0, .ref (ad o 99)), (1, .ref (ad b1 99))]) : W p l e ({ frames := 1, cells := 0, slots := 0, locals := 26 } : Room) s m args below meth c H locs 0 0 (MQ below (wx_Q D ad rd ca A none σ') args s 0 0 A) (F0 m 0 ls []) := by
  obtain ⟨hx, hb, hml, hr, hts, hown, hlk, hC, hA⟩ := id B
  unfold f_X0_takeOver at h
  refine lv_aload_n hx hb dX0_takeOver_0 rfl (lv_at hl 1 rfl) ?_
  refine wx_get (own := RX0) hx hb hts i_X0_takeOver_0 hown hC.1 Z (o := b1) (ci := 0) (wx_sbo hb1 99) (rfl : vwCl[0]? = some (RX0, TX0, 13)) 0 (by decide) (hts _ k_X0_takeOver_w0) (fun _ h9 => h9) (f := 0) rfl rfl dX0_takeOver_1 ?_
  refine lv_iconst (v := 0) hx hb dX0_takeOver_4 (by decide) ?_
  refine lv_aload_n hx hb dX0_takeOver_5 rfl (lv_at hl 0 rfl) ?_
  refine wx_get (own := RX0) hx hb hts i_X0_takeOver_0 hown hC.1 Z (o := o) (ci := 0) (wx_sbo ho 99) (rfl : vwCl[0]? = some (RX0, TX0, 13)) 0 (by decide) (hts _ k_X0_takeOver_w0) (fun _ h9 => h9) (f := 0) rfl rfl dX0_takeOver_6 ?_
  refine lv_iconst (v := 0) hx hb dX0_takeOver_9 (by decide) ?_
  refine lv_iconst (v := 4) hx hb dX0_takeOver_10 (by decide) ?_
  obtain ⟨σ11, e11, h⟩ := wx_l_ok h
  refine wx_copyi (own := RX0) hx hb (hml.trans hl.1.symm) hown (hts _ k_X0_takeOver_w1) (hts _ k_X0_takeOver_w2) (hts _ k_X0_takeOver_w3) (hts _ k_X0_takeOver_w4) hC.1 Z hS (o := b1) (k := 0) (n := 4) (o' := o) (k' := 0) (n' := 4) (wx_sbo hb1 0) (wx_sbo ho 0) rfl rfl (by decide) (by decide) (by decide) (by decide) (by decide) (Nat.le_of_ble_eq_true rfl) (Nat.le_of_ble_eq_true rfl) dX0_takeOver_11 e11 (fun H locs Z hS => ?_)
  refine lv_aload_n hx hb dX0_takeOver_14 rfl (lv_at hl 1 rfl) ?_
  refine wx_get (own := RX0) hx hb hts i_X0_takeOver_0 hown hC.1 Z (o := b1) (ci := 0) (wx_sbo hb1 99) (rfl : vwCl[0]? = some (RX0, TX0, 13)) 1 (by decide) (hts _ k_X0_takeOver_w5) (fun _ h9 => h9) (f := 0) rfl rfl dX0_takeOver_15 ?_
  refine lv_iconst (v := 0) hx hb dX0_takeOver_18 (by decide) ?_
  refine lv_aload_n hx hb dX0_takeOver_19 rfl (lv_at hl 0 rfl) ?_
  refine wx_get (own := RX0) hx hb hts i_X0_takeOver_0 hown hC.1 Z (o := o) (ci := 0) (wx_sbo ho 99) (rfl : vwCl[0]? = some (RX0, TX0, 13)) 1 (by decide) (hts _ k_X0_takeOver_w5) (fun _ h9 => h9) (f := 0) rfl rfl dX0_takeOver_20 ?_
  refine lv_iconst (v := 0) hx hb dX0_takeOver_23 (by decide) ?_
  refine lv_bipush (v := 64) hx hb dX0_takeOver_24 (by decide) ?_
  obtain ⟨σ26, e26, h⟩ := wx_l_ok h
  refine wx_copyi (own := RX0) hx hb (hml.trans hl.1.symm) hown (hts _ k_X0_takeOver_w1) (hts _ k_X0_takeOver_w2) (hts _ k_X0_takeOver_w3) (hts _ k_X0_takeOver_w4) hC.1 Z hS (o := b1) (k := 1) (n := 64) (o' := o) (k' := 1) (n' := 64) (wx_sbo hb1 1) (wx_sbo ho 1) rfl rfl (by decide) (by decide) (by decide) (by decide) (by decide) (Nat.le_of_ble_eq_true rfl) (Nat.le_of_ble_eq_true rfl) dX0_takeOver_26 e26 (fun H locs Z hS => ?_)
  refine lv_aload_n hx hb dX0_takeOver_29 rfl (lv_at hl 1 rfl) ?_
  refine wx_get (own := RX0) hx hb hts i_X0_takeOver_0 hown hC.1 Z (o := b1) (ci := 0) (wx_sbo hb1 99) (rfl : vwCl[0]? = some (RX0, TX0, 13)) 2 (by decide) (hts _ k_X0_takeOver_w6) (fun _ h9 => h9) (f := 0) rfl rfl dX0_takeOver_30 ?_
  refine lv_iconst (v := 0) hx hb dX0_takeOver_33 (by decide) ?_
  refine lv_aload_n hx hb dX0_takeOver_34 rfl (lv_at hl 0 rfl) ?_
  refine wx_get (own := RX0) hx hb hts i_X0_takeOver_0 hown hC.1 Z (o := o) (ci := 0) (wx_sbo ho 99) (rfl : vwCl[0]? = some (RX0, TX0, 13)) 2 (by decide) (hts _ k_X0_takeOver_w6) (fun _ h9 => h9) (f := 0) rfl rfl dX0_takeOver_35 ?_
  refine lv_iconst (v := 0) hx hb dX0_takeOver_38 (by decide) ?_
  refine lv_bipush (v := 8) hx hb dX0_takeOver_39 (by decide) ?_
  obtain ⟨σ41, e41, h⟩ := wx_l_ok h
  refine wx_copyi (own := RX0) hx hb (hml.trans hl.1.symm) hown (hts _ k_X0_takeOver_w1) (hts _ k_X0_takeOver_w2) (hts _ k_X0_takeOver_w3) (hts _ k_X0_takeOver_w4) hC.1 Z hS (o := b1) (k := 2) (n := 8) (o' := o) (k' := 2) (n' := 8) (wx_sbo hb1 2) (wx_sbo ho 2) rfl rfl (by decide) (by decide) (by decide) (by decide) (by decide) (Nat.le_of_ble_eq_true rfl) (Nat.le_of_ble_eq_true rfl) dX0_takeOver_41 e41 (fun H locs Z hS => ?_)
  refine lv_aload_n hx hb dX0_takeOver_44 rfl (lv_at hl 0 rfl) ?_
  refine lv_aload_n hx hb dX0_takeOver_45 rfl (lv_at hl 1 rfl) ?_
  refine wx_get (own := RX0) hx hb hts i_X0_takeOver_0 hown hC.1 Z (o := b1) (ci := 0) (wx_sbo hb1 99) (rfl : vwCl[0]? = some (RX0, TX0, 13)) 3 (by decide) (hts _ k_X0_takeOver_w7) (fun _ h9 => h9) (f := 1) rfl rfl dX0_takeOver_46 ?_
  obtain ⟨σ49, e49, h⟩ := wx_l_ok h
  refine wx_put (own := RX0) hx hb hts i_X0_takeOver_0 tyX0 tyX0_ok nmX0 hown hC.1 Z hS (o := o) (ci := 0) (wx_sbo ho 99) (rfl : vwCl[0]? = some (RX0, TX0, 13)) 3 (by decide) (hts _ k_X0_takeOver_w7) (fun _ h9 => h9) rfl (by decide +kernel) rfl dX0_takeOver_49 e49 (fun H locs Z hS => ?_)
  refine lv_aload_n hx hb dX0_takeOver_52 rfl (lv_at hl 1 rfl) ?_
  refine wx_get (own := RX0) hx hb hts i_X0_takeOver_0 hown hC.1 Z (o := b1) (ci := 0) (wx_sbo hb1 99) (rfl : vwCl[0]? = some (RX0, TX0, 13)) 4 (by decide) (hts _ k_X0_takeOver_w8) (fun _ h9 => h9) (f := 0) rfl rfl dX0_takeOver_53 ?_
  refine lv_iconst (v := 0) hx hb dX0_takeOver_56 (by decide) ?_
  refine lv_aload_n hx hb dX0_takeOver_57 rfl (lv_at hl 0 rfl) ?_
  refine wx_get (own := RX0) hx hb hts i_X0_takeOver_0 hown hC.1 Z (o := o) (ci := 0) (wx_sbo ho 99) (rfl : vwCl[0]? = some (RX0, TX0, 13)) 4 (by decide) (hts _ k_X0_takeOver_w8) (fun _ h9 => h9) (f := 0) rfl rfl dX0_takeOver_58 ?_
  refine lv_iconst (v := 0) hx hb dX0_takeOver_61 (by decide) ?_
  refine lv_iconst (v := 3) hx hb dX0_takeOver_62 (by decide) ?_
  obtain ⟨σ63, e63, h⟩ := wx_l_ok h
  refine wx_copyi (own := RX0) hx hb (hml.trans hl.1.symm) hown (hts _ k_X0_takeOver_w1) (hts _ k_X0_takeOver_w2) (hts _ k_X0_takeOver_w3) (hts _ k_X0_takeOver_w4) hC.1 Z hS (o := b1) (k := 4) (n := 3) (o' := o) (k' := 4) (n' := 3) (wx_sbo hb1 4) (wx_sbo ho 4) rfl rfl (by decide) (by decide) (by decide) (by decide) (by decide) (Nat.le_of_ble_eq_true rfl) (Nat.le_of_ble_eq_true rfl) dX0_takeOver_63 e63 (fun H locs Z hS => ?_)
  refine lv_aload_n hx hb dX0_takeOver_66 rfl (lv_at hl 1 rfl) ?_
  refine wx_get (own := RX0) hx hb hts i_X0_takeOver_0 hown hC.1 Z (o := b1) (ci := 0) (wx_sbo hb1 99) (rfl : vwCl[0]? = some (RX0, TX0, 13)) 5 (by decide) (hts _ k_X0_takeOver_w9) (fun _ h9 => h9) (f := 0) rfl rfl dX0_takeOver_67 ?_
  refine lv_iconst (v := 0) hx hb dX0_takeOver_70 (by decide) ?_
  refine lv_aload_n hx hb dX0_takeOver_71 rfl (lv_at hl 0 rfl) ?_
  refine wx_get (own := RX0) hx hb hts i_X0_takeOver_0 hown hC.1 Z (o := o) (ci := 0) (wx_sbo ho 99) (rfl : vwCl[0]? = some (RX0, TX0, 13)) 5 (by decide) (hts _ k_X0_takeOver_w9) (fun _ h9 => h9) (f := 0) rfl rfl dX0_takeOver_72 ?_
  refine lv_iconst (v := 0) hx hb dX0_takeOver_75 (by decide) ?_
  refine lv_iconst (v := 3) hx hb dX0_takeOver_76 (by decide) ?_
  obtain ⟨σ77, e77, h⟩ := wx_l_ok h
  refine wx_copyi (own := RX0) hx hb (hml.trans hl.1.symm) hown (hts _ k_X0_takeOver_w1) (hts _ k_X0_takeOver_w2) (hts _ k_X0_takeOver_w3) (hts _ k_X0_takeOver_w4) hC.1 Z hS (o := b1) (k := 5) (n := 3) (o' := o) (k' := 5) (n' := 3) (wx_sbo hb1 5) (wx_sbo ho 5) rfl rfl (by decide) (by decide) (by decide) (by decide) (by decide) (Nat.le_of_ble_eq_true rfl) (Nat.le_of_ble_eq_true rfl) dX0_takeOver_77 e77 (fun H locs Z hS => ?_)
  refine lv_aload_n hx hb dX0_takeOver_80 rfl (lv_at hl 0 rfl) ?_
  refine lv_aload_n hx hb dX0_takeOver_81 rfl (lv_at hl 1 rfl) ?_
  refine wx_get (own := RX0) hx hb hts i_X0_takeOver_0 hown hC.1 Z (o := b1) (ci := 0) (wx_sbo hb1 99) (rfl : vwCl[0]? = some (RX0, TX0, 13)) 6 (by decide) (hts _ k_X0_takeOver_w10) (fun _ h9 => h9) (f := 1) rfl rfl dX0_takeOver_82 ?_
  obtain ⟨σ85, e85, h⟩ := wx_l_ok h
  refine wx_put (own := RX0) hx hb hts i_X0_takeOver_0 tyX0 tyX0_ok nmX0 hown hC.1 Z hS (o := o) (ci := 0) (wx_sbo ho 99) (rfl : vwCl[0]? = some (RX0, TX0, 13)) 6 (by decide) (hts _ k_X0_takeOver_w10) (fun _ h9 => h9) rfl (by decide +kernel) rfl dX0_takeOver_85 e85 (fun H locs Z hS => ?_)
  refine lv_aload_n hx hb dX0_takeOver_88 rfl (lv_at hl 1 rfl) ?_
  refine wx_get (own := RX0) hx hb hts i_X0_takeOver_0 hown hC.1 Z (o := b1) (ci := 0) (wx_sbo hb1 99) (rfl : vwCl[0]? = some (RX0, TX0, 13)) 7 (by decide) (hts _ k_X0_takeOver_w11) (fun _ h9 => h9) (f := 0) rfl rfl dX0_takeOver_89 ?_
  refine lv_iconst (v := 0) hx hb dX0_takeOver_92 (by decide) ?_
  refine lv_aload_n hx hb dX0_takeOver_93 rfl (lv_at hl 0 rfl) ?_
  refine wx_get (own := RX0) hx hb hts i_X0_takeOver_0 hown hC.1 Z (o := o) (ci := 0) (wx_sbo ho 99) (rfl : vwCl[0]? = some (RX0, TX0, 13)) 7 (by decide) (hts _ k_X0_takeOver_w11) (fun _ h9 => h9) (f := 0) rfl rfl dX0_takeOver_94 ?_
  refine lv_iconst (v := 0) hx hb dX0_takeOver_97 (by decide) ?_
  refine lv_bipush (v := 64) hx hb dX0_takeOver_98 (by decide) ?_
  obtain ⟨σ100, e100, h⟩ := wx_l_ok h
  refine wx_copyf (own := RX0) hx hb (hml.trans hl.1.symm) hown (hts _ k_X0_takeOver_w1) (hts _ k_X0_takeOver_w2) (hts _ k_X0_takeOver_w3) (hts _ k_X0_takeOver_w4) hC.1 Z hS (o := b1) (k := 7) (n := 64) (o' := o) (k' := 7) (n' := 64) (wx_sbo hb1 7) (wx_sbo ho 7) rfl rfl (by decide) (by decide) (by decide) (by decide) (by decide) (Nat.le_of_ble_eq_true rfl) (Nat.le_of_ble_eq_true rfl) dX0_takeOver_100 e100 (fun H locs Z hS => ?_)
  refine lv_aload_n hx hb dX0_takeOver_103 rfl (lv_at hl 0 rfl) ?_
  refine lv_aload_n hx hb dX0_takeOver_104 rfl (lv_at hl 1 rfl) ?_
  refine wx_get (own := RX0) hx hb hts i_X0_takeOver_0 hown hC.1 Z (o := b1) (ci := 0) (wx_sbo hb1 99) (rfl : vwCl[0]? = some (RX0, TX0, 13)) 9 (by decide) (hts _ k_X0_takeOver_w12) (fun _ h9 => h9) (f := 1) rfl rfl dX0_takeOver_105 ?_
  obtain ⟨σ108, e108, h⟩ := wx_l_ok h
  refine wx_put (own := RX0) hx hb hts i_X0_takeOver_0 tyX0 tyX0_ok nmX0 hown hC.1 Z hS (o := o) (ci := 0) (wx_sbo ho 99) (rfl : vwCl[0]? = some (RX0, TX0, 13)) 9 (by decide) (hts _ k_X0_takeOver_w12) (fun _ h9 => h9) rfl (by decide +kernel) rfl dX0_takeOver_108 e108 (fun H locs Z hS => ?_)
  refine lv_aload_n hx hb dX0_takeOver_111 rfl (lv_at hl 1 rfl) ?_
  refine wx_get (own := RX0) hx hb hts i_X0_takeOver_0 hown hC.1 Z (o := b1) (ci := 0) (wx_sbo hb1 99) (rfl : vwCl[0]? = some (RX0, TX0, 13)) 10 (by decide) (hts _ k_X0_takeOver_w13) (fun _ h9 => h9) (f := 0) rfl rfl dX0_takeOver_112 ?_
  refine lv_iconst (v := 0) hx hb dX0_takeOver_115 (by decide) ?_
  refine lv_aload_n hx hb dX0_takeOver_116 rfl (lv_at hl 0 rfl) ?_
  refine wx_get (own := RX0) hx hb hts i_X0_takeOver_0 hown hC.1 Z (o := o) (ci := 0) (wx_sbo ho 99) (rfl : vwCl[0]? = some (RX0, TX0, 13)) 10 (by decide) (hts _ k_X0_takeOver_w13) (fun _ h9 => h9) (f := 0) rfl rfl dX0_takeOver_117 ?_
  refine lv_iconst (v := 0) hx hb dX0_takeOver_120 (by decide) ?_
  refine lv_bipush (v := 8) hx hb dX0_takeOver_121 (by decide) ?_
  obtain ⟨σ123, e123, h⟩ := wx_l_ok h
  refine wx_copyi (own := RX0) hx hb (hml.trans hl.1.symm) hown (hts _ k_X0_takeOver_w1) (hts _ k_X0_takeOver_w2) (hts _ k_X0_takeOver_w3) (hts _ k_X0_takeOver_w4) hC.1 Z hS (o := b1) (k := 10) (n := 8) (o' := o) (k' := 10) (n' := 8) (wx_sbo hb1 10) (wx_sbo ho 10) rfl rfl (by decide) (by decide) (by decide) (by decide) (by decide) (Nat.le_of_ble_eq_true rfl) (Nat.le_of_ble_eq_true rfl) dX0_takeOver_123 e123 (fun H locs Z hS => ?_)
  refine lv_aload_n hx hb dX0_takeOver_126 rfl (lv_at hl 1 rfl) ?_
  refine wx_get (own := RX0) hx hb hts i_X0_takeOver_0 hown hC.1 Z (o := b1) (ci := 0) (wx_sbo hb1 99) (rfl : vwCl[0]? = some (RX0, TX0, 13)) 11 (by decide) (hts _ k_X0_takeOver_w14) (fun _ h9 => h9) (f := 0) rfl rfl dX0_takeOver_127 ?_
  refine lv_iconst (v := 0) hx hb dX0_takeOver_130 (by decide) ?_
  refine lv_aload_n hx hb dX0_takeOver_131 rfl (lv_at hl 0 rfl) ?_
  refine wx_get (own := RX0) hx hb hts i_X0_takeOver_0 hown hC.1 Z (o := o) (ci := 0) (wx_sbo ho 99) (rfl : vwCl[0]? = some (RX0, TX0, 13)) 11 (by decide) (hts _ k_X0_takeOver_w14) (fun _ h9 => h9) (f := 0) rfl rfl dX0_takeOver_132 ?_
  refine lv_iconst (v := 0) hx hb dX0_takeOver_135 (by decide) ?_
  refine lv_bipush (v := 8) hx hb dX0_takeOver_136 (by decide) ?_
  obtain ⟨σ138, e138, h⟩ := wx_l_ok h
  refine wx_copyi (own := RX0) hx hb (hml.trans hl.1.symm) hown (hts _ k_X0_takeOver_w1) (hts _ k_X0_takeOver_w2) (hts _ k_X0_takeOver_w3) (hts _ k_X0_takeOver_w4) hC.1 Z hS (o := b1) (k := 11) (n := 8) (o' := o) (k' := 11) (n' := 8) (wx_sbo hb1 11) (wx_sbo ho 11) rfl rfl (by decide) (by decide) (by decide) (by decide) (by decide) (Nat.le_of_ble_eq_true rfl) (Nat.le_of_ble_eq_true rfl) dX0_takeOver_138 e138 (fun H locs Z hS => ?_)
  refine lv_aload_n hx hb dX0_takeOver_141 rfl (lv_at hl 1 rfl) ?_
  refine wx_get (own := RX0) hx hb hts i_X0_takeOver_0 hown hC.1 Z (o := b1) (ci := 0) (wx_sbo hb1 99) (rfl : vwCl[0]? = some (RX0, TX0, 13)) 12 (by decide) (hts _ k_X0_takeOver_w15) (fun _ h9 => h9) (f := 0) rfl rfl dX0_takeOver_142 ?_
  refine lv_iconst (v := 0) hx hb dX0_takeOver_145 (by decide) ?_
  refine lv_aload_n hx hb dX0_takeOver_146 rfl (lv_at hl 0 rfl) ?_
  refine wx_get (own := RX0) hx hb hts i_X0_takeOver_0 hown hC.1 Z (o := o) (ci := 0) (wx_sbo ho 99) (rfl : vwCl[0]? = some (RX0, TX0, 13)) 12 (by decide) (hts _ k_X0_takeOver_w15) (fun _ h9 => h9) (f := 0) rfl rfl dX0_takeOver_147 ?_
  refine lv_iconst (v := 0) hx hb dX0_takeOver_150 (by decide) ?_
  refine lv_bipush (v := 8) hx hb dX0_takeOver_151 (by decide) ?_
  obtain ⟨σ153, e153, h⟩ := wx_l_ok h
  refine wx_copyi (own := RX0) hx hb (hml.trans hl.1.symm) hown (hts _ k_X0_takeOver_w1) (hts _ k_X0_takeOver_w2) (hts _ k_X0_takeOver_w3) (hts _ k_X0_takeOver_w4) hC.1 Z hS (o := b1) (k := 12) (n := 8) (o' := o) (k' := 12) (n' := 8) (wx_sbo hb1 12) (wx_sbo ho 12) rfl rfl (by decide) (by decide) (by decide) (by decide) (by decide) (Nat.le_of_ble_eq_true rfl) (Nat.le_of_ble_eq_true rfl) dX0_takeOver_153 e153 (fun H locs Z hS => ?_)
  obtain ⟨-, rfl⟩ := wx_ret_ok h
  exact W.vret hx hb hr (fun t ht hW => ⟨rfl, by rw [ht]; exact Z, hS.F ht⟩) hS.2.2 dX0_takeOver_156
set_option maxRecDepth 20000 in
theorem c_X0_takeOver (l : Launch) {D : va_G} {ad : Nat → Nat → Nat} {rd : Nat → Nat} {ca : Nat → ClassId} {A : Nat → Prop} {σ : wx_St} {o : Nat} {b1 : Nat}  (ho : o < 11) (hb1 : b1 < 11)   {σ' : wx_St} (h : f_X0_takeOver o b1 σ = some ((), σ')) : wx_M l yX0_takeOver wsX0_takeOver 1 26 D ad rd ca A [.ref (ad o 99), .ref (ad b1 99)] σ none σ' := by
  refine Met.ofW (cc := cX0_takeOver) (maxL := 2) (ret := none) (by decide) rfl ?_
  intro p e s m args below meth c s₁ B0 hml hv
  obtain ⟨rfl, hC, Z, hA⟩ := hv
  have hl := lv_entry ([.ref (ad o 99), .ref (ad b1 99)]) (n := 2) (Nat.le_of_ble_eq_true rfl)
  rw [lg_entry_eq]
  generalize (lg_sl ([.ref (ad o 99), .ref (ad b1 99)]) ++ List.replicate (2 - (lg_sl ([.ref (ad o 99), .ref (ad b1 99)])).length) Slot.unset).toArray = ls at hl ⊢
  exact b_X0_takeOver_0 ⟨B0.exec, B0.bytes, hml, B0.returns, atoms_spec (ws := wsX0_takeOver) B0.pre, findClass_of_methodNamed B0.named, B0.notSynchronized, hC, hA⟩ ho hb1 h Z va_S.rf hl
theorem i_X3_prepare_3 : ∀ w ∈ wsX30, w ∈ wsX3_prepare := by decide +kernel
theorem k_X3_prepare_w0 : Cond.fieldLink RX3 11 "WarmProbes$Past" "states" "[LWarmProbes$Board;" ∈ wsX3_prepare := by decide +kernel
theorem k_X3_prepare_w1 : Cond.fieldLink RX3 17 "WarmProbes$Past" "size" "I" ∈ wsX3_prepare := by decide +kernel
theorem k_X3_prepare_w2 : Cond.initialized RX0 ∈ wsX3_prepare := by decide +kernel
theorem k_X3_prepare_w3 : Cond.instanceMethod yX0_takeOver ∈ wsX3_prepare := by decide +kernel
theorem k_X3_prepare_w4 : Cond.selects RX0 yX0_takeOver yX0_takeOver ∈ wsX3_prepare := by decide +kernel
set_option maxRecDepth 20000 in
set_option maxHeartbeats 4000000 in
theorem b_X3_prepare_0 (B : wx_B p s m args meth c cX3_prepare 2 none wsX3_prepare RX3 D ad ca A) {b1 : Nat}  (hb1 : b1 < 11)  {σ' : wx_St}    {σ : wx_St} (h : f_X3_prepare b1 σ = some ((), σ')) {H : Heap} {locs : List Loc} (Z : wx_Z D ad rd ca A σ H) (hS : va_S A s.heap H locs) {ls : Array Slot} (hl : lv_has ls 2 [(0, .ref (ad 14 99)), (1, .ref (ad b1 99))]) : W p l e ({ frames := 2, cells := 0, slots := 0, locals := 47 } : Room) s m args below meth c H locs 0 0 (MQ below (wx_Q D ad rd ca A none σ') args s 0 0 A) (F0 m 0 ls []) := by
  obtain ⟨hx, hb, hml, hr, hts, hown, hlk, hC, hA⟩ := id B
  unfold f_X3_prepare at h
  refine lv_aload_n hx hb dX3_prepare_0 rfl (lv_at hl 0 rfl) ?_
  refine wx_get (own := RX3) hx hb hts i_X3_prepare_3 hown hC.1 Z (o := 14) (ci := 3) rfl (rfl : vwCl[3]? = some (RX3, TX3, 2)) 0 (by decide) (hts _ k_X3_prepare_w0) (fun _ h9 => h9) (f := 0) rfl rfl dX3_prepare_1 ?_
  refine lv_aload_n hx hb dX3_prepare_4 rfl (lv_at hl 0 rfl) ?_
  refine wx_get (own := RX3) hx hb hts i_X3_prepare_3 hown hC.1 Z (o := 14) (ci := 3) rfl (rfl : vwCl[3]? = some (RX3, TX3, 2)) 1 (by decide) (hts _ k_X3_prepare_w1) (fun _ h9 => h9) (f := 1) rfl rfl dX3_prepare_5 ?_
  obtain ⟨z8, ez8, hz8, iz8, h⟩ := wx_rR_ok h
  refine wx_bald hx hb hC.1 Z (o := 14) (k := 0) (n := 7) rfl rfl iz8 dX3_prepare_8 ez8 ?_
  refine lv_aload_n hx hb dX3_prepare_9 rfl (lv_at hl 1 rfl) ?_
  obtain ⟨v10, σ10, hc10, h⟩ := wx_b_ok h
  refine wx_call (va_runVN (As := [.ref (ad b1 99)]) (rest := []) ⟨hx, hb, hml, hown, hts⟩ (c_X0_takeOver l (D := D) (ad := ad) (rd := rd) (ca := ca) (A := A) (σ := σ) (o := z8) (b1 := b1) hz8 hb1 hc10) ⟨va_cnB 1 hts gX3_prepare_X0_takeOver_n22 rfl rfl rfl (hC.1.2 _ (List.mem_of_getElem? (i := 28) rfl)) (hts _ k_X3_prepare_w2) (by decide +kernel) ⟨Nat.le_of_ble_eq_true rfl, Nat.le_of_ble_eq_true rfl⟩, hts _ k_X3_prepare_w3, hts _ k_X3_prepare_w4⟩ (wx_preV hC Z hS hA (wx_sbo hz8 99) (rfl : vwCl[0]? = some (RX0, TX0, 13))) rfl rfl hl.1 rfl (lv_room (Nat.le_of_ble_eq_true rfl)) dX3_prepare_10 ⟨Nat.zero_le _, Nat.zero_le _⟩) hS (fun H locs Z hS => ?_)
  obtain ⟨-, rfl⟩ := wx_ret_ok h
  exact W.vret hx hb hr (fun t ht hW => ⟨rfl, by rw [ht]; exact Z, hS.F ht⟩) hS.2.2 dX3_prepare_13
set_option maxRecDepth 20000 in
theorem c_X3_prepare (l : Launch) {D : va_G} {ad : Nat → Nat → Nat} {rd : Nat → Nat} {ca : Nat → ClassId} {A : Nat → Prop} {σ : wx_St} {b1 : Nat}  (hb1 : b1 < 11)   {σ' : wx_St} (h : f_X3_prepare b1 σ = some ((), σ')) : wx_M l yX3_prepare wsX3_prepare 2 47 D ad rd ca A [.ref (ad 14 99), .ref (ad b1 99)] σ none σ' := by
  refine Met.ofW (cc := cX3_prepare) (maxL := 2) (ret := none) (by decide) rfl ?_
  intro p e s m args below meth c s₁ B0 hml hv
  obtain ⟨rfl, hC, Z, hA⟩ := hv
  have hl := lv_entry ([.ref (ad 14 99), .ref (ad b1 99)]) (n := 2) (Nat.le_of_ble_eq_true rfl)
  rw [lg_entry_eq]
  generalize (lg_sl ([.ref (ad 14 99), .ref (ad b1 99)]) ++ List.replicate (2 - (lg_sl ([.ref (ad 14 99), .ref (ad b1 99)])).length) Slot.unset).toArray = ls at hl ⊢
  exact b_X3_prepare_0 ⟨B0.exec, B0.bytes, hml, B0.returns, atoms_spec (ws := wsX3_prepare) B0.pre, findClass_of_methodNamed B0.named, B0.notSynchronized, hC, hA⟩ hb1 h Z va_S.rf hl
set_option maxRecDepth 20000 in
set_option maxHeartbeats 4000000 in
theorem b_X2_ordersIn_21 (B : wx_B p s m args meth c cX2_ordersIn 3 (some .int) wsX2_ordersIn RX2 D ad ca A)    {r : Int32} {σ : wx_St}  {x1 : Int32} {x2 : Int32} {y0 : Int32}   (h : f_X2_ordersIn_21 x1 x2 y0 σ = some r) {H : Heap} {locs : List Loc} (Z : wx_Z D ad rd ca A σ H) (hS : va_S A s.heap H locs) {ls : Array Slot} (hl : lv_has ls 3 [(0, .ref (ad 15 99)), (1, .int x1), (2, .int x2)]) : W p l e ({ frames := 1, cells := 0, slots := 0, locals := 21 } : Room) s m args below meth c H locs 0 0 (MQ below (wx_Q D ad rd ca A (some (.int r)) σ) args s 0 0 A) (F0 m 21 ls [.int y0]) := by
  obtain ⟨hx, hb, hml, hr, hts, hown, hlk, hC, hA⟩ := id B
  unfold f_X2_ordersIn_21 at h
  obtain rfl := Option.some.inj h
  exact W.iret hx hb hr (fun t ht hW => ⟨rfl, by rw [ht]; exact Z, hS.F ht⟩) hS.2.2 dX2_ordersIn_21
set_option maxRecDepth 20000 in
set_option maxHeartbeats 4000000 in
theorem b_X2_ordersIn_0 (B : wx_B p s m args meth c cX2_ordersIn 3 (some .int) wsX2_ordersIn RX2 D ad ca A)    {r : Int32} {σ : wx_St}  {x1 : Int32} {x2 : Int32}   (h : f_X2_ordersIn x1 x2 σ = some r) {H : Heap} {locs : List Loc} (Z : wx_Z D ad rd ca A σ H) (hS : va_S A s.heap H locs) {ls : Array Slot} (hl : lv_has ls 3 [(0, .ref (ad 15 99)), (1, .int x1), (2, .int x2)]) : W p l e ({ frames := 1, cells := 0, slots := 0, locals := 21 } : Room) s m args below meth c H locs 0 0 (MQ below (wx_Q D ad rd ca A (some (.int r)) σ) args s 0 0 A) (F0 m 0 ls []) := by
  obtain ⟨hx, hb, hml, hr, hts, hown, hlk, hC, hA⟩ := id B
  unfold f_X2_ordersIn at h
  refine lv_aload_n hx hb dX2_ordersIn_0 rfl (lv_at hl 0 rfl) ?_
  refine lv_iload_n hx hb dX2_ordersIn_1 rfl (lv_at hl 1 rfl) ?_
  obtain ⟨v2, hc2, h⟩ := wx_o_ok h
  refine wx_call (va_runV (As := [.int x1]) (rest := []) ⟨hx, hb, hml, hown, hts⟩ (c_X2_codeAt l (D := D) (ad := ad) (rd := rd) (ca := ca) (A := A) (σ := σ) hc2) (cwV 1 hts gX2_ordersIn_X2_codeAt rfl rfl rfl (by decide +kernel) ⟨Nat.le_of_ble_eq_true rfl, Nat.le_of_ble_eq_true rfl⟩) (wx_preV hC Z hS hA rfl (rfl : vwCl[2]? = some (RX2, TX2, 2))) rfl rfl hl.1 rfl (lv_room (Nat.le_of_ble_eq_true rfl)) dX2_ordersIn_2 ⟨Nat.zero_le _, Nat.zero_le _⟩) hS (fun H locs Z hS => ?_)
  refine lv_bipush (v := 116) hx hb dX2_ordersIn_5 (by decide) ?_
  refine lv_icmp_ne (tgt := 20) hx hb dX2_ordersIn_7 (by decide) (fun c7 => ?_) (fun c7 => ?_)
  · replace h := wx_iff c7 h
    refine lv_iconst (v := 1) hx hb dX2_ordersIn_20 (by decide) ?_
    exact b_X2_ordersIn_21 B h Z hS (lv_sub hl [0, 1, 2] rfl)
  · replace h := wx_ift c7 h
    refine lv_iload_n hx hb dX2_ordersIn_10 rfl (lv_at hl 2 rfl) ?_
    refine lv_iload_n hx hb dX2_ordersIn_11 rfl (lv_at hl 1 rfl) ?_
    refine lv_isub hx hb dX2_ordersIn_12 ?_
    refine lv_iconst (v := 2) hx hb dX2_ordersIn_13 (by decide) ?_
    refine lv_isub hx hb dX2_ordersIn_14 ?_
    refine lv_iconst (v := 2) hx hb dX2_ordersIn_15 (by decide) ?_
    refine lv_idiv hx hb dX2_ordersIn_16 (by decide) ?_
    refine lv_goto (tgt := 21) hx hb dX2_ordersIn_17 (by decide) ?_
    exact b_X2_ordersIn_21 B h Z hS (lv_sub hl [0, 1, 2] rfl)
set_option maxRecDepth 20000 in
theorem c_X2_ordersIn (l : Launch) {D : va_G} {ad : Nat → Nat → Nat} {rd : Nat → Nat} {ca : Nat → ClassId} {A : Nat → Prop} {σ : wx_St}    {x1 : Int32} {x2 : Int32} {r : Int32} (h : f_X2_ordersIn x1 x2 σ = some r) : wx_M l yX2_ordersIn wsX2_ordersIn 1 21 D ad rd ca A [.ref (ad 15 99), .int x1, .int x2] σ (some (.int r)) σ := by
  refine Met.ofW (cc := cX2_ordersIn) (maxL := 3) (ret := (some .int)) (by decide) rfl ?_
  intro p e s m args below meth c s₁ B0 hml hv
  obtain ⟨rfl, hC, Z, hA⟩ := hv
  have hl := lv_entry ([.ref (ad 15 99), .int x1, .int x2]) (n := 3) (Nat.le_of_ble_eq_true rfl)
  rw [lg_entry_eq]
  generalize (lg_sl ([.ref (ad 15 99), .int x1, .int x2]) ++ List.replicate (3 - (lg_sl ([.ref (ad 15 99), .int x1, .int x2])).length) Slot.unset).toArray = ls at hl ⊢
  exact b_X2_ordersIn_0 ⟨B0.exec, B0.bytes, hml, B0.returns, atoms_spec (ws := wsX2_ordersIn) B0.pre, findClass_of_methodNamed B0.named, B0.notSynchronized, hC, hA⟩  h Z va_S.rf hl
theorem i_X5_carriedOut_2 : ∀ w ∈ wsX20, w ∈ wsX5_carriedOut := by decide +kernel
theorem i_X5_carriedOut_5 : ∀ w ∈ wsX50, w ∈ wsX5_carriedOut := by decide +kernel
theorem k_X5_carriedOut_w0 : Cond.fieldLink RX5 36 "WarmProbes" "pad" "LWarmProbes$Pad;" ∈ wsX5_carriedOut := by decide +kernel
theorem k_X5_carriedOut_w1 : Cond.initialized RX2 ∈ wsX5_carriedOut := by decide +kernel
theorem k_X5_carriedOut_w2 : Cond.instanceMethod yX2_endOfOrder ∈ wsX5_carriedOut := by decide +kernel
theorem k_X5_carriedOut_w3 : Cond.selects RX2 yX2_endOfOrder yX2_endOfOrder ∈ wsX5_carriedOut := by decide +kernel
theorem k_X5_carriedOut_w4 : Cond.instanceMethod yX2_ordersIn ∈ wsX5_carriedOut := by decide +kernel
theorem k_X5_carriedOut_w5 : Cond.selects RX2 yX2_ordersIn yX2_ordersIn ∈ wsX5_carriedOut := by decide +kernel
set_option maxRecDepth 20000 in
set_option maxHeartbeats 4000000 in
theorem b_X5_carriedOut_48 (B : wx_B p s m args meth c cX5_carriedOut 7 (some .int) wsX5_carriedOut RX5 D ad ca A)    {r : Int32} {σ' : wx_St} {K6 : Int32 → Int32 → Int32 → wx_St → Option (Int32 × wx_St)} (hK6 : ∀ {x1 : Int32} {x2 : Int32} {x3 : Int32}  {σ : wx_St} (h : K6 x1 x2 x3 σ = some (r, σ')) {H : Heap} {locs : List Loc} (Z : wx_Z D ad rd ca A σ H) (hS : va_S A s.heap H locs) {ls : Array Slot} (hl : lv_has ls 7 [(0, .ref (ad 11 99)), (1, .int x1), (2, .int x2), (3, .int x3)]), W p l e ({ frames := 7, cells := 0, slots := 0, locals := 154 } : Room) s m args below meth c H locs 0 0 (MQ below (wx_Q D ad rd ca A (some (.int r)) σ') args s 0 0 A) (F0 m 6 ls []))  :
    ∀ {n : Nat} {x1 : Int32} {x2 : Int32} {x3 : Int32} {x4 : Int32} {x5 : Int32} {x6 : Int32}  {σ : wx_St} (h : f_X5_carriedOut_48 K6 n x1 x2 x3 x4 x5 x6 σ = some (r, σ')) {H : Heap} {locs : List Loc} (Z : wx_Z D ad rd ca A σ H) (hS : va_S A s.heap H locs) {ls : Array Slot} (hl : lv_has ls 7 [(0, .ref (ad 11 99)), (1, .int x1), (2, .int x2), (3, .int x3), (4, .int x4), (5, .int x5), (6, .int x6)]), W p l e ({ frames := 7, cells := 0, slots := 0, locals := 154 } : Room) s m args below meth c H locs 0 0 (MQ below (wx_Q D ad rd ca A (some (.int r)) σ') args s 0 0 A) (F0 m 48 ls []) := by
  obtain ⟨hx, hb, hml, hr, hts, hown, hlk, hC, hA⟩ := id B
  intro n
  induction n with
  | zero => intro x1 x2 x3 x4 x5 x6  σ h H locs Z hS ls hl; exact wx_no h
  | succ n ih =>
    intro x1 x2 x3 x4 x5 x6  σ h H locs Z hS ls hl
    rw [f_X5_carriedOut_48] at h
    refine lv_iload hx hb dX5_carriedOut_48 (lv_at hl 6 rfl) ?_
    refine lv_iload hx hb dX5_carriedOut_50 (lv_at hl 5 rfl) ?_
    refine lv_icmp_ge (tgt := 78) hx hb dX5_carriedOut_52 (by decide) (fun c52 => ?_) (fun c52 => ?_)
    · replace h := wx_ift c52 h
      refine lv_iload hx hb dX5_carriedOut_78 (lv_at hl 4 rfl) ?_
      refine lv_iconst (v := 1) hx hb dX5_carriedOut_80 (by decide) ?_
      refine lv_iadd hx hb dX5_carriedOut_81 ?_
      refine lv_istore_n (lv' := [(2, .int (x4 + 1)), (0, .ref (ad 11 99)), (1, .int x1), (3, .int x3), (4, .int x4), (5, .int x5), (6, .int x6)]) hx hb dX5_carriedOut_82 rfl hl (by decide) rfl (fun ls hl => ?_)
      refine lv_iinc (v := x3 + 1) (lv' := [(3, .int (x3 + 1)), (2, .int (x4 + 1)), (0, .ref (ad 11 99)), (1, .int x1), (4, .int x4), (5, .int x5), (6, .int x6)]) hx hb dX5_carriedOut_83 hl (k := 3) rfl rfl (by decide) rfl (fun ls hl => ?_)
      refine lv_goto (tgt := 6) hx hb dX5_carriedOut_86 (by decide) ?_
      exact hK6 h Z hS (lv_sub hl [2, 3, 1, 0] rfl)
    · replace h := wx_iff c52 h
      refine lv_aload_n hx hb dX5_carriedOut_55 rfl (lv_at hl 0 rfl) ?_
      refine lv_iload_n hx hb dX5_carriedOut_56 rfl (lv_at hl 2 rfl) ?_
      refine lv_iload hx hb dX5_carriedOut_57 (lv_at hl 4 rfl) ?_
      refine lv_iload hx hb dX5_carriedOut_59 (lv_at hl 6 rfl) ?_
      obtain ⟨v61, σ61, hc61, h⟩ := wx_b_ok h
      refine wx_call (va_runV (As := [.int x2, .int x4, .int x6]) (rest := []) ⟨hx, hb, hml, hown, hts⟩ (c_X5_answerOf l (D := D) (ad := ad) (rd := rd) (ca := ca) (A := A) (σ := σ) hc61) (cwV 3 hts gX5_carriedOut_X5_answerOf rfl rfl rfl (by decide +kernel) ⟨Nat.le_of_ble_eq_true rfl, Nat.le_of_ble_eq_true rfl⟩) (wx_preV hC Z hS hA rfl (rfl : vwCl[5]? = some (RX5, TX5, 7))) rfl rfl hl.1 rfl (lv_room (Nat.le_of_ble_eq_true rfl)) dX5_carriedOut_61 ⟨Nat.zero_le _, Nat.zero_le _⟩) hS (fun H locs Z hS => ?_)
      refine lv_if_ge (tgt := 69) hx hb dX5_carriedOut_64 (by decide) (fun c64 => ?_) (fun c64 => ?_)
      · replace h := wx_ift c64 h
        refine lv_iinc (v := x1 + 1) (lv' := [(1, .int (x1 + 1)), (0, .ref (ad 11 99)), (2, .int x2), (3, .int x3), (4, .int x4), (5, .int x5), (6, .int x6)]) hx hb dX5_carriedOut_69 hl (k := 1) rfl rfl (by decide) rfl (fun ls hl => ?_)
        refine lv_iinc (v := x6 + 1) (lv' := [(6, .int (x6 + 1)), (1, .int (x1 + 1)), (0, .ref (ad 11 99)), (2, .int x2), (3, .int x3), (4, .int x4), (5, .int x5)]) hx hb dX5_carriedOut_72 hl (k := 6) rfl rfl (by decide) rfl (fun ls hl => ?_)
        refine lv_goto (tgt := 48) hx hb dX5_carriedOut_75 (by decide) ?_
        exact ih h Z hS (lv_sub hl [2, 1, 3, 4, 5, 6, 0] rfl)
      · replace h := wx_iff c64 h
        refine lv_iload_n hx hb dX5_carriedOut_67 rfl (lv_at hl 1 rfl) ?_
        obtain ⟨rfl, rfl⟩ := wx_ret_ok h
        exact W.iret hx hb hr (fun t ht hW => ⟨rfl, by rw [ht]; exact Z, hS.F ht⟩) hS.2.2 dX5_carriedOut_68
set_option maxRecDepth 20000 in
set_option maxHeartbeats 4000000 in
theorem b_X5_carriedOut_89 (B : wx_B p s m args meth c cX5_carriedOut 7 (some .int) wsX5_carriedOut RX5 D ad ca A)    {r : Int32} {σ' : wx_St}  {x1 : Int32} {x2 : Int32} {x3 : Int32}  {σ : wx_St} (h : f_X5_carriedOut_89 x1 x2 x3 σ = some (r, σ')) {H : Heap} {locs : List Loc} (Z : wx_Z D ad rd ca A σ H) (hS : va_S A s.heap H locs) {ls : Array Slot} (hl : lv_has ls 7 [(0, .ref (ad 11 99)), (1, .int x1), (2, .int x2), (3, .int x3)]) : W p l e ({ frames := 7, cells := 0, slots := 0, locals := 154 } : Room) s m args below meth c H locs 0 0 (MQ below (wx_Q D ad rd ca A (some (.int r)) σ') args s 0 0 A) (F0 m 89 ls []) := by
  obtain ⟨hx, hb, hml, hr, hts, hown, hlk, hC, hA⟩ := id B
  unfold f_X5_carriedOut_89 at h
  refine lv_iload_n hx hb dX5_carriedOut_89 rfl (lv_at hl 1 rfl) ?_
  obtain ⟨rfl, rfl⟩ := wx_ret_ok h
  exact W.iret hx hb hr (fun t ht hW => ⟨rfl, by rw [ht]; exact Z, hS.F ht⟩) hS.2.2 dX5_carriedOut_90
set_option maxRecDepth 20000 in
set_option maxHeartbeats 4000000 in
theorem b_X5_carriedOut_6 (B : wx_B p s m args meth c cX5_carriedOut 7 (some .int) wsX5_carriedOut RX5 D ad ca A)    {r : Int32} {σ' : wx_St}   :
    ∀ {n : Nat} {x1 : Int32} {x2 : Int32} {x3 : Int32}  {σ : wx_St} (h : f_X5_carriedOut_6 n x1 x2 x3 σ = some (r, σ')) {H : Heap} {locs : List Loc} (Z : wx_Z D ad rd ca A σ H) (hS : va_S A s.heap H locs) {ls : Array Slot} (hl : lv_has ls 7 [(0, .ref (ad 11 99)), (1, .int x1), (2, .int x2), (3, .int x3)]), W p l e ({ frames := 7, cells := 0, slots := 0, locals := 154 } : Room) s m args below meth c H locs 0 0 (MQ below (wx_Q D ad rd ca A (some (.int r)) σ') args s 0 0 A) (F0 m 6 ls []) := by
  obtain ⟨hx, hb, hml, hr, hts, hown, hlk, hC, hA⟩ := id B
  intro n
  induction n with
  | zero => intro x1 x2 x3  σ h H locs Z hS ls hl; exact wx_no h
  | succ n ih =>
    intro x1 x2 x3  σ h H locs Z hS ls hl
    rw [f_X5_carriedOut_6] at h
    refine lv_iload_n hx hb dX5_carriedOut_6 rfl (lv_at hl 3 rfl) ?_
    refine lv_bipush (v := 80) hx hb dX5_carriedOut_7 (by decide) ?_
    refine lv_icmp_ge (tgt := 89) hx hb dX5_carriedOut_9 (by decide) (fun c9 => ?_) (fun c9 => ?_)
    · replace h := wx_ift c9 h
      exact b_X5_carriedOut_89 B h Z hS (lv_sub hl [0, 1, 2, 3] rfl)
    · replace h := wx_iff c9 h
      refine lv_iload_n hx hb dX5_carriedOut_12 rfl (lv_at hl 2 rfl) ?_
      refine lv_aload_n hx hb dX5_carriedOut_13 rfl (lv_at hl 0 rfl) ?_
      refine wx_get (own := RX5) hx hb hts i_X5_carriedOut_5 hown hC.1 Z (o := 11) (ci := 5) rfl (rfl : vwCl[5]? = some (RX5, TX5, 7)) 4 (by decide) (hts _ k_X5_carriedOut_w0) (fun _ h9 => h9) (f := 115) rfl rfl dX5_carriedOut_14 ?_
      refine wx_getN (own := RX5) hx hb hts i_X5_carriedOut_2 hown hC.1 Z (o := 15) (ci := 2) rfl (rfl : vwCl[2]? = some (RX2, TX2, 2)) 1 (by decide) (wx_nst hC 26 rfl rfl) (fun _ h9 => h9) (f := 1) rfl rfl dX5_carriedOut_17 ?_
      refine lv_icmp_ge (tgt := 89) hx hb dX5_carriedOut_20 (by decide) (fun c20 => ?_) (fun c20 => ?_)
      · replace h := wx_ift c20 h
        exact b_X5_carriedOut_89 B h Z hS (lv_sub hl [0, 1, 2, 3] rfl)
      · replace h := wx_iff c20 h
        refine lv_aload_n hx hb dX5_carriedOut_23 rfl (lv_at hl 0 rfl) ?_
        refine wx_get (own := RX5) hx hb hts i_X5_carriedOut_5 hown hC.1 Z (o := 11) (ci := 5) rfl (rfl : vwCl[5]? = some (RX5, TX5, 7)) 4 (by decide) (hts _ k_X5_carriedOut_w0) (fun _ h9 => h9) (f := 115) rfl rfl dX5_carriedOut_24 ?_
        refine lv_iload_n hx hb dX5_carriedOut_27 rfl (lv_at hl 2 rfl) ?_
        obtain ⟨v28, hc28, h⟩ := wx_o_ok h
        refine wx_call (va_runVN (As := [.int x2]) (rest := []) ⟨hx, hb, hml, hown, hts⟩ (c_X2_endOfOrder l (D := D) (ad := ad) (rd := rd) (ca := ca) (A := A) (σ := σ) hc28) ⟨va_cnB 1 hts gX5_carriedOut_X2_endOfOrder_n232 rfl rfl rfl (hC.1.2 _ (List.mem_of_getElem? (i := 73) rfl)) (hts _ k_X5_carriedOut_w1) (by decide +kernel) ⟨Nat.le_of_ble_eq_true rfl, Nat.le_of_ble_eq_true rfl⟩, hts _ k_X5_carriedOut_w2, hts _ k_X5_carriedOut_w3⟩ (wx_preV hC Z hS hA rfl (rfl : vwCl[2]? = some (RX2, TX2, 2))) rfl rfl hl.1 rfl (lv_room (Nat.le_of_ble_eq_true rfl)) dX5_carriedOut_28 ⟨Nat.zero_le _, Nat.zero_le _⟩) hS (fun H locs Z hS => ?_)
        refine lv_istore (lv' := [(4, .int v28), (0, .ref (ad 11 99)), (1, .int x1), (2, .int x2), (3, .int x3)]) hx hb dX5_carriedOut_31 hl (by decide) rfl (fun ls hl => ?_)
        refine lv_aload_n hx hb dX5_carriedOut_33 rfl (lv_at hl 1 rfl) ?_
        refine wx_get (own := RX5) hx hb hts i_X5_carriedOut_5 hown hC.1 Z (o := 11) (ci := 5) rfl (rfl : vwCl[5]? = some (RX5, TX5, 7)) 4 (by decide) (hts _ k_X5_carriedOut_w0) (fun _ h9 => h9) (f := 115) rfl rfl dX5_carriedOut_34 ?_
        refine lv_iload_n hx hb dX5_carriedOut_37 rfl (lv_at hl 3 rfl) ?_
        refine lv_iload hx hb dX5_carriedOut_38 (lv_at hl 0 rfl) ?_
        obtain ⟨v40, hc40, h⟩ := wx_o_ok h
        refine wx_call (va_runVN (As := [.int x2, .int v28]) (rest := []) ⟨hx, hb, hml, hown, hts⟩ (c_X2_ordersIn l (D := D) (ad := ad) (rd := rd) (ca := ca) (A := A) (σ := σ) hc40) ⟨va_cnB 2 hts gX5_carriedOut_X2_ordersIn_n235 rfl rfl rfl (hC.1.2 _ (List.mem_of_getElem? (i := 74) rfl)) (hts _ k_X5_carriedOut_w1) (by decide +kernel) ⟨Nat.le_of_ble_eq_true rfl, Nat.le_of_ble_eq_true rfl⟩, hts _ k_X5_carriedOut_w4, hts _ k_X5_carriedOut_w5⟩ (wx_preV hC Z hS hA rfl (rfl : vwCl[2]? = some (RX2, TX2, 2))) rfl rfl hl.1 rfl (lv_room (Nat.le_of_ble_eq_true rfl)) dX5_carriedOut_40 ⟨Nat.zero_le _, Nat.zero_le _⟩) hS (fun H locs Z hS => ?_)
        refine lv_istore (lv' := [(5, .int v40), (4, .int v28), (0, .ref (ad 11 99)), (1, .int x1), (2, .int x2), (3, .int x3)]) hx hb dX5_carriedOut_43 hl (by decide) rfl (fun ls hl => ?_)
        refine lv_iconst (v := 0) hx hb dX5_carriedOut_45 (by decide) ?_
        refine lv_istore (lv' := [(6, .int 0), (5, .int v40), (4, .int v28), (0, .ref (ad 11 99)), (1, .int x1), (2, .int x2), (3, .int x3)]) hx hb dX5_carriedOut_46 hl (by decide) rfl (fun ls hl => ?_)
        exact b_X5_carriedOut_48 B (K6 := (f_X5_carriedOut_6 n)) @ih h Z hS (lv_sub hl [3, 4, 5, 6, 2, 1, 0] rfl)
set_option maxRecDepth 20000 in
set_option maxHeartbeats 4000000 in
theorem b_X5_carriedOut_0 (B : wx_B p s m args meth c cX5_carriedOut 7 (some .int) wsX5_carriedOut RX5 D ad ca A)    {r : Int32} {σ' : wx_St}    {σ : wx_St} (h : f_X5_carriedOut σ = some (r, σ')) {H : Heap} {locs : List Loc} (Z : wx_Z D ad rd ca A σ H) (hS : va_S A s.heap H locs) {ls : Array Slot} (hl : lv_has ls 7 [(0, .ref (ad 11 99))]) : W p l e ({ frames := 7, cells := 0, slots := 0, locals := 154 } : Room) s m args below meth c H locs 0 0 (MQ below (wx_Q D ad rd ca A (some (.int r)) σ') args s 0 0 A) (F0 m 0 ls []) := by
  obtain ⟨hx, hb, hml, hr, hts, hown, hlk, hC, hA⟩ := id B
  unfold f_X5_carriedOut at h
  refine lv_iconst (v := 0) hx hb dX5_carriedOut_0 (by decide) ?_
  refine lv_istore_n (lv' := [(1, .int 0), (0, .ref (ad 11 99))]) hx hb dX5_carriedOut_1 rfl hl (by decide) rfl (fun ls hl => ?_)
  refine lv_iconst (v := 0) hx hb dX5_carriedOut_2 (by decide) ?_
  refine lv_istore_n (lv' := [(2, .int 0), (1, .int 0), (0, .ref (ad 11 99))]) hx hb dX5_carriedOut_3 rfl hl (by decide) rfl (fun ls hl => ?_)
  refine lv_iconst (v := 0) hx hb dX5_carriedOut_4 (by decide) ?_
  refine lv_istore_n (lv' := [(3, .int 0), (2, .int 0), (1, .int 0), (0, .ref (ad 11 99))]) hx hb dX5_carriedOut_5 rfl hl (by decide) rfl (fun ls hl => ?_)
  exact b_X5_carriedOut_6 B h Z hS (lv_sub hl [3, 2, 1, 0] rfl)
set_option maxRecDepth 20000 in
theorem c_X5_carriedOut (l : Launch) {D : va_G} {ad : Nat → Nat → Nat} {rd : Nat → Nat} {ca : Nat → ClassId} {A : Nat → Prop} {σ : wx_St}     {r : Int32} {σ' : wx_St} (h : f_X5_carriedOut σ = some (r, σ')) : wx_M l yX5_carriedOut wsX5_carriedOut 7 154 D ad rd ca A [.ref (ad 11 99)] σ (some (.int r)) σ' := by
  refine Met.ofW (cc := cX5_carriedOut) (maxL := 7) (ret := (some .int)) (by decide) rfl ?_
  intro p e s m args below meth c s₁ B0 hml hv
  obtain ⟨rfl, hC, Z, hA⟩ := hv
  have hl := lv_entry ([.ref (ad 11 99)]) (n := 7) (Nat.le_of_ble_eq_true rfl)
  rw [lg_entry_eq]
  generalize (lg_sl ([.ref (ad 11 99)]) ++ List.replicate (7 - (lg_sl ([.ref (ad 11 99)])).length) Slot.unset).toArray = ls at hl ⊢
  exact b_X5_carriedOut_0 ⟨B0.exec, B0.bytes, hml, B0.returns, atoms_spec (ws := wsX5_carriedOut) B0.pre, findClass_of_methodNamed B0.named, B0.notSynchronized, hC, hA⟩  h Z va_S.rf hl
theorem i_X5_carryOut_5 : ∀ w ∈ wsX50, w ∈ wsX5_carryOut := by decide +kernel
theorem k_X5_carryOut_w0 : Cond.fieldLink RX5 36 "WarmProbes" "pad" "LWarmProbes$Pad;" ∈ wsX5_carryOut := by decide +kernel
theorem k_X5_carryOut_w1 : Cond.initialized RX2 ∈ wsX5_carryOut := by decide +kernel
theorem k_X5_carryOut_w2 : Cond.instanceMethod yX2_firstFault ∈ wsX5_carryOut := by decide +kernel
theorem k_X5_carryOut_w3 : Cond.selects RX2 yX2_firstFault yX2_firstFault ∈ wsX5_carryOut := by decide +kernel
theorem k_X5_carryOut_w4 : Cond.fieldLink RX5 29 "WarmProbes" "past" "LWarmProbes$Past;" ∈ wsX5_carryOut := by decide +kernel
theorem k_X5_carryOut_w5 : Cond.fieldLink RX5 10 "WarmProbes" "board" "LWarmProbes$Board;" ∈ wsX5_carryOut := by decide +kernel
theorem k_X5_carryOut_w6 : Cond.initialized RX3 ∈ wsX5_carryOut := by decide +kernel
theorem k_X5_carryOut_w7 : Cond.instanceMethod yX3_prepare ∈ wsX5_carryOut := by decide +kernel
theorem k_X5_carryOut_w8 : Cond.selects RX3 yX3_prepare yX3_prepare ∈ wsX5_carryOut := by decide +kernel
theorem k_X5_carryOut_w9 : Cond.instanceMethod yX2_clear ∈ wsX5_carryOut := by decide +kernel
theorem k_X5_carryOut_w10 : Cond.selects RX2 yX2_clear yX2_clear ∈ wsX5_carryOut := by decide +kernel
theorem k_X5_carryOut_w11 : Cond.instanceMethod yX3_kept ∈ wsX5_carryOut := by decide +kernel
theorem k_X5_carryOut_w12 : Cond.selects RX3 yX3_kept yX3_kept ∈ wsX5_carryOut := by decide +kernel
set_option maxRecDepth 20000 in
set_option maxHeartbeats 4000000 in
theorem b_X5_carryOut_0 (B : wx_B p s m args meth c cX5_carryOut 2 (some .int) wsX5_carryOut RX5 D ad ca A)    {r : Int32} {σ' : wx_St}    {σ : wx_St} (h : f_X5_carryOut σ = some (r, σ')) {H : Heap} {locs : List Loc} (Z : wx_Z D ad rd ca A σ H) (hS : va_S A s.heap H locs) {ls : Array Slot} (hl : lv_has ls 2 [(0, .ref (ad 11 99))]) : W p l e ({ frames := 8, cells := 0, slots := 0, locals := 180 } : Room) s m args below meth c H locs 0 0 (MQ below (wx_Q D ad rd ca A (some (.int r)) σ') args s 0 0 A) (F0 m 0 ls []) := by
  obtain ⟨hx, hb, hml, hr, hts, hown, hlk, hC, hA⟩ := id B
  unfold f_X5_carryOut at h
  refine lv_aload_n hx hb dX5_carryOut_0 rfl (lv_at hl 0 rfl) ?_
  refine wx_get (own := RX5) hx hb hts i_X5_carryOut_5 hown hC.1 Z (o := 11) (ci := 5) rfl (rfl : vwCl[5]? = some (RX5, TX5, 7)) 4 (by decide) (hts _ k_X5_carryOut_w0) (fun _ h9 => h9) (f := 115) rfl rfl dX5_carryOut_1 ?_
  obtain ⟨v4, hc4, h⟩ := wx_o_ok h
  refine wx_call (va_runVN (As := []) (rest := []) ⟨hx, hb, hml, hown, hts⟩ (c_X2_firstFault l (D := D) (ad := ad) (rd := rd) (ca := ca) (A := A) (σ := σ) hc4) ⟨va_cnB 0 hts gX5_carryOut_X2_firstFault_n223 rfl rfl rfl (hC.1.2 _ (List.mem_of_getElem? (i := 72) rfl)) (hts _ k_X5_carryOut_w1) (by decide +kernel) ⟨Nat.le_of_ble_eq_true rfl, Nat.le_of_ble_eq_true rfl⟩, hts _ k_X5_carryOut_w2, hts _ k_X5_carryOut_w3⟩ (wx_preV hC Z hS hA rfl (rfl : vwCl[2]? = some (RX2, TX2, 2))) rfl rfl hl.1 rfl (lv_room (Nat.le_of_ble_eq_true rfl)) dX5_carryOut_4 ⟨Nat.zero_le _, Nat.zero_le _⟩) hS (fun H locs Z hS => ?_)
  refine lv_bipush (v := (-6)) hx hb dX5_carryOut_7 (by decide) ?_
  refine lv_icmp_eq (tgt := 15) hx hb dX5_carryOut_9 (by decide) (fun c9 => ?_) (fun c9 => ?_)
  · replace h := wx_ift c9 h
    refine lv_aload_n hx hb dX5_carryOut_15 rfl (lv_at hl 0 rfl) ?_
    refine wx_get (own := RX5) hx hb hts i_X5_carryOut_5 hown hC.1 Z (o := 11) (ci := 5) rfl (rfl : vwCl[5]? = some (RX5, TX5, 7)) 3 (by decide) (hts _ k_X5_carryOut_w4) (fun _ h9 => h9) (f := 114) rfl rfl dX5_carryOut_16 ?_
    refine lv_aload_n hx hb dX5_carryOut_19 rfl (lv_at hl 0 rfl) ?_
    refine wx_get (own := RX5) hx hb hts i_X5_carryOut_5 hown hC.1 Z (o := 11) (ci := 5) rfl (rfl : vwCl[5]? = some (RX5, TX5, 7)) 0 (by decide) (hts _ k_X5_carryOut_w5) (fun _ h9 => h9) (f := 107) rfl rfl dX5_carryOut_20 ?_
    obtain ⟨v23, σ23, hc23, h⟩ := wx_b_ok h
    refine wx_call (va_runVN (As := [.ref (ad 7 99)]) (rest := []) ⟨hx, hb, hml, hown, hts⟩ (c_X3_prepare l (D := D) (ad := ad) (rd := rd) (ca := ca) (A := A) (σ := σ) (b1 := 7) (by decide : 7 < 11) hc23) ⟨va_cnB 1 hts gX5_carryOut_X3_prepare_n48 rfl rfl rfl (hC.1.2 _ (List.mem_of_getElem? (i := 27) rfl)) (hts _ k_X5_carryOut_w6) (by decide +kernel) ⟨Nat.le_of_ble_eq_true rfl, Nat.le_of_ble_eq_true rfl⟩, hts _ k_X5_carryOut_w7, hts _ k_X5_carryOut_w8⟩ (wx_preV hC Z hS hA rfl (rfl : vwCl[3]? = some (RX3, TX3, 2))) rfl rfl hl.1 rfl (lv_room (Nat.le_of_ble_eq_true rfl)) dX5_carryOut_23 ⟨Nat.zero_le _, Nat.zero_le _⟩) hS (fun H locs Z hS => ?_)
    refine lv_aload_n hx hb dX5_carryOut_26 rfl (lv_at hl 0 rfl) ?_
    obtain ⟨v27, σ27, hc27, h⟩ := wx_b_ok h
    refine wx_call (va_runV (As := []) (rest := []) ⟨hx, hb, hml, hown, hts⟩ (c_X5_carriedOut l (D := D) (ad := ad) (rd := rd) (ca := ca) (A := A) (σ := σ23) hc27) (cwV 0 hts gX5_carryOut_X5_carriedOut rfl rfl rfl (by decide +kernel) ⟨Nat.le_of_ble_eq_true rfl, Nat.le_of_ble_eq_true rfl⟩) (wx_preV hC Z hS hA rfl (rfl : vwCl[5]? = some (RX5, TX5, 7))) rfl rfl hl.1 rfl (lv_room (Nat.le_of_ble_eq_true rfl)) dX5_carryOut_27 ⟨Nat.zero_le _, Nat.zero_le _⟩) hS (fun H locs Z hS => ?_)
    refine lv_istore_n (lv' := [(1, .int v27), (0, .ref (ad 11 99))]) hx hb dX5_carryOut_30 rfl hl (by decide) rfl (fun ls hl => ?_)
    refine lv_aload_n hx hb dX5_carryOut_31 rfl (lv_at hl 1 rfl) ?_
    refine wx_get (own := RX5) hx hb hts i_X5_carryOut_5 hown hC.1 Z (o := 11) (ci := 5) rfl (rfl : vwCl[5]? = some (RX5, TX5, 7)) 4 (by decide) (hts _ k_X5_carryOut_w0) (fun _ h9 => h9) (f := 115) rfl rfl dX5_carryOut_32 ?_
    obtain ⟨v35, σ35, hc35, h⟩ := wx_b_ok h
    refine wx_call (va_runVN (As := []) (rest := []) ⟨hx, hb, hml, hown, hts⟩ (c_X2_clear l (D := D) (ad := ad) (rd := rd) (ca := ca) (A := A) (σ := σ27) hc35) ⟨va_cnB 0 hts gX5_carryOut_X2_clear_n220 rfl rfl rfl (hC.1.2 _ (List.mem_of_getElem? (i := 71) rfl)) (hts _ k_X5_carryOut_w1) (by decide +kernel) ⟨Nat.le_of_ble_eq_true rfl, Nat.le_of_ble_eq_true rfl⟩, hts _ k_X5_carryOut_w9, hts _ k_X5_carryOut_w10⟩ (wx_preV hC Z hS hA rfl (rfl : vwCl[2]? = some (RX2, TX2, 2))) rfl rfl hl.1 rfl (lv_room (Nat.le_of_ble_eq_true rfl)) dX5_carryOut_35 ⟨Nat.zero_le _, Nat.zero_le _⟩) hS (fun H locs Z hS => ?_)
    refine lv_pop hx hb dX5_carryOut_38 rfl ?_
    refine lv_aload_n hx hb dX5_carryOut_39 rfl (lv_at hl 1 rfl) ?_
    refine wx_get (own := RX5) hx hb hts i_X5_carryOut_5 hown hC.1 Z (o := 11) (ci := 5) rfl (rfl : vwCl[5]? = some (RX5, TX5, 7)) 3 (by decide) (hts _ k_X5_carryOut_w4) (fun _ h9 => h9) (f := 114) rfl rfl dX5_carryOut_40 ?_
    refine lv_iload_n hx hb dX5_carryOut_43 rfl (lv_at hl 0 rfl) ?_
    obtain ⟨v44, σ44, hc44, h⟩ := wx_b_ok h
    refine wx_call (va_runVN (As := [.int v27]) (rest := []) ⟨hx, hb, hml, hown, hts⟩ (c_X3_kept l (D := D) (ad := ad) (rd := rd) (ca := ca) (A := A) (σ := σ35) hc44) ⟨va_cnB 1 hts gX5_carryOut_X3_kept_n56 rfl rfl rfl (hC.1.2 _ (List.mem_of_getElem? (i := 32) rfl)) (hts _ k_X5_carryOut_w6) (by decide +kernel) ⟨Nat.le_of_ble_eq_true rfl, Nat.le_of_ble_eq_true rfl⟩, hts _ k_X5_carryOut_w11, hts _ k_X5_carryOut_w12⟩ (wx_preV hC Z hS hA rfl (rfl : vwCl[3]? = some (RX3, TX3, 2))) rfl rfl hl.1 rfl (lv_room (Nat.le_of_ble_eq_true rfl)) dX5_carryOut_44 ⟨Nat.zero_le _, Nat.zero_le _⟩) hS (fun H locs Z hS => ?_)
    obtain ⟨rfl, rfl⟩ := wx_ret_ok h
    exact W.iret hx hb hr (fun t ht hW => ⟨rfl, by rw [ht]; exact Z, hS.F ht⟩) hS.2.2 dX5_carryOut_47
  · replace h := wx_iff c9 h
    refine lv_bipush (v := (-3)) hx hb dX5_carryOut_12 (by decide) ?_
    obtain ⟨rfl, rfl⟩ := wx_ret_ok h
    exact W.iret hx hb hr (fun t ht hW => ⟨rfl, by rw [ht]; exact Z, hS.F ht⟩) hS.2.2 dX5_carryOut_14
set_option maxRecDepth 20000 in
theorem c_X5_carryOut (l : Launch) {D : va_G} {ad : Nat → Nat → Nat} {rd : Nat → Nat} {ca : Nat → ClassId} {A : Nat → Prop} {σ : wx_St}     {r : Int32} {σ' : wx_St} (h : f_X5_carryOut σ = some (r, σ')) : wx_M l yX5_carryOut wsX5_carryOut 8 180 D ad rd ca A [.ref (ad 11 99)] σ (some (.int r)) σ' := by
  refine Met.ofW (cc := cX5_carryOut) (maxL := 2) (ret := (some .int)) (by decide) rfl ?_
  intro p e s m args below meth c s₁ B0 hml hv
  obtain ⟨rfl, hC, Z, hA⟩ := hv
  have hl := lv_entry ([.ref (ad 11 99)]) (n := 2) (Nat.le_of_ble_eq_true rfl)
  rw [lg_entry_eq]
  generalize (lg_sl ([.ref (ad 11 99)]) ++ List.replicate (2 - (lg_sl ([.ref (ad 11 99)])).length) Slot.unset).toArray = ls at hl ⊢
  exact b_X5_carryOut_0 ⟨B0.exec, B0.bytes, hml, B0.returns, atoms_spec (ws := wsX5_carryOut) B0.pre, findClass_of_methodNamed B0.named, B0.notSynchronized, hC, hA⟩  h Z va_S.rf hl
theorem i_X5_readsIn_0 : ∀ w ∈ wsX00, w ∈ wsX5_readsIn := by decide +kernel
theorem i_X5_readsIn_5 : ∀ w ∈ wsX50, w ∈ wsX5_readsIn := by decide +kernel
theorem k_X5_readsIn_w0 : Cond.fieldLink RX5 16 "WarmProbes" "ahead" "LWarmProbes$Board;" ∈ wsX5_readsIn := by decide +kernel
theorem k_X5_readsIn_w1 : Cond.fieldLink RX5 10 "WarmProbes" "board" "LWarmProbes$Board;" ∈ wsX5_readsIn := by decide +kernel
theorem k_X5_readsIn_w2 : Cond.initialized RX0 ∈ wsX5_readsIn := by decide +kernel
theorem k_X5_readsIn_w3 : Cond.instanceMethod yX0_takeOver ∈ wsX5_readsIn := by decide +kernel
theorem k_X5_readsIn_w4 : Cond.selects RX0 yX0_takeOver yX0_takeOver ∈ wsX5_readsIn := by decide +kernel
theorem k_X5_readsIn_w5 : Cond.instanceMethod yX0_heated ∈ wsX5_readsIn := by decide +kernel
theorem k_X5_readsIn_w6 : Cond.selects RX0 yX0_heated yX0_heated ∈ wsX5_readsIn := by decide +kernel
theorem k_X5_readsIn_w7 : Cond.instanceMethod yX0_passOne ∈ wsX5_readsIn := by decide +kernel
theorem k_X5_readsIn_w8 : Cond.selects RX0 yX0_passOne yX0_passOne ∈ wsX5_readsIn := by decide +kernel
set_option maxRecDepth 20000 in
set_option maxHeartbeats 4000000 in
theorem b_X5_readsIn_26 (B : wx_B p s m args meth c cX5_readsIn 8 (some .int) wsX5_readsIn RX5 D ad ca A)    {r : Int32} {σ' : wx_St}  {x1 : Int32} {x2 : Int32} {x3 : Int32} {x4 : Int32}  {σ : wx_St} (h : f_X5_readsIn_26 x1 x2 x3 x4 σ = some (r, σ')) {H : Heap} {locs : List Loc} (Z : wx_Z D ad rd ca A σ H) (hS : va_S A s.heap H locs) {ls : Array Slot} (hl : lv_has ls 8 [(0, .ref (ad 11 99)), (1, .int x1), (2, .int x2), (3, .int x3), (4, .int x4)]) : W p l e ({ frames := 3, cells := 0, slots := 0, locals := 78 } : Room) s m args below meth c H locs 0 0 (MQ below (wx_Q D ad rd ca A (some (.int r)) σ') args s 0 0 A) (F0 m 26 ls []) := by
  obtain ⟨hx, hb, hml, hr, hts, hown, hlk, hC, hA⟩ := id B
  unfold f_X5_readsIn_26 at h
  refine lv_bipush (v := (-2)) hx hb dX5_readsIn_26 (by decide) ?_
  obtain ⟨rfl, rfl⟩ := wx_ret_ok h
  exact W.iret hx hb hr (fun t ht hW => ⟨rfl, by rw [ht]; exact Z, hS.F ht⟩) hS.2.2 dX5_readsIn_28
set_option maxRecDepth 20000 in
set_option maxHeartbeats 4000000 in
theorem b_X5_readsIn_52 (B : wx_B p s m args meth c cX5_readsIn 8 (some .int) wsX5_readsIn RX5 D ad ca A)    {r : Int32} {σ' : wx_St}   :
    ∀ {n : Nat} {x1 : Int32} {x2 : Int32} {x3 : Int32} {x4 : Int32} {x5 : Int64} {x7 : Int32}  {σ : wx_St} (h : f_X5_readsIn_52 n x1 x2 x3 x4 x5 x7 σ = some (r, σ')) {H : Heap} {locs : List Loc} (Z : wx_Z D ad rd ca A σ H) (hS : va_S A s.heap H locs) {ls : Array Slot} (hl : lv_has ls 8 [(0, .ref (ad 11 99)), (1, .int x1), (2, .int x2), (3, .int x3), (4, .int x4), (5, .long x5), (7, .int x7)]), W p l e ({ frames := 3, cells := 0, slots := 0, locals := 78 } : Room) s m args below meth c H locs 0 0 (MQ below (wx_Q D ad rd ca A (some (.int r)) σ') args s 0 0 A) (F0 m 52 ls []) := by
  obtain ⟨hx, hb, hml, hr, hts, hown, hlk, hC, hA⟩ := id B
  intro n
  induction n with
  | zero => intro x1 x2 x3 x4 x5 x7  σ h H locs Z hS ls hl; exact wx_no h
  | succ n ih =>
    intro x1 x2 x3 x4 x5 x7  σ h H locs Z hS ls hl
    rw [f_X5_readsIn_52] at h
    refine lv_iload hx hb dX5_readsIn_52 (lv_at hl 6 rfl) ?_
    refine lv_sipush (v := 200) hx hb dX5_readsIn_54 (by decide) ?_
    refine lv_icmp_gt (tgt := 95) hx hb dX5_readsIn_57 (by decide) (fun c57 => ?_) (fun c57 => ?_)
    · replace h := wx_ift c57 h
      refine lv_bipush (v := (-6)) hx hb dX5_readsIn_95 (by decide) ?_
      obtain ⟨rfl, rfl⟩ := wx_ret_ok h
      exact W.iret hx hb hr (fun t ht hW => ⟨rfl, by rw [ht]; exact Z, hS.F ht⟩) hS.2.2 dX5_readsIn_97
    · replace h := wx_iff c57 h
      refine lv_aload_n hx hb dX5_readsIn_60 rfl (lv_at hl 0 rfl) ?_
      refine wx_get (own := RX5) hx hb hts i_X5_readsIn_5 hown hC.1 Z (o := 11) (ci := 5) rfl (rfl : vwCl[5]? = some (RX5, TX5, 7)) 1 (by decide) (hts _ k_X5_readsIn_w0) (fun _ h9 => h9) (f := 108) rfl rfl dX5_readsIn_61 ?_
      refine wx_getN (own := RX5) hx hb hts i_X5_readsIn_0 hown hC.1 Z (o := 8) (ci := 0) rfl (rfl : vwCl[0]? = some (RX0, TX0, 13)) 7 (by decide) (wx_nst hC 11 rfl rfl) (fun _ h9 => h9) (f := 0) rfl rfl dX5_readsIn_64 ?_
      refine lv_iload hx hb dX5_readsIn_67 (lv_at hl 4 rfl) ?_
      obtain ⟨v69, ev69, iv69, h⟩ := wx_rF_ok h
      refine wx_fald hx hb hC.1 Z (o := 8) (k := 7) (n := 64) rfl rfl iv69 dX5_readsIn_69 ev69 ?_
      obtain ⟨v70, hc70, h⟩ := wx_o_ok h
      refine wx_call (va_runS (As := [.float v69]) (rest := []) ⟨hx, hb, hml, hown, hts⟩ (c_X5_readOf l (D := D) (ad := ad) (rd := rd) (ca := ca) (A := A) (σ := σ) hc70) (va_cwS 1 hts gX5_readsIn_X5_readOf rfl rfl rfl (by decide +kernel) ⟨Nat.le_of_ble_eq_true rfl, Nat.le_of_ble_eq_true rfl⟩) (wx_preS hC Z hS hA) rfl rfl hl.1 rfl (lv_room (Nat.le_of_ble_eq_true rfl)) dX5_readsIn_70 ⟨Nat.zero_le _, Nat.zero_le _⟩) hS (fun H locs Z hS => ?_)
      refine lv_iload_n hx hb dX5_readsIn_73 rfl (lv_at hl 3 rfl) ?_
      refine lv_icmp_lt (tgt := 80) hx hb dX5_readsIn_74 (by decide) (fun c74 => ?_) (fun c74 => ?_)
      · replace h := wx_ift c74 h
        refine lv_aload_n hx hb dX5_readsIn_80 rfl (lv_at hl 0 rfl) ?_
        refine wx_get (own := RX5) hx hb hts i_X5_readsIn_5 hown hC.1 Z (o := 11) (ci := 5) rfl (rfl : vwCl[5]? = some (RX5, TX5, 7)) 1 (by decide) (hts _ k_X5_readsIn_w0) (fun _ h9 => h9) (f := 108) rfl rfl dX5_readsIn_81 ?_
        refine lv_lload hx hb dX5_readsIn_84 (lv_at hl 5 rfl) ?_
        obtain ⟨v86, σ86, hc86, h⟩ := wx_b_ok h
        refine wx_call (va_runVN (As := [.long x5]) (rest := []) ⟨hx, hb, hml, hown, hts⟩ (c_X0_passOne l (D := D) (ad := ad) (rd := rd) (ca := ca) (A := A) (σ := σ) (o := 8) (by decide : 8 < 11) hc86) ⟨va_cnB 1 hts gX5_readsIn_X0_passOne_n209 rfl rfl rfl (hC.1.2 _ (List.mem_of_getElem? (i := 68) rfl)) (hts _ k_X5_readsIn_w2) (by decide +kernel) ⟨Nat.le_of_ble_eq_true rfl, Nat.le_of_ble_eq_true rfl⟩, hts _ k_X5_readsIn_w7, hts _ k_X5_readsIn_w8⟩ (wx_preV hC Z hS hA rfl (rfl : vwCl[0]? = some (RX0, TX0, 13))) rfl rfl hl.1 rfl (lv_room (Nat.le_of_ble_eq_true rfl)) dX5_readsIn_86 ⟨Nat.zero_le _, Nat.zero_le _⟩) hS (fun H locs Z hS => ?_)
        refine lv_iinc (v := x7 + 1) (lv' := [(7, .int (x7 + 1)), (0, .ref (ad 11 99)), (1, .int x1), (2, .int x2), (3, .int x3), (4, .int x4), (5, .long x5)]) hx hb dX5_readsIn_89 hl (k := 6) rfl rfl (by decide) rfl (fun ls hl => ?_)
        refine lv_goto (tgt := 52) hx hb dX5_readsIn_92 (by decide) ?_
        exact ih h Z hS (lv_sub hl [1, 2, 3, 4, 5, 6, 0] rfl)
      · replace h := wx_iff c74 h
        refine lv_iload hx hb dX5_readsIn_77 (lv_at hl 6 rfl) ?_
        obtain ⟨rfl, rfl⟩ := wx_ret_ok h
        exact W.iret hx hb hr (fun t ht hW => ⟨rfl, by rw [ht]; exact Z, hS.F ht⟩) hS.2.2 dX5_readsIn_79
set_option maxRecDepth 20000 in
set_option maxHeartbeats 4000000 in
theorem b_X5_readsIn_0 (B : wx_B p s m args meth c cX5_readsIn 8 (some .int) wsX5_readsIn RX5 D ad ca A)    {r : Int32} {σ' : wx_St}  {x1 : Int32} {x2 : Int32} {x3 : Int32}  {σ : wx_St} (h : f_X5_readsIn x1 x2 x3 σ = some (r, σ')) {H : Heap} {locs : List Loc} (Z : wx_Z D ad rd ca A σ H) (hS : va_S A s.heap H locs) {ls : Array Slot} (hl : lv_has ls 8 [(0, .ref (ad 11 99)), (1, .int x1), (2, .int x2), (3, .int x3)]) : W p l e ({ frames := 3, cells := 0, slots := 0, locals := 78 } : Room) s m args below meth c H locs 0 0 (MQ below (wx_Q D ad rd ca A (some (.int r)) σ') args s 0 0 A) (F0 m 0 ls []) := by
  obtain ⟨hx, hb, hml, hr, hts, hown, hlk, hC, hA⟩ := id B
  unfold f_X5_readsIn at h
  refine lv_iload_n hx hb dX5_readsIn_0 rfl (lv_at hl 1 rfl) ?_
  refine lv_iload_n hx hb dX5_readsIn_1 rfl (lv_at hl 2 rfl) ?_
  obtain ⟨v2, hc2, h⟩ := wx_o_ok h
  refine wx_call (va_runS (As := [.int x1, .int x2]) (rest := []) ⟨hx, hb, hml, hown, hts⟩ (c_X5_placeOf l (D := D) (ad := ad) (rd := rd) (ca := ca) (A := A) (σ := σ) hc2) (va_cwS 2 hts gX5_readsIn_X5_placeOf rfl rfl rfl (by decide +kernel) ⟨Nat.le_of_ble_eq_true rfl, Nat.le_of_ble_eq_true rfl⟩) (wx_preS hC Z hS hA) rfl rfl hl.1 rfl (lv_room (Nat.le_of_ble_eq_true rfl)) dX5_readsIn_2 ⟨Nat.zero_le _, Nat.zero_le _⟩) hS (fun H locs Z hS => ?_)
  refine lv_istore (lv' := [(4, .int v2), (0, .ref (ad 11 99)), (1, .int x1), (2, .int x2), (3, .int x3)]) hx hb dX5_readsIn_5 hl (by decide) rfl (fun ls hl => ?_)
  refine lv_iload hx hb dX5_readsIn_7 (lv_at hl 0 rfl) ?_
  refine lv_if_ge (tgt := 14) hx hb dX5_readsIn_9 (by decide) (fun c9 => ?_) (fun c9 => ?_)
  · replace h := wx_ift c9 h
    refine lv_iload_n hx hb dX5_readsIn_14 rfl (lv_at hl 4 rfl) ?_
    refine lv_iconst (v := 1) hx hb dX5_readsIn_15 (by decide) ?_
    refine lv_icmp_lt (tgt := 26) hx hb dX5_readsIn_16 (by decide) (fun c16 => ?_) (fun c16 => ?_)
    · replace h := wx_ift c16 h
      exact b_X5_readsIn_26 B h Z hS (lv_sub hl [1, 2, 3, 4, 0] rfl)
    · replace h := wx_iff c16 h
      refine lv_iload_n hx hb dX5_readsIn_19 rfl (lv_at hl 4 rfl) ?_
      refine lv_sipush (v := 9999) hx hb dX5_readsIn_20 (by decide) ?_
      refine lv_icmp_le (tgt := 29) hx hb dX5_readsIn_23 (by decide) (fun c23 => ?_) (fun c23 => ?_)
      · replace h := wx_ift c23 h
        refine lv_aload_n hx hb dX5_readsIn_29 rfl (lv_at hl 1 rfl) ?_
        refine wx_get (own := RX5) hx hb hts i_X5_readsIn_5 hown hC.1 Z (o := 11) (ci := 5) rfl (rfl : vwCl[5]? = some (RX5, TX5, 7)) 1 (by decide) (hts _ k_X5_readsIn_w0) (fun _ h9 => h9) (f := 108) rfl rfl dX5_readsIn_30 ?_
        refine lv_aload_n hx hb dX5_readsIn_33 rfl (lv_at hl 1 rfl) ?_
        refine wx_get (own := RX5) hx hb hts i_X5_readsIn_5 hown hC.1 Z (o := 11) (ci := 5) rfl (rfl : vwCl[5]? = some (RX5, TX5, 7)) 0 (by decide) (hts _ k_X5_readsIn_w1) (fun _ h9 => h9) (f := 107) rfl rfl dX5_readsIn_34 ?_
        obtain ⟨v37, σ37, hc37, h⟩ := wx_b_ok h
        refine wx_call (va_runVN (As := [.ref (ad 7 99)]) (rest := []) ⟨hx, hb, hml, hown, hts⟩ (c_X0_takeOver l (D := D) (ad := ad) (rd := rd) (ca := ca) (A := A) (σ := σ) (o := 8) (b1 := 7) (by decide : 8 < 11) (by decide : 7 < 11) hc37) ⟨va_cnB 1 hts gX5_readsIn_X0_takeOver_n206 rfl rfl rfl (hC.1.2 _ (List.mem_of_getElem? (i := 67) rfl)) (hts _ k_X5_readsIn_w2) (by decide +kernel) ⟨Nat.le_of_ble_eq_true rfl, Nat.le_of_ble_eq_true rfl⟩, hts _ k_X5_readsIn_w3, hts _ k_X5_readsIn_w4⟩ (wx_preV hC Z hS hA rfl (rfl : vwCl[0]? = some (RX0, TX0, 13))) rfl rfl hl.1 rfl (lv_room (Nat.le_of_ble_eq_true rfl)) dX5_readsIn_37 ⟨Nat.zero_le _, Nat.zero_le _⟩) hS (fun H locs Z hS => ?_)
        refine lv_aload_n hx hb dX5_readsIn_40 rfl (lv_at hl 1 rfl) ?_
        refine wx_get (own := RX5) hx hb hts i_X5_readsIn_5 hown hC.1 Z (o := 11) (ci := 5) rfl (rfl : vwCl[5]? = some (RX5, TX5, 7)) 1 (by decide) (hts _ k_X5_readsIn_w0) (fun _ h9 => h9) (f := 108) rfl rfl dX5_readsIn_41 ?_
        obtain ⟨v44, hc44, h⟩ := wx_o_ok h
        refine wx_call (va_runVN (As := []) (rest := []) ⟨hx, hb, hml, hown, hts⟩ (c_X0_heated l (D := D) (ad := ad) (rd := rd) (ca := ca) (A := A) (σ := σ37) (o := 8) (by decide : 8 < 11) hc44) ⟨va_cnB 0 hts gX5_readsIn_X0_heated_n170 rfl rfl rfl (hC.1.2 _ (List.mem_of_getElem? (i := 61) rfl)) (hts _ k_X5_readsIn_w2) (by decide +kernel) ⟨Nat.le_of_ble_eq_true rfl, Nat.le_of_ble_eq_true rfl⟩, hts _ k_X5_readsIn_w5, hts _ k_X5_readsIn_w6⟩ (wx_preV hC Z hS hA rfl (rfl : vwCl[0]? = some (RX0, TX0, 13))) rfl rfl hl.1 rfl (lv_room (Nat.le_of_ble_eq_true rfl)) dX5_readsIn_44 ⟨Nat.zero_le _, Nat.zero_le _⟩) hS (fun H locs Z hS => ?_)
        refine lv_lstore (lv' := [(5, .long v44), (4, .int v2), (0, .ref (ad 11 99)), (1, .int x1), (2, .int x2), (3, .int x3)]) hx hb dX5_readsIn_47 hl (by decide) rfl (fun ls hl => ?_)
        refine lv_iconst (v := 0) hx hb dX5_readsIn_49 (by decide) ?_
        refine lv_istore (lv' := [(7, .int 0), (5, .long v44), (4, .int v2), (0, .ref (ad 11 99)), (1, .int x1), (2, .int x2), (3, .int x3)]) hx hb dX5_readsIn_50 hl (by decide) rfl (fun ls hl => ?_)
        exact b_X5_readsIn_52 B h Z hS (lv_sub hl [3, 4, 5, 6, 2, 1, 0] rfl)
      · replace h := wx_iff c23 h
        exact b_X5_readsIn_26 B h Z hS (lv_sub hl [1, 2, 3, 4, 0] rfl)
  · replace h := wx_iff c9 h
    refine lv_iconst (v := (-1)) hx hb dX5_readsIn_12 (by decide) ?_
    obtain ⟨rfl, rfl⟩ := wx_ret_ok h
    exact W.iret hx hb hr (fun t ht hW => ⟨rfl, by rw [ht]; exact Z, hS.F ht⟩) hS.2.2 dX5_readsIn_13
set_option maxRecDepth 20000 in
theorem c_X5_readsIn (l : Launch) {D : va_G} {ad : Nat → Nat → Nat} {rd : Nat → Nat} {ca : Nat → ClassId} {A : Nat → Prop} {σ : wx_St}    {x1 : Int32} {x2 : Int32} {x3 : Int32} {r : Int32} {σ' : wx_St} (h : f_X5_readsIn x1 x2 x3 σ = some (r, σ')) : wx_M l yX5_readsIn wsX5_readsIn 3 78 D ad rd ca A [.ref (ad 11 99), .int x1, .int x2, .int x3] σ (some (.int r)) σ' := by
  refine Met.ofW (cc := cX5_readsIn) (maxL := 8) (ret := (some .int)) (by decide) rfl ?_
  intro p e s m args below meth c s₁ B0 hml hv
  obtain ⟨rfl, hC, Z, hA⟩ := hv
  have hl := lv_entry ([.ref (ad 11 99), .int x1, .int x2, .int x3]) (n := 8) (Nat.le_of_ble_eq_true rfl)
  rw [lg_entry_eq]
  generalize (lg_sl ([.ref (ad 11 99), .int x1, .int x2, .int x3]) ++ List.replicate (8 - (lg_sl ([.ref (ad 11 99), .int x1, .int x2, .int x3])).length) Slot.unset).toArray = ls at hl ⊢
  exact b_X5_readsIn_0 ⟨B0.exec, B0.bytes, hml, B0.returns, atoms_spec (ws := wsX5_readsIn) B0.pre, findClass_of_methodNamed B0.named, B0.notSynchronized, hC, hA⟩  h Z va_S.rf hl
theorem i_X5_restore_0 : ∀ w ∈ wsX00, w ∈ wsX5_restore := by decide +kernel
theorem i_X5_restore_5 : ∀ w ∈ wsX50, w ∈ wsX5_restore := by decide +kernel
theorem k_X5_restore_w0 : Cond.fieldLink RX5 44 "WarmProbes" "isSaved" "[Z" ∈ wsX5_restore := by decide +kernel
theorem k_X5_restore_w1 : Cond.fieldLink RX5 29 "WarmProbes" "past" "LWarmProbes$Past;" ∈ wsX5_restore := by decide +kernel
theorem k_X5_restore_w2 : Cond.fieldLink RX5 10 "WarmProbes" "board" "LWarmProbes$Board;" ∈ wsX5_restore := by decide +kernel
theorem k_X5_restore_w3 : Cond.initialized RX3 ∈ wsX5_restore := by decide +kernel
theorem k_X5_restore_w4 : Cond.instanceMethod yX3_prepare ∈ wsX5_restore := by decide +kernel
theorem k_X5_restore_w5 : Cond.selects RX3 yX3_prepare yX3_prepare ∈ wsX5_restore := by decide +kernel
theorem k_X5_restore_w6 : Cond.fieldLink RX5 40 "WarmProbes" "slots" "[LWarmProbes$Board;" ∈ wsX5_restore := by decide +kernel
theorem k_X5_restore_w7 : Cond.initialized RX0 ∈ wsX5_restore := by decide +kernel
theorem k_X5_restore_w8 : Cond.instanceMethod yX0_takeOver ∈ wsX5_restore := by decide +kernel
theorem k_X5_restore_w9 : Cond.selects RX0 yX0_takeOver yX0_takeOver ∈ wsX5_restore := by decide +kernel
theorem k_X5_restore_w10 : Cond.instanceMethod yX3_kept ∈ wsX5_restore := by decide +kernel
theorem k_X5_restore_w11 : Cond.selects RX3 yX3_kept yX3_kept ∈ wsX5_restore := by decide +kernel
set_option maxRecDepth 20000 in
set_option maxHeartbeats 4000000 in
theorem b_X5_restore_9 (B : wx_B p s m args meth c cX5_restore 2 (some .int) wsX5_restore RX5 D ad ca A)    {r : Int32} {σ' : wx_St}  {x1 : Int32}  {σ : wx_St} (h : f_X5_restore_9 x1 σ = some (r, σ')) {H : Heap} {locs : List Loc} (Z : wx_Z D ad rd ca A σ H) (hS : va_S A s.heap H locs) {ls : Array Slot} (hl : lv_has ls 2 [(0, .ref (ad 11 99)), (1, .int x1)]) : W p l e ({ frames := 3, cells := 0, slots := 0, locals := 68 } : Room) s m args below meth c H locs 0 0 (MQ below (wx_Q D ad rd ca A (some (.int r)) σ') args s 0 0 A) (F0 m 9 ls []) := by
  obtain ⟨hx, hb, hml, hr, hts, hown, hlk, hC, hA⟩ := id B
  unfold f_X5_restore_9 at h
  refine lv_bipush (v := (-2)) hx hb dX5_restore_9 (by decide) ?_
  obtain ⟨rfl, rfl⟩ := wx_ret_ok h
  exact W.iret hx hb hr (fun t ht hW => ⟨rfl, by rw [ht]; exact Z, hS.F ht⟩) hS.2.2 dX5_restore_11
set_option maxRecDepth 20000 in
set_option maxHeartbeats 4000000 in
theorem b_X5_restore_0 (B : wx_B p s m args meth c cX5_restore 2 (some .int) wsX5_restore RX5 D ad ca A)    {r : Int32} {σ' : wx_St}  {x1 : Int32}  {σ : wx_St} (h : f_X5_restore x1 σ = some (r, σ')) {H : Heap} {locs : List Loc} (Z : wx_Z D ad rd ca A σ H) (hS : va_S A s.heap H locs) {ls : Array Slot} (hl : lv_has ls 2 [(0, .ref (ad 11 99)), (1, .int x1)]) : W p l e ({ frames := 3, cells := 0, slots := 0, locals := 68 } : Room) s m args below meth c H locs 0 0 (MQ below (wx_Q D ad rd ca A (some (.int r)) σ') args s 0 0 A) (F0 m 0 ls []) := by
  obtain ⟨hx, hb, hml, hr, hts, hown, hlk, hC, hA⟩ := id B
  unfold f_X5_restore at h
  refine lv_iload_n hx hb dX5_restore_0 rfl (lv_at hl 1 rfl) ?_
  refine lv_if_lt (tgt := 9) hx hb dX5_restore_1 (by decide) (fun c1 => ?_) (fun c1 => ?_)
  · replace h := wx_ift c1 h
    exact b_X5_restore_9 B h Z hS (lv_sub hl [0, 1] rfl)
  · replace h := wx_iff c1 h
    refine lv_iload_n hx hb dX5_restore_4 rfl (lv_at hl 1 rfl) ?_
    refine lv_iconst (v := 2) hx hb dX5_restore_5 (by decide) ?_
    refine lv_icmp_lt (tgt := 12) hx hb dX5_restore_6 (by decide) (fun c6 => ?_) (fun c6 => ?_)
    · replace h := wx_ift c6 h
      refine lv_aload_n hx hb dX5_restore_12 rfl (lv_at hl 0 rfl) ?_
      refine wx_get (own := RX5) hx hb hts i_X5_restore_5 hown hC.1 Z (o := 11) (ci := 5) rfl (rfl : vwCl[5]? = some (RX5, TX5, 7)) 6 (by decide) (hts _ k_X5_restore_w0) (fun _ h9 => h9) (f := 0) rfl rfl dX5_restore_13 ?_
      refine lv_iload_n hx hb dX5_restore_16 rfl (lv_at hl 1 rfl) ?_
      obtain ⟨v17, ev17, iv17, h⟩ := wx_rI_ok h
      refine wx_zald hx hb hC.1 Z (o := 11) (k := 6) (n := 2) rfl rfl iv17 dX5_restore_17 ev17 ?_
      refine lv_if_ne (tgt := 24) hx hb dX5_restore_18 (by decide) (fun c18 => ?_) (fun c18 => ?_)
      · replace h := wx_iff c18 h
        refine lv_aload_n hx hb dX5_restore_24 rfl (lv_at hl 0 rfl) ?_
        refine wx_get (own := RX5) hx hb hts i_X5_restore_5 hown hC.1 Z (o := 11) (ci := 5) rfl (rfl : vwCl[5]? = some (RX5, TX5, 7)) 3 (by decide) (hts _ k_X5_restore_w1) (fun _ h9 => h9) (f := 114) rfl rfl dX5_restore_25 ?_
        refine lv_aload_n hx hb dX5_restore_28 rfl (lv_at hl 0 rfl) ?_
        refine wx_get (own := RX5) hx hb hts i_X5_restore_5 hown hC.1 Z (o := 11) (ci := 5) rfl (rfl : vwCl[5]? = some (RX5, TX5, 7)) 0 (by decide) (hts _ k_X5_restore_w2) (fun _ h9 => h9) (f := 107) rfl rfl dX5_restore_29 ?_
        obtain ⟨v32, σ32, hc32, h⟩ := wx_b_ok h
        refine wx_call (va_runVN (As := [.ref (ad 7 99)]) (rest := []) ⟨hx, hb, hml, hown, hts⟩ (c_X3_prepare l (D := D) (ad := ad) (rd := rd) (ca := ca) (A := A) (σ := σ) (b1 := 7) (by decide : 7 < 11) hc32) ⟨va_cnB 1 hts gX5_restore_X3_prepare_n48 rfl rfl rfl (hC.1.2 _ (List.mem_of_getElem? (i := 27) rfl)) (hts _ k_X5_restore_w3) (by decide +kernel) ⟨Nat.le_of_ble_eq_true rfl, Nat.le_of_ble_eq_true rfl⟩, hts _ k_X5_restore_w4, hts _ k_X5_restore_w5⟩ (wx_preV hC Z hS hA rfl (rfl : vwCl[3]? = some (RX3, TX3, 2))) rfl rfl hl.1 rfl (lv_room (Nat.le_of_ble_eq_true rfl)) dX5_restore_32 ⟨Nat.zero_le _, Nat.zero_le _⟩) hS (fun H locs Z hS => ?_)
        refine lv_aload_n hx hb dX5_restore_35 rfl (lv_at hl 0 rfl) ?_
        refine wx_get (own := RX5) hx hb hts i_X5_restore_5 hown hC.1 Z (o := 11) (ci := 5) rfl (rfl : vwCl[5]? = some (RX5, TX5, 7)) 0 (by decide) (hts _ k_X5_restore_w2) (fun _ h9 => h9) (f := 107) rfl rfl dX5_restore_36 ?_
        refine lv_aload_n hx hb dX5_restore_39 rfl (lv_at hl 0 rfl) ?_
        refine wx_get (own := RX5) hx hb hts i_X5_restore_5 hown hC.1 Z (o := 11) (ci := 5) rfl (rfl : vwCl[5]? = some (RX5, TX5, 7)) 5 (by decide) (hts _ k_X5_restore_w6) (fun _ h9 => h9) (f := 0) rfl rfl dX5_restore_40 ?_
        refine lv_iload_n hx hb dX5_restore_43 rfl (lv_at hl 1 rfl) ?_
        obtain ⟨z44, ez44, hz44, iz44, h⟩ := wx_rR_ok h
        refine wx_bald hx hb hC.1 Z (o := 11) (k := 5) (n := 2) rfl rfl iz44 dX5_restore_44 ez44 ?_
        obtain ⟨v45, σ45, hc45, h⟩ := wx_b_ok h
        refine wx_call (va_runVN (As := [.ref (ad z44 99)]) (rest := []) ⟨hx, hb, hml, hown, hts⟩ (c_X0_takeOver l (D := D) (ad := ad) (rd := rd) (ca := ca) (A := A) (σ := σ32) (o := 7) (b1 := z44) (by decide : 7 < 11) hz44 hc45) ⟨va_cnB 1 hts gX5_restore_X0_takeOver_n206 rfl rfl rfl (hC.1.2 _ (List.mem_of_getElem? (i := 67) rfl)) (hts _ k_X5_restore_w7) (by decide +kernel) ⟨Nat.le_of_ble_eq_true rfl, Nat.le_of_ble_eq_true rfl⟩, hts _ k_X5_restore_w8, hts _ k_X5_restore_w9⟩ (wx_preV hC Z hS hA rfl (rfl : vwCl[0]? = some (RX0, TX0, 13))) rfl rfl hl.1 rfl (lv_room (Nat.le_of_ble_eq_true rfl)) dX5_restore_45 ⟨Nat.zero_le _, Nat.zero_le _⟩) hS (fun H locs Z hS => ?_)
        refine lv_aload_n hx hb dX5_restore_48 rfl (lv_at hl 0 rfl) ?_
        refine wx_get (own := RX5) hx hb hts i_X5_restore_5 hown hC.1 Z (o := 11) (ci := 5) rfl (rfl : vwCl[5]? = some (RX5, TX5, 7)) 3 (by decide) (hts _ k_X5_restore_w1) (fun _ h9 => h9) (f := 114) rfl rfl dX5_restore_49 ?_
        refine lv_aload_n hx hb dX5_restore_52 rfl (lv_at hl 0 rfl) ?_
        refine wx_get (own := RX5) hx hb hts i_X5_restore_5 hown hC.1 Z (o := 11) (ci := 5) rfl (rfl : vwCl[5]? = some (RX5, TX5, 7)) 0 (by decide) (hts _ k_X5_restore_w2) (fun _ h9 => h9) (f := 107) rfl rfl dX5_restore_53 ?_
        refine wx_getN (own := RX5) hx hb hts i_X5_restore_0 hown hC.1 Z (o := 7) (ci := 0) rfl (rfl : vwCl[0]? = some (RX0, TX0, 13)) 3 (by decide) (wx_nst hC 6 rfl rfl) (fun _ h9 => h9) (f := 1) rfl rfl dX5_restore_56 ?_
        obtain ⟨v59, σ59, hc59, h⟩ := wx_b_ok h
        refine wx_call (va_runVN (As := [.int (σ45.2.2.1 7 3)]) (rest := []) ⟨hx, hb, hml, hown, hts⟩ (c_X3_kept l (D := D) (ad := ad) (rd := rd) (ca := ca) (A := A) (σ := σ45) hc59) ⟨va_cnB 1 hts gX5_restore_X3_kept_n56 rfl rfl rfl (hC.1.2 _ (List.mem_of_getElem? (i := 32) rfl)) (hts _ k_X5_restore_w3) (by decide +kernel) ⟨Nat.le_of_ble_eq_true rfl, Nat.le_of_ble_eq_true rfl⟩, hts _ k_X5_restore_w10, hts _ k_X5_restore_w11⟩ (wx_preV hC Z hS hA rfl (rfl : vwCl[3]? = some (RX3, TX3, 2))) rfl rfl hl.1 rfl (lv_room (Nat.le_of_ble_eq_true rfl)) dX5_restore_59 ⟨Nat.zero_le _, Nat.zero_le _⟩) hS (fun H locs Z hS => ?_)
        obtain ⟨rfl, rfl⟩ := wx_ret_ok h
        exact W.iret hx hb hr (fun t ht hW => ⟨rfl, by rw [ht]; exact Z, hS.F ht⟩) hS.2.2 dX5_restore_62
      · replace h := wx_ift c18 h
        refine lv_bipush (v := (-5)) hx hb dX5_restore_21 (by decide) ?_
        obtain ⟨rfl, rfl⟩ := wx_ret_ok h
        exact W.iret hx hb hr (fun t ht hW => ⟨rfl, by rw [ht]; exact Z, hS.F ht⟩) hS.2.2 dX5_restore_23
    · replace h := wx_iff c6 h
      exact b_X5_restore_9 B h Z hS (lv_sub hl [0, 1] rfl)
set_option maxRecDepth 20000 in
theorem c_X5_restore (l : Launch) {D : va_G} {ad : Nat → Nat → Nat} {rd : Nat → Nat} {ca : Nat → ClassId} {A : Nat → Prop} {σ : wx_St}    {x1 : Int32} {r : Int32} {σ' : wx_St} (h : f_X5_restore x1 σ = some (r, σ')) : wx_M l yX5_restore wsX5_restore 3 68 D ad rd ca A [.ref (ad 11 99), .int x1] σ (some (.int r)) σ' := by
  refine Met.ofW (cc := cX5_restore) (maxL := 2) (ret := (some .int)) (by decide) rfl ?_
  intro p e s m args below meth c s₁ B0 hml hv
  obtain ⟨rfl, hC, Z, hA⟩ := hv
  have hl := lv_entry ([.ref (ad 11 99), .int x1]) (n := 2) (Nat.le_of_ble_eq_true rfl)
  rw [lg_entry_eq]
  generalize (lg_sl ([.ref (ad 11 99), .int x1]) ++ List.replicate (2 - (lg_sl ([.ref (ad 11 99), .int x1])).length) Slot.unset).toArray = ls at hl ⊢
  exact b_X5_restore_0 ⟨B0.exec, B0.bytes, hml, B0.returns, atoms_spec (ws := wsX5_restore) B0.pre, findClass_of_methodNamed B0.named, B0.notSynchronized, hC, hA⟩  h Z va_S.rf hl
